/-! 20.model -/
section
/-! M firstDraft ()V -/
set_option maxRecDepth 100000 in
theorem dd_M_firstDraft_0 : (decode prog_10_method_5_code 0 = .ok (.iconst 0, 1)) ∧ (decode prog_10_method_5_code 1 = .ok (.istore_n 1, 1)) ∧ (decode prog_10_method_5_code 2 = .ok (.iload_n 1, 1)) ∧ (decode prog_10_method_5_code 3 = .ok (.bipush 66, 2)) ∧ (decode prog_10_method_5_code 5 = .ok (.if_icmp .ge 16, 3)) ∧ (decode prog_10_method_5_code 8 = .ok (.aload_n 0, 1)) ∧ (decode prog_10_method_5_code 9 = .ok (.getfield 32, 3)) ∧ (decode prog_10_method_5_code 12 = .ok (.iload_n 1, 1)) ∧ (decode prog_10_method_5_code 13 = .ok (.iconst 0, 1)) ∧ (decode prog_10_method_5_code 14 = .ok (.iastore, 1)) ∧ (decode prog_10_method_5_code 15 = .ok (.iinc 1 1, 3)) ∧ (decode prog_10_method_5_code 18 = .ok (.goto (-16), 3)) ∧ (decode prog_10_method_5_code 21 = .ok (.iconst 0, 1)) ∧ (decode prog_10_method_5_code 22 = .ok (.istore_n 1, 1)) ∧ (decode prog_10_method_5_code 23 = .ok (.iload_n 1, 1)) ∧ (decode prog_10_method_5_code 24 = .ok (.iconst 5, 1)) ∧ (decode prog_10_method_5_code 25 = .ok (.if_icmp .ge 19, 3)) ∧ (decode prog_10_method_5_code 28 = .ok (.aload_n 0, 1)) ∧ (decode prog_10_method_5_code 29 = .ok (.getfield 32, 3)) ∧ (decode prog_10_method_5_code 32 = .ok (.iconst 5, 1)) ∧ (decode prog_10_method_5_code 33 = .ok (.iload_n 1, 1)) ∧ (decode prog_10_method_5_code 34 = .ok (.iadd, 1)) ∧ (decode prog_10_method_5_code 35 = .ok (.bipush (-4), 2)) ∧ (decode prog_10_method_5_code 37 = .ok (.iastore, 1)) := by
  have h : List.drop 0 prog_10_method_5_code.data.toList = 0x03 :: _ := rfl
  refine ⟨zq_k_n 3 h rfl (zq_o_3 _), ?_⟩
  replace h := zq_nx1 (q := 1) h rfl
  refine ⟨zq_k_n 60 h rfl (zq_o_60 _), ?_⟩
  replace h := zq_nx1 (q := 2) h rfl
  refine ⟨zq_k_n 27 h rfl (zq_o_27 _), ?_⟩
  replace h := zq_nx1 (q := 3) h rfl
  refine ⟨zq_k_s1 16 (fun z => .bipush z) 66 h rfl (zq_o_16 _) (by decide +kernel), ?_⟩
  replace h := zq_nx2 (q := 5) h rfl
  refine ⟨zq_k_s2 162 (fun z => .if_icmp .ge z) 16 h rfl (zq_o_162 _) (by decide +kernel), ?_⟩
  replace h := zq_nx3 (q := 8) h rfl
  refine ⟨zq_k_n 42 h rfl (zq_o_42 _), ?_⟩
  replace h := zq_nx1 (q := 9) h rfl
  refine ⟨zq_k_u2 180 (fun z => .getfield z) 32 h rfl (zq_o_180 _) (by decide +kernel), ?_⟩
  replace h := zq_nx3 (q := 12) h rfl
  refine ⟨zq_k_n 27 h rfl (zq_o_27 _), ?_⟩
  replace h := zq_nx1 (q := 13) h rfl
  refine ⟨zq_k_n 3 h rfl (zq_o_3 _), ?_⟩
  replace h := zq_nx1 (q := 14) h rfl
  refine ⟨zq_k_n 79 h rfl (zq_o_79 _), ?_⟩
  replace h := zq_nx1 (q := 15) h rfl
  refine ⟨zq_k_iinc 1 1 h rfl (zq_o_132 _) (by decide +kernel) (by decide +kernel), ?_⟩
  replace h := zq_nx3 (q := 18) h rfl
  refine ⟨zq_k_s2 167 (fun z => .goto z) (-16) h rfl (zq_o_167 _) (by decide +kernel), ?_⟩
  replace h := zq_nx3 (q := 21) h rfl
  refine ⟨zq_k_n 3 h rfl (zq_o_3 _), ?_⟩
  replace h := zq_nx1 (q := 22) h rfl
  refine ⟨zq_k_n 60 h rfl (zq_o_60 _), ?_⟩
  replace h := zq_nx1 (q := 23) h rfl
  refine ⟨zq_k_n 27 h rfl (zq_o_27 _), ?_⟩
  replace h := zq_nx1 (q := 24) h rfl
  refine ⟨zq_k_n 8 h rfl (zq_o_8 _), ?_⟩
  replace h := zq_nx1 (q := 25) h rfl
  refine ⟨zq_k_s2 162 (fun z => .if_icmp .ge z) 19 h rfl (zq_o_162 _) (by decide +kernel), ?_⟩
  replace h := zq_nx3 (q := 28) h rfl
  refine ⟨zq_k_n 42 h rfl (zq_o_42 _), ?_⟩
  replace h := zq_nx1 (q := 29) h rfl
  refine ⟨zq_k_u2 180 (fun z => .getfield z) 32 h rfl (zq_o_180 _) (by decide +kernel), ?_⟩
  replace h := zq_nx3 (q := 32) h rfl
  refine ⟨zq_k_n 8 h rfl (zq_o_8 _), ?_⟩
  replace h := zq_nx1 (q := 33) h rfl
  refine ⟨zq_k_n 27 h rfl (zq_o_27 _), ?_⟩
  replace h := zq_nx1 (q := 34) h rfl
  refine ⟨zq_k_n 96 h rfl (zq_o_96 _), ?_⟩
  replace h := zq_nx1 (q := 35) h rfl
  refine ⟨zq_k_s1 16 (fun z => .bipush z) (-4) h rfl (zq_o_16 _) (by decide +kernel), ?_⟩
  replace h := zq_nx2 (q := 37) h rfl
  exact zq_k_n 79 h rfl (zq_o_79 _)
set_option maxRecDepth 100000 in
theorem dd_M_firstDraft_38 : (decode prog_10_method_5_code 38 = .ok (.iinc 1 1, 3)) ∧ (decode prog_10_method_5_code 41 = .ok (.goto (-18), 3)) ∧ (decode prog_10_method_5_code 44 = .ok (.aload_n 0, 1)) ∧ (decode prog_10_method_5_code 45 = .ok (.iconst 0, 1)) ∧ (decode prog_10_method_5_code 46 = .ok (.putfield 93, 3)) ∧ (decode prog_10_method_5_code 49 = .ok (.aload_n 0, 1)) ∧ (decode prog_10_method_5_code 50 = .ok (.iconst 0, 1)) ∧ (decode prog_10_method_5_code 51 = .ok (.putfield 97, 3)) ∧ (decode prog_10_method_5_code 54 = .ok (.aload_n 0, 1)) ∧ (decode prog_10_method_5_code 55 = .ok (.bipush (-4), 2)) ∧ (decode prog_10_method_5_code 57 = .ok (.putfield 100, 3)) ∧ (decode prog_10_method_5_code 60 = .ok (.aload_n 0, 1)) ∧ (decode prog_10_method_5_code 61 = .ok (.bipush (-4), 2)) ∧ (decode prog_10_method_5_code 63 = .ok (.putfield 103, 3)) ∧ (decode prog_10_method_5_code 66 = .ok (.return_, 1)) := by
  have h : List.drop 38 prog_10_method_5_code.data.toList = 0x84 :: _ := rfl
  refine ⟨zq_k_iinc 1 1 h rfl (zq_o_132 _) (by decide +kernel) (by decide +kernel), ?_⟩
  replace h := zq_nx3 (q := 41) h rfl
  refine ⟨zq_k_s2 167 (fun z => .goto z) (-18) h rfl (zq_o_167 _) (by decide +kernel), ?_⟩
  replace h := zq_nx3 (q := 44) h rfl
  refine ⟨zq_k_n 42 h rfl (zq_o_42 _), ?_⟩
  replace h := zq_nx1 (q := 45) h rfl
  refine ⟨zq_k_n 3 h rfl (zq_o_3 _), ?_⟩
  replace h := zq_nx1 (q := 46) h rfl
  refine ⟨zq_k_u2 181 (fun z => .putfield z) 93 h rfl (zq_o_181 _) (by decide +kernel), ?_⟩
  replace h := zq_nx3 (q := 49) h rfl
  refine ⟨zq_k_n 42 h rfl (zq_o_42 _), ?_⟩
  replace h := zq_nx1 (q := 50) h rfl
  refine ⟨zq_k_n 3 h rfl (zq_o_3 _), ?_⟩
  replace h := zq_nx1 (q := 51) h rfl
  refine ⟨zq_k_u2 181 (fun z => .putfield z) 97 h rfl (zq_o_181 _) (by decide +kernel), ?_⟩
  replace h := zq_nx3 (q := 54) h rfl
  refine ⟨zq_k_n 42 h rfl (zq_o_42 _), ?_⟩
  replace h := zq_nx1 (q := 55) h rfl
  refine ⟨zq_k_s1 16 (fun z => .bipush z) (-4) h rfl (zq_o_16 _) (by decide +kernel), ?_⟩
  replace h := zq_nx2 (q := 57) h rfl
  refine ⟨zq_k_u2 181 (fun z => .putfield z) 100 h rfl (zq_o_181 _) (by decide +kernel), ?_⟩
  replace h := zq_nx3 (q := 60) h rfl
  refine ⟨zq_k_n 42 h rfl (zq_o_42 _), ?_⟩
  replace h := zq_nx1 (q := 61) h rfl
  refine ⟨zq_k_s1 16 (fun z => .bipush z) (-4) h rfl (zq_o_16 _) (by decide +kernel), ?_⟩
  replace h := zq_nx2 (q := 63) h rfl
  refine ⟨zq_k_u2 181 (fun z => .putfield z) 103 h rfl (zq_o_181 _) (by decide +kernel), ?_⟩
  replace h := zq_nx3 (q := 66) h rfl
  exact zq_k_n 177 h rfl (zq_o_177 _)
def f_M_firstDraft_23b (rec23 : Nat → Int32 → mH → Option mH) (b0 : Nat) (b1 : Int32) (h : mH) : Option mH :=
  if (5 : Int32) ≤ b1 then
    bd1 (pV h b0 8 10 (.int (0 : Int32))) fun h6 =>
    bd1 (pV h6 b0 8 11 (.int (0 : Int32))) fun h8 =>
    bd1 (pV h8 b0 8 17 (.int ((-4) : Int32))) fun h10 =>
    bd1 (pV h10 b0 8 18 (.int ((-4) : Int32))) fun h12 =>
    some h12
  else
    bd1 (gR h b0 8 9) fun x14 =>
    bd1 (sI h 0 x14 ((5 : Int32) + b1) ((-4) : Int32)) fun h16 =>
    rec23 b0 (b1 + (1 : Int32)) h16
set_option maxRecDepth 20000 in
theorem t_M_firstDraft_23b {sc : Nat × (Nat → Int32)} (rec23 : Nat → Int32 → mH → Option mH) (hrec23 : ∀ (b0 : Nat) (b1 : Int32) (h : mH) (h' : mH), rec23 b0 b1 h = some h' → G sc y_M_firstDraft prog_10_method_5_code 2 none 0 0 23 [(0, .ref b0), (1, .int b1)] [] h none h') (b0 : Nat) (b1 : Int32) (h : mH) (h' : mH) (hf : f_M_firstDraft_23b rec23 b0 b1 h = some h') : G sc y_M_firstDraft prog_10_method_5_code 2 none 0 0 23 [(0, .ref b0), (1, .int b1)] [] h none h' := by
  unfold f_M_firstDraft_23b at hf
  refine g_iload_n (pc := 23) 1 dd_M_firstDraft_0.2.2.2.2.2.2.2.2.2.2.2.2.2.2.1 rfl rfl ?_
  refine g_iconst (pc := 24) (5 : Int32) dd_M_firstDraft_0.2.2.2.2.2.2.2.2.2.2.2.2.2.2.2.1 (by decide) ?_
  refine g_icmpge (pc := 25) 44 dd_M_firstDraft_0.2.2.2.2.2.2.2.2.2.2.2.2.2.2.2.2.1 (by decide) (fun c18 => ?_) (fun c18 => ?_)
  · replace hf := (if_pos c18).symm.trans hf
    refine g_aload_n (pc := 44) 0 dd_M_firstDraft_38.2.2.1 rfl rfl ?_
    refine g_iconst (pc := 45) (0 : Int32) dd_M_firstDraft_38.2.2.2.1 (by decide) ?_
    obtain ⟨h6, e7, hf⟩ := bd1_e hf
    refine g_put (pc := 46) (ci := 8) (kk := 10) ty_M tyok_M nm_M dd_M_firstDraft_38.2.2.2.2.1 rfl in_M (by decide) wd_948 rfl (fun _ => rfl) (fun _ => rfl) (fun _ z => by cases z) e7 ?_
    refine g_aload_n (pc := 49) 0 dd_M_firstDraft_38.2.2.2.2.2.1 rfl rfl ?_
    refine g_iconst (pc := 50) (0 : Int32) dd_M_firstDraft_38.2.2.2.2.2.2.1 (by decide) ?_
    obtain ⟨h8, e9, hf⟩ := bd1_e hf
    refine g_put (pc := 51) (ci := 8) (kk := 11) ty_M tyok_M nm_M dd_M_firstDraft_38.2.2.2.2.2.2.2.1 rfl in_M (by decide) wd_949 rfl (fun _ => rfl) (fun _ => rfl) (fun _ z => by cases z) e9 ?_
    refine g_aload_n (pc := 54) 0 dd_M_firstDraft_38.2.2.2.2.2.2.2.2.1 rfl rfl ?_
    refine g_bipush (pc := 55) ((-4) : Int32) dd_M_firstDraft_38.2.2.2.2.2.2.2.2.2.1 (by decide) ?_
    obtain ⟨h10, e11, hf⟩ := bd1_e hf
    refine g_put (pc := 57) (ci := 8) (kk := 17) ty_M tyok_M nm_M dd_M_firstDraft_38.2.2.2.2.2.2.2.2.2.2.1 rfl in_M (by decide) wd_955 rfl (fun _ => rfl) (fun _ => rfl) (fun _ z => by cases z) e11 ?_
    refine g_aload_n (pc := 60) 0 dd_M_firstDraft_38.2.2.2.2.2.2.2.2.2.2.2.1 rfl rfl ?_
    refine g_bipush (pc := 61) ((-4) : Int32) dd_M_firstDraft_38.2.2.2.2.2.2.2.2.2.2.2.2.1 (by decide) ?_
    obtain ⟨h12, e13, hf⟩ := bd1_e hf
    refine g_put (pc := 63) (ci := 8) (kk := 18) ty_M tyok_M nm_M dd_M_firstDraft_38.2.2.2.2.2.2.2.2.2.2.2.2.2.1 rfl in_M (by decide) wd_956 rfl (fun _ => rfl) (fun _ => rfl) (fun _ z => by cases z) e13 ?_
    obtain rfl := ret1 hf
    exact g_vret (pc := 66) rfl dd_M_firstDraft_38.2.2.2.2.2.2.2.2.2.2.2.2.2.2
  · replace hf := (if_neg c18).symm.trans hf
    refine g_aload_n (pc := 28) 0 dd_M_firstDraft_0.2.2.2.2.2.2.2.2.2.2.2.2.2.2.2.2.2.1 rfl rfl ?_
    obtain ⟨x14, e15, hf⟩ := bd1_e hf
    refine g_get (pc := 29) (ci := 8) (kk := 9) dd_M_firstDraft_0.2.2.2.2.2.2.2.2.2.2.2.2.2.2.2.2.2.2.1 rfl in_M (by decide) wd_947 (gR_spec e15) ?_
    refine g_iconst (pc := 32) (5 : Int32) dd_M_firstDraft_0.2.2.2.2.2.2.2.2.2.2.2.2.2.2.2.2.2.2.2.1 (by decide) ?_
    refine g_iload_n (pc := 33) 1 dd_M_firstDraft_0.2.2.2.2.2.2.2.2.2.2.2.2.2.2.2.2.2.2.2.2.1 rfl rfl ?_
    refine g_iadd (pc := 34) dd_M_firstDraft_0.2.2.2.2.2.2.2.2.2.2.2.2.2.2.2.2.2.2.2.2.2.1 ?_
    refine g_bipush (pc := 35) ((-4) : Int32) dd_M_firstDraft_0.2.2.2.2.2.2.2.2.2.2.2.2.2.2.2.2.2.2.2.2.2.2.1 (by decide) ?_
    obtain ⟨h16, e17, hf⟩ := bd1_e hf
    refine g_iast (pc := 37) dd_M_firstDraft_0.2.2.2.2.2.2.2.2.2.2.2.2.2.2.2.2.2.2.2.2.2.2.2 e17 ?_
    refine g_iinc (pc := 38) 1 (b1 + (1 : Int32)) [(1, .int (b1 + (1 : Int32))), (0, .ref b0)] dd_M_firstDraft_38.1 rfl rfl (Nat.le_of_ble_eq_true rfl) rfl ?_
    refine g_goto (pc := 41) 23 dd_M_firstDraft_38.2.1 (by decide) ?_
    refine g_lv [1, 0] rfl ?_
    exact hrec23 _ _ _ _  hf
def f_M_firstDraft_23  : Nat → Nat → Int32 → mH → Option mH
  | 0 => fun _ _ _ => none
  | n + 1 => f_M_firstDraft_23b  (f_M_firstDraft_23  n)
theorem t_M_firstDraft_23 {sc : Nat × (Nat → Int32)}  : ∀ (n : Nat) (b0 : Nat) (b1 : Int32) (h : mH) (h' : mH) (hf : f_M_firstDraft_23  n b0 b1 h = some h'), G sc y_M_firstDraft prog_10_method_5_code 2 none 0 0 23 [(0, .ref b0), (1, .int b1)] [] h none h'
  | 0, _, _, _, _, hf => by cases hf
  | n + 1, _, _, _, _, hf => t_M_firstDraft_23b  (f_M_firstDraft_23  n) (t_M_firstDraft_23  n) _ _ _ _ hf
def f_M_firstDraft_2b (rec2 : Nat → Int32 → mH → Option mH) (b0 : Nat) (b1 : Int32) (h : mH) : Option mH :=
  if (66 : Int32) ≤ b1 then
    f_M_firstDraft_23  FU b0 (0 : Int32) h
  else
    bd1 (gR h b0 8 9) fun x1 =>
    bd1 (sI h 0 x1 b1 (0 : Int32)) fun h3 =>
    rec2 b0 (b1 + (1 : Int32)) h3
set_option maxRecDepth 20000 in
theorem t_M_firstDraft_2b {sc : Nat × (Nat → Int32)} (rec2 : Nat → Int32 → mH → Option mH) (hrec2 : ∀ (b0 : Nat) (b1 : Int32) (h : mH) (h' : mH), rec2 b0 b1 h = some h' → G sc y_M_firstDraft prog_10_method_5_code 2 none 0 0 2 [(0, .ref b0), (1, .int b1)] [] h none h') (b0 : Nat) (b1 : Int32) (h : mH) (h' : mH) (hf : f_M_firstDraft_2b rec2 b0 b1 h = some h') : G sc y_M_firstDraft prog_10_method_5_code 2 none 0 0 2 [(0, .ref b0), (1, .int b1)] [] h none h' := by
  unfold f_M_firstDraft_2b at hf
  refine g_iload_n (pc := 2) 1 dd_M_firstDraft_0.2.2.1 rfl rfl ?_
  refine g_bipush (pc := 3) (66 : Int32) dd_M_firstDraft_0.2.2.2.1 (by decide) ?_
  refine g_icmpge (pc := 5) 21 dd_M_firstDraft_0.2.2.2.2.1 (by decide) (fun c5 => ?_) (fun c5 => ?_)
  · replace hf := (if_pos c5).symm.trans hf
    refine g_iconst (pc := 21) (0 : Int32) dd_M_firstDraft_0.2.2.2.2.2.2.2.2.2.2.2.2.1 (by decide) ?_
    refine g_istore_n (pc := 22) [(1, .int (0 : Int32)), (0, .ref b0)] dd_M_firstDraft_0.2.2.2.2.2.2.2.2.2.2.2.2.2.1 rfl (Nat.le_of_ble_eq_true rfl) rfl ?_
    refine g_lv [1, 0] rfl ?_
    exact t_M_firstDraft_23  FU _ _ _ _  hf
  · replace hf := (if_neg c5).symm.trans hf
    refine g_aload_n (pc := 8) 0 dd_M_firstDraft_0.2.2.2.2.2.1 rfl rfl ?_
    obtain ⟨x1, e2, hf⟩ := bd1_e hf
    refine g_get (pc := 9) (ci := 8) (kk := 9) dd_M_firstDraft_0.2.2.2.2.2.2.1 rfl in_M (by decide) wd_947 (gR_spec e2) ?_
    refine g_iload_n (pc := 12) 1 dd_M_firstDraft_0.2.2.2.2.2.2.2.1 rfl rfl ?_
    refine g_iconst (pc := 13) (0 : Int32) dd_M_firstDraft_0.2.2.2.2.2.2.2.2.1 (by decide) ?_
    obtain ⟨h3, e4, hf⟩ := bd1_e hf
    refine g_iast (pc := 14) dd_M_firstDraft_0.2.2.2.2.2.2.2.2.2.1 e4 ?_
    refine g_iinc (pc := 15) 1 (b1 + (1 : Int32)) [(1, .int (b1 + (1 : Int32))), (0, .ref b0)] dd_M_firstDraft_0.2.2.2.2.2.2.2.2.2.2.1 rfl rfl (Nat.le_of_ble_eq_true rfl) rfl ?_
    refine g_goto (pc := 18) 2 dd_M_firstDraft_0.2.2.2.2.2.2.2.2.2.2.2.1 (by decide) ?_
    refine g_lv [1, 0] rfl ?_
    exact hrec2 _ _ _ _  hf
def f_M_firstDraft_2  : Nat → Nat → Int32 → mH → Option mH
  | 0 => fun _ _ _ => none
  | n + 1 => f_M_firstDraft_2b  (f_M_firstDraft_2  n)
theorem t_M_firstDraft_2 {sc : Nat × (Nat → Int32)}  : ∀ (n : Nat) (b0 : Nat) (b1 : Int32) (h : mH) (h' : mH) (hf : f_M_firstDraft_2  n b0 b1 h = some h'), G sc y_M_firstDraft prog_10_method_5_code 2 none 0 0 2 [(0, .ref b0), (1, .int b1)] [] h none h'
  | 0, _, _, _, _, hf => by cases hf
  | n + 1, _, _, _, _, hf => t_M_firstDraft_2b  (f_M_firstDraft_2  n) (t_M_firstDraft_2  n) _ _ _ _ hf
def f_M_firstDraft_0  (a0 : Nat) (h : mH) : Option mH :=
  f_M_firstDraft_2  FU a0 (0 : Int32) h
set_option maxRecDepth 20000 in
theorem t_M_firstDraft_0 {sc : Nat × (Nat → Int32)}  (a0 : Nat) (h : mH) (h' : mH) (hf : f_M_firstDraft_0  a0 h = some h') : G sc y_M_firstDraft prog_10_method_5_code 2 none 0 0 0 [(0, .ref a0)] [] h none h' := by
  unfold f_M_firstDraft_0 at hf
  refine g_iconst (pc := 0) (0 : Int32) dd_M_firstDraft_0.1 (by decide) ?_
  refine g_istore_n (pc := 1) [(1, .int (0 : Int32)), (0, .ref a0)] dd_M_firstDraft_0.2.1 rfl (Nat.le_of_ble_eq_true rfl) rfl ?_
  refine g_lv [1, 0] rfl ?_
  exact t_M_firstDraft_2  FU _ _ _ _  hf
def f_M_firstDraft (a0 : Nat) (h : mH) : Option mH := f_M_firstDraft_0 a0 h
theorem c_M_firstDraft {sc : Nat × (Nat → Int32)} {a0 : Nat} {h : mH} {h' : mH} (hf : f_M_firstDraft a0 h = some h') : MM sc y_M_firstDraft prog_10_method_5_code 2 none 0 0 [.ref a0] h none h' :=
  mm_of_G si_pn_M (Nat.le_of_ble_eq_true rfl) (t_M_firstDraft_0 _ _ _ hf)
/-! M keepDraft ()V -/
set_option maxRecDepth 100000 in
theorem dd_M_keepDraft_0 : (decode prog_10_method_6_code 0 = .ok (.iconst 0, 1)) ∧ (decode prog_10_method_6_code 1 = .ok (.istore_n 1, 1)) ∧ (decode prog_10_method_6_code 2 = .ok (.iload_n 1, 1)) ∧ (decode prog_10_method_6_code 3 = .ok (.bipush 66, 2)) ∧ (decode prog_10_method_6_code 5 = .ok (.if_icmp .ge 21, 3)) ∧ (decode prog_10_method_6_code 8 = .ok (.aload_n 0, 1)) ∧ (decode prog_10_method_6_code 9 = .ok (.getfield 7, 3)) ∧ (decode prog_10_method_6_code 12 = .ok (.iload_n 1, 1)) ∧ (decode prog_10_method_6_code 13 = .ok (.aload_n 0, 1)) ∧ (decode prog_10_method_6_code 14 = .ok (.getfield 32, 3)) ∧ (decode prog_10_method_6_code 17 = .ok (.iload_n 1, 1)) ∧ (decode prog_10_method_6_code 18 = .ok (.iaload, 1)) ∧ (decode prog_10_method_6_code 19 = .ok (.iastore, 1)) ∧ (decode prog_10_method_6_code 20 = .ok (.iinc 1 1, 3)) ∧ (decode prog_10_method_6_code 23 = .ok (.goto (-21), 3)) ∧ (decode prog_10_method_6_code 26 = .ok (.aload_n 0, 1)) ∧ (decode prog_10_method_6_code 27 = .ok (.aload_n 0, 1)) ∧ (decode prog_10_method_6_code 28 = .ok (.getfield 93, 3)) ∧ (decode prog_10_method_6_code 31 = .ok (.putfield 106, 3)) ∧ (decode prog_10_method_6_code 34 = .ok (.aload_n 0, 1)) ∧ (decode prog_10_method_6_code 35 = .ok (.aload_n 0, 1)) ∧ (decode prog_10_method_6_code 36 = .ok (.getfield 97, 3)) ∧ (decode prog_10_method_6_code 39 = .ok (.putfield 109, 3)) ∧ (decode prog_10_method_6_code 42 = .ok (.aload_n 0, 1)) := by
  have h : List.drop 0 prog_10_method_6_code.data.toList = 0x03 :: _ := rfl
  refine ⟨zq_k_n 3 h rfl (zq_o_3 _), ?_⟩
  replace h := zq_nx1 (q := 1) h rfl
  refine ⟨zq_k_n 60 h rfl (zq_o_60 _), ?_⟩
  replace h := zq_nx1 (q := 2) h rfl
  refine ⟨zq_k_n 27 h rfl (zq_o_27 _), ?_⟩
  replace h := zq_nx1 (q := 3) h rfl
  refine ⟨zq_k_s1 16 (fun z => .bipush z) 66 h rfl (zq_o_16 _) (by decide +kernel), ?_⟩
  replace h := zq_nx2 (q := 5) h rfl
  refine ⟨zq_k_s2 162 (fun z => .if_icmp .ge z) 21 h rfl (zq_o_162 _) (by decide +kernel), ?_⟩
  replace h := zq_nx3 (q := 8) h rfl
  refine ⟨zq_k_n 42 h rfl (zq_o_42 _), ?_⟩
  replace h := zq_nx1 (q := 9) h rfl
  refine ⟨zq_k_u2 180 (fun z => .getfield z) 7 h rfl (zq_o_180 _) (by decide +kernel), ?_⟩
  replace h := zq_nx3 (q := 12) h rfl
  refine ⟨zq_k_n 27 h rfl (zq_o_27 _), ?_⟩
  replace h := zq_nx1 (q := 13) h rfl
  refine ⟨zq_k_n 42 h rfl (zq_o_42 _), ?_⟩
  replace h := zq_nx1 (q := 14) h rfl
  refine ⟨zq_k_u2 180 (fun z => .getfield z) 32 h rfl (zq_o_180 _) (by decide +kernel), ?_⟩
  replace h := zq_nx3 (q := 17) h rfl
  refine ⟨zq_k_n 27 h rfl (zq_o_27 _), ?_⟩
  replace h := zq_nx1 (q := 18) h rfl
  refine ⟨zq_k_n 46 h rfl (zq_o_46 _), ?_⟩
  replace h := zq_nx1 (q := 19) h rfl
  refine ⟨zq_k_n 79 h rfl (zq_o_79 _), ?_⟩
  replace h := zq_nx1 (q := 20) h rfl
  refine ⟨zq_k_iinc 1 1 h rfl (zq_o_132 _) (by decide +kernel) (by decide +kernel), ?_⟩
  replace h := zq_nx3 (q := 23) h rfl
  refine ⟨zq_k_s2 167 (fun z => .goto z) (-21) h rfl (zq_o_167 _) (by decide +kernel), ?_⟩
  replace h := zq_nx3 (q := 26) h rfl
  refine ⟨zq_k_n 42 h rfl (zq_o_42 _), ?_⟩
  replace h := zq_nx1 (q := 27) h rfl
  refine ⟨zq_k_n 42 h rfl (zq_o_42 _), ?_⟩
  replace h := zq_nx1 (q := 28) h rfl
  refine ⟨zq_k_u2 180 (fun z => .getfield z) 93 h rfl (zq_o_180 _) (by decide +kernel), ?_⟩
  replace h := zq_nx3 (q := 31) h rfl
  refine ⟨zq_k_u2 181 (fun z => .putfield z) 106 h rfl (zq_o_181 _) (by decide +kernel), ?_⟩
  replace h := zq_nx3 (q := 34) h rfl
  refine ⟨zq_k_n 42 h rfl (zq_o_42 _), ?_⟩
  replace h := zq_nx1 (q := 35) h rfl
  refine ⟨zq_k_n 42 h rfl (zq_o_42 _), ?_⟩
  replace h := zq_nx1 (q := 36) h rfl
  refine ⟨zq_k_u2 180 (fun z => .getfield z) 97 h rfl (zq_o_180 _) (by decide +kernel), ?_⟩
  replace h := zq_nx3 (q := 39) h rfl
  refine ⟨zq_k_u2 181 (fun z => .putfield z) 109 h rfl (zq_o_181 _) (by decide +kernel), ?_⟩
  replace h := zq_nx3 (q := 42) h rfl
  exact zq_k_n 42 h rfl (zq_o_42 _)
set_option maxRecDepth 100000 in
theorem dd_M_keepDraft_43 : (decode prog_10_method_6_code 43 = .ok (.getfield 7, 3)) ∧ (decode prog_10_method_6_code 46 = .ok (.bipush 10, 2)) ∧ (decode prog_10_method_6_code 48 = .ok (.iconst 1, 1)) ∧ (decode prog_10_method_6_code 49 = .ok (.aload_n 0, 1)) ∧ (decode prog_10_method_6_code 50 = .ok (.getfield 106, 3)) ∧ (decode prog_10_method_6_code 53 = .ok (.ishl, 1)) ∧ (decode prog_10_method_6_code 54 = .ok (.iconst 1, 1)) ∧ (decode prog_10_method_6_code 55 = .ok (.isub, 1)) ∧ (decode prog_10_method_6_code 56 = .ok (.iastore, 1)) ∧ (decode prog_10_method_6_code 57 = .ok (.iconst 0, 1)) ∧ (decode prog_10_method_6_code 58 = .ok (.istore_n 1, 1)) ∧ (decode prog_10_method_6_code 59 = .ok (.iload_n 1, 1)) ∧ (decode prog_10_method_6_code 60 = .ok (.aload_n 0, 1)) ∧ (decode prog_10_method_6_code 61 = .ok (.getfield 106, 3)) ∧ (decode prog_10_method_6_code 64 = .ok (.if_icmp .ge 45, 3)) ∧ (decode prog_10_method_6_code 67 = .ok (.aload_n 0, 1)) ∧ (decode prog_10_method_6_code 68 = .ok (.getfield 17, 3)) ∧ (decode prog_10_method_6_code 71 = .ok (.iload_n 1, 1)) ∧ (decode prog_10_method_6_code 72 = .ok (.aload_n 0, 1)) ∧ (decode prog_10_method_6_code 73 = .ok (.getfield 35, 3)) ∧ (decode prog_10_method_6_code 76 = .ok (.iload_n 1, 1)) ∧ (decode prog_10_method_6_code 77 = .ok (.iaload, 1)) ∧ (decode prog_10_method_6_code 78 = .ok (.iastore, 1)) ∧ (decode prog_10_method_6_code 79 = .ok (.aload_n 0, 1)) := by
  have h : List.drop 43 prog_10_method_6_code.data.toList = 0xb4 :: _ := rfl
  refine ⟨zq_k_u2 180 (fun z => .getfield z) 7 h rfl (zq_o_180 _) (by decide +kernel), ?_⟩
  replace h := zq_nx3 (q := 46) h rfl
  refine ⟨zq_k_s1 16 (fun z => .bipush z) 10 h rfl (zq_o_16 _) (by decide +kernel), ?_⟩
  replace h := zq_nx2 (q := 48) h rfl
  refine ⟨zq_k_n 4 h rfl (zq_o_4 _), ?_⟩
  replace h := zq_nx1 (q := 49) h rfl
  refine ⟨zq_k_n 42 h rfl (zq_o_42 _), ?_⟩
  replace h := zq_nx1 (q := 50) h rfl
  refine ⟨zq_k_u2 180 (fun z => .getfield z) 106 h rfl (zq_o_180 _) (by decide +kernel), ?_⟩
  replace h := zq_nx3 (q := 53) h rfl
  refine ⟨zq_k_n 120 h rfl (zq_o_120 _), ?_⟩
  replace h := zq_nx1 (q := 54) h rfl
  refine ⟨zq_k_n 4 h rfl (zq_o_4 _), ?_⟩
  replace h := zq_nx1 (q := 55) h rfl
  refine ⟨zq_k_n 100 h rfl (zq_o_100 _), ?_⟩
  replace h := zq_nx1 (q := 56) h rfl
  refine ⟨zq_k_n 79 h rfl (zq_o_79 _), ?_⟩
  replace h := zq_nx1 (q := 57) h rfl
  refine ⟨zq_k_n 3 h rfl (zq_o_3 _), ?_⟩
  replace h := zq_nx1 (q := 58) h rfl
  refine ⟨zq_k_n 60 h rfl (zq_o_60 _), ?_⟩
  replace h := zq_nx1 (q := 59) h rfl
  refine ⟨zq_k_n 27 h rfl (zq_o_27 _), ?_⟩
  replace h := zq_nx1 (q := 60) h rfl
  refine ⟨zq_k_n 42 h rfl (zq_o_42 _), ?_⟩
  replace h := zq_nx1 (q := 61) h rfl
  refine ⟨zq_k_u2 180 (fun z => .getfield z) 106 h rfl (zq_o_180 _) (by decide +kernel), ?_⟩
  replace h := zq_nx3 (q := 64) h rfl
  refine ⟨zq_k_s2 162 (fun z => .if_icmp .ge z) 45 h rfl (zq_o_162 _) (by decide +kernel), ?_⟩
  replace h := zq_nx3 (q := 67) h rfl
  refine ⟨zq_k_n 42 h rfl (zq_o_42 _), ?_⟩
  replace h := zq_nx1 (q := 68) h rfl
  refine ⟨zq_k_u2 180 (fun z => .getfield z) 17 h rfl (zq_o_180 _) (by decide +kernel), ?_⟩
  replace h := zq_nx3 (q := 71) h rfl
  refine ⟨zq_k_n 27 h rfl (zq_o_27 _), ?_⟩
  replace h := zq_nx1 (q := 72) h rfl
  refine ⟨zq_k_n 42 h rfl (zq_o_42 _), ?_⟩
  replace h := zq_nx1 (q := 73) h rfl
  refine ⟨zq_k_u2 180 (fun z => .getfield z) 35 h rfl (zq_o_180 _) (by decide +kernel), ?_⟩
  replace h := zq_nx3 (q := 76) h rfl
  refine ⟨zq_k_n 27 h rfl (zq_o_27 _), ?_⟩
  replace h := zq_nx1 (q := 77) h rfl
  refine ⟨zq_k_n 46 h rfl (zq_o_46 _), ?_⟩
  replace h := zq_nx1 (q := 78) h rfl
  refine ⟨zq_k_n 79 h rfl (zq_o_79 _), ?_⟩
  replace h := zq_nx1 (q := 79) h rfl
  exact zq_k_n 42 h rfl (zq_o_42 _)
set_option maxRecDepth 100000 in
theorem dd_M_keepDraft_80 : (decode prog_10_method_6_code 80 = .ok (.getfield 20, 3)) ∧ (decode prog_10_method_6_code 83 = .ok (.iload_n 1, 1)) ∧ (decode prog_10_method_6_code 84 = .ok (.aload_n 0, 1)) ∧ (decode prog_10_method_6_code 85 = .ok (.getfield 38, 3)) ∧ (decode prog_10_method_6_code 88 = .ok (.iload_n 1, 1)) ∧ (decode prog_10_method_6_code 89 = .ok (.iaload, 1)) ∧ (decode prog_10_method_6_code 90 = .ok (.iastore, 1)) ∧ (decode prog_10_method_6_code 91 = .ok (.aload_n 0, 1)) ∧ (decode prog_10_method_6_code 92 = .ok (.getfield 23, 3)) ∧ (decode prog_10_method_6_code 95 = .ok (.iload_n 1, 1)) ∧ (decode prog_10_method_6_code 96 = .ok (.aload_n 0, 1)) ∧ (decode prog_10_method_6_code 97 = .ok (.getfield 41, 3)) ∧ (decode prog_10_method_6_code 100 = .ok (.iload_n 1, 1)) ∧ (decode prog_10_method_6_code 101 = .ok (.iaload, 1)) ∧ (decode prog_10_method_6_code 102 = .ok (.iastore, 1)) ∧ (decode prog_10_method_6_code 103 = .ok (.iinc 1 1, 3)) ∧ (decode prog_10_method_6_code 106 = .ok (.goto (-47), 3)) ∧ (decode prog_10_method_6_code 109 = .ok (.iconst 0, 1)) ∧ (decode prog_10_method_6_code 110 = .ok (.istore_n 1, 1)) ∧ (decode prog_10_method_6_code 111 = .ok (.iload_n 1, 1)) ∧ (decode prog_10_method_6_code 112 = .ok (.aload_n 0, 1)) ∧ (decode prog_10_method_6_code 113 = .ok (.getfield 109, 3)) ∧ (decode prog_10_method_6_code 116 = .ok (.if_icmp .ge 33, 3)) ∧ (decode prog_10_method_6_code 119 = .ok (.aload_n 0, 1)) := by
  have h : List.drop 80 prog_10_method_6_code.data.toList = 0xb4 :: _ := rfl
  refine ⟨zq_k_u2 180 (fun z => .getfield z) 20 h rfl (zq_o_180 _) (by decide +kernel), ?_⟩
  replace h := zq_nx3 (q := 83) h rfl
  refine ⟨zq_k_n 27 h rfl (zq_o_27 _), ?_⟩
  replace h := zq_nx1 (q := 84) h rfl
  refine ⟨zq_k_n 42 h rfl (zq_o_42 _), ?_⟩
  replace h := zq_nx1 (q := 85) h rfl
  refine ⟨zq_k_u2 180 (fun z => .getfield z) 38 h rfl (zq_o_180 _) (by decide +kernel), ?_⟩
  replace h := zq_nx3 (q := 88) h rfl
  refine ⟨zq_k_n 27 h rfl (zq_o_27 _), ?_⟩
  replace h := zq_nx1 (q := 89) h rfl
  refine ⟨zq_k_n 46 h rfl (zq_o_46 _), ?_⟩
  replace h := zq_nx1 (q := 90) h rfl
  refine ⟨zq_k_n 79 h rfl (zq_o_79 _), ?_⟩
  replace h := zq_nx1 (q := 91) h rfl
  refine ⟨zq_k_n 42 h rfl (zq_o_42 _), ?_⟩
  replace h := zq_nx1 (q := 92) h rfl
  refine ⟨zq_k_u2 180 (fun z => .getfield z) 23 h rfl (zq_o_180 _) (by decide +kernel), ?_⟩
  replace h := zq_nx3 (q := 95) h rfl
  refine ⟨zq_k_n 27 h rfl (zq_o_27 _), ?_⟩
  replace h := zq_nx1 (q := 96) h rfl
  refine ⟨zq_k_n 42 h rfl (zq_o_42 _), ?_⟩
  replace h := zq_nx1 (q := 97) h rfl
  refine ⟨zq_k_u2 180 (fun z => .getfield z) 41 h rfl (zq_o_180 _) (by decide +kernel), ?_⟩
  replace h := zq_nx3 (q := 100) h rfl
  refine ⟨zq_k_n 27 h rfl (zq_o_27 _), ?_⟩
  replace h := zq_nx1 (q := 101) h rfl
  refine ⟨zq_k_n 46 h rfl (zq_o_46 _), ?_⟩
  replace h := zq_nx1 (q := 102) h rfl
  refine ⟨zq_k_n 79 h rfl (zq_o_79 _), ?_⟩
  replace h := zq_nx1 (q := 103) h rfl
  refine ⟨zq_k_iinc 1 1 h rfl (zq_o_132 _) (by decide +kernel) (by decide +kernel), ?_⟩
  replace h := zq_nx3 (q := 106) h rfl
  refine ⟨zq_k_s2 167 (fun z => .goto z) (-47) h rfl (zq_o_167 _) (by decide +kernel), ?_⟩
  replace h := zq_nx3 (q := 109) h rfl
  refine ⟨zq_k_n 3 h rfl (zq_o_3 _), ?_⟩
  replace h := zq_nx1 (q := 110) h rfl
  refine ⟨zq_k_n 60 h rfl (zq_o_60 _), ?_⟩
  replace h := zq_nx1 (q := 111) h rfl
  refine ⟨zq_k_n 27 h rfl (zq_o_27 _), ?_⟩
  replace h := zq_nx1 (q := 112) h rfl
  refine ⟨zq_k_n 42 h rfl (zq_o_42 _), ?_⟩
  replace h := zq_nx1 (q := 113) h rfl
  refine ⟨zq_k_u2 180 (fun z => .getfield z) 109 h rfl (zq_o_180 _) (by decide +kernel), ?_⟩
  replace h := zq_nx3 (q := 116) h rfl
  refine ⟨zq_k_s2 162 (fun z => .if_icmp .ge z) 33 h rfl (zq_o_162 _) (by decide +kernel), ?_⟩
  replace h := zq_nx3 (q := 119) h rfl
  exact zq_k_n 42 h rfl (zq_o_42 _)
set_option maxRecDepth 100000 in
theorem dd_M_keepDraft_120 : (decode prog_10_method_6_code 120 = .ok (.getfield 26, 3)) ∧ (decode prog_10_method_6_code 123 = .ok (.iload_n 1, 1)) ∧ (decode prog_10_method_6_code 124 = .ok (.aload_n 0, 1)) ∧ (decode prog_10_method_6_code 125 = .ok (.getfield 44, 3)) ∧ (decode prog_10_method_6_code 128 = .ok (.iload_n 1, 1)) ∧ (decode prog_10_method_6_code 129 = .ok (.iaload, 1)) ∧ (decode prog_10_method_6_code 130 = .ok (.iastore, 1)) ∧ (decode prog_10_method_6_code 131 = .ok (.aload_n 0, 1)) ∧ (decode prog_10_method_6_code 132 = .ok (.getfield 29, 3)) ∧ (decode prog_10_method_6_code 135 = .ok (.iload_n 1, 1)) ∧ (decode prog_10_method_6_code 136 = .ok (.aload_n 0, 1)) ∧ (decode prog_10_method_6_code 137 = .ok (.getfield 47, 3)) ∧ (decode prog_10_method_6_code 140 = .ok (.iload_n 1, 1)) ∧ (decode prog_10_method_6_code 141 = .ok (.iaload, 1)) ∧ (decode prog_10_method_6_code 142 = .ok (.iastore, 1)) ∧ (decode prog_10_method_6_code 143 = .ok (.iinc 1 1, 3)) ∧ (decode prog_10_method_6_code 146 = .ok (.goto (-35), 3)) ∧ (decode prog_10_method_6_code 149 = .ok (.aload_n 0, 1)) ∧ (decode prog_10_method_6_code 150 = .ok (.getfield 13, 3)) ∧ (decode prog_10_method_6_code 153 = .ok (.iconst 0, 1)) ∧ (decode prog_10_method_6_code 154 = .ok (.iconst 0, 1)) ∧ (decode prog_10_method_6_code 155 = .ok (.bastore, 1)) ∧ (decode prog_10_method_6_code 156 = .ok (.aload_n 0, 1)) ∧ (decode prog_10_method_6_code 157 = .ok (.getfield 13, 3)) := by
  have h : List.drop 120 prog_10_method_6_code.data.toList = 0xb4 :: _ := rfl
  refine ⟨zq_k_u2 180 (fun z => .getfield z) 26 h rfl (zq_o_180 _) (by decide +kernel), ?_⟩
  replace h := zq_nx3 (q := 123) h rfl
  refine ⟨zq_k_n 27 h rfl (zq_o_27 _), ?_⟩
  replace h := zq_nx1 (q := 124) h rfl
  refine ⟨zq_k_n 42 h rfl (zq_o_42 _), ?_⟩
  replace h := zq_nx1 (q := 125) h rfl
  refine ⟨zq_k_u2 180 (fun z => .getfield z) 44 h rfl (zq_o_180 _) (by decide +kernel), ?_⟩
  replace h := zq_nx3 (q := 128) h rfl
  refine ⟨zq_k_n 27 h rfl (zq_o_27 _), ?_⟩
  replace h := zq_nx1 (q := 129) h rfl
  refine ⟨zq_k_n 46 h rfl (zq_o_46 _), ?_⟩
  replace h := zq_nx1 (q := 130) h rfl
  refine ⟨zq_k_n 79 h rfl (zq_o_79 _), ?_⟩
  replace h := zq_nx1 (q := 131) h rfl
  refine ⟨zq_k_n 42 h rfl (zq_o_42 _), ?_⟩
  replace h := zq_nx1 (q := 132) h rfl
  refine ⟨zq_k_u2 180 (fun z => .getfield z) 29 h rfl (zq_o_180 _) (by decide +kernel), ?_⟩
  replace h := zq_nx3 (q := 135) h rfl
  refine ⟨zq_k_n 27 h rfl (zq_o_27 _), ?_⟩
  replace h := zq_nx1 (q := 136) h rfl
  refine ⟨zq_k_n 42 h rfl (zq_o_42 _), ?_⟩
  replace h := zq_nx1 (q := 137) h rfl
  refine ⟨zq_k_u2 180 (fun z => .getfield z) 47 h rfl (zq_o_180 _) (by decide +kernel), ?_⟩
  replace h := zq_nx3 (q := 140) h rfl
  refine ⟨zq_k_n 27 h rfl (zq_o_27 _), ?_⟩
  replace h := zq_nx1 (q := 141) h rfl
  refine ⟨zq_k_n 46 h rfl (zq_o_46 _), ?_⟩
  replace h := zq_nx1 (q := 142) h rfl
  refine ⟨zq_k_n 79 h rfl (zq_o_79 _), ?_⟩
  replace h := zq_nx1 (q := 143) h rfl
  refine ⟨zq_k_iinc 1 1 h rfl (zq_o_132 _) (by decide +kernel) (by decide +kernel), ?_⟩
  replace h := zq_nx3 (q := 146) h rfl
  refine ⟨zq_k_s2 167 (fun z => .goto z) (-35) h rfl (zq_o_167 _) (by decide +kernel), ?_⟩
  replace h := zq_nx3 (q := 149) h rfl
  refine ⟨zq_k_n 42 h rfl (zq_o_42 _), ?_⟩
  replace h := zq_nx1 (q := 150) h rfl
  refine ⟨zq_k_u2 180 (fun z => .getfield z) 13 h rfl (zq_o_180 _) (by decide +kernel), ?_⟩
  replace h := zq_nx3 (q := 153) h rfl
  refine ⟨zq_k_n 3 h rfl (zq_o_3 _), ?_⟩
  replace h := zq_nx1 (q := 154) h rfl
  refine ⟨zq_k_n 3 h rfl (zq_o_3 _), ?_⟩
  replace h := zq_nx1 (q := 155) h rfl
  refine ⟨zq_k_n 84 h rfl (zq_o_84 _), ?_⟩
  replace h := zq_nx1 (q := 156) h rfl
  refine ⟨zq_k_n 42 h rfl (zq_o_42 _), ?_⟩
  replace h := zq_nx1 (q := 157) h rfl
  exact zq_k_u2 180 (fun z => .getfield z) 13 h rfl (zq_o_180 _) (by decide +kernel)
set_option maxRecDepth 100000 in
theorem dd_M_keepDraft_160 : (decode prog_10_method_6_code 160 = .ok (.iconst 1, 1)) ∧ (decode prog_10_method_6_code 161 = .ok (.iconst 0, 1)) ∧ (decode prog_10_method_6_code 162 = .ok (.bastore, 1)) ∧ (decode prog_10_method_6_code 163 = .ok (.return_, 1)) := by
  have h : List.drop 160 prog_10_method_6_code.data.toList = 0x04 :: _ := rfl
  refine ⟨zq_k_n 4 h rfl (zq_o_4 _), ?_⟩
  replace h := zq_nx1 (q := 161) h rfl
  refine ⟨zq_k_n 3 h rfl (zq_o_3 _), ?_⟩
  replace h := zq_nx1 (q := 162) h rfl
  refine ⟨zq_k_n 84 h rfl (zq_o_84 _), ?_⟩
  replace h := zq_nx1 (q := 163) h rfl
  exact zq_k_n 177 h rfl (zq_o_177 _)
def f_M_keepDraft_111b (rec111 : Nat → Int32 → mH → Option mH) (b0 : Nat) (b1 : Int32) (h : mH) : Option mH :=
  bd1 (gI h b0 8 3) fun x51 =>
  if x51 ≤ b1 then
    bd1 (gR h b0 8 1) fun x53 =>
    bd1 (sI h 2 x53 (0 : Int32) (vp_nar .boolean (0 : Int32))) fun h55 =>
    bd1 (gR h55 b0 8 1) fun x57 =>
    bd1 (sI h55 2 x57 (1 : Int32) (vp_nar .boolean (0 : Int32))) fun h59 =>
    some h59
  else
    bd1 (gR h b0 8 7) fun x61 =>
    bd1 (gR h b0 8 15) fun x63 =>
    bd1 (aI h 0 x63 b1) fun x65 =>
    bd1 (sI h 0 x61 b1 x65) fun h67 =>
    bd1 (gR h67 b0 8 8) fun x69 =>
    bd1 (gR h67 b0 8 16) fun x71 =>
    bd1 (aI h67 0 x71 b1) fun x73 =>
    bd1 (sI h67 0 x69 b1 x73) fun h75 =>
    rec111 b0 (b1 + (1 : Int32)) h75
set_option maxRecDepth 20000 in
theorem t_M_keepDraft_111b {sc : Nat × (Nat → Int32)} (rec111 : Nat → Int32 → mH → Option mH) (hrec111 : ∀ (b0 : Nat) (b1 : Int32) (h : mH) (h' : mH), rec111 b0 b1 h = some h' → G sc y_M_keepDraft prog_10_method_6_code 2 none 0 0 111 [(0, .ref b0), (1, .int b1)] [] h none h') (b0 : Nat) (b1 : Int32) (h : mH) (h' : mH) (hf : f_M_keepDraft_111b rec111 b0 b1 h = some h') : G sc y_M_keepDraft prog_10_method_6_code 2 none 0 0 111 [(0, .ref b0), (1, .int b1)] [] h none h' := by
  unfold f_M_keepDraft_111b at hf
  refine g_iload_n (pc := 111) 1 dd_M_keepDraft_80.2.2.2.2.2.2.2.2.2.2.2.2.2.2.2.2.2.2.2.1 rfl rfl ?_
  refine g_aload_n (pc := 112) 0 dd_M_keepDraft_80.2.2.2.2.2.2.2.2.2.2.2.2.2.2.2.2.2.2.2.2.1 rfl rfl ?_
  obtain ⟨x51, e52, hf⟩ := bd1_e hf
  refine g_get (pc := 113) (ci := 8) (kk := 3) dd_M_keepDraft_80.2.2.2.2.2.2.2.2.2.2.2.2.2.2.2.2.2.2.2.2.2.1 rfl in_M (by decide) wd_941 (gI_spec e52) ?_
  refine g_icmpge (pc := 116) 149 dd_M_keepDraft_80.2.2.2.2.2.2.2.2.2.2.2.2.2.2.2.2.2.2.2.2.2.2.1 (by decide) (fun c77 => ?_) (fun c77 => ?_)
  · replace hf := (if_pos c77).symm.trans hf
    refine g_aload_n (pc := 149) 0 dd_M_keepDraft_120.2.2.2.2.2.2.2.2.2.2.2.2.2.2.2.2.2.1 rfl rfl ?_
    obtain ⟨x53, e54, hf⟩ := bd1_e hf
    refine g_get (pc := 150) (ci := 8) (kk := 1) dd_M_keepDraft_120.2.2.2.2.2.2.2.2.2.2.2.2.2.2.2.2.2.2.1 rfl in_M (by decide) wd_939 (gR_spec e54) ?_
    refine g_iconst (pc := 153) (0 : Int32) dd_M_keepDraft_120.2.2.2.2.2.2.2.2.2.2.2.2.2.2.2.2.2.2.2.1 (by decide) ?_
    refine g_iconst (pc := 154) (0 : Int32) dd_M_keepDraft_120.2.2.2.2.2.2.2.2.2.2.2.2.2.2.2.2.2.2.2.2.1 (by decide) ?_
    obtain ⟨h55, e56, hf⟩ := bd1_e hf
    refine g_zast (pc := 155) dd_M_keepDraft_120.2.2.2.2.2.2.2.2.2.2.2.2.2.2.2.2.2.2.2.2.2.1 e56 ?_
    refine g_aload_n (pc := 156) 0 dd_M_keepDraft_120.2.2.2.2.2.2.2.2.2.2.2.2.2.2.2.2.2.2.2.2.2.2.1 rfl rfl ?_
    obtain ⟨x57, e58, hf⟩ := bd1_e hf
    refine g_get (pc := 157) (ci := 8) (kk := 1) dd_M_keepDraft_120.2.2.2.2.2.2.2.2.2.2.2.2.2.2.2.2.2.2.2.2.2.2.2 rfl in_M (by decide) wd_939 (gR_spec e58) ?_
    refine g_iconst (pc := 160) (1 : Int32) dd_M_keepDraft_160.1 (by decide) ?_
    refine g_iconst (pc := 161) (0 : Int32) dd_M_keepDraft_160.2.1 (by decide) ?_
    obtain ⟨h59, e60, hf⟩ := bd1_e hf
    refine g_zast (pc := 162) dd_M_keepDraft_160.2.2.1 e60 ?_
    obtain rfl := ret1 hf
    exact g_vret (pc := 163) rfl dd_M_keepDraft_160.2.2.2
  · replace hf := (if_neg c77).symm.trans hf
    refine g_aload_n (pc := 119) 0 dd_M_keepDraft_80.2.2.2.2.2.2.2.2.2.2.2.2.2.2.2.2.2.2.2.2.2.2.2 rfl rfl ?_
    obtain ⟨x61, e62, hf⟩ := bd1_e hf
    refine g_get (pc := 120) (ci := 8) (kk := 7) dd_M_keepDraft_120.1 rfl in_M (by decide) wd_945 (gR_spec e62) ?_
    refine g_iload_n (pc := 123) 1 dd_M_keepDraft_120.2.1 rfl rfl ?_
    refine g_aload_n (pc := 124) 0 dd_M_keepDraft_120.2.2.1 rfl rfl ?_
    obtain ⟨x63, e64, hf⟩ := bd1_e hf
    refine g_get (pc := 125) (ci := 8) (kk := 15) dd_M_keepDraft_120.2.2.2.1 rfl in_M (by decide) wd_953 (gR_spec e64) ?_
    refine g_iload_n (pc := 128) 1 dd_M_keepDraft_120.2.2.2.2.1 rfl rfl ?_
    obtain ⟨x65, e66, hf⟩ := bd1_e hf
    refine g_iald (pc := 129) dd_M_keepDraft_120.2.2.2.2.2.1 e66 ?_
    obtain ⟨h67, e68, hf⟩ := bd1_e hf
    refine g_iast (pc := 130) dd_M_keepDraft_120.2.2.2.2.2.2.1 e68 ?_
    refine g_aload_n (pc := 131) 0 dd_M_keepDraft_120.2.2.2.2.2.2.2.1 rfl rfl ?_
    obtain ⟨x69, e70, hf⟩ := bd1_e hf
    refine g_get (pc := 132) (ci := 8) (kk := 8) dd_M_keepDraft_120.2.2.2.2.2.2.2.2.1 rfl in_M (by decide) wd_946 (gR_spec e70) ?_
    refine g_iload_n (pc := 135) 1 dd_M_keepDraft_120.2.2.2.2.2.2.2.2.2.1 rfl rfl ?_
    refine g_aload_n (pc := 136) 0 dd_M_keepDraft_120.2.2.2.2.2.2.2.2.2.2.1 rfl rfl ?_
    obtain ⟨x71, e72, hf⟩ := bd1_e hf
    refine g_get (pc := 137) (ci := 8) (kk := 16) dd_M_keepDraft_120.2.2.2.2.2.2.2.2.2.2.2.1 rfl in_M (by decide) wd_954 (gR_spec e72) ?_
    refine g_iload_n (pc := 140) 1 dd_M_keepDraft_120.2.2.2.2.2.2.2.2.2.2.2.2.1 rfl rfl ?_
    obtain ⟨x73, e74, hf⟩ := bd1_e hf
    refine g_iald (pc := 141) dd_M_keepDraft_120.2.2.2.2.2.2.2.2.2.2.2.2.2.1 e74 ?_
    obtain ⟨h75, e76, hf⟩ := bd1_e hf
    refine g_iast (pc := 142) dd_M_keepDraft_120.2.2.2.2.2.2.2.2.2.2.2.2.2.2.1 e76 ?_
    refine g_iinc (pc := 143) 1 (b1 + (1 : Int32)) [(1, .int (b1 + (1 : Int32))), (0, .ref b0)] dd_M_keepDraft_120.2.2.2.2.2.2.2.2.2.2.2.2.2.2.2.1 rfl rfl (Nat.le_of_ble_eq_true rfl) rfl ?_
    refine g_goto (pc := 146) 111 dd_M_keepDraft_120.2.2.2.2.2.2.2.2.2.2.2.2.2.2.2.2.1 (by decide) ?_
    refine g_lv [1, 0] rfl ?_
    exact hrec111 _ _ _ _  hf
def f_M_keepDraft_111  : Nat → Nat → Int32 → mH → Option mH
  | 0 => fun _ _ _ => none
  | n + 1 => f_M_keepDraft_111b  (f_M_keepDraft_111  n)
theorem t_M_keepDraft_111 {sc : Nat × (Nat → Int32)}  : ∀ (n : Nat) (b0 : Nat) (b1 : Int32) (h : mH) (h' : mH) (hf : f_M_keepDraft_111  n b0 b1 h = some h'), G sc y_M_keepDraft prog_10_method_6_code 2 none 0 0 111 [(0, .ref b0), (1, .int b1)] [] h none h'
  | 0, _, _, _, _, hf => by cases hf
  | n + 1, _, _, _, _, hf => t_M_keepDraft_111b  (f_M_keepDraft_111  n) (t_M_keepDraft_111  n) _ _ _ _ hf
def f_M_keepDraft_59b (rec59 : Nat → Int32 → mH → Option mH) (b0 : Nat) (b1 : Int32) (h : mH) : Option mH :=
  bd1 (gI h b0 8 2) fun x24 =>
  if x24 ≤ b1 then
    f_M_keepDraft_111  FU b0 (0 : Int32) h
  else
    bd1 (gR h b0 8 4) fun x26 =>
    bd1 (gR h b0 8 12) fun x28 =>
    bd1 (aI h 0 x28 b1) fun x30 =>
    bd1 (sI h 0 x26 b1 x30) fun h32 =>
    bd1 (gR h32 b0 8 5) fun x34 =>
    bd1 (gR h32 b0 8 13) fun x36 =>
    bd1 (aI h32 0 x36 b1) fun x38 =>
    bd1 (sI h32 0 x34 b1 x38) fun h40 =>
    bd1 (gR h40 b0 8 6) fun x42 =>
    bd1 (gR h40 b0 8 14) fun x44 =>
    bd1 (aI h40 0 x44 b1) fun x46 =>
    bd1 (sI h40 0 x42 b1 x46) fun h48 =>
    rec59 b0 (b1 + (1 : Int32)) h48
set_option maxRecDepth 20000 in
theorem t_M_keepDraft_59b {sc : Nat × (Nat → Int32)} (rec59 : Nat → Int32 → mH → Option mH) (hrec59 : ∀ (b0 : Nat) (b1 : Int32) (h : mH) (h' : mH), rec59 b0 b1 h = some h' → G sc y_M_keepDraft prog_10_method_6_code 2 none 0 0 59 [(0, .ref b0), (1, .int b1)] [] h none h') (b0 : Nat) (b1 : Int32) (h : mH) (h' : mH) (hf : f_M_keepDraft_59b rec59 b0 b1 h = some h') : G sc y_M_keepDraft prog_10_method_6_code 2 none 0 0 59 [(0, .ref b0), (1, .int b1)] [] h none h' := by
  unfold f_M_keepDraft_59b at hf
  refine g_iload_n (pc := 59) 1 dd_M_keepDraft_43.2.2.2.2.2.2.2.2.2.2.2.1 rfl rfl ?_
  refine g_aload_n (pc := 60) 0 dd_M_keepDraft_43.2.2.2.2.2.2.2.2.2.2.2.2.1 rfl rfl ?_
  obtain ⟨x24, e25, hf⟩ := bd1_e hf
  refine g_get (pc := 61) (ci := 8) (kk := 2) dd_M_keepDraft_43.2.2.2.2.2.2.2.2.2.2.2.2.2.1 rfl in_M (by decide) wd_940 (gI_spec e25) ?_
  refine g_icmpge (pc := 64) 109 dd_M_keepDraft_43.2.2.2.2.2.2.2.2.2.2.2.2.2.2.1 (by decide) (fun c50 => ?_) (fun c50 => ?_)
  · replace hf := (if_pos c50).symm.trans hf
    refine g_iconst (pc := 109) (0 : Int32) dd_M_keepDraft_80.2.2.2.2.2.2.2.2.2.2.2.2.2.2.2.2.2.1 (by decide) ?_
    refine g_istore_n (pc := 110) [(1, .int (0 : Int32)), (0, .ref b0)] dd_M_keepDraft_80.2.2.2.2.2.2.2.2.2.2.2.2.2.2.2.2.2.2.1 rfl (Nat.le_of_ble_eq_true rfl) rfl ?_
    refine g_lv [1, 0] rfl ?_
    exact t_M_keepDraft_111  FU _ _ _ _  hf
  · replace hf := (if_neg c50).symm.trans hf
    refine g_aload_n (pc := 67) 0 dd_M_keepDraft_43.2.2.2.2.2.2.2.2.2.2.2.2.2.2.2.1 rfl rfl ?_
    obtain ⟨x26, e27, hf⟩ := bd1_e hf
    refine g_get (pc := 68) (ci := 8) (kk := 4) dd_M_keepDraft_43.2.2.2.2.2.2.2.2.2.2.2.2.2.2.2.2.1 rfl in_M (by decide) wd_942 (gR_spec e27) ?_
    refine g_iload_n (pc := 71) 1 dd_M_keepDraft_43.2.2.2.2.2.2.2.2.2.2.2.2.2.2.2.2.2.1 rfl rfl ?_
    refine g_aload_n (pc := 72) 0 dd_M_keepDraft_43.2.2.2.2.2.2.2.2.2.2.2.2.2.2.2.2.2.2.1 rfl rfl ?_
    obtain ⟨x28, e29, hf⟩ := bd1_e hf
    refine g_get (pc := 73) (ci := 8) (kk := 12) dd_M_keepDraft_43.2.2.2.2.2.2.2.2.2.2.2.2.2.2.2.2.2.2.2.1 rfl in_M (by decide) wd_950 (gR_spec e29) ?_
    refine g_iload_n (pc := 76) 1 dd_M_keepDraft_43.2.2.2.2.2.2.2.2.2.2.2.2.2.2.2.2.2.2.2.2.1 rfl rfl ?_
    obtain ⟨x30, e31, hf⟩ := bd1_e hf
    refine g_iald (pc := 77) dd_M_keepDraft_43.2.2.2.2.2.2.2.2.2.2.2.2.2.2.2.2.2.2.2.2.2.1 e31 ?_
    obtain ⟨h32, e33, hf⟩ := bd1_e hf
    refine g_iast (pc := 78) dd_M_keepDraft_43.2.2.2.2.2.2.2.2.2.2.2.2.2.2.2.2.2.2.2.2.2.2.1 e33 ?_
    refine g_aload_n (pc := 79) 0 dd_M_keepDraft_43.2.2.2.2.2.2.2.2.2.2.2.2.2.2.2.2.2.2.2.2.2.2.2 rfl rfl ?_
    obtain ⟨x34, e35, hf⟩ := bd1_e hf
    refine g_get (pc := 80) (ci := 8) (kk := 5) dd_M_keepDraft_80.1 rfl in_M (by decide) wd_943 (gR_spec e35) ?_
    refine g_iload_n (pc := 83) 1 dd_M_keepDraft_80.2.1 rfl rfl ?_
    refine g_aload_n (pc := 84) 0 dd_M_keepDraft_80.2.2.1 rfl rfl ?_
    obtain ⟨x36, e37, hf⟩ := bd1_e hf
    refine g_get (pc := 85) (ci := 8) (kk := 13) dd_M_keepDraft_80.2.2.2.1 rfl in_M (by decide) wd_951 (gR_spec e37) ?_
    refine g_iload_n (pc := 88) 1 dd_M_keepDraft_80.2.2.2.2.1 rfl rfl ?_
    obtain ⟨x38, e39, hf⟩ := bd1_e hf
    refine g_iald (pc := 89) dd_M_keepDraft_80.2.2.2.2.2.1 e39 ?_
    obtain ⟨h40, e41, hf⟩ := bd1_e hf
    refine g_iast (pc := 90) dd_M_keepDraft_80.2.2.2.2.2.2.1 e41 ?_
    refine g_aload_n (pc := 91) 0 dd_M_keepDraft_80.2.2.2.2.2.2.2.1 rfl rfl ?_
    obtain ⟨x42, e43, hf⟩ := bd1_e hf
    refine g_get (pc := 92) (ci := 8) (kk := 6) dd_M_keepDraft_80.2.2.2.2.2.2.2.2.1 rfl in_M (by decide) wd_944 (gR_spec e43) ?_
    refine g_iload_n (pc := 95) 1 dd_M_keepDraft_80.2.2.2.2.2.2.2.2.2.1 rfl rfl ?_
    refine g_aload_n (pc := 96) 0 dd_M_keepDraft_80.2.2.2.2.2.2.2.2.2.2.1 rfl rfl ?_
    obtain ⟨x44, e45, hf⟩ := bd1_e hf
    refine g_get (pc := 97) (ci := 8) (kk := 14) dd_M_keepDraft_80.2.2.2.2.2.2.2.2.2.2.2.1 rfl in_M (by decide) wd_952 (gR_spec e45) ?_
    refine g_iload_n (pc := 100) 1 dd_M_keepDraft_80.2.2.2.2.2.2.2.2.2.2.2.2.1 rfl rfl ?_
    obtain ⟨x46, e47, hf⟩ := bd1_e hf
    refine g_iald (pc := 101) dd_M_keepDraft_80.2.2.2.2.2.2.2.2.2.2.2.2.2.1 e47 ?_
    obtain ⟨h48, e49, hf⟩ := bd1_e hf
    refine g_iast (pc := 102) dd_M_keepDraft_80.2.2.2.2.2.2.2.2.2.2.2.2.2.2.1 e49 ?_
    refine g_iinc (pc := 103) 1 (b1 + (1 : Int32)) [(1, .int (b1 + (1 : Int32))), (0, .ref b0)] dd_M_keepDraft_80.2.2.2.2.2.2.2.2.2.2.2.2.2.2.2.1 rfl rfl (Nat.le_of_ble_eq_true rfl) rfl ?_
    refine g_goto (pc := 106) 59 dd_M_keepDraft_80.2.2.2.2.2.2.2.2.2.2.2.2.2.2.2.2.1 (by decide) ?_
    refine g_lv [1, 0] rfl ?_
    exact hrec59 _ _ _ _  hf
def f_M_keepDraft_59  : Nat → Nat → Int32 → mH → Option mH
  | 0 => fun _ _ _ => none
  | n + 1 => f_M_keepDraft_59b  (f_M_keepDraft_59  n)
theorem t_M_keepDraft_59 {sc : Nat × (Nat → Int32)}  : ∀ (n : Nat) (b0 : Nat) (b1 : Int32) (h : mH) (h' : mH) (hf : f_M_keepDraft_59  n b0 b1 h = some h'), G sc y_M_keepDraft prog_10_method_6_code 2 none 0 0 59 [(0, .ref b0), (1, .int b1)] [] h none h'
  | 0, _, _, _, _, hf => by cases hf
  | n + 1, _, _, _, _, hf => t_M_keepDraft_59b  (f_M_keepDraft_59  n) (t_M_keepDraft_59  n) _ _ _ _ hf
def f_M_keepDraft_2b (rec2 : Nat → Int32 → mH → Option mH) (b0 : Nat) (b1 : Int32) (h : mH) : Option mH :=
  if (66 : Int32) ≤ b1 then
    bd1 (gI h b0 8 10) fun x1 =>
    bd1 (pV h b0 8 2 (.int x1)) fun h3 =>
    bd1 (gI h3 b0 8 11) fun x5 =>
    bd1 (pV h3 b0 8 3 (.int x5)) fun h7 =>
    bd1 (gR h7 b0 8 0) fun x9 =>
    bd1 (gI h7 b0 8 2) fun x11 =>
    bd1 (sI h7 0 x9 (10 : Int32) (((1 : Int32) <<< (x11 &&& 31)) - (1 : Int32))) fun h13 =>
    f_M_keepDraft_59  FU b0 (0 : Int32) h13
  else
    bd1 (gR h b0 8 0) fun x15 =>
    bd1 (gR h b0 8 9) fun x17 =>
    bd1 (aI h 0 x17 b1) fun x19 =>
    bd1 (sI h 0 x15 b1 x19) fun h21 =>
    rec2 b0 (b1 + (1 : Int32)) h21
set_option maxRecDepth 20000 in
theorem t_M_keepDraft_2b {sc : Nat × (Nat → Int32)} (rec2 : Nat → Int32 → mH → Option mH) (hrec2 : ∀ (b0 : Nat) (b1 : Int32) (h : mH) (h' : mH), rec2 b0 b1 h = some h' → G sc y_M_keepDraft prog_10_method_6_code 2 none 0 0 2 [(0, .ref b0), (1, .int b1)] [] h none h') (b0 : Nat) (b1 : Int32) (h : mH) (h' : mH) (hf : f_M_keepDraft_2b rec2 b0 b1 h = some h') : G sc y_M_keepDraft prog_10_method_6_code 2 none 0 0 2 [(0, .ref b0), (1, .int b1)] [] h none h' := by
  unfold f_M_keepDraft_2b at hf
  refine g_iload_n (pc := 2) 1 dd_M_keepDraft_0.2.2.1 rfl rfl ?_
  refine g_bipush (pc := 3) (66 : Int32) dd_M_keepDraft_0.2.2.2.1 (by decide) ?_
  refine g_icmpge (pc := 5) 26 dd_M_keepDraft_0.2.2.2.2.1 (by decide) (fun c23 => ?_) (fun c23 => ?_)
  · replace hf := (if_pos c23).symm.trans hf
    refine g_aload_n (pc := 26) 0 dd_M_keepDraft_0.2.2.2.2.2.2.2.2.2.2.2.2.2.2.2.1 rfl rfl ?_
    refine g_aload_n (pc := 27) 0 dd_M_keepDraft_0.2.2.2.2.2.2.2.2.2.2.2.2.2.2.2.2.1 rfl rfl ?_
    obtain ⟨x1, e2, hf⟩ := bd1_e hf
    refine g_get (pc := 28) (ci := 8) (kk := 10) dd_M_keepDraft_0.2.2.2.2.2.2.2.2.2.2.2.2.2.2.2.2.2.1 rfl in_M (by decide) wd_948 (gI_spec e2) ?_
    obtain ⟨h3, e4, hf⟩ := bd1_e hf
    refine g_put (pc := 31) (ci := 8) (kk := 2) ty_M tyok_M nm_M dd_M_keepDraft_0.2.2.2.2.2.2.2.2.2.2.2.2.2.2.2.2.2.2.1 rfl in_M (by decide) wd_940 rfl (fun _ => rfl) (fun _ => rfl) (fun _ z => by cases z) e4 ?_
    refine g_aload_n (pc := 34) 0 dd_M_keepDraft_0.2.2.2.2.2.2.2.2.2.2.2.2.2.2.2.2.2.2.2.1 rfl rfl ?_
    refine g_aload_n (pc := 35) 0 dd_M_keepDraft_0.2.2.2.2.2.2.2.2.2.2.2.2.2.2.2.2.2.2.2.2.1 rfl rfl ?_
    obtain ⟨x5, e6, hf⟩ := bd1_e hf
    refine g_get (pc := 36) (ci := 8) (kk := 11) dd_M_keepDraft_0.2.2.2.2.2.2.2.2.2.2.2.2.2.2.2.2.2.2.2.2.2.1 rfl in_M (by decide) wd_949 (gI_spec e6) ?_
    obtain ⟨h7, e8, hf⟩ := bd1_e hf
    refine g_put (pc := 39) (ci := 8) (kk := 3) ty_M tyok_M nm_M dd_M_keepDraft_0.2.2.2.2.2.2.2.2.2.2.2.2.2.2.2.2.2.2.2.2.2.2.1 rfl in_M (by decide) wd_941 rfl (fun _ => rfl) (fun _ => rfl) (fun _ z => by cases z) e8 ?_
    refine g_aload_n (pc := 42) 0 dd_M_keepDraft_0.2.2.2.2.2.2.2.2.2.2.2.2.2.2.2.2.2.2.2.2.2.2.2 rfl rfl ?_
    obtain ⟨x9, e10, hf⟩ := bd1_e hf
    refine g_get (pc := 43) (ci := 8) (kk := 0) dd_M_keepDraft_43.1 rfl in_M (by decide) wd_938 (gR_spec e10) ?_
    refine g_bipush (pc := 46) (10 : Int32) dd_M_keepDraft_43.2.1 (by decide) ?_
    refine g_iconst (pc := 48) (1 : Int32) dd_M_keepDraft_43.2.2.1 (by decide) ?_
    refine g_aload_n (pc := 49) 0 dd_M_keepDraft_43.2.2.2.1 rfl rfl ?_
    obtain ⟨x11, e12, hf⟩ := bd1_e hf
    refine g_get (pc := 50) (ci := 8) (kk := 2) dd_M_keepDraft_43.2.2.2.2.1 rfl in_M (by decide) wd_940 (gI_spec e12) ?_
    refine g_ishl (pc := 53) dd_M_keepDraft_43.2.2.2.2.2.1 ?_
    refine g_iconst (pc := 54) (1 : Int32) dd_M_keepDraft_43.2.2.2.2.2.2.1 (by decide) ?_
    refine g_isub (pc := 55) dd_M_keepDraft_43.2.2.2.2.2.2.2.1 ?_
    obtain ⟨h13, e14, hf⟩ := bd1_e hf
    refine g_iast (pc := 56) dd_M_keepDraft_43.2.2.2.2.2.2.2.2.1 e14 ?_
    refine g_iconst (pc := 57) (0 : Int32) dd_M_keepDraft_43.2.2.2.2.2.2.2.2.2.1 (by decide) ?_
    refine g_istore_n (pc := 58) [(1, .int (0 : Int32)), (0, .ref b0)] dd_M_keepDraft_43.2.2.2.2.2.2.2.2.2.2.1 rfl (Nat.le_of_ble_eq_true rfl) rfl ?_
    refine g_lv [1, 0] rfl ?_
    exact t_M_keepDraft_59  FU _ _ _ _  hf
  · replace hf := (if_neg c23).symm.trans hf
    refine g_aload_n (pc := 8) 0 dd_M_keepDraft_0.2.2.2.2.2.1 rfl rfl ?_
    obtain ⟨x15, e16, hf⟩ := bd1_e hf
    refine g_get (pc := 9) (ci := 8) (kk := 0) dd_M_keepDraft_0.2.2.2.2.2.2.1 rfl in_M (by decide) wd_938 (gR_spec e16) ?_
    refine g_iload_n (pc := 12) 1 dd_M_keepDraft_0.2.2.2.2.2.2.2.1 rfl rfl ?_
    refine g_aload_n (pc := 13) 0 dd_M_keepDraft_0.2.2.2.2.2.2.2.2.1 rfl rfl ?_
    obtain ⟨x17, e18, hf⟩ := bd1_e hf
    refine g_get (pc := 14) (ci := 8) (kk := 9) dd_M_keepDraft_0.2.2.2.2.2.2.2.2.2.1 rfl in_M (by decide) wd_947 (gR_spec e18) ?_
    refine g_iload_n (pc := 17) 1 dd_M_keepDraft_0.2.2.2.2.2.2.2.2.2.2.1 rfl rfl ?_
    obtain ⟨x19, e20, hf⟩ := bd1_e hf
    refine g_iald (pc := 18) dd_M_keepDraft_0.2.2.2.2.2.2.2.2.2.2.2.1 e20 ?_
    obtain ⟨h21, e22, hf⟩ := bd1_e hf
    refine g_iast (pc := 19) dd_M_keepDraft_0.2.2.2.2.2.2.2.2.2.2.2.2.1 e22 ?_
    refine g_iinc (pc := 20) 1 (b1 + (1 : Int32)) [(1, .int (b1 + (1 : Int32))), (0, .ref b0)] dd_M_keepDraft_0.2.2.2.2.2.2.2.2.2.2.2.2.2.1 rfl rfl (Nat.le_of_ble_eq_true rfl) rfl ?_
    refine g_goto (pc := 23) 2 dd_M_keepDraft_0.2.2.2.2.2.2.2.2.2.2.2.2.2.2.1 (by decide) ?_
    refine g_lv [1, 0] rfl ?_
    exact hrec2 _ _ _ _  hf
def f_M_keepDraft_2  : Nat → Nat → Int32 → mH → Option mH
  | 0 => fun _ _ _ => none
  | n + 1 => f_M_keepDraft_2b  (f_M_keepDraft_2  n)
theorem t_M_keepDraft_2 {sc : Nat × (Nat → Int32)}  : ∀ (n : Nat) (b0 : Nat) (b1 : Int32) (h : mH) (h' : mH) (hf : f_M_keepDraft_2  n b0 b1 h = some h'), G sc y_M_keepDraft prog_10_method_6_code 2 none 0 0 2 [(0, .ref b0), (1, .int b1)] [] h none h'
  | 0, _, _, _, _, hf => by cases hf
  | n + 1, _, _, _, _, hf => t_M_keepDraft_2b  (f_M_keepDraft_2  n) (t_M_keepDraft_2  n) _ _ _ _ hf
def f_M_keepDraft_0  (a0 : Nat) (h : mH) : Option mH :=
  f_M_keepDraft_2  FU a0 (0 : Int32) h
set_option maxRecDepth 20000 in
theorem t_M_keepDraft_0 {sc : Nat × (Nat → Int32)}  (a0 : Nat) (h : mH) (h' : mH) (hf : f_M_keepDraft_0  a0 h = some h') : G sc y_M_keepDraft prog_10_method_6_code 2 none 0 0 0 [(0, .ref a0)] [] h none h' := by
  unfold f_M_keepDraft_0 at hf
  refine g_iconst (pc := 0) (0 : Int32) dd_M_keepDraft_0.1 (by decide) ?_
  refine g_istore_n (pc := 1) [(1, .int (0 : Int32)), (0, .ref a0)] dd_M_keepDraft_0.2.1 rfl (Nat.le_of_ble_eq_true rfl) rfl ?_
  refine g_lv [1, 0] rfl ?_
  exact t_M_keepDraft_2  FU _ _ _ _  hf
def f_M_keepDraft (a0 : Nat) (h : mH) : Option mH := f_M_keepDraft_0 a0 h
theorem c_M_keepDraft {sc : Nat × (Nat → Int32)} {a0 : Nat} {h : mH} {h' : mH} (hf : f_M_keepDraft a0 h = some h') : MM sc y_M_keepDraft prog_10_method_6_code 2 none 0 0 [.ref a0] h none h' :=
  mm_of_G si_pn_M (Nat.le_of_ble_eq_true rfl) (t_M_keepDraft_0 _ _ _ hf)
/-! M in (JJJ)Z -/
set_option maxRecDepth 100000 in
theorem dd_M_in_0 : (decode prog_10_method_3_code 0 = .ok (.lload_n 0, 1)) ∧ (decode prog_10_method_3_code 1 = .ok (.lload_n 2, 1)) ∧ (decode prog_10_method_3_code 2 = .ok (.lcmp, 1)) ∧ (decode prog_10_method_3_code 3 = .ok (.ifCond .lt 14, 3)) ∧ (decode prog_10_method_3_code 6 = .ok (.lload_n 0, 1)) ∧ (decode prog_10_method_3_code 7 = .ok (.lload 4, 2)) ∧ (decode prog_10_method_3_code 9 = .ok (.lcmp, 1)) ∧ (decode prog_10_method_3_code 10 = .ok (.ifCond .gt 7, 3)) ∧ (decode prog_10_method_3_code 13 = .ok (.iconst 1, 1)) ∧ (decode prog_10_method_3_code 14 = .ok (.goto 4, 3)) ∧ (decode prog_10_method_3_code 17 = .ok (.iconst 0, 1)) ∧ (decode prog_10_method_3_code 18 = .ok (.ireturn, 1)) := by
  have h : List.drop 0 prog_10_method_3_code.data.toList = 0x1e :: _ := rfl
  refine ⟨zq_k_n 30 h rfl (zq_o_30 _), ?_⟩
  replace h := zq_nx1 (q := 1) h rfl
  refine ⟨zq_k_n 32 h rfl (zq_o_32 _), ?_⟩
  replace h := zq_nx1 (q := 2) h rfl
  refine ⟨zq_k_n 148 h rfl (zq_o_148 _), ?_⟩
  replace h := zq_nx1 (q := 3) h rfl
  refine ⟨zq_k_s2 155 (fun z => .ifCond .lt z) 14 h rfl (zq_o_155 _) (by decide +kernel), ?_⟩
  replace h := zq_nx3 (q := 6) h rfl
  refine ⟨zq_k_n 30 h rfl (zq_o_30 _), ?_⟩
  replace h := zq_nx1 (q := 7) h rfl
  refine ⟨zq_k_u1 22 (fun z => .lload z) 4 h rfl (zq_o_22 _) (by decide +kernel), ?_⟩
  replace h := zq_nx2 (q := 9) h rfl
  refine ⟨zq_k_n 148 h rfl (zq_o_148 _), ?_⟩
  replace h := zq_nx1 (q := 10) h rfl
  refine ⟨zq_k_s2 157 (fun z => .ifCond .gt z) 7 h rfl (zq_o_157 _) (by decide +kernel), ?_⟩
  replace h := zq_nx3 (q := 13) h rfl
  refine ⟨zq_k_n 4 h rfl (zq_o_4 _), ?_⟩
  replace h := zq_nx1 (q := 14) h rfl
  refine ⟨zq_k_s2 167 (fun z => .goto z) 4 h rfl (zq_o_167 _) (by decide +kernel), ?_⟩
  replace h := zq_nx3 (q := 17) h rfl
  refine ⟨zq_k_n 3 h rfl (zq_o_3 _), ?_⟩
  replace h := zq_nx1 (q := 18) h rfl
  exact zq_k_n 172 h rfl (zq_o_172 _)
def f_M_in_17   (h : mH) : Option (Int32 × mH) :=
  some ((0 : Int32), h)
set_option maxRecDepth 20000 in
theorem t_M_in_17 {sc : Nat × (Nat → Int32)}   (h : mH) (r : Int32) (h' : mH) (hf : f_M_in_17   h = some (r, h')) : G sc y_M_in prog_10_method_3_code 6 (some .boolean) 0 0 17 [] [] h (some (.int r)) h' := by
  unfold f_M_in_17 at hf
  refine g_iconst (pc := 17) (0 : Int32) dd_M_in_0.2.2.2.2.2.2.2.2.2.2.1 (by decide) ?_
  obtain ⟨rfl, rfl⟩ := ret2 hf
  exact g_zret (pc := 18) rfl rfl dd_M_in_0.2.2.2.2.2.2.2.2.2.2.2
def f_M_in_0  (a0 : Int64) (a1 : Int64) (a2 : Int64) (h : mH) : Option (Int32 × mH) :=
  if (lg_cmp a0 a1) < 0 then
    f_M_in_17  h
  else
    if 0 < (lg_cmp a0 a2) then
      f_M_in_17  h
    else
      some ((1 : Int32), h)
set_option maxRecDepth 20000 in
theorem t_M_in_0 {sc : Nat × (Nat → Int32)}  (a0 : Int64) (a1 : Int64) (a2 : Int64) (h : mH) (r : Int32) (h' : mH) (hf : f_M_in_0  a0 a1 a2 h = some (r, h')) : G sc y_M_in prog_10_method_3_code 6 (some .boolean) 0 0 0 [(0, .long a0), (2, .long a1), (4, .long a2)] [] h (some (.int r)) h' := by
  unfold f_M_in_0 at hf
  refine g_lload_n (pc := 0) 0 dd_M_in_0.1 rfl rfl ?_
  refine g_lload_n (pc := 1) 1 dd_M_in_0.2.1 rfl rfl ?_
  refine g_lcmp (pc := 2) dd_M_in_0.2.2.1 ?_
  refine g_iflt (pc := 3) 17 dd_M_in_0.2.2.2.1 (by decide) (fun c2 => ?_) (fun c2 => ?_)
  · replace hf := (if_pos c2).symm.trans hf
    refine g_lv [] rfl ?_
    exact t_M_in_17  _ _ _  hf
  · replace hf := (if_neg c2).symm.trans hf
    refine g_lload_n (pc := 6) 0 dd_M_in_0.2.2.2.2.1 rfl rfl ?_
    refine g_lload (pc := 7) 2 dd_M_in_0.2.2.2.2.2.1 rfl ?_
    refine g_lcmp (pc := 9) dd_M_in_0.2.2.2.2.2.2.1 ?_
    refine g_ifgt (pc := 10) 17 dd_M_in_0.2.2.2.2.2.2.2.1 (by decide) (fun c1 => ?_) (fun c1 => ?_)
    · replace hf := (if_pos c1).symm.trans hf
      refine g_lv [] rfl ?_
      exact t_M_in_17  _ _ _  hf
    · replace hf := (if_neg c1).symm.trans hf
      refine g_iconst (pc := 13) (1 : Int32) dd_M_in_0.2.2.2.2.2.2.2.2.1 (by decide) ?_
      refine g_goto (pc := 14) 18 dd_M_in_0.2.2.2.2.2.2.2.2.2.1 (by decide) ?_
      obtain ⟨rfl, rfl⟩ := ret2 hf
      exact g_zret (pc := 18) rfl rfl dd_M_in_0.2.2.2.2.2.2.2.2.2.2.2
def f_M_in (a0 : Int64) (a1 : Int64) (a2 : Int64) (h : mH) : Option (Int32 × mH) := f_M_in_0 a0 a1 a2 h
theorem c_M_in {sc : Nat × (Nat → Int32)} {a0 : Int64} {a1 : Int64} {a2 : Int64} {h : mH} {r : Int32} {h' : mH} (hf : f_M_in a0 a1 a2 h = some (r, h')) : MM sc y_M_in prog_10_method_3_code 6 (some .boolean) 0 0 [.long a0, .long a1, .long a2] h (some (.int r)) h' :=
  mm_of_G si_pn_M (Nat.le_of_ble_eq_true rfl) (t_M_in_0 _ _ _ _ _ _ hf)
/-! M feed (I)I -/
set_option maxRecDepth 100000 in
theorem dd_M_feed_0 : (decode prog_10_method_7_code 0 = .ok (.iload_n 1, 1)) ∧ (decode prog_10_method_7_code 1 = .ok (.i2l, 1)) ∧ (decode prog_10_method_7_code 2 = .ok (.lconst 0, 1)) ∧ (decode prog_10_method_7_code 3 = .ok (.ldc2_w 112, 3)) ∧ (decode prog_10_method_7_code 6 = .ok (.invokestatic 114, 3)) ∧ (decode prog_10_method_7_code 9 = .ok (.ifCond .ne 5, 3)) ∧ (decode prog_10_method_7_code 12 = .ok (.iconst (-1), 1)) ∧ (decode prog_10_method_7_code 13 = .ok (.ireturn, 1)) ∧ (decode prog_10_method_7_code 14 = .ok (.aload_n 0, 1)) ∧ (decode prog_10_method_7_code 15 = .ok (.getfield 118, 3)) ∧ (decode prog_10_method_7_code 18 = .ok (.sipush 160, 3)) ∧ (decode prog_10_method_7_code 21 = .ok (.if_icmp .ne 6, 3)) ∧ (decode prog_10_method_7_code 24 = .ok (.bipush (-3), 2)) ∧ (decode prog_10_method_7_code 26 = .ok (.ireturn, 1)) ∧ (decode prog_10_method_7_code 27 = .ok (.aload_n 0, 1)) ∧ (decode prog_10_method_7_code 28 = .ok (.getfield 50, 3)) ∧ (decode prog_10_method_7_code 31 = .ok (.aload_n 0, 1)) ∧ (decode prog_10_method_7_code 32 = .ok (.getfield 118, 3)) ∧ (decode prog_10_method_7_code 35 = .ok (.iload_n 1, 1)) ∧ (decode prog_10_method_7_code 36 = .ok (.iastore, 1)) ∧ (decode prog_10_method_7_code 37 = .ok (.aload_n 0, 1)) ∧ (decode prog_10_method_7_code 38 = .ok (.dup, 1)) ∧ (decode prog_10_method_7_code 39 = .ok (.getfield 118, 3)) ∧ (decode prog_10_method_7_code 42 = .ok (.iconst 1, 1)) := by
  have h : List.drop 0 prog_10_method_7_code.data.toList = 0x1b :: _ := rfl
  refine ⟨zq_k_n 27 h rfl (zq_o_27 _), ?_⟩
  replace h := zq_nx1 (q := 1) h rfl
  refine ⟨zq_k_n 133 h rfl (zq_o_133 _), ?_⟩
  replace h := zq_nx1 (q := 2) h rfl
  refine ⟨zq_k_n 9 h rfl (zq_o_9 _), ?_⟩
  replace h := zq_nx1 (q := 3) h rfl
  refine ⟨zq_k_u2 20 (fun z => .ldc2_w z) 112 h rfl (zq_o_20 _) (by decide +kernel), ?_⟩
  replace h := zq_nx3 (q := 6) h rfl
  refine ⟨zq_k_u2 184 (fun z => .invokestatic z) 114 h rfl (zq_o_184 _) (by decide +kernel), ?_⟩
  replace h := zq_nx3 (q := 9) h rfl
  refine ⟨zq_k_s2 154 (fun z => .ifCond .ne z) 5 h rfl (zq_o_154 _) (by decide +kernel), ?_⟩
  replace h := zq_nx3 (q := 12) h rfl
  refine ⟨zq_k_n 2 h rfl (zq_o_2 _), ?_⟩
  replace h := zq_nx1 (q := 13) h rfl
  refine ⟨zq_k_n 172 h rfl (zq_o_172 _), ?_⟩
  replace h := zq_nx1 (q := 14) h rfl
  refine ⟨zq_k_n 42 h rfl (zq_o_42 _), ?_⟩
  replace h := zq_nx1 (q := 15) h rfl
  refine ⟨zq_k_u2 180 (fun z => .getfield z) 118 h rfl (zq_o_180 _) (by decide +kernel), ?_⟩
  replace h := zq_nx3 (q := 18) h rfl
  refine ⟨zq_k_s2 17 (fun z => .sipush z) 160 h rfl (zq_o_17 _) (by decide +kernel), ?_⟩
  replace h := zq_nx3 (q := 21) h rfl
  refine ⟨zq_k_s2 160 (fun z => .if_icmp .ne z) 6 h rfl (zq_o_160 _) (by decide +kernel), ?_⟩
  replace h := zq_nx3 (q := 24) h rfl
  refine ⟨zq_k_s1 16 (fun z => .bipush z) (-3) h rfl (zq_o_16 _) (by decide +kernel), ?_⟩
  replace h := zq_nx2 (q := 26) h rfl
  refine ⟨zq_k_n 172 h rfl (zq_o_172 _), ?_⟩
  replace h := zq_nx1 (q := 27) h rfl
  refine ⟨zq_k_n 42 h rfl (zq_o_42 _), ?_⟩
  replace h := zq_nx1 (q := 28) h rfl
  refine ⟨zq_k_u2 180 (fun z => .getfield z) 50 h rfl (zq_o_180 _) (by decide +kernel), ?_⟩
  replace h := zq_nx3 (q := 31) h rfl
  refine ⟨zq_k_n 42 h rfl (zq_o_42 _), ?_⟩
  replace h := zq_nx1 (q := 32) h rfl
  refine ⟨zq_k_u2 180 (fun z => .getfield z) 118 h rfl (zq_o_180 _) (by decide +kernel), ?_⟩
  replace h := zq_nx3 (q := 35) h rfl
  refine ⟨zq_k_n 27 h rfl (zq_o_27 _), ?_⟩
  replace h := zq_nx1 (q := 36) h rfl
  refine ⟨zq_k_n 79 h rfl (zq_o_79 _), ?_⟩
  replace h := zq_nx1 (q := 37) h rfl
  refine ⟨zq_k_n 42 h rfl (zq_o_42 _), ?_⟩
  replace h := zq_nx1 (q := 38) h rfl
  refine ⟨zq_k_n 89 h rfl (zq_o_89 _), ?_⟩
  replace h := zq_nx1 (q := 39) h rfl
  refine ⟨zq_k_u2 180 (fun z => .getfield z) 118 h rfl (zq_o_180 _) (by decide +kernel), ?_⟩
  replace h := zq_nx3 (q := 42) h rfl
  exact zq_k_n 4 h rfl (zq_o_4 _)
set_option maxRecDepth 100000 in
theorem dd_M_feed_43 : (decode prog_10_method_7_code 43 = .ok (.iadd, 1)) ∧ (decode prog_10_method_7_code 44 = .ok (.putfield 118, 3)) ∧ (decode prog_10_method_7_code 47 = .ok (.aload_n 0, 1)) ∧ (decode prog_10_method_7_code 48 = .ok (.getfield 118, 3)) ∧ (decode prog_10_method_7_code 51 = .ok (.ireturn, 1)) := by
  have h : List.drop 43 prog_10_method_7_code.data.toList = 0x60 :: _ := rfl
  refine ⟨zq_k_n 96 h rfl (zq_o_96 _), ?_⟩
  replace h := zq_nx1 (q := 44) h rfl
  refine ⟨zq_k_u2 181 (fun z => .putfield z) 118 h rfl (zq_o_181 _) (by decide +kernel), ?_⟩
  replace h := zq_nx3 (q := 47) h rfl
  refine ⟨zq_k_n 42 h rfl (zq_o_42 _), ?_⟩
  replace h := zq_nx1 (q := 48) h rfl
  refine ⟨zq_k_u2 180 (fun z => .getfield z) 118 h rfl (zq_o_180 _) (by decide +kernel), ?_⟩
  replace h := zq_nx3 (q := 51) h rfl
  exact zq_k_n 172 h rfl (zq_o_172 _)
def f_M_feed_0  (a0 : Nat) (a1 : Int32) (h : mH) : Option (Int32 × mH) :=
  bd2 (f_M_in a1.toInt64 (0 : Int64) (127 : Int64) h) fun x3 h1 =>
  if x3 = 0 then
    some (((-1) : Int32), h1)
  else
    bd1 (gI h1 a0 8 20) fun x4 =>
    if x4 = (160 : Int32) then
      some (((-3) : Int32), h1)
    else
      bd1 (gR h1 a0 8 19) fun x6 =>
      bd1 (gI h1 a0 8 20) fun x8 =>
      bd1 (sI h1 0 x6 x8 a1) fun h10 =>
      bd1 (gI h10 a0 8 20) fun x12 =>
      bd1 (pV h10 a0 8 20 (.int (x12 + (1 : Int32)))) fun h14 =>
      bd1 (gI h14 a0 8 20) fun x16 =>
      some (x16, h14)
set_option maxRecDepth 20000 in
theorem t_M_feed_0 {sc : Nat × (Nat → Int32)}  (a0 : Nat) (a1 : Int32) (h : mH) (r : Int32) (h' : mH) (hf : f_M_feed_0  a0 a1 h = some (r, h')) : G sc y_M_feed prog_10_method_7_code 2 (some .int) 1 25 0 [(0, .ref a0), (1, .int a1)] [] h (some (.int r)) h' := by
  unfold f_M_feed_0 at hf
  refine g_iload_n (pc := 0) 1 dd_M_feed_0.1 rfl rfl ?_
  refine g_i2l (pc := 1) dd_M_feed_0.2.1 ?_
  refine g_lconst (pc := 2) (0 : Int64) dd_M_feed_0.2.2.1 (by decide) ?_
  refine g_ldc2 (pc := 3) (127 : Int64) dd_M_feed_0.2.2.2.1 wd_1060 ?_
  obtain ⟨x3, h1, e2, hf⟩ := bd2_e hf
  refine g_callS (pc := 6) [.long a1.toInt64, .long (0 : Int64), .long (127 : Int64)] (site_of si_M_in (by decide) (by decide)) wd_1061 wd_1062 dd_M_feed_0.2.2.2.2.1 (Nat.le_of_ble_eq_true rfl) (fun z => absurd z si_na_M_in) (fun z => absurd z si_na_M_in) (fun z => absurd z si_na_M_in) (c_M_in e2) rfl ?_
  refine g_st [.int x3] rfl ?_
  refine g_ifne (pc := 9) 14 dd_M_feed_0.2.2.2.2.2.1 (by decide) (fun c19 => ?_) (fun c19 => ?_)
  · replace hf := (if_neg c19).symm.trans hf
    refine g_aload_n (pc := 14) 0 dd_M_feed_0.2.2.2.2.2.2.2.2.1 rfl rfl ?_
    obtain ⟨x4, e5, hf⟩ := bd1_e hf
    refine g_get (pc := 15) (ci := 8) (kk := 20) dd_M_feed_0.2.2.2.2.2.2.2.2.2.1 rfl in_M (by decide) wd_958 (gI_spec e5) ?_
    refine g_sipush (pc := 18) (160 : Int32) dd_M_feed_0.2.2.2.2.2.2.2.2.2.2.1 (by decide) ?_
    refine g_icmpne (pc := 21) 27 dd_M_feed_0.2.2.2.2.2.2.2.2.2.2.2.1 (by decide) (fun c18 => ?_) (fun c18 => ?_)
    · replace hf := (if_neg c18).symm.trans hf
      refine g_aload_n (pc := 27) 0 dd_M_feed_0.2.2.2.2.2.2.2.2.2.2.2.2.2.2.1 rfl rfl ?_
      obtain ⟨x6, e7, hf⟩ := bd1_e hf
      refine g_get (pc := 28) (ci := 8) (kk := 19) dd_M_feed_0.2.2.2.2.2.2.2.2.2.2.2.2.2.2.2.1 rfl in_M (by decide) wd_957 (gR_spec e7) ?_
      refine g_aload_n (pc := 31) 0 dd_M_feed_0.2.2.2.2.2.2.2.2.2.2.2.2.2.2.2.2.1 rfl rfl ?_
      obtain ⟨x8, e9, hf⟩ := bd1_e hf
      refine g_get (pc := 32) (ci := 8) (kk := 20) dd_M_feed_0.2.2.2.2.2.2.2.2.2.2.2.2.2.2.2.2.2.1 rfl in_M (by decide) wd_958 (gI_spec e9) ?_
      refine g_iload_n (pc := 35) 1 dd_M_feed_0.2.2.2.2.2.2.2.2.2.2.2.2.2.2.2.2.2.2.1 rfl rfl ?_
      obtain ⟨h10, e11, hf⟩ := bd1_e hf
      refine g_iast (pc := 36) dd_M_feed_0.2.2.2.2.2.2.2.2.2.2.2.2.2.2.2.2.2.2.2.1 e11 ?_
      refine g_aload_n (pc := 37) 0 dd_M_feed_0.2.2.2.2.2.2.2.2.2.2.2.2.2.2.2.2.2.2.2.2.1 rfl rfl ?_
      refine g_dup (pc := 38) dd_M_feed_0.2.2.2.2.2.2.2.2.2.2.2.2.2.2.2.2.2.2.2.2.2.1 rfl ?_
      obtain ⟨x12, e13, hf⟩ := bd1_e hf
      refine g_get (pc := 39) (ci := 8) (kk := 20) dd_M_feed_0.2.2.2.2.2.2.2.2.2.2.2.2.2.2.2.2.2.2.2.2.2.2.1 rfl in_M (by decide) wd_958 (gI_spec e13) ?_
      refine g_iconst (pc := 42) (1 : Int32) dd_M_feed_0.2.2.2.2.2.2.2.2.2.2.2.2.2.2.2.2.2.2.2.2.2.2.2 (by decide) ?_
      refine g_iadd (pc := 43) dd_M_feed_43.1 ?_
      obtain ⟨h14, e15, hf⟩ := bd1_e hf
      refine g_put (pc := 44) (ci := 8) (kk := 20) ty_M tyok_M nm_M dd_M_feed_43.2.1 rfl in_M (by decide) wd_958 rfl (fun _ => rfl) (fun _ => rfl) (fun _ z => by cases z) e15 ?_
      refine g_aload_n (pc := 47) 0 dd_M_feed_43.2.2.1 rfl rfl ?_
      obtain ⟨x16, e17, hf⟩ := bd1_e hf
      refine g_get (pc := 48) (ci := 8) (kk := 20) dd_M_feed_43.2.2.2.1 rfl in_M (by decide) wd_958 (gI_spec e17) ?_
      obtain ⟨rfl, rfl⟩ := ret2 hf
      exact g_iret (pc := 51) rfl dd_M_feed_43.2.2.2.2
    · replace hf := (if_pos c18).symm.trans hf
      refine g_bipush (pc := 24) ((-3) : Int32) dd_M_feed_0.2.2.2.2.2.2.2.2.2.2.2.2.1 (by decide) ?_
      obtain ⟨rfl, rfl⟩ := ret2 hf
      exact g_iret (pc := 26) rfl dd_M_feed_0.2.2.2.2.2.2.2.2.2.2.2.2.2.1
  · replace hf := (if_pos c19).symm.trans hf
    refine g_iconst (pc := 12) ((-1) : Int32) dd_M_feed_0.2.2.2.2.2.2.1 (by decide) ?_
    obtain ⟨rfl, rfl⟩ := ret2 hf
    exact g_iret (pc := 13) rfl dd_M_feed_0.2.2.2.2.2.2.2.1
def f_M_feed (a0 : Nat) (a1 : Int32) (h : mH) : Option (Int32 × mH) := f_M_feed_0 a0 a1 h
theorem c_M_feed {sc : Nat × (Nat → Int32)} {a0 : Nat} {a1 : Int32} {h : mH} {r : Int32} {h' : mH} (hf : f_M_feed a0 a1 h = some (r, h')) : MM sc y_M_feed prog_10_method_7_code 2 (some .int) 1 25 [.ref a0, .int a1] h (some (.int r)) h' :=
  mm_of_G si_pn_M (Nat.le_of_ble_eq_true rfl) (t_M_feed_0 _ _ _ _ _ hf)
/-! M end (I)I -/
set_option maxRecDepth 100000 in
theorem dd_M_end_0 : (decode prog_10_method_8_code 0 = .ok (.iload_n 1, 1)) ∧ (decode prog_10_method_8_code 1 = .ok (.i2l, 1)) ∧ (decode prog_10_method_8_code 2 = .ok (.lconst 0, 1)) ∧ (decode prog_10_method_8_code 3 = .ok (.aload_n 0, 1)) ∧ (decode prog_10_method_8_code 4 = .ok (.getfield 118, 3)) ∧ (decode prog_10_method_8_code 7 = .ok (.i2l, 1)) ∧ (decode prog_10_method_8_code 8 = .ok (.invokestatic 114, 3)) ∧ (decode prog_10_method_8_code 11 = .ok (.ifCond .ne 5, 3)) ∧ (decode prog_10_method_8_code 14 = .ok (.iconst (-1), 1)) ∧ (decode prog_10_method_8_code 15 = .ok (.ireturn, 1)) ∧ (decode prog_10_method_8_code 16 = .ok (.aload_n 0, 1)) ∧ (decode prog_10_method_8_code 17 = .ok (.getfield 118, 3)) ∧ (decode prog_10_method_8_code 20 = .ok (.istore_n 2, 1)) ∧ (decode prog_10_method_8_code 21 = .ok (.aload_n 0, 1)) ∧ (decode prog_10_method_8_code 22 = .ok (.iload_n 1, 1)) ∧ (decode prog_10_method_8_code 23 = .ok (.putfield 118, 3)) ∧ (decode prog_10_method_8_code 26 = .ok (.iload_n 2, 1)) ∧ (decode prog_10_method_8_code 27 = .ok (.ireturn, 1)) := by
  have h : List.drop 0 prog_10_method_8_code.data.toList = 0x1b :: _ := rfl
  refine ⟨zq_k_n 27 h rfl (zq_o_27 _), ?_⟩
  replace h := zq_nx1 (q := 1) h rfl
  refine ⟨zq_k_n 133 h rfl (zq_o_133 _), ?_⟩
  replace h := zq_nx1 (q := 2) h rfl
  refine ⟨zq_k_n 9 h rfl (zq_o_9 _), ?_⟩
  replace h := zq_nx1 (q := 3) h rfl
  refine ⟨zq_k_n 42 h rfl (zq_o_42 _), ?_⟩
  replace h := zq_nx1 (q := 4) h rfl
  refine ⟨zq_k_u2 180 (fun z => .getfield z) 118 h rfl (zq_o_180 _) (by decide +kernel), ?_⟩
  replace h := zq_nx3 (q := 7) h rfl
  refine ⟨zq_k_n 133 h rfl (zq_o_133 _), ?_⟩
  replace h := zq_nx1 (q := 8) h rfl
  refine ⟨zq_k_u2 184 (fun z => .invokestatic z) 114 h rfl (zq_o_184 _) (by decide +kernel), ?_⟩
  replace h := zq_nx3 (q := 11) h rfl
  refine ⟨zq_k_s2 154 (fun z => .ifCond .ne z) 5 h rfl (zq_o_154 _) (by decide +kernel), ?_⟩
  replace h := zq_nx3 (q := 14) h rfl
  refine ⟨zq_k_n 2 h rfl (zq_o_2 _), ?_⟩
  replace h := zq_nx1 (q := 15) h rfl
  refine ⟨zq_k_n 172 h rfl (zq_o_172 _), ?_⟩
  replace h := zq_nx1 (q := 16) h rfl
  refine ⟨zq_k_n 42 h rfl (zq_o_42 _), ?_⟩
  replace h := zq_nx1 (q := 17) h rfl
  refine ⟨zq_k_u2 180 (fun z => .getfield z) 118 h rfl (zq_o_180 _) (by decide +kernel), ?_⟩
  replace h := zq_nx3 (q := 20) h rfl
  refine ⟨zq_k_n 61 h rfl (zq_o_61 _), ?_⟩
  replace h := zq_nx1 (q := 21) h rfl
  refine ⟨zq_k_n 42 h rfl (zq_o_42 _), ?_⟩
  replace h := zq_nx1 (q := 22) h rfl
  refine ⟨zq_k_n 27 h rfl (zq_o_27 _), ?_⟩
  replace h := zq_nx1 (q := 23) h rfl
  refine ⟨zq_k_u2 181 (fun z => .putfield z) 118 h rfl (zq_o_181 _) (by decide +kernel), ?_⟩
  replace h := zq_nx3 (q := 26) h rfl
  refine ⟨zq_k_n 28 h rfl (zq_o_28 _), ?_⟩
  replace h := zq_nx1 (q := 27) h rfl
  exact zq_k_n 172 h rfl (zq_o_172 _)
def f_M_end_0  (a0 : Nat) (a1 : Int32) (h : mH) : Option (Int32 × mH) :=
  bd1 (gI h a0 8 20) fun x1 =>
  bd2 (f_M_in a1.toInt64 (0 : Int64) x1.toInt64 h) fun x5 h3 =>
  if x5 = 0 then
    some (((-1) : Int32), h3)
  else
    bd1 (gI h3 a0 8 20) fun x6 =>
    bd1 (pV h3 a0 8 20 (.int a1)) fun h8 =>
    some (x6, h8)
set_option maxRecDepth 20000 in
theorem t_M_end_0 {sc : Nat × (Nat → Int32)}  (a0 : Nat) (a1 : Int32) (h : mH) (r : Int32) (h' : mH) (hf : f_M_end_0  a0 a1 h = some (r, h')) : G sc y_M_end prog_10_method_8_code 3 (some .int) 1 25 0 [(0, .ref a0), (1, .int a1)] [] h (some (.int r)) h' := by
  unfold f_M_end_0 at hf
  refine g_iload_n (pc := 0) 1 dd_M_end_0.1 rfl rfl ?_
  refine g_i2l (pc := 1) dd_M_end_0.2.1 ?_
  refine g_lconst (pc := 2) (0 : Int64) dd_M_end_0.2.2.1 (by decide) ?_
  refine g_aload_n (pc := 3) 0 dd_M_end_0.2.2.2.1 rfl rfl ?_
  obtain ⟨x1, e2, hf⟩ := bd1_e hf
  refine g_get (pc := 4) (ci := 8) (kk := 20) dd_M_end_0.2.2.2.2.1 rfl in_M (by decide) wd_958 (gI_spec e2) ?_
  refine g_i2l (pc := 7) dd_M_end_0.2.2.2.2.2.1 ?_
  obtain ⟨x5, h3, e4, hf⟩ := bd2_e hf
  refine g_callS (pc := 8) [.long a1.toInt64, .long (0 : Int64), .long x1.toInt64] (site_of si_M_in (by decide) (by decide)) wd_1061 wd_1062 dd_M_end_0.2.2.2.2.2.2.1 (Nat.le_of_ble_eq_true rfl) (fun z => absurd z si_na_M_in) (fun z => absurd z si_na_M_in) (fun z => absurd z si_na_M_in) (c_M_in e4) rfl ?_
  refine g_st [.int x5] rfl ?_
  refine g_ifne (pc := 11) 16 dd_M_end_0.2.2.2.2.2.2.2.1 (by decide) (fun c10 => ?_) (fun c10 => ?_)
  · replace hf := (if_neg c10).symm.trans hf
    refine g_aload_n (pc := 16) 0 dd_M_end_0.2.2.2.2.2.2.2.2.2.2.1 rfl rfl ?_
    obtain ⟨x6, e7, hf⟩ := bd1_e hf
    refine g_get (pc := 17) (ci := 8) (kk := 20) dd_M_end_0.2.2.2.2.2.2.2.2.2.2.2.1 rfl in_M (by decide) wd_958 (gI_spec e7) ?_
    refine g_istore_n (pc := 20) [(2, .int x6), (0, .ref a0), (1, .int a1)] dd_M_end_0.2.2.2.2.2.2.2.2.2.2.2.2.1 rfl (Nat.le_of_ble_eq_true rfl) rfl ?_
    refine g_aload_n (pc := 21) 1 dd_M_end_0.2.2.2.2.2.2.2.2.2.2.2.2.2.1 rfl rfl ?_
    refine g_iload_n (pc := 22) 2 dd_M_end_0.2.2.2.2.2.2.2.2.2.2.2.2.2.2.1 rfl rfl ?_
    obtain ⟨h8, e9, hf⟩ := bd1_e hf
    refine g_put (pc := 23) (ci := 8) (kk := 20) ty_M tyok_M nm_M dd_M_end_0.2.2.2.2.2.2.2.2.2.2.2.2.2.2.2.1 rfl in_M (by decide) wd_958 rfl (fun _ => rfl) (fun _ => rfl) (fun _ z => by cases z) e9 ?_
    refine g_iload_n (pc := 26) 0 dd_M_end_0.2.2.2.2.2.2.2.2.2.2.2.2.2.2.2.2.1 rfl rfl ?_
    obtain ⟨rfl, rfl⟩ := ret2 hf
    exact g_iret (pc := 27) rfl dd_M_end_0.2.2.2.2.2.2.2.2.2.2.2.2.2.2.2.2.2
  · replace hf := (if_pos c10).symm.trans hf
    refine g_iconst (pc := 14) ((-1) : Int32) dd_M_end_0.2.2.2.2.2.2.2.2.1 (by decide) ?_
    obtain ⟨rfl, rfl⟩ := ret2 hf
    exact g_iret (pc := 15) rfl dd_M_end_0.2.2.2.2.2.2.2.2.2.1
def f_M_end (a0 : Nat) (a1 : Int32) (h : mH) : Option (Int32 × mH) := f_M_end_0 a0 a1 h
theorem c_M_end {sc : Nat × (Nat → Int32)} {a0 : Nat} {a1 : Int32} {h : mH} {r : Int32} {h' : mH} (hf : f_M_end a0 a1 h = some (r, h')) : MM sc y_M_end prog_10_method_8_code 3 (some .int) 1 25 [.ref a0, .int a1] h (some (.int r)) h' :=
  mm_of_G si_pn_M (Nat.le_of_ble_eq_true rfl) (t_M_end_0 _ _ _ _ _ hf)
/-! M look (I)I -/
set_option maxRecDepth 100000 in
theorem dd_M_look_0 : (decode prog_10_method_10_code 0 = .ok (.iload_n 1, 1)) ∧ (decode prog_10_method_10_code 1 = .ok (.aload_n 0, 1)) ∧ (decode prog_10_method_10_code 2 = .ok (.getfield 118, 3)) ∧ (decode prog_10_method_10_code 5 = .ok (.if_icmp .ge 12, 3)) ∧ (decode prog_10_method_10_code 8 = .ok (.aload_n 0, 1)) ∧ (decode prog_10_method_10_code 9 = .ok (.getfield 50, 3)) ∧ (decode prog_10_method_10_code 12 = .ok (.iload_n 1, 1)) ∧ (decode prog_10_method_10_code 13 = .ok (.iaload, 1)) ∧ (decode prog_10_method_10_code 14 = .ok (.goto 4, 3)) ∧ (decode prog_10_method_10_code 17 = .ok (.iconst (-1), 1)) ∧ (decode prog_10_method_10_code 18 = .ok (.ireturn, 1)) := by
  have h : List.drop 0 prog_10_method_10_code.data.toList = 0x1b :: _ := rfl
  refine ⟨zq_k_n 27 h rfl (zq_o_27 _), ?_⟩
  replace h := zq_nx1 (q := 1) h rfl
  refine ⟨zq_k_n 42 h rfl (zq_o_42 _), ?_⟩
  replace h := zq_nx1 (q := 2) h rfl
  refine ⟨zq_k_u2 180 (fun z => .getfield z) 118 h rfl (zq_o_180 _) (by decide +kernel), ?_⟩
  replace h := zq_nx3 (q := 5) h rfl
  refine ⟨zq_k_s2 162 (fun z => .if_icmp .ge z) 12 h rfl (zq_o_162 _) (by decide +kernel), ?_⟩
  replace h := zq_nx3 (q := 8) h rfl
  refine ⟨zq_k_n 42 h rfl (zq_o_42 _), ?_⟩
  replace h := zq_nx1 (q := 9) h rfl
  refine ⟨zq_k_u2 180 (fun z => .getfield z) 50 h rfl (zq_o_180 _) (by decide +kernel), ?_⟩
  replace h := zq_nx3 (q := 12) h rfl
  refine ⟨zq_k_n 27 h rfl (zq_o_27 _), ?_⟩
  replace h := zq_nx1 (q := 13) h rfl
  refine ⟨zq_k_n 46 h rfl (zq_o_46 _), ?_⟩
  replace h := zq_nx1 (q := 14) h rfl
  refine ⟨zq_k_s2 167 (fun z => .goto z) 4 h rfl (zq_o_167 _) (by decide +kernel), ?_⟩
  replace h := zq_nx3 (q := 17) h rfl
  refine ⟨zq_k_n 2 h rfl (zq_o_2 _), ?_⟩
  replace h := zq_nx1 (q := 18) h rfl
  exact zq_k_n 172 h rfl (zq_o_172 _)
def f_M_look_0  (a0 : Nat) (a1 : Int32) (h : mH) : Option (Int32 × mH) :=
  bd1 (gI h a0 8 20) fun x1 =>
  if x1 ≤ a1 then
    some (((-1) : Int32), h)
  else
    bd1 (gR h a0 8 19) fun x3 =>
    bd1 (aI h 0 x3 a1) fun x5 =>
    some (x5, h)
set_option maxRecDepth 20000 in
theorem t_M_look_0 {sc : Nat × (Nat → Int32)}  (a0 : Nat) (a1 : Int32) (h : mH) (r : Int32) (h' : mH) (hf : f_M_look_0  a0 a1 h = some (r, h')) : G sc y_M_look prog_10_method_10_code 2 (some .int) 0 0 0 [(0, .ref a0), (1, .int a1)] [] h (some (.int r)) h' := by
  unfold f_M_look_0 at hf
  refine g_iload_n (pc := 0) 1 dd_M_look_0.1 rfl rfl ?_
  refine g_aload_n (pc := 1) 0 dd_M_look_0.2.1 rfl rfl ?_
  obtain ⟨x1, e2, hf⟩ := bd1_e hf
  refine g_get (pc := 2) (ci := 8) (kk := 20) dd_M_look_0.2.2.1 rfl in_M (by decide) wd_958 (gI_spec e2) ?_
  refine g_icmpge (pc := 5) 17 dd_M_look_0.2.2.2.1 (by decide) (fun c7 => ?_) (fun c7 => ?_)
  · replace hf := (if_pos c7).symm.trans hf
    refine g_iconst (pc := 17) ((-1) : Int32) dd_M_look_0.2.2.2.2.2.2.2.2.2.1 (by decide) ?_
    obtain ⟨rfl, rfl⟩ := ret2 hf
    exact g_iret (pc := 18) rfl dd_M_look_0.2.2.2.2.2.2.2.2.2.2
  · replace hf := (if_neg c7).symm.trans hf
    refine g_aload_n (pc := 8) 0 dd_M_look_0.2.2.2.2.1 rfl rfl ?_
    obtain ⟨x3, e4, hf⟩ := bd1_e hf
    refine g_get (pc := 9) (ci := 8) (kk := 19) dd_M_look_0.2.2.2.2.2.1 rfl in_M (by decide) wd_957 (gR_spec e4) ?_
    refine g_iload_n (pc := 12) 1 dd_M_look_0.2.2.2.2.2.2.1 rfl rfl ?_
    obtain ⟨x5, e6, hf⟩ := bd1_e hf
    refine g_iald (pc := 13) dd_M_look_0.2.2.2.2.2.2.2.1 e6 ?_
    refine g_goto (pc := 14) 18 dd_M_look_0.2.2.2.2.2.2.2.2.1 (by decide) ?_
    obtain ⟨rfl, rfl⟩ := ret2 hf
    exact g_iret (pc := 18) rfl dd_M_look_0.2.2.2.2.2.2.2.2.2.2
def f_M_look (a0 : Nat) (a1 : Int32) (h : mH) : Option (Int32 × mH) := f_M_look_0 a0 a1 h
theorem c_M_look {sc : Nat × (Nat → Int32)} {a0 : Nat} {a1 : Int32} {h : mH} {r : Int32} {h' : mH} (hf : f_M_look a0 a1 h = some (r, h')) : MM sc y_M_look prog_10_method_10_code 2 (some .int) 0 0 [.ref a0, .int a1] h (some (.int r)) h' :=
  mm_of_G si_pn_M (Nat.le_of_ble_eq_true rfl) (t_M_look_0 _ _ _ _ _ hf)
/-! M needs (ZI)V -/
set_option maxRecDepth 100000 in
theorem dd_M_needs_0 : (decode prog_10_method_9_code 0 = .ok (.iload_n 1, 1)) ∧ (decode prog_10_method_9_code 1 = .ok (.ifCond .ne 23, 3)) ∧ (decode prog_10_method_9_code 4 = .ok (.aload_n 0, 1)) ∧ (decode prog_10_method_9_code 5 = .ok (.getfield 121, 3)) ∧ (decode prog_10_method_9_code 8 = .ok (.ifCond .ne 16, 3)) ∧ (decode prog_10_method_9_code 11 = .ok (.aload_n 0, 1)) ∧ (decode prog_10_method_9_code 12 = .ok (.iload_n 2, 1)) ∧ (decode prog_10_method_9_code 13 = .ok (.putfield 121, 3)) ∧ (decode prog_10_method_9_code 16 = .ok (.aload_n 0, 1)) ∧ (decode prog_10_method_9_code 17 = .ok (.aload_n 0, 1)) ∧ (decode prog_10_method_9_code 18 = .ok (.getfield 124, 3)) ∧ (decode prog_10_method_9_code 21 = .ok (.putfield 127, 3)) ∧ (decode prog_10_method_9_code 24 = .ok (.return_, 1)) := by
  have h : List.drop 0 prog_10_method_9_code.data.toList = 0x1b :: _ := rfl
  refine ⟨zq_k_n 27 h rfl (zq_o_27 _), ?_⟩
  replace h := zq_nx1 (q := 1) h rfl
  refine ⟨zq_k_s2 154 (fun z => .ifCond .ne z) 23 h rfl (zq_o_154 _) (by decide +kernel), ?_⟩
  replace h := zq_nx3 (q := 4) h rfl
  refine ⟨zq_k_n 42 h rfl (zq_o_42 _), ?_⟩
  replace h := zq_nx1 (q := 5) h rfl
  refine ⟨zq_k_u2 180 (fun z => .getfield z) 121 h rfl (zq_o_180 _) (by decide +kernel), ?_⟩
  replace h := zq_nx3 (q := 8) h rfl
  refine ⟨zq_k_s2 154 (fun z => .ifCond .ne z) 16 h rfl (zq_o_154 _) (by decide +kernel), ?_⟩
  replace h := zq_nx3 (q := 11) h rfl
  refine ⟨zq_k_n 42 h rfl (zq_o_42 _), ?_⟩
  replace h := zq_nx1 (q := 12) h rfl
  refine ⟨zq_k_n 28 h rfl (zq_o_28 _), ?_⟩
  replace h := zq_nx1 (q := 13) h rfl
  refine ⟨zq_k_u2 181 (fun z => .putfield z) 121 h rfl (zq_o_181 _) (by decide +kernel), ?_⟩
  replace h := zq_nx3 (q := 16) h rfl
  refine ⟨zq_k_n 42 h rfl (zq_o_42 _), ?_⟩
  replace h := zq_nx1 (q := 17) h rfl
  refine ⟨zq_k_n 42 h rfl (zq_o_42 _), ?_⟩
  replace h := zq_nx1 (q := 18) h rfl
  refine ⟨zq_k_u2 180 (fun z => .getfield z) 124 h rfl (zq_o_180 _) (by decide +kernel), ?_⟩
  replace h := zq_nx3 (q := 21) h rfl
  refine ⟨zq_k_u2 181 (fun z => .putfield z) 127 h rfl (zq_o_181 _) (by decide +kernel), ?_⟩
  replace h := zq_nx3 (q := 24) h rfl
  exact zq_k_n 177 h rfl (zq_o_177 _)
def f_M_needs_0  (a0 : Nat) (a1 : Int32) (a2 : Int32) (h : mH) : Option mH :=
  if a1 = 0 then
    bd1 (gI h a0 8 25) fun x1 =>
    if x1 = 0 then
      bd1 (pV h a0 8 25 (.int a2)) fun h3 =>
      bd1 (gI h3 a0 8 22) fun x5 =>
      bd1 (pV h3 a0 8 26 (.int x5)) fun h7 =>
      some h7
    else
      some h
  else
    some h
set_option maxRecDepth 20000 in
theorem t_M_needs_0 {sc : Nat × (Nat → Int32)}  (a0 : Nat) (a1 : Int32) (a2 : Int32) (h : mH) (h' : mH) (hf : f_M_needs_0  a0 a1 a2 h = some h') : G sc y_M_needs prog_10_method_9_code 3 none 0 0 0 [(0, .ref a0), (1, .int a1), (2, .int a2)] [] h none h' := by
  unfold f_M_needs_0 at hf
  refine g_iload_n (pc := 0) 1 dd_M_needs_0.1 rfl rfl ?_
  refine g_ifne (pc := 1) 24 dd_M_needs_0.2.1 (by decide) (fun c10 => ?_) (fun c10 => ?_)
  · replace hf := (if_neg c10).symm.trans hf
    obtain rfl := ret1 hf
    exact g_vret (pc := 24) rfl dd_M_needs_0.2.2.2.2.2.2.2.2.2.2.2.2
  · replace hf := (if_pos c10).symm.trans hf
    refine g_aload_n (pc := 4) 0 dd_M_needs_0.2.2.1 rfl rfl ?_
    obtain ⟨x1, e2, hf⟩ := bd1_e hf
    refine g_get (pc := 5) (ci := 8) (kk := 25) dd_M_needs_0.2.2.2.1 rfl in_M (by decide) wd_963 (gI_spec e2) ?_
    refine g_ifne (pc := 8) 24 dd_M_needs_0.2.2.2.2.1 (by decide) (fun c9 => ?_) (fun c9 => ?_)
    · replace hf := (if_neg c9).symm.trans hf
      obtain rfl := ret1 hf
      exact g_vret (pc := 24) rfl dd_M_needs_0.2.2.2.2.2.2.2.2.2.2.2.2
    · replace hf := (if_pos c9).symm.trans hf
      refine g_aload_n (pc := 11) 0 dd_M_needs_0.2.2.2.2.2.1 rfl rfl ?_
      refine g_iload_n (pc := 12) 2 dd_M_needs_0.2.2.2.2.2.2.1 rfl rfl ?_
      obtain ⟨h3, e4, hf⟩ := bd1_e hf
      refine g_put (pc := 13) (ci := 8) (kk := 25) ty_M tyok_M nm_M dd_M_needs_0.2.2.2.2.2.2.2.1 rfl in_M (by decide) wd_963 rfl (fun _ => rfl) (fun _ => rfl) (fun _ z => by cases z) e4 ?_
      refine g_aload_n (pc := 16) 0 dd_M_needs_0.2.2.2.2.2.2.2.2.1 rfl rfl ?_
      refine g_aload_n (pc := 17) 0 dd_M_needs_0.2.2.2.2.2.2.2.2.2.1 rfl rfl ?_
      obtain ⟨x5, e6, hf⟩ := bd1_e hf
      refine g_get (pc := 18) (ci := 8) (kk := 22) dd_M_needs_0.2.2.2.2.2.2.2.2.2.2.1 rfl in_M (by decide) wd_960 (gI_spec e6) ?_
      obtain ⟨h7, e8, hf⟩ := bd1_e hf
      refine g_put (pc := 21) (ci := 8) (kk := 26) ty_M tyok_M nm_M dd_M_needs_0.2.2.2.2.2.2.2.2.2.2.2.1 rfl in_M (by decide) wd_964 rfl (fun _ => rfl) (fun _ => rfl) (fun _ z => by cases z) e8 ?_
      obtain rfl := ret1 hf
      exact g_vret (pc := 24) rfl dd_M_needs_0.2.2.2.2.2.2.2.2.2.2.2.2
def f_M_needs (a0 : Nat) (a1 : Int32) (a2 : Int32) (h : mH) : Option mH := f_M_needs_0 a0 a1 a2 h
theorem c_M_needs {sc : Nat × (Nat → Int32)} {a0 : Nat} {a1 : Int32} {a2 : Int32} {h : mH} {h' : mH} (hf : f_M_needs a0 a1 a2 h = some h') : MM sc y_M_needs prog_10_method_9_code 3 none 0 0 [.ref a0, .int a1, .int a2] h none h' :=
  mm_of_G si_pn_M (Nat.le_of_ble_eq_true rfl) (t_M_needs_0 _ _ _ _ _ hf)
/-! M next ()V -/
set_option maxRecDepth 100000 in
theorem dd_M_next_0 : (decode prog_10_method_13_code 0 = .ok (.aload_n 0, 1)) ∧ (decode prog_10_method_13_code 1 = .ok (.getfield 121, 3)) ∧ (decode prog_10_method_13_code 4 = .ok (.ifCond .le 4, 3)) ∧ (decode prog_10_method_13_code 7 = .ok (.return_, 1)) ∧ (decode prog_10_method_13_code 8 = .ok (.aload_n 0, 1)) ∧ (decode prog_10_method_13_code 9 = .ok (.aload_n 0, 1)) ∧ (decode prog_10_method_13_code 10 = .ok (.getfield 130, 3)) ∧ (decode prog_10_method_13_code 13 = .ok (.invokevirtual 133, 3)) ∧ (decode prog_10_method_13_code 16 = .ok (.bipush 32, 2)) ∧ (decode prog_10_method_13_code 18 = .ok (.if_icmp .ne 16, 3)) ∧ (decode prog_10_method_13_code 21 = .ok (.aload_n 0, 1)) ∧ (decode prog_10_method_13_code 22 = .ok (.dup, 1)) ∧ (decode prog_10_method_13_code 23 = .ok (.getfield 130, 3)) ∧ (decode prog_10_method_13_code 26 = .ok (.iconst 1, 1)) ∧ (decode prog_10_method_13_code 27 = .ok (.iadd, 1)) ∧ (decode prog_10_method_13_code 28 = .ok (.putfield 130, 3)) ∧ (decode prog_10_method_13_code 31 = .ok (.goto (-23), 3)) ∧ (decode prog_10_method_13_code 34 = .ok (.aload_n 0, 1)) ∧ (decode prog_10_method_13_code 35 = .ok (.aload_n 0, 1)) ∧ (decode prog_10_method_13_code 36 = .ok (.getfield 130, 3)) ∧ (decode prog_10_method_13_code 39 = .ok (.putfield 124, 3)) ∧ (decode prog_10_method_13_code 42 = .ok (.aload_n 0, 1)) ∧ (decode prog_10_method_13_code 43 = .ok (.aload_n 0, 1)) ∧ (decode prog_10_method_13_code 44 = .ok (.getfield 130, 3)) := by
  have h : List.drop 0 prog_10_method_13_code.data.toList = 0x2a :: _ := rfl
  refine ⟨zq_k_n 42 h rfl (zq_o_42 _), ?_⟩
  replace h := zq_nx1 (q := 1) h rfl
  refine ⟨zq_k_u2 180 (fun z => .getfield z) 121 h rfl (zq_o_180 _) (by decide +kernel), ?_⟩
  replace h := zq_nx3 (q := 4) h rfl
  refine ⟨zq_k_s2 158 (fun z => .ifCond .le z) 4 h rfl (zq_o_158 _) (by decide +kernel), ?_⟩
  replace h := zq_nx3 (q := 7) h rfl
  refine ⟨zq_k_n 177 h rfl (zq_o_177 _), ?_⟩
  replace h := zq_nx1 (q := 8) h rfl
  refine ⟨zq_k_n 42 h rfl (zq_o_42 _), ?_⟩
  replace h := zq_nx1 (q := 9) h rfl
  refine ⟨zq_k_n 42 h rfl (zq_o_42 _), ?_⟩
  replace h := zq_nx1 (q := 10) h rfl
  refine ⟨zq_k_u2 180 (fun z => .getfield z) 130 h rfl (zq_o_180 _) (by decide +kernel), ?_⟩
  replace h := zq_nx3 (q := 13) h rfl
  refine ⟨zq_k_u2 182 (fun z => .invokevirtual z) 133 h rfl (zq_o_182 _) (by decide +kernel), ?_⟩
  replace h := zq_nx3 (q := 16) h rfl
  refine ⟨zq_k_s1 16 (fun z => .bipush z) 32 h rfl (zq_o_16 _) (by decide +kernel), ?_⟩
  replace h := zq_nx2 (q := 18) h rfl
  refine ⟨zq_k_s2 160 (fun z => .if_icmp .ne z) 16 h rfl (zq_o_160 _) (by decide +kernel), ?_⟩
  replace h := zq_nx3 (q := 21) h rfl
  refine ⟨zq_k_n 42 h rfl (zq_o_42 _), ?_⟩
  replace h := zq_nx1 (q := 22) h rfl
  refine ⟨zq_k_n 89 h rfl (zq_o_89 _), ?_⟩
  replace h := zq_nx1 (q := 23) h rfl
  refine ⟨zq_k_u2 180 (fun z => .getfield z) 130 h rfl (zq_o_180 _) (by decide +kernel), ?_⟩
  replace h := zq_nx3 (q := 26) h rfl
  refine ⟨zq_k_n 4 h rfl (zq_o_4 _), ?_⟩
  replace h := zq_nx1 (q := 27) h rfl
  refine ⟨zq_k_n 96 h rfl (zq_o_96 _), ?_⟩
  replace h := zq_nx1 (q := 28) h rfl
  refine ⟨zq_k_u2 181 (fun z => .putfield z) 130 h rfl (zq_o_181 _) (by decide +kernel), ?_⟩
  replace h := zq_nx3 (q := 31) h rfl
  refine ⟨zq_k_s2 167 (fun z => .goto z) (-23) h rfl (zq_o_167 _) (by decide +kernel), ?_⟩
  replace h := zq_nx3 (q := 34) h rfl
  refine ⟨zq_k_n 42 h rfl (zq_o_42 _), ?_⟩
  replace h := zq_nx1 (q := 35) h rfl
  refine ⟨zq_k_n 42 h rfl (zq_o_42 _), ?_⟩
  replace h := zq_nx1 (q := 36) h rfl
  refine ⟨zq_k_u2 180 (fun z => .getfield z) 130 h rfl (zq_o_180 _) (by decide +kernel), ?_⟩
  replace h := zq_nx3 (q := 39) h rfl
  refine ⟨zq_k_u2 181 (fun z => .putfield z) 124 h rfl (zq_o_181 _) (by decide +kernel), ?_⟩
  replace h := zq_nx3 (q := 42) h rfl
  refine ⟨zq_k_n 42 h rfl (zq_o_42 _), ?_⟩
  replace h := zq_nx1 (q := 43) h rfl
  refine ⟨zq_k_n 42 h rfl (zq_o_42 _), ?_⟩
  replace h := zq_nx1 (q := 44) h rfl
  exact zq_k_u2 180 (fun z => .getfield z) 130 h rfl (zq_o_180 _) (by decide +kernel)
set_option maxRecDepth 100000 in
theorem dd_M_next_47 : (decode prog_10_method_13_code 47 = .ok (.invokevirtual 133, 3)) ∧ (decode prog_10_method_13_code 50 = .ok (.istore_n 1, 1)) ∧ (decode prog_10_method_13_code 51 = .ok (.iload_n 1, 1)) ∧ (decode prog_10_method_13_code 52 = .ok (.ifCond .ge 11, 3)) ∧ (decode prog_10_method_13_code 55 = .ok (.aload_n 0, 1)) ∧ (decode prog_10_method_13_code 56 = .ok (.iconst 0, 1)) ∧ (decode prog_10_method_13_code 57 = .ok (.putfield 141, 3)) ∧ (decode prog_10_method_13_code 60 = .ok (.goto 214, 3)) ∧ (decode prog_10_method_13_code 63 = .ok (.iload_n 1, 1)) ∧ (decode prog_10_method_13_code 64 = .ok (.i2l, 1)) ∧ (decode prog_10_method_13_code 65 = .ok (.ldc2_w 144, 3)) ∧ (decode prog_10_method_13_code 68 = .ok (.ldc2_w 146, 3)) ∧ (decode prog_10_method_13_code 71 = .ok (.invokestatic 114, 3)) ∧ (decode prog_10_method_13_code 74 = .ok (.ifCond .eq 42, 3)) ∧ (decode prog_10_method_13_code 77 = .ok (.aload_n 0, 1)) ∧ (decode prog_10_method_13_code 78 = .ok (.iconst 1, 1)) ∧ (decode prog_10_method_13_code 79 = .ok (.putfield 141, 3)) ∧ (decode prog_10_method_13_code 82 = .ok (.aload_n 0, 1)) ∧ (decode prog_10_method_13_code 83 = .ok (.aload_n 0, 1)) ∧ (decode prog_10_method_13_code 84 = .ok (.getfield 130, 3)) ∧ (decode prog_10_method_13_code 87 = .ok (.invokevirtual 133, 3)) ∧ (decode prog_10_method_13_code 90 = .ok (.i2l, 1)) ∧ (decode prog_10_method_13_code 91 = .ok (.ldc2_w 144, 3)) ∧ (decode prog_10_method_13_code 94 = .ok (.ldc2_w 146, 3)) := by
  have h : List.drop 47 prog_10_method_13_code.data.toList = 0xb6 :: _ := rfl
  refine ⟨zq_k_u2 182 (fun z => .invokevirtual z) 133 h rfl (zq_o_182 _) (by decide +kernel), ?_⟩
  replace h := zq_nx3 (q := 50) h rfl
  refine ⟨zq_k_n 60 h rfl (zq_o_60 _), ?_⟩
  replace h := zq_nx1 (q := 51) h rfl
  refine ⟨zq_k_n 27 h rfl (zq_o_27 _), ?_⟩
  replace h := zq_nx1 (q := 52) h rfl
  refine ⟨zq_k_s2 156 (fun z => .ifCond .ge z) 11 h rfl (zq_o_156 _) (by decide +kernel), ?_⟩
  replace h := zq_nx3 (q := 55) h rfl
  refine ⟨zq_k_n 42 h rfl (zq_o_42 _), ?_⟩
  replace h := zq_nx1 (q := 56) h rfl
  refine ⟨zq_k_n 3 h rfl (zq_o_3 _), ?_⟩
  replace h := zq_nx1 (q := 57) h rfl
  refine ⟨zq_k_u2 181 (fun z => .putfield z) 141 h rfl (zq_o_181 _) (by decide +kernel), ?_⟩
  replace h := zq_nx3 (q := 60) h rfl
  refine ⟨zq_k_s2 167 (fun z => .goto z) 214 h rfl (zq_o_167 _) (by decide +kernel), ?_⟩
  replace h := zq_nx3 (q := 63) h rfl
  refine ⟨zq_k_n 27 h rfl (zq_o_27 _), ?_⟩
  replace h := zq_nx1 (q := 64) h rfl
  refine ⟨zq_k_n 133 h rfl (zq_o_133 _), ?_⟩
  replace h := zq_nx1 (q := 65) h rfl
  refine ⟨zq_k_u2 20 (fun z => .ldc2_w z) 144 h rfl (zq_o_20 _) (by decide +kernel), ?_⟩
  replace h := zq_nx3 (q := 68) h rfl
  refine ⟨zq_k_u2 20 (fun z => .ldc2_w z) 146 h rfl (zq_o_20 _) (by decide +kernel), ?_⟩
  replace h := zq_nx3 (q := 71) h rfl
  refine ⟨zq_k_u2 184 (fun z => .invokestatic z) 114 h rfl (zq_o_184 _) (by decide +kernel), ?_⟩
  replace h := zq_nx3 (q := 74) h rfl
  refine ⟨zq_k_s2 153 (fun z => .ifCond .eq z) 42 h rfl (zq_o_153 _) (by decide +kernel), ?_⟩
  replace h := zq_nx3 (q := 77) h rfl
  refine ⟨zq_k_n 42 h rfl (zq_o_42 _), ?_⟩
  replace h := zq_nx1 (q := 78) h rfl
  refine ⟨zq_k_n 4 h rfl (zq_o_4 _), ?_⟩
  replace h := zq_nx1 (q := 79) h rfl
  refine ⟨zq_k_u2 181 (fun z => .putfield z) 141 h rfl (zq_o_181 _) (by decide +kernel), ?_⟩
  replace h := zq_nx3 (q := 82) h rfl
  refine ⟨zq_k_n 42 h rfl (zq_o_42 _), ?_⟩
  replace h := zq_nx1 (q := 83) h rfl
  refine ⟨zq_k_n 42 h rfl (zq_o_42 _), ?_⟩
  replace h := zq_nx1 (q := 84) h rfl
  refine ⟨zq_k_u2 180 (fun z => .getfield z) 130 h rfl (zq_o_180 _) (by decide +kernel), ?_⟩
  replace h := zq_nx3 (q := 87) h rfl
  refine ⟨zq_k_u2 182 (fun z => .invokevirtual z) 133 h rfl (zq_o_182 _) (by decide +kernel), ?_⟩
  replace h := zq_nx3 (q := 90) h rfl
  refine ⟨zq_k_n 133 h rfl (zq_o_133 _), ?_⟩
  replace h := zq_nx1 (q := 91) h rfl
  refine ⟨zq_k_u2 20 (fun z => .ldc2_w z) 144 h rfl (zq_o_20 _) (by decide +kernel), ?_⟩
  replace h := zq_nx3 (q := 94) h rfl
  exact zq_k_u2 20 (fun z => .ldc2_w z) 146 h rfl (zq_o_20 _) (by decide +kernel)
set_option maxRecDepth 100000 in
theorem dd_M_next_97 : (decode prog_10_method_13_code 97 = .ok (.invokestatic 114, 3)) ∧ (decode prog_10_method_13_code 100 = .ok (.ifCond .eq 174, 3)) ∧ (decode prog_10_method_13_code 103 = .ok (.aload_n 0, 1)) ∧ (decode prog_10_method_13_code 104 = .ok (.dup, 1)) ∧ (decode prog_10_method_13_code 105 = .ok (.getfield 130, 3)) ∧ (decode prog_10_method_13_code 108 = .ok (.iconst 1, 1)) ∧ (decode prog_10_method_13_code 109 = .ok (.iadd, 1)) ∧ (decode prog_10_method_13_code 110 = .ok (.putfield 130, 3)) ∧ (decode prog_10_method_13_code 113 = .ok (.goto (-31), 3)) ∧ (decode prog_10_method_13_code 116 = .ok (.iload_n 1, 1)) ∧ (decode prog_10_method_13_code 117 = .ok (.i2l, 1)) ∧ (decode prog_10_method_13_code 118 = .ok (.ldc2_w 148, 3)) ∧ (decode prog_10_method_13_code 121 = .ok (.ldc2_w 150, 3)) ∧ (decode prog_10_method_13_code 124 = .ok (.invokestatic 114, 3)) ∧ (decode prog_10_method_13_code 127 = .ok (.ifCond .eq 116, 3)) ∧ (decode prog_10_method_13_code 130 = .ok (.aload_n 0, 1)) ∧ (decode prog_10_method_13_code 131 = .ok (.iconst 2, 1)) ∧ (decode prog_10_method_13_code 132 = .ok (.putfield 141, 3)) ∧ (decode prog_10_method_13_code 135 = .ok (.aload_n 0, 1)) ∧ (decode prog_10_method_13_code 136 = .ok (.iconst 0, 1)) ∧ (decode prog_10_method_13_code 137 = .ok (.putfield 152, 3)) ∧ (decode prog_10_method_13_code 140 = .ok (.aload_n 0, 1)) ∧ (decode prog_10_method_13_code 141 = .ok (.aload_n 0, 1)) ∧ (decode prog_10_method_13_code 142 = .ok (.getfield 130, 3)) := by
  have h : List.drop 97 prog_10_method_13_code.data.toList = 0xb8 :: _ := rfl
  refine ⟨zq_k_u2 184 (fun z => .invokestatic z) 114 h rfl (zq_o_184 _) (by decide +kernel), ?_⟩
  replace h := zq_nx3 (q := 100) h rfl
  refine ⟨zq_k_s2 153 (fun z => .ifCond .eq z) 174 h rfl (zq_o_153 _) (by decide +kernel), ?_⟩
  replace h := zq_nx3 (q := 103) h rfl
  refine ⟨zq_k_n 42 h rfl (zq_o_42 _), ?_⟩
  replace h := zq_nx1 (q := 104) h rfl
  refine ⟨zq_k_n 89 h rfl (zq_o_89 _), ?_⟩
  replace h := zq_nx1 (q := 105) h rfl
  refine ⟨zq_k_u2 180 (fun z => .getfield z) 130 h rfl (zq_o_180 _) (by decide +kernel), ?_⟩
  replace h := zq_nx3 (q := 108) h rfl
  refine ⟨zq_k_n 4 h rfl (zq_o_4 _), ?_⟩
  replace h := zq_nx1 (q := 109) h rfl
  refine ⟨zq_k_n 96 h rfl (zq_o_96 _), ?_⟩
  replace h := zq_nx1 (q := 110) h rfl
  refine ⟨zq_k_u2 181 (fun z => .putfield z) 130 h rfl (zq_o_181 _) (by decide +kernel), ?_⟩
  replace h := zq_nx3 (q := 113) h rfl
  refine ⟨zq_k_s2 167 (fun z => .goto z) (-31) h rfl (zq_o_167 _) (by decide +kernel), ?_⟩
  replace h := zq_nx3 (q := 116) h rfl
  refine ⟨zq_k_n 27 h rfl (zq_o_27 _), ?_⟩
  replace h := zq_nx1 (q := 117) h rfl
  refine ⟨zq_k_n 133 h rfl (zq_o_133 _), ?_⟩
  replace h := zq_nx1 (q := 118) h rfl
  refine ⟨zq_k_u2 20 (fun z => .ldc2_w z) 148 h rfl (zq_o_20 _) (by decide +kernel), ?_⟩
  replace h := zq_nx3 (q := 121) h rfl
  refine ⟨zq_k_u2 20 (fun z => .ldc2_w z) 150 h rfl (zq_o_20 _) (by decide +kernel), ?_⟩
  replace h := zq_nx3 (q := 124) h rfl
  refine ⟨zq_k_u2 184 (fun z => .invokestatic z) 114 h rfl (zq_o_184 _) (by decide +kernel), ?_⟩
  replace h := zq_nx3 (q := 127) h rfl
  refine ⟨zq_k_s2 153 (fun z => .ifCond .eq z) 116 h rfl (zq_o_153 _) (by decide +kernel), ?_⟩
  replace h := zq_nx3 (q := 130) h rfl
  refine ⟨zq_k_n 42 h rfl (zq_o_42 _), ?_⟩
  replace h := zq_nx1 (q := 131) h rfl
  refine ⟨zq_k_n 5 h rfl (zq_o_5 _), ?_⟩
  replace h := zq_nx1 (q := 132) h rfl
  refine ⟨zq_k_u2 181 (fun z => .putfield z) 141 h rfl (zq_o_181 _) (by decide +kernel), ?_⟩
  replace h := zq_nx3 (q := 135) h rfl
  refine ⟨zq_k_n 42 h rfl (zq_o_42 _), ?_⟩
  replace h := zq_nx1 (q := 136) h rfl
  refine ⟨zq_k_n 3 h rfl (zq_o_3 _), ?_⟩
  replace h := zq_nx1 (q := 137) h rfl
  refine ⟨zq_k_u2 181 (fun z => .putfield z) 152 h rfl (zq_o_181 _) (by decide +kernel), ?_⟩
  replace h := zq_nx3 (q := 140) h rfl
  refine ⟨zq_k_n 42 h rfl (zq_o_42 _), ?_⟩
  replace h := zq_nx1 (q := 141) h rfl
  refine ⟨zq_k_n 42 h rfl (zq_o_42 _), ?_⟩
  replace h := zq_nx1 (q := 142) h rfl
  exact zq_k_u2 180 (fun z => .getfield z) 130 h rfl (zq_o_180 _) (by decide +kernel)
set_option maxRecDepth 100000 in
theorem dd_M_next_145 : (decode prog_10_method_13_code 145 = .ok (.invokevirtual 133, 3)) ∧ (decode prog_10_method_13_code 148 = .ok (.i2l, 1)) ∧ (decode prog_10_method_13_code 149 = .ok (.ldc2_w 148, 3)) ∧ (decode prog_10_method_13_code 152 = .ok (.ldc2_w 150, 3)) ∧ (decode prog_10_method_13_code 155 = .ok (.invokestatic 114, 3)) ∧ (decode prog_10_method_13_code 158 = .ok (.ifCond .eq 59, 3)) ∧ (decode prog_10_method_13_code 161 = .ok (.aload_n 0, 1)) ∧ (decode prog_10_method_13_code 162 = .ok (.aload_n 0, 1)) ∧ (decode prog_10_method_13_code 163 = .ok (.getfield 130, 3)) ∧ (decode prog_10_method_13_code 166 = .ok (.aload_n 0, 1)) ∧ (decode prog_10_method_13_code 167 = .ok (.getfield 124, 3)) ∧ (decode prog_10_method_13_code 170 = .ok (.isub, 1)) ∧ (decode prog_10_method_13_code 171 = .ok (.iconst 2, 1)) ∧ (decode prog_10_method_13_code 172 = .ok (.if_icmp .ge 25, 3)) ∧ (decode prog_10_method_13_code 175 = .ok (.bipush 10, 2)) ∧ (decode prog_10_method_13_code 177 = .ok (.aload_n 0, 1)) ∧ (decode prog_10_method_13_code 178 = .ok (.getfield 152, 3)) ∧ (decode prog_10_method_13_code 181 = .ok (.imul, 1)) ∧ (decode prog_10_method_13_code 182 = .ok (.aload_n 0, 1)) ∧ (decode prog_10_method_13_code 183 = .ok (.aload_n 0, 1)) ∧ (decode prog_10_method_13_code 184 = .ok (.getfield 130, 3)) ∧ (decode prog_10_method_13_code 187 = .ok (.invokevirtual 133, 3)) ∧ (decode prog_10_method_13_code 190 = .ok (.iadd, 1)) ∧ (decode prog_10_method_13_code 191 = .ok (.bipush 48, 2)) := by
  have h : List.drop 145 prog_10_method_13_code.data.toList = 0xb6 :: _ := rfl
  refine ⟨zq_k_u2 182 (fun z => .invokevirtual z) 133 h rfl (zq_o_182 _) (by decide +kernel), ?_⟩
  replace h := zq_nx3 (q := 148) h rfl
  refine ⟨zq_k_n 133 h rfl (zq_o_133 _), ?_⟩
  replace h := zq_nx1 (q := 149) h rfl
  refine ⟨zq_k_u2 20 (fun z => .ldc2_w z) 148 h rfl (zq_o_20 _) (by decide +kernel), ?_⟩
  replace h := zq_nx3 (q := 152) h rfl
  refine ⟨zq_k_u2 20 (fun z => .ldc2_w z) 150 h rfl (zq_o_20 _) (by decide +kernel), ?_⟩
  replace h := zq_nx3 (q := 155) h rfl
  refine ⟨zq_k_u2 184 (fun z => .invokestatic z) 114 h rfl (zq_o_184 _) (by decide +kernel), ?_⟩
  replace h := zq_nx3 (q := 158) h rfl
  refine ⟨zq_k_s2 153 (fun z => .ifCond .eq z) 59 h rfl (zq_o_153 _) (by decide +kernel), ?_⟩
  replace h := zq_nx3 (q := 161) h rfl
  refine ⟨zq_k_n 42 h rfl (zq_o_42 _), ?_⟩
  replace h := zq_nx1 (q := 162) h rfl
  refine ⟨zq_k_n 42 h rfl (zq_o_42 _), ?_⟩
  replace h := zq_nx1 (q := 163) h rfl
  refine ⟨zq_k_u2 180 (fun z => .getfield z) 130 h rfl (zq_o_180 _) (by decide +kernel), ?_⟩
  replace h := zq_nx3 (q := 166) h rfl
  refine ⟨zq_k_n 42 h rfl (zq_o_42 _), ?_⟩
  replace h := zq_nx1 (q := 167) h rfl
  refine ⟨zq_k_u2 180 (fun z => .getfield z) 124 h rfl (zq_o_180 _) (by decide +kernel), ?_⟩
  replace h := zq_nx3 (q := 170) h rfl
  refine ⟨zq_k_n 100 h rfl (zq_o_100 _), ?_⟩
  replace h := zq_nx1 (q := 171) h rfl
  refine ⟨zq_k_n 5 h rfl (zq_o_5 _), ?_⟩
  replace h := zq_nx1 (q := 172) h rfl
  refine ⟨zq_k_s2 162 (fun z => .if_icmp .ge z) 25 h rfl (zq_o_162 _) (by decide +kernel), ?_⟩
  replace h := zq_nx3 (q := 175) h rfl
  refine ⟨zq_k_s1 16 (fun z => .bipush z) 10 h rfl (zq_o_16 _) (by decide +kernel), ?_⟩
  replace h := zq_nx2 (q := 177) h rfl
  refine ⟨zq_k_n 42 h rfl (zq_o_42 _), ?_⟩
  replace h := zq_nx1 (q := 178) h rfl
  refine ⟨zq_k_u2 180 (fun z => .getfield z) 152 h rfl (zq_o_180 _) (by decide +kernel), ?_⟩
  replace h := zq_nx3 (q := 181) h rfl
  refine ⟨zq_k_n 104 h rfl (zq_o_104 _), ?_⟩
  replace h := zq_nx1 (q := 182) h rfl
  refine ⟨zq_k_n 42 h rfl (zq_o_42 _), ?_⟩
  replace h := zq_nx1 (q := 183) h rfl
  refine ⟨zq_k_n 42 h rfl (zq_o_42 _), ?_⟩
  replace h := zq_nx1 (q := 184) h rfl
  refine ⟨zq_k_u2 180 (fun z => .getfield z) 130 h rfl (zq_o_180 _) (by decide +kernel), ?_⟩
  replace h := zq_nx3 (q := 187) h rfl
  refine ⟨zq_k_u2 182 (fun z => .invokevirtual z) 133 h rfl (zq_o_182 _) (by decide +kernel), ?_⟩
  replace h := zq_nx3 (q := 190) h rfl
  refine ⟨zq_k_n 96 h rfl (zq_o_96 _), ?_⟩
  replace h := zq_nx1 (q := 191) h rfl
  exact zq_k_s1 16 (fun z => .bipush z) 48 h rfl (zq_o_16 _) (by decide +kernel)
set_option maxRecDepth 100000 in
theorem dd_M_next_193 : (decode prog_10_method_13_code 193 = .ok (.isub, 1)) ∧ (decode prog_10_method_13_code 194 = .ok (.goto 7, 3)) ∧ (decode prog_10_method_13_code 197 = .ok (.aload_n 0, 1)) ∧ (decode prog_10_method_13_code 198 = .ok (.getfield 152, 3)) ∧ (decode prog_10_method_13_code 201 = .ok (.putfield 152, 3)) ∧ (decode prog_10_method_13_code 204 = .ok (.aload_n 0, 1)) ∧ (decode prog_10_method_13_code 205 = .ok (.dup, 1)) ∧ (decode prog_10_method_13_code 206 = .ok (.getfield 130, 3)) ∧ (decode prog_10_method_13_code 209 = .ok (.iconst 1, 1)) ∧ (decode prog_10_method_13_code 210 = .ok (.iadd, 1)) ∧ (decode prog_10_method_13_code 211 = .ok (.putfield 130, 3)) ∧ (decode prog_10_method_13_code 214 = .ok (.goto (-74), 3)) ∧ (decode prog_10_method_13_code 217 = .ok (.aload_n 0, 1)) ∧ (decode prog_10_method_13_code 218 = .ok (.aload_n 0, 1)) ∧ (decode prog_10_method_13_code 219 = .ok (.getfield 130, 3)) ∧ (decode prog_10_method_13_code 222 = .ok (.aload_n 0, 1)) ∧ (decode prog_10_method_13_code 223 = .ok (.getfield 124, 3)) ∧ (decode prog_10_method_13_code 226 = .ok (.isub, 1)) ∧ (decode prog_10_method_13_code 227 = .ok (.iconst 2, 1)) ∧ (decode prog_10_method_13_code 228 = .ok (.if_icmp .gt 7, 3)) ∧ (decode prog_10_method_13_code 231 = .ok (.iconst 1, 1)) ∧ (decode prog_10_method_13_code 232 = .ok (.goto 4, 3)) ∧ (decode prog_10_method_13_code 235 = .ok (.iconst 0, 1)) ∧ (decode prog_10_method_13_code 236 = .ok (.iconst 1, 1)) := by
  have h : List.drop 193 prog_10_method_13_code.data.toList = 0x64 :: _ := rfl
  refine ⟨zq_k_n 100 h rfl (zq_o_100 _), ?_⟩
  replace h := zq_nx1 (q := 194) h rfl
  refine ⟨zq_k_s2 167 (fun z => .goto z) 7 h rfl (zq_o_167 _) (by decide +kernel), ?_⟩
  replace h := zq_nx3 (q := 197) h rfl
  refine ⟨zq_k_n 42 h rfl (zq_o_42 _), ?_⟩
  replace h := zq_nx1 (q := 198) h rfl
  refine ⟨zq_k_u2 180 (fun z => .getfield z) 152 h rfl (zq_o_180 _) (by decide +kernel), ?_⟩
  replace h := zq_nx3 (q := 201) h rfl
  refine ⟨zq_k_u2 181 (fun z => .putfield z) 152 h rfl (zq_o_181 _) (by decide +kernel), ?_⟩
  replace h := zq_nx3 (q := 204) h rfl
  refine ⟨zq_k_n 42 h rfl (zq_o_42 _), ?_⟩
  replace h := zq_nx1 (q := 205) h rfl
  refine ⟨zq_k_n 89 h rfl (zq_o_89 _), ?_⟩
  replace h := zq_nx1 (q := 206) h rfl
  refine ⟨zq_k_u2 180 (fun z => .getfield z) 130 h rfl (zq_o_180 _) (by decide +kernel), ?_⟩
  replace h := zq_nx3 (q := 209) h rfl
  refine ⟨zq_k_n 4 h rfl (zq_o_4 _), ?_⟩
  replace h := zq_nx1 (q := 210) h rfl
  refine ⟨zq_k_n 96 h rfl (zq_o_96 _), ?_⟩
  replace h := zq_nx1 (q := 211) h rfl
  refine ⟨zq_k_u2 181 (fun z => .putfield z) 130 h rfl (zq_o_181 _) (by decide +kernel), ?_⟩
  replace h := zq_nx3 (q := 214) h rfl
  refine ⟨zq_k_s2 167 (fun z => .goto z) (-74) h rfl (zq_o_167 _) (by decide +kernel), ?_⟩
  replace h := zq_nx3 (q := 217) h rfl
  refine ⟨zq_k_n 42 h rfl (zq_o_42 _), ?_⟩
  replace h := zq_nx1 (q := 218) h rfl
  refine ⟨zq_k_n 42 h rfl (zq_o_42 _), ?_⟩
  replace h := zq_nx1 (q := 219) h rfl
  refine ⟨zq_k_u2 180 (fun z => .getfield z) 130 h rfl (zq_o_180 _) (by decide +kernel), ?_⟩
  replace h := zq_nx3 (q := 222) h rfl
  refine ⟨zq_k_n 42 h rfl (zq_o_42 _), ?_⟩
  replace h := zq_nx1 (q := 223) h rfl
  refine ⟨zq_k_u2 180 (fun z => .getfield z) 124 h rfl (zq_o_180 _) (by decide +kernel), ?_⟩
  replace h := zq_nx3 (q := 226) h rfl
  refine ⟨zq_k_n 100 h rfl (zq_o_100 _), ?_⟩
  replace h := zq_nx1 (q := 227) h rfl
  refine ⟨zq_k_n 5 h rfl (zq_o_5 _), ?_⟩
  replace h := zq_nx1 (q := 228) h rfl
  refine ⟨zq_k_s2 163 (fun z => .if_icmp .gt z) 7 h rfl (zq_o_163 _) (by decide +kernel), ?_⟩
  replace h := zq_nx3 (q := 231) h rfl
  refine ⟨zq_k_n 4 h rfl (zq_o_4 _), ?_⟩
  replace h := zq_nx1 (q := 232) h rfl
  refine ⟨zq_k_s2 167 (fun z => .goto z) 4 h rfl (zq_o_167 _) (by decide +kernel), ?_⟩
  replace h := zq_nx3 (q := 235) h rfl
  refine ⟨zq_k_n 3 h rfl (zq_o_3 _), ?_⟩
  replace h := zq_nx1 (q := 236) h rfl
  exact zq_k_n 4 h rfl (zq_o_4 _)
set_option maxRecDepth 100000 in
theorem dd_M_next_237 : (decode prog_10_method_13_code 237 = .ok (.invokevirtual 155, 3)) ∧ (decode prog_10_method_13_code 240 = .ok (.goto 34, 3)) ∧ (decode prog_10_method_13_code 243 = .ok (.aload_n 0, 1)) ∧ (decode prog_10_method_13_code 244 = .ok (.iconst 3, 1)) ∧ (decode prog_10_method_13_code 245 = .ok (.putfield 141, 3)) ∧ (decode prog_10_method_13_code 248 = .ok (.aload_n 0, 1)) ∧ (decode prog_10_method_13_code 249 = .ok (.iload_n 1, 1)) ∧ (decode prog_10_method_13_code 250 = .ok (.bipush 59, 2)) ∧ (decode prog_10_method_13_code 252 = .ok (.if_icmp .ne 7, 3)) ∧ (decode prog_10_method_13_code 255 = .ok (.iconst 1, 1)) ∧ (decode prog_10_method_13_code 256 = .ok (.goto 4, 3)) ∧ (decode prog_10_method_13_code 259 = .ok (.iconst 0, 1)) ∧ (decode prog_10_method_13_code 260 = .ok (.iconst 1, 1)) ∧ (decode prog_10_method_13_code 261 = .ok (.invokevirtual 155, 3)) ∧ (decode prog_10_method_13_code 264 = .ok (.aload_n 0, 1)) ∧ (decode prog_10_method_13_code 265 = .ok (.dup, 1)) ∧ (decode prog_10_method_13_code 266 = .ok (.getfield 130, 3)) ∧ (decode prog_10_method_13_code 269 = .ok (.iconst 1, 1)) ∧ (decode prog_10_method_13_code 270 = .ok (.iadd, 1)) ∧ (decode prog_10_method_13_code 271 = .ok (.putfield 130, 3)) ∧ (decode prog_10_method_13_code 274 = .ok (.return_, 1)) := by
  have h : List.drop 237 prog_10_method_13_code.data.toList = 0xb6 :: _ := rfl
  refine ⟨zq_k_u2 182 (fun z => .invokevirtual z) 155 h rfl (zq_o_182 _) (by decide +kernel), ?_⟩
  replace h := zq_nx3 (q := 240) h rfl
  refine ⟨zq_k_s2 167 (fun z => .goto z) 34 h rfl (zq_o_167 _) (by decide +kernel), ?_⟩
  replace h := zq_nx3 (q := 243) h rfl
  refine ⟨zq_k_n 42 h rfl (zq_o_42 _), ?_⟩
  replace h := zq_nx1 (q := 244) h rfl
  refine ⟨zq_k_n 6 h rfl (zq_o_6 _), ?_⟩
  replace h := zq_nx1 (q := 245) h rfl
  refine ⟨zq_k_u2 181 (fun z => .putfield z) 141 h rfl (zq_o_181 _) (by decide +kernel), ?_⟩
  replace h := zq_nx3 (q := 248) h rfl
  refine ⟨zq_k_n 42 h rfl (zq_o_42 _), ?_⟩
  replace h := zq_nx1 (q := 249) h rfl
  refine ⟨zq_k_n 27 h rfl (zq_o_27 _), ?_⟩
  replace h := zq_nx1 (q := 250) h rfl
  refine ⟨zq_k_s1 16 (fun z => .bipush z) 59 h rfl (zq_o_16 _) (by decide +kernel), ?_⟩
  replace h := zq_nx2 (q := 252) h rfl
  refine ⟨zq_k_s2 160 (fun z => .if_icmp .ne z) 7 h rfl (zq_o_160 _) (by decide +kernel), ?_⟩
  replace h := zq_nx3 (q := 255) h rfl
  refine ⟨zq_k_n 4 h rfl (zq_o_4 _), ?_⟩
  replace h := zq_nx1 (q := 256) h rfl
  refine ⟨zq_k_s2 167 (fun z => .goto z) 4 h rfl (zq_o_167 _) (by decide +kernel), ?_⟩
  replace h := zq_nx3 (q := 259) h rfl
  refine ⟨zq_k_n 3 h rfl (zq_o_3 _), ?_⟩
  replace h := zq_nx1 (q := 260) h rfl
  refine ⟨zq_k_n 4 h rfl (zq_o_4 _), ?_⟩
  replace h := zq_nx1 (q := 261) h rfl
  refine ⟨zq_k_u2 182 (fun z => .invokevirtual z) 155 h rfl (zq_o_182 _) (by decide +kernel), ?_⟩
  replace h := zq_nx3 (q := 264) h rfl
  refine ⟨zq_k_n 42 h rfl (zq_o_42 _), ?_⟩
  replace h := zq_nx1 (q := 265) h rfl
  refine ⟨zq_k_n 89 h rfl (zq_o_89 _), ?_⟩
  replace h := zq_nx1 (q := 266) h rfl
  refine ⟨zq_k_u2 180 (fun z => .getfield z) 130 h rfl (zq_o_180 _) (by decide +kernel), ?_⟩
  replace h := zq_nx3 (q := 269) h rfl
  refine ⟨zq_k_n 4 h rfl (zq_o_4 _), ?_⟩
  replace h := zq_nx1 (q := 270) h rfl
  refine ⟨zq_k_n 96 h rfl (zq_o_96 _), ?_⟩
  replace h := zq_nx1 (q := 271) h rfl
  refine ⟨zq_k_u2 181 (fun z => .putfield z) 130 h rfl (zq_o_181 _) (by decide +kernel), ?_⟩
  replace h := zq_nx3 (q := 274) h rfl
  exact zq_k_n 177 h rfl (zq_o_177 _)
def f_M_next_260  (b0 : Nat) (s0 : Nat) (s1 : Int32) (h : mH) : Option mH :=
  bd1 (kC h s0 8) fun _ =>
  bd1 (f_M_needs s0 s1 (1 : Int32) h) fun h106 =>
  bd1 (gI h106 b0 8 21) fun x108 =>
  bd1 (pV h106 b0 8 21 (.int (x108 + (1 : Int32)))) fun h110 =>
  some h110
set_option maxRecDepth 20000 in
theorem t_M_next_260 {sc : Nat × (Nat → Int32)}  (b0 : Nat) (s0 : Nat) (s1 : Int32) (h : mH) (h' : mH) (hf : f_M_next_260  b0 s0 s1 h = some h') : G sc y_M_next prog_10_method_13_code 2 none 1 25 260 [(0, .ref b0)] [.int s1, .ref s0] h none h' := by
  unfold f_M_next_260 at hf
  refine g_iconst (pc := 260) (1 : Int32) dd_M_next_237.2.2.2.2.2.2.2.2.2.2.2.2.1 (by decide) ?_
  obtain ⟨u105, e104, hf⟩ := bd1_e hf
  obtain ⟨h106, e107, hf⟩ := bd1_e hf
  refine g_callV (pc := 261) (ci := 8) [.int s1, .int (1 : Int32)] (site_of si_M_needs (by decide) (by decide)) wd_1084 wd_1086 wp_34 dd_M_next_237.2.2.2.2.2.2.2.2.2.2.2.2.2.1 rfl e104 (Nat.le_of_ble_eq_true rfl) (fun z => absurd z si_na_M_needs) (fun z => absurd z si_na_M_needs) (fun z => absurd z si_na_M_needs) (c_M_needs e107) rfl ?_
  refine g_st [] rfl ?_
  refine g_aload_n (pc := 264) 0 dd_M_next_237.2.2.2.2.2.2.2.2.2.2.2.2.2.2.1 rfl rfl ?_
  refine g_dup (pc := 265) dd_M_next_237.2.2.2.2.2.2.2.2.2.2.2.2.2.2.2.1 rfl ?_
  obtain ⟨x108, e109, hf⟩ := bd1_e hf
  refine g_get (pc := 266) (ci := 8) (kk := 21) dd_M_next_237.2.2.2.2.2.2.2.2.2.2.2.2.2.2.2.2.1 rfl in_M (by decide) wd_959 (gI_spec e109) ?_
  refine g_iconst (pc := 269) (1 : Int32) dd_M_next_237.2.2.2.2.2.2.2.2.2.2.2.2.2.2.2.2.2.1 (by decide) ?_
  refine g_iadd (pc := 270) dd_M_next_237.2.2.2.2.2.2.2.2.2.2.2.2.2.2.2.2.2.2.1 ?_
  obtain ⟨h110, e111, hf⟩ := bd1_e hf
  refine g_put (pc := 271) (ci := 8) (kk := 21) ty_M tyok_M nm_M dd_M_next_237.2.2.2.2.2.2.2.2.2.2.2.2.2.2.2.2.2.2.2.1 rfl in_M (by decide) wd_959 rfl (fun _ => rfl) (fun _ => rfl) (fun _ z => by cases z) e111 ?_
  obtain rfl := ret1 hf
  exact g_vret (pc := 274) rfl dd_M_next_237.2.2.2.2.2.2.2.2.2.2.2.2.2.2.2.2.2.2.2.2
def f_M_next_236  (s0 : Nat) (s1 : Int32) (h : mH) : Option mH :=
  bd1 (kC h s0 8) fun _ =>
  bd1 (f_M_needs s0 s1 (1 : Int32) h) fun h102 =>
  some h102
set_option maxRecDepth 20000 in
theorem t_M_next_236 {sc : Nat × (Nat → Int32)}  (s0 : Nat) (s1 : Int32) (h : mH) (h' : mH) (hf : f_M_next_236  s0 s1 h = some h') : G sc y_M_next prog_10_method_13_code 2 none 1 25 236 [] [.int s1, .ref s0] h none h' := by
  unfold f_M_next_236 at hf
  refine g_iconst (pc := 236) (1 : Int32) dd_M_next_193.2.2.2.2.2.2.2.2.2.2.2.2.2.2.2.2.2.2.2.2.2.2.2 (by decide) ?_
  obtain ⟨u101, e100, hf⟩ := bd1_e hf
  obtain ⟨h102, e103, hf⟩ := bd1_e hf
  refine g_callV (pc := 237) (ci := 8) [.int s1, .int (1 : Int32)] (site_of si_M_needs (by decide) (by decide)) wd_1084 wd_1086 wp_34 dd_M_next_237.1 rfl e100 (Nat.le_of_ble_eq_true rfl) (fun z => absurd z si_na_M_needs) (fun z => absurd z si_na_M_needs) (fun z => absurd z si_na_M_needs) (c_M_needs e103) rfl ?_
  refine g_st [] rfl ?_
  refine g_goto (pc := 240) 274 dd_M_next_237.2.1 (by decide) ?_
  obtain rfl := ret1 hf
  exact g_vret (pc := 274) rfl dd_M_next_237.2.2.2.2.2.2.2.2.2.2.2.2.2.2.2.2.2.2.2.2
def f_M_next_201 (rec140 : Nat → mH → Option mH) (b0 : Nat) (s0 : Nat) (s1 : Int32) (h : mH) : Option mH :=
  bd1 (pV h s0 8 24 (.int s1)) fun h94 =>
  bd1 (gI h94 b0 8 21) fun x96 =>
  bd1 (pV h94 b0 8 21 (.int (x96 + (1 : Int32)))) fun h98 =>
  rec140 b0 h98
set_option maxRecDepth 20000 in
theorem t_M_next_201 {sc : Nat × (Nat → Int32)} (rec140 : Nat → mH → Option mH) (hrec140 : ∀ (b0 : Nat) (h : mH) (h' : mH), rec140 b0 h = some h' → G sc y_M_next prog_10_method_13_code 2 none 1 25 140 [(0, .ref b0)] [] h none h') (b0 : Nat) (s0 : Nat) (s1 : Int32) (h : mH) (h' : mH) (hf : f_M_next_201 rec140 b0 s0 s1 h = some h') : G sc y_M_next prog_10_method_13_code 2 none 1 25 201 [(0, .ref b0)] [.int s1, .ref s0] h none h' := by
  unfold f_M_next_201 at hf
  obtain ⟨h94, e95, hf⟩ := bd1_e hf
  refine g_put (pc := 201) (ci := 8) (kk := 24) ty_M tyok_M nm_M dd_M_next_193.2.2.2.2.1 rfl in_M (by decide) wd_962 rfl (fun _ => rfl) (fun _ => rfl) (fun _ z => by cases z) e95 ?_
  refine g_aload_n (pc := 204) 0 dd_M_next_193.2.2.2.2.2.1 rfl rfl ?_
  refine g_dup (pc := 205) dd_M_next_193.2.2.2.2.2.2.1 rfl ?_
  obtain ⟨x96, e97, hf⟩ := bd1_e hf
  refine g_get (pc := 206) (ci := 8) (kk := 21) dd_M_next_193.2.2.2.2.2.2.2.1 rfl in_M (by decide) wd_959 (gI_spec e97) ?_
  refine g_iconst (pc := 209) (1 : Int32) dd_M_next_193.2.2.2.2.2.2.2.2.1 (by decide) ?_
  refine g_iadd (pc := 210) dd_M_next_193.2.2.2.2.2.2.2.2.2.1 ?_
  obtain ⟨h98, e99, hf⟩ := bd1_e hf
  refine g_put (pc := 211) (ci := 8) (kk := 21) ty_M tyok_M nm_M dd_M_next_193.2.2.2.2.2.2.2.2.2.2.1 rfl in_M (by decide) wd_959 rfl (fun _ => rfl) (fun _ => rfl) (fun _ z => by cases z) e99 ?_
  refine g_goto (pc := 214) 140 dd_M_next_193.2.2.2.2.2.2.2.2.2.2.2.1 (by decide) ?_
  refine g_lv [0] rfl ?_
  exact hrec140 _ _ _  hf
def f_M_next_140b (rec140 : Nat → mH → Option mH) (b0 : Nat) (h : mH) : Option mH :=
  bd1 (gI h b0 8 21) fun x62 =>
  bd1 (kC h b0 8) fun _ =>
  bd2 (f_M_look b0 x62 h) fun x68 h66 =>
  bd2 (f_M_in x68.toInt64 (48 : Int64) (57 : Int64) h66) fun x71 h69 =>
  if x71 = 0 then
    bd1 (gI h69 b0 8 21) fun x72 =>
    bd1 (gI h69 b0 8 22) fun x74 =>
    if (2 : Int32) < (x72 - x74) then
      f_M_next_236  b0 (0 : Int32) h69
    else
      f_M_next_236  b0 (1 : Int32) h69
  else
    bd1 (gI h69 b0 8 21) fun x77 =>
    bd1 (gI h69 b0 8 22) fun x79 =>
    if (2 : Int32) ≤ (x77 - x79) then
      bd1 (gI h69 b0 8 24) fun x81 =>
      f_M_next_201 rec140 b0 b0 x81 h69
    else
      bd1 (gI h69 b0 8 24) fun x83 =>
      bd1 (gI h69 b0 8 21) fun x85 =>
      bd1 (kC h69 b0 8) fun _ =>
      bd2 (f_M_look b0 x85 h69) fun x91 h89 =>
      f_M_next_201 rec140 b0 b0 ((((10 : Int32) * x83) + x91) - (48 : Int32)) h89
set_option maxRecDepth 20000 in
theorem t_M_next_140b {sc : Nat × (Nat → Int32)} (rec140 : Nat → mH → Option mH) (hrec140 : ∀ (b0 : Nat) (h : mH) (h' : mH), rec140 b0 h = some h' → G sc y_M_next prog_10_method_13_code 2 none 1 25 140 [(0, .ref b0)] [] h none h') (b0 : Nat) (h : mH) (h' : mH) (hf : f_M_next_140b rec140 b0 h = some h') : G sc y_M_next prog_10_method_13_code 2 none 1 25 140 [(0, .ref b0)] [] h none h' := by
  unfold f_M_next_140b at hf
  refine g_aload_n (pc := 140) 0 dd_M_next_97.2.2.2.2.2.2.2.2.2.2.2.2.2.2.2.2.2.2.2.2.2.1 rfl rfl ?_
  refine g_aload_n (pc := 141) 0 dd_M_next_97.2.2.2.2.2.2.2.2.2.2.2.2.2.2.2.2.2.2.2.2.2.2.1 rfl rfl ?_
  obtain ⟨x62, e63, hf⟩ := bd1_e hf
  refine g_get (pc := 142) (ci := 8) (kk := 21) dd_M_next_97.2.2.2.2.2.2.2.2.2.2.2.2.2.2.2.2.2.2.2.2.2.2.2 rfl in_M (by decide) wd_959 (gI_spec e63) ?_
  obtain ⟨u65, e64, hf⟩ := bd1_e hf
  obtain ⟨x68, h66, e67, hf⟩ := bd2_e hf
  refine g_callV (pc := 145) (ci := 8) [.int x62] (site_of si_M_look (by decide) (by decide)) wd_1076 wd_1078 wp_33 dd_M_next_145.1 rfl e64 (Nat.le_of_ble_eq_true rfl) (fun z => absurd z si_na_M_look) (fun z => absurd z si_na_M_look) (fun z => absurd z si_na_M_look) (c_M_look e67) rfl ?_
  refine g_st [.int x68] rfl ?_
  refine g_i2l (pc := 148) dd_M_next_145.2.1 ?_
  refine g_ldc2 (pc := 149) (48 : Int64) dd_M_next_145.2.2.1 wd_1082 ?_
  refine g_ldc2 (pc := 152) (57 : Int64) dd_M_next_145.2.2.2.1 wd_1083 ?_
  obtain ⟨x71, h69, e70, hf⟩ := bd2_e hf
  refine g_callS (pc := 155) [.long x68.toInt64, .long (48 : Int64), .long (57 : Int64)] (site_of si_M_in (by decide) (by decide)) wd_1061 wd_1062 dd_M_next_145.2.2.2.2.1 (Nat.le_of_ble_eq_true rfl) (fun z => absurd z si_na_M_in) (fun z => absurd z si_na_M_in) (fun z => absurd z si_na_M_in) (c_M_in e70) rfl ?_
  refine g_st [.int x71] rfl ?_
  refine g_ifeq (pc := 158) 217 dd_M_next_145.2.2.2.2.2.1 (by decide) (fun c93 => ?_) (fun c93 => ?_)
  · replace hf := (if_pos c93).symm.trans hf
    refine g_aload_n (pc := 217) 0 dd_M_next_193.2.2.2.2.2.2.2.2.2.2.2.2.1 rfl rfl ?_
    refine g_aload_n (pc := 218) 0 dd_M_next_193.2.2.2.2.2.2.2.2.2.2.2.2.2.1 rfl rfl ?_
    obtain ⟨x72, e73, hf⟩ := bd1_e hf
    refine g_get (pc := 219) (ci := 8) (kk := 21) dd_M_next_193.2.2.2.2.2.2.2.2.2.2.2.2.2.2.1 rfl in_M (by decide) wd_959 (gI_spec e73) ?_
    refine g_aload_n (pc := 222) 0 dd_M_next_193.2.2.2.2.2.2.2.2.2.2.2.2.2.2.2.1 rfl rfl ?_
    obtain ⟨x74, e75, hf⟩ := bd1_e hf
    refine g_get (pc := 223) (ci := 8) (kk := 22) dd_M_next_193.2.2.2.2.2.2.2.2.2.2.2.2.2.2.2.2.1 rfl in_M (by decide) wd_960 (gI_spec e75) ?_
    refine g_isub (pc := 226) dd_M_next_193.2.2.2.2.2.2.2.2.2.2.2.2.2.2.2.2.2.1 ?_
    refine g_iconst (pc := 227) (2 : Int32) dd_M_next_193.2.2.2.2.2.2.2.2.2.2.2.2.2.2.2.2.2.2.1 (by decide) ?_
    refine g_icmpgt (pc := 228) 235 dd_M_next_193.2.2.2.2.2.2.2.2.2.2.2.2.2.2.2.2.2.2.2.1 (by decide) (fun c76 => ?_) (fun c76 => ?_)
    · replace hf := (if_pos c76).symm.trans hf
      refine g_iconst (pc := 235) (0 : Int32) dd_M_next_193.2.2.2.2.2.2.2.2.2.2.2.2.2.2.2.2.2.2.2.2.2.2.1 (by decide) ?_
      refine g_lv [] rfl ?_
      exact t_M_next_236  _ _ _ _  hf
    · replace hf := (if_neg c76).symm.trans hf
      refine g_iconst (pc := 231) (1 : Int32) dd_M_next_193.2.2.2.2.2.2.2.2.2.2.2.2.2.2.2.2.2.2.2.2.1 (by decide) ?_
      refine g_goto (pc := 232) 236 dd_M_next_193.2.2.2.2.2.2.2.2.2.2.2.2.2.2.2.2.2.2.2.2.2.1 (by decide) ?_
      refine g_lv [] rfl ?_
      exact t_M_next_236  _ _ _ _  hf
  · replace hf := (if_neg c93).symm.trans hf
    refine g_aload_n (pc := 161) 0 dd_M_next_145.2.2.2.2.2.2.1 rfl rfl ?_
    refine g_aload_n (pc := 162) 0 dd_M_next_145.2.2.2.2.2.2.2.1 rfl rfl ?_
    obtain ⟨x77, e78, hf⟩ := bd1_e hf
    refine g_get (pc := 163) (ci := 8) (kk := 21) dd_M_next_145.2.2.2.2.2.2.2.2.1 rfl in_M (by decide) wd_959 (gI_spec e78) ?_
    refine g_aload_n (pc := 166) 0 dd_M_next_145.2.2.2.2.2.2.2.2.2.1 rfl rfl ?_
    obtain ⟨x79, e80, hf⟩ := bd1_e hf
    refine g_get (pc := 167) (ci := 8) (kk := 22) dd_M_next_145.2.2.2.2.2.2.2.2.2.2.1 rfl in_M (by decide) wd_960 (gI_spec e80) ?_
    refine g_isub (pc := 170) dd_M_next_145.2.2.2.2.2.2.2.2.2.2.2.1 ?_
    refine g_iconst (pc := 171) (2 : Int32) dd_M_next_145.2.2.2.2.2.2.2.2.2.2.2.2.1 (by decide) ?_
    refine g_icmpge (pc := 172) 197 dd_M_next_145.2.2.2.2.2.2.2.2.2.2.2.2.2.1 (by decide) (fun c92 => ?_) (fun c92 => ?_)
    · replace hf := (if_pos c92).symm.trans hf
      refine g_aload_n (pc := 197) 0 dd_M_next_193.2.2.1 rfl rfl ?_
      obtain ⟨x81, e82, hf⟩ := bd1_e hf
      refine g_get (pc := 198) (ci := 8) (kk := 24) dd_M_next_193.2.2.2.1 rfl in_M (by decide) wd_962 (gI_spec e82) ?_
      refine g_lv [0] rfl ?_
      exact t_M_next_201 rec140 hrec140 _ _ _ _ _  hf
    · replace hf := (if_neg c92).symm.trans hf
      refine g_bipush (pc := 175) (10 : Int32) dd_M_next_145.2.2.2.2.2.2.2.2.2.2.2.2.2.2.1 (by decide) ?_
      refine g_aload_n (pc := 177) 0 dd_M_next_145.2.2.2.2.2.2.2.2.2.2.2.2.2.2.2.1 rfl rfl ?_
      obtain ⟨x83, e84, hf⟩ := bd1_e hf
      refine g_get (pc := 178) (ci := 8) (kk := 24) dd_M_next_145.2.2.2.2.2.2.2.2.2.2.2.2.2.2.2.2.1 rfl in_M (by decide) wd_962 (gI_spec e84) ?_
      refine g_imul (pc := 181) dd_M_next_145.2.2.2.2.2.2.2.2.2.2.2.2.2.2.2.2.2.1 ?_
      refine g_aload_n (pc := 182) 0 dd_M_next_145.2.2.2.2.2.2.2.2.2.2.2.2.2.2.2.2.2.2.1 rfl rfl ?_
      refine g_aload_n (pc := 183) 0 dd_M_next_145.2.2.2.2.2.2.2.2.2.2.2.2.2.2.2.2.2.2.2.1 rfl rfl ?_
      obtain ⟨x85, e86, hf⟩ := bd1_e hf
      refine g_get (pc := 184) (ci := 8) (kk := 21) dd_M_next_145.2.2.2.2.2.2.2.2.2.2.2.2.2.2.2.2.2.2.2.2.1 rfl in_M (by decide) wd_959 (gI_spec e86) ?_
      obtain ⟨u88, e87, hf⟩ := bd1_e hf
      obtain ⟨x91, h89, e90, hf⟩ := bd2_e hf
      refine g_callV (pc := 187) (ci := 8) [.int x85] (site_of si_M_look (by decide) (by decide)) wd_1076 wd_1078 wp_33 dd_M_next_145.2.2.2.2.2.2.2.2.2.2.2.2.2.2.2.2.2.2.2.2.2.1 rfl e87 (Nat.le_of_ble_eq_true rfl) (fun z => absurd z si_na_M_look) (fun z => absurd z si_na_M_look) (fun z => absurd z si_na_M_look) (c_M_look e90) rfl ?_
      refine g_st [.int x91, .int ((10 : Int32) * x83), .ref b0] rfl ?_
      refine g_iadd (pc := 190) dd_M_next_145.2.2.2.2.2.2.2.2.2.2.2.2.2.2.2.2.2.2.2.2.2.2.1 ?_
      refine g_bipush (pc := 191) (48 : Int32) dd_M_next_145.2.2.2.2.2.2.2.2.2.2.2.2.2.2.2.2.2.2.2.2.2.2.2 (by decide) ?_
      refine g_isub (pc := 193) dd_M_next_193.1 ?_
      refine g_goto (pc := 194) 201 dd_M_next_193.2.1 (by decide) ?_
      refine g_lv [0] rfl ?_
      exact t_M_next_201 rec140 hrec140 _ _ _ _ _  hf
def f_M_next_140  : Nat → Nat → mH → Option mH
  | 0 => fun _ _ => none
  | n + 1 => f_M_next_140b  (f_M_next_140  n)
theorem t_M_next_140 {sc : Nat × (Nat → Int32)}  : ∀ (n : Nat) (b0 : Nat) (h : mH) (h' : mH) (hf : f_M_next_140  n b0 h = some h'), G sc y_M_next prog_10_method_13_code 2 none 1 25 140 [(0, .ref b0)] [] h none h'
  | 0, _, _, _, hf => by cases hf
  | n + 1, _, _, _, hf => t_M_next_140b  (f_M_next_140  n) (t_M_next_140  n) _ _ _ hf
def f_M_next_82b (rec82 : Nat → mH → Option mH) (b0 : Nat) (h : mH) : Option mH :=
  bd1 (gI h b0 8 21) fun x47 =>
  bd1 (kC h b0 8) fun _ =>
  bd2 (f_M_look b0 x47 h) fun x53 h51 =>
  bd2 (f_M_in x53.toInt64 (97 : Int64) (122 : Int64) h51) fun x56 h54 =>
  if x56 = 0 then
    some h54
  else
    bd1 (gI h54 b0 8 21) fun x57 =>
    bd1 (pV h54 b0 8 21 (.int (x57 + (1 : Int32)))) fun h59 =>
    rec82 b0 h59
set_option maxRecDepth 20000 in
theorem t_M_next_82b {sc : Nat × (Nat → Int32)} (rec82 : Nat → mH → Option mH) (hrec82 : ∀ (b0 : Nat) (h : mH) (h' : mH), rec82 b0 h = some h' → G sc y_M_next prog_10_method_13_code 2 none 1 25 82 [(0, .ref b0)] [] h none h') (b0 : Nat) (h : mH) (h' : mH) (hf : f_M_next_82b rec82 b0 h = some h') : G sc y_M_next prog_10_method_13_code 2 none 1 25 82 [(0, .ref b0)] [] h none h' := by
  unfold f_M_next_82b at hf
  refine g_aload_n (pc := 82) 0 dd_M_next_47.2.2.2.2.2.2.2.2.2.2.2.2.2.2.2.2.2.1 rfl rfl ?_
  refine g_aload_n (pc := 83) 0 dd_M_next_47.2.2.2.2.2.2.2.2.2.2.2.2.2.2.2.2.2.2.1 rfl rfl ?_
  obtain ⟨x47, e48, hf⟩ := bd1_e hf
  refine g_get (pc := 84) (ci := 8) (kk := 21) dd_M_next_47.2.2.2.2.2.2.2.2.2.2.2.2.2.2.2.2.2.2.2.1 rfl in_M (by decide) wd_959 (gI_spec e48) ?_
  obtain ⟨u50, e49, hf⟩ := bd1_e hf
  obtain ⟨x53, h51, e52, hf⟩ := bd2_e hf
  refine g_callV (pc := 87) (ci := 8) [.int x47] (site_of si_M_look (by decide) (by decide)) wd_1076 wd_1078 wp_33 dd_M_next_47.2.2.2.2.2.2.2.2.2.2.2.2.2.2.2.2.2.2.2.2.1 rfl e49 (Nat.le_of_ble_eq_true rfl) (fun z => absurd z si_na_M_look) (fun z => absurd z si_na_M_look) (fun z => absurd z si_na_M_look) (c_M_look e52) rfl ?_
  refine g_st [.int x53] rfl ?_
  refine g_i2l (pc := 90) dd_M_next_47.2.2.2.2.2.2.2.2.2.2.2.2.2.2.2.2.2.2.2.2.2.1 ?_
  refine g_ldc2 (pc := 91) (97 : Int64) dd_M_next_47.2.2.2.2.2.2.2.2.2.2.2.2.2.2.2.2.2.2.2.2.2.2.1 wd_1080 ?_
  refine g_ldc2 (pc := 94) (122 : Int64) dd_M_next_47.2.2.2.2.2.2.2.2.2.2.2.2.2.2.2.2.2.2.2.2.2.2.2 wd_1081 ?_
  obtain ⟨x56, h54, e55, hf⟩ := bd2_e hf
  refine g_callS (pc := 97) [.long x53.toInt64, .long (97 : Int64), .long (122 : Int64)] (site_of si_M_in (by decide) (by decide)) wd_1061 wd_1062 dd_M_next_97.1 (Nat.le_of_ble_eq_true rfl) (fun z => absurd z si_na_M_in) (fun z => absurd z si_na_M_in) (fun z => absurd z si_na_M_in) (c_M_in e55) rfl ?_
  refine g_st [.int x56] rfl ?_
  refine g_ifeq (pc := 100) 274 dd_M_next_97.2.1 (by decide) (fun c61 => ?_) (fun c61 => ?_)
  · replace hf := (if_pos c61).symm.trans hf
    obtain rfl := ret1 hf
    exact g_vret (pc := 274) rfl dd_M_next_237.2.2.2.2.2.2.2.2.2.2.2.2.2.2.2.2.2.2.2.2
  · replace hf := (if_neg c61).symm.trans hf
    refine g_aload_n (pc := 103) 0 dd_M_next_97.2.2.1 rfl rfl ?_
    refine g_dup (pc := 104) dd_M_next_97.2.2.2.1 rfl ?_
    obtain ⟨x57, e58, hf⟩ := bd1_e hf
    refine g_get (pc := 105) (ci := 8) (kk := 21) dd_M_next_97.2.2.2.2.1 rfl in_M (by decide) wd_959 (gI_spec e58) ?_
    refine g_iconst (pc := 108) (1 : Int32) dd_M_next_97.2.2.2.2.2.1 (by decide) ?_
    refine g_iadd (pc := 109) dd_M_next_97.2.2.2.2.2.2.1 ?_
    obtain ⟨h59, e60, hf⟩ := bd1_e hf
    refine g_put (pc := 110) (ci := 8) (kk := 21) ty_M tyok_M nm_M dd_M_next_97.2.2.2.2.2.2.2.1 rfl in_M (by decide) wd_959 rfl (fun _ => rfl) (fun _ => rfl) (fun _ z => by cases z) e60 ?_
    refine g_goto (pc := 113) 82 dd_M_next_97.2.2.2.2.2.2.2.2.1 (by decide) ?_
    refine g_lv [0] rfl ?_
    exact hrec82 _ _ _  hf
def f_M_next_82  : Nat → Nat → mH → Option mH
  | 0 => fun _ _ => none
  | n + 1 => f_M_next_82b  (f_M_next_82  n)
theorem t_M_next_82 {sc : Nat × (Nat → Int32)}  : ∀ (n : Nat) (b0 : Nat) (h : mH) (h' : mH) (hf : f_M_next_82  n b0 h = some h'), G sc y_M_next prog_10_method_13_code 2 none 1 25 82 [(0, .ref b0)] [] h none h'
  | 0, _, _, _, hf => by cases hf
  | n + 1, _, _, _, hf => t_M_next_82b  (f_M_next_82  n) (t_M_next_82  n) _ _ _ hf
def f_M_next_8b (rec8 : Nat → mH → Option mH) (b0 : Nat) (h : mH) : Option mH :=
  bd1 (gI h b0 8 21) fun x4 =>
  bd1 (kC h b0 8) fun _ =>
  bd2 (f_M_look b0 x4 h) fun x10 h8 =>
  if x10 = (32 : Int32) then
    bd1 (gI h8 b0 8 21) fun x42 =>
    bd1 (pV h8 b0 8 21 (.int (x42 + (1 : Int32)))) fun h44 =>
    rec8 b0 h44
  else
    bd1 (gI h8 b0 8 21) fun x11 =>
    bd1 (pV h8 b0 8 22 (.int x11)) fun h13 =>
    bd1 (gI h13 b0 8 21) fun x15 =>
    bd1 (kC h13 b0 8) fun _ =>
    bd2 (f_M_look b0 x15 h13) fun x21 h19 =>
    if 0 ≤ x21 then
      bd2 (f_M_in x21.toInt64 (97 : Int64) (122 : Int64) h19) fun x24 h22 =>
      if x24 = 0 then
        bd2 (f_M_in x21.toInt64 (48 : Int64) (57 : Int64) h22) fun x27 h25 =>
        if x27 = 0 then
          bd1 (pV h25 b0 8 23 (.int (3 : Int32))) fun h28 =>
          if x21 = (59 : Int32) then
            f_M_next_260  b0 b0 (1 : Int32) h28
          else
            f_M_next_260  b0 b0 (0 : Int32) h28
        else
          bd1 (pV h25 b0 8 23 (.int (2 : Int32))) fun h31 =>
          bd1 (pV h31 b0 8 24 (.int (0 : Int32))) fun h33 =>
          f_M_next_140  FU b0 h33
      else
        bd1 (pV h22 b0 8 23 (.int (1 : Int32))) fun h36 =>
        f_M_next_82  FU b0 h36
    else
      bd1 (pV h19 b0 8 23 (.int (0 : Int32))) fun h39 =>
      some h39
set_option maxRecDepth 20000 in
theorem t_M_next_8b {sc : Nat × (Nat → Int32)} (rec8 : Nat → mH → Option mH) (hrec8 : ∀ (b0 : Nat) (h : mH) (h' : mH), rec8 b0 h = some h' → G sc y_M_next prog_10_method_13_code 2 none 1 25 8 [(0, .ref b0)] [] h none h') (b0 : Nat) (h : mH) (h' : mH) (hf : f_M_next_8b rec8 b0 h = some h') : G sc y_M_next prog_10_method_13_code 2 none 1 25 8 [(0, .ref b0)] [] h none h' := by
  unfold f_M_next_8b at hf
  refine g_aload_n (pc := 8) 0 dd_M_next_0.2.2.2.2.1 rfl rfl ?_
  refine g_aload_n (pc := 9) 0 dd_M_next_0.2.2.2.2.2.1 rfl rfl ?_
  obtain ⟨x4, e5, hf⟩ := bd1_e hf
  refine g_get (pc := 10) (ci := 8) (kk := 21) dd_M_next_0.2.2.2.2.2.2.1 rfl in_M (by decide) wd_959 (gI_spec e5) ?_
  obtain ⟨u7, e6, hf⟩ := bd1_e hf
  obtain ⟨x10, h8, e9, hf⟩ := bd2_e hf
  refine g_callV (pc := 13) (ci := 8) [.int x4] (site_of si_M_look (by decide) (by decide)) wd_1076 wd_1078 wp_33 dd_M_next_0.2.2.2.2.2.2.2.1 rfl e6 (Nat.le_of_ble_eq_true rfl) (fun z => absurd z si_na_M_look) (fun z => absurd z si_na_M_look) (fun z => absurd z si_na_M_look) (c_M_look e9) rfl ?_
  refine g_st [.int x10] rfl ?_
  refine g_bipush (pc := 16) (32 : Int32) dd_M_next_0.2.2.2.2.2.2.2.2.1 (by decide) ?_
  refine g_icmpne (pc := 18) 34 dd_M_next_0.2.2.2.2.2.2.2.2.2.1 (by decide) (fun c46 => ?_) (fun c46 => ?_)
  · replace hf := (if_neg c46).symm.trans hf
    refine g_aload_n (pc := 34) 0 dd_M_next_0.2.2.2.2.2.2.2.2.2.2.2.2.2.2.2.2.2.1 rfl rfl ?_
    refine g_aload_n (pc := 35) 0 dd_M_next_0.2.2.2.2.2.2.2.2.2.2.2.2.2.2.2.2.2.2.1 rfl rfl ?_
    obtain ⟨x11, e12, hf⟩ := bd1_e hf
    refine g_get (pc := 36) (ci := 8) (kk := 21) dd_M_next_0.2.2.2.2.2.2.2.2.2.2.2.2.2.2.2.2.2.2.2.1 rfl in_M (by decide) wd_959 (gI_spec e12) ?_
    obtain ⟨h13, e14, hf⟩ := bd1_e hf
    refine g_put (pc := 39) (ci := 8) (kk := 22) ty_M tyok_M nm_M dd_M_next_0.2.2.2.2.2.2.2.2.2.2.2.2.2.2.2.2.2.2.2.2.1 rfl in_M (by decide) wd_960 rfl (fun _ => rfl) (fun _ => rfl) (fun _ z => by cases z) e14 ?_
    refine g_aload_n (pc := 42) 0 dd_M_next_0.2.2.2.2.2.2.2.2.2.2.2.2.2.2.2.2.2.2.2.2.2.1 rfl rfl ?_
    refine g_aload_n (pc := 43) 0 dd_M_next_0.2.2.2.2.2.2.2.2.2.2.2.2.2.2.2.2.2.2.2.2.2.2.1 rfl rfl ?_
    obtain ⟨x15, e16, hf⟩ := bd1_e hf
    refine g_get (pc := 44) (ci := 8) (kk := 21) dd_M_next_0.2.2.2.2.2.2.2.2.2.2.2.2.2.2.2.2.2.2.2.2.2.2.2 rfl in_M (by decide) wd_959 (gI_spec e16) ?_
    obtain ⟨u18, e17, hf⟩ := bd1_e hf
    obtain ⟨x21, h19, e20, hf⟩ := bd2_e hf
    refine g_callV (pc := 47) (ci := 8) [.int x15] (site_of si_M_look (by decide) (by decide)) wd_1076 wd_1078 wp_33 dd_M_next_47.1 rfl e17 (Nat.le_of_ble_eq_true rfl) (fun z => absurd z si_na_M_look) (fun z => absurd z si_na_M_look) (fun z => absurd z si_na_M_look) (c_M_look e20) rfl ?_
    refine g_st [.int x21] rfl ?_
    refine g_istore_n (pc := 50) [(1, .int x21), (0, .ref b0)] dd_M_next_47.2.1 rfl (Nat.le_of_ble_eq_true rfl) rfl ?_
    refine g_iload_n (pc := 51) 0 dd_M_next_47.2.2.1 rfl rfl ?_
    refine g_ifge (pc := 52) 63 dd_M_next_47.2.2.2.1 (by decide) (fun c41 => ?_) (fun c41 => ?_)
    · replace hf := (if_pos c41).symm.trans hf
      refine g_iload_n (pc := 63) 0 dd_M_next_47.2.2.2.2.2.2.2.2.1 rfl rfl ?_
      refine g_i2l (pc := 64) dd_M_next_47.2.2.2.2.2.2.2.2.2.1 ?_
      refine g_ldc2 (pc := 65) (97 : Int64) dd_M_next_47.2.2.2.2.2.2.2.2.2.2.1 wd_1080 ?_
      refine g_ldc2 (pc := 68) (122 : Int64) dd_M_next_47.2.2.2.2.2.2.2.2.2.2.2.1 wd_1081 ?_
      obtain ⟨x24, h22, e23, hf⟩ := bd2_e hf
      refine g_callS (pc := 71) [.long x21.toInt64, .long (97 : Int64), .long (122 : Int64)] (site_of si_M_in (by decide) (by decide)) wd_1061 wd_1062 dd_M_next_47.2.2.2.2.2.2.2.2.2.2.2.2.1 (Nat.le_of_ble_eq_true rfl) (fun z => absurd z si_na_M_in) (fun z => absurd z si_na_M_in) (fun z => absurd z si_na_M_in) (c_M_in e23) rfl ?_
      refine g_st [.int x24] rfl ?_
      refine g_ifeq (pc := 74) 116 dd_M_next_47.2.2.2.2.2.2.2.2.2.2.2.2.2.1 (by decide) (fun c38 => ?_) (fun c38 => ?_)
      · replace hf := (if_pos c38).symm.trans hf
        refine g_iload_n (pc := 116) 0 dd_M_next_97.2.2.2.2.2.2.2.2.2.1 rfl rfl ?_
        refine g_i2l (pc := 117) dd_M_next_97.2.2.2.2.2.2.2.2.2.2.1 ?_
        refine g_ldc2 (pc := 118) (48 : Int64) dd_M_next_97.2.2.2.2.2.2.2.2.2.2.2.1 wd_1082 ?_
        refine g_ldc2 (pc := 121) (57 : Int64) dd_M_next_97.2.2.2.2.2.2.2.2.2.2.2.2.1 wd_1083 ?_
        obtain ⟨x27, h25, e26, hf⟩ := bd2_e hf
        refine g_callS (pc := 124) [.long x21.toInt64, .long (48 : Int64), .long (57 : Int64)] (site_of si_M_in (by decide) (by decide)) wd_1061 wd_1062 dd_M_next_97.2.2.2.2.2.2.2.2.2.2.2.2.2.1 (Nat.le_of_ble_eq_true rfl) (fun z => absurd z si_na_M_in) (fun z => absurd z si_na_M_in) (fun z => absurd z si_na_M_in) (c_M_in e26) rfl ?_
        refine g_st [.int x27] rfl ?_
        refine g_ifeq (pc := 127) 243 dd_M_next_97.2.2.2.2.2.2.2.2.2.2.2.2.2.2.1 (by decide) (fun c35 => ?_) (fun c35 => ?_)
        · replace hf := (if_pos c35).symm.trans hf
          refine g_aload_n (pc := 243) 1 dd_M_next_237.2.2.1 rfl rfl ?_
          refine g_iconst (pc := 244) (3 : Int32) dd_M_next_237.2.2.2.1 (by decide) ?_
          obtain ⟨h28, e29, hf⟩ := bd1_e hf
          refine g_put (pc := 245) (ci := 8) (kk := 23) ty_M tyok_M nm_M dd_M_next_237.2.2.2.2.1 rfl in_M (by decide) wd_961 rfl (fun _ => rfl) (fun _ => rfl) (fun _ z => by cases z) e29 ?_
          refine g_aload_n (pc := 248) 1 dd_M_next_237.2.2.2.2.2.1 rfl rfl ?_
          refine g_iload_n (pc := 249) 0 dd_M_next_237.2.2.2.2.2.2.1 rfl rfl ?_
          refine g_bipush (pc := 250) (59 : Int32) dd_M_next_237.2.2.2.2.2.2.2.1 (by decide) ?_
          refine g_icmpne (pc := 252) 259 dd_M_next_237.2.2.2.2.2.2.2.2.1 (by decide) (fun c30 => ?_) (fun c30 => ?_)
          · replace hf := (if_neg c30).symm.trans hf
            refine g_iconst (pc := 259) (0 : Int32) dd_M_next_237.2.2.2.2.2.2.2.2.2.2.2.1 (by decide) ?_
            refine g_lv [1] rfl ?_
            exact t_M_next_260  _ _ _ _ _  hf
          · replace hf := (if_pos c30).symm.trans hf
            refine g_iconst (pc := 255) (1 : Int32) dd_M_next_237.2.2.2.2.2.2.2.2.2.1 (by decide) ?_
            refine g_goto (pc := 256) 260 dd_M_next_237.2.2.2.2.2.2.2.2.2.2.1 (by decide) ?_
            refine g_lv [1] rfl ?_
            exact t_M_next_260  _ _ _ _ _  hf
        · replace hf := (if_neg c35).symm.trans hf
          refine g_aload_n (pc := 130) 1 dd_M_next_97.2.2.2.2.2.2.2.2.2.2.2.2.2.2.2.1 rfl rfl ?_
          refine g_iconst (pc := 131) (2 : Int32) dd_M_next_97.2.2.2.2.2.2.2.2.2.2.2.2.2.2.2.2.1 (by decide) ?_
          obtain ⟨h31, e32, hf⟩ := bd1_e hf
          refine g_put (pc := 132) (ci := 8) (kk := 23) ty_M tyok_M nm_M dd_M_next_97.2.2.2.2.2.2.2.2.2.2.2.2.2.2.2.2.2.1 rfl in_M (by decide) wd_961 rfl (fun _ => rfl) (fun _ => rfl) (fun _ z => by cases z) e32 ?_
          refine g_aload_n (pc := 135) 1 dd_M_next_97.2.2.2.2.2.2.2.2.2.2.2.2.2.2.2.2.2.2.1 rfl rfl ?_
          refine g_iconst (pc := 136) (0 : Int32) dd_M_next_97.2.2.2.2.2.2.2.2.2.2.2.2.2.2.2.2.2.2.2.1 (by decide) ?_
          obtain ⟨h33, e34, hf⟩ := bd1_e hf
          refine g_put (pc := 137) (ci := 8) (kk := 24) ty_M tyok_M nm_M dd_M_next_97.2.2.2.2.2.2.2.2.2.2.2.2.2.2.2.2.2.2.2.2.1 rfl in_M (by decide) wd_962 rfl (fun _ => rfl) (fun _ => rfl) (fun _ z => by cases z) e34 ?_
          refine g_lv [1] rfl ?_
          exact t_M_next_140  FU _ _ _  hf
      · replace hf := (if_neg c38).symm.trans hf
        refine g_aload_n (pc := 77) 1 dd_M_next_47.2.2.2.2.2.2.2.2.2.2.2.2.2.2.1 rfl rfl ?_
        refine g_iconst (pc := 78) (1 : Int32) dd_M_next_47.2.2.2.2.2.2.2.2.2.2.2.2.2.2.2.1 (by decide) ?_
        obtain ⟨h36, e37, hf⟩ := bd1_e hf
        refine g_put (pc := 79) (ci := 8) (kk := 23) ty_M tyok_M nm_M dd_M_next_47.2.2.2.2.2.2.2.2.2.2.2.2.2.2.2.2.1 rfl in_M (by decide) wd_961 rfl (fun _ => rfl) (fun _ => rfl) (fun _ z => by cases z) e37 ?_
        refine g_lv [1] rfl ?_
        exact t_M_next_82  FU _ _ _  hf
    · replace hf := (if_neg c41).symm.trans hf
      refine g_aload_n (pc := 55) 1 dd_M_next_47.2.2.2.2.1 rfl rfl ?_
      refine g_iconst (pc := 56) (0 : Int32) dd_M_next_47.2.2.2.2.2.1 (by decide) ?_
      obtain ⟨h39, e40, hf⟩ := bd1_e hf
      refine g_put (pc := 57) (ci := 8) (kk := 23) ty_M tyok_M nm_M dd_M_next_47.2.2.2.2.2.2.1 rfl in_M (by decide) wd_961 rfl (fun _ => rfl) (fun _ => rfl) (fun _ z => by cases z) e40 ?_
      refine g_goto (pc := 60) 274 dd_M_next_47.2.2.2.2.2.2.2.1 (by decide) ?_
      obtain rfl := ret1 hf
      exact g_vret (pc := 274) rfl dd_M_next_237.2.2.2.2.2.2.2.2.2.2.2.2.2.2.2.2.2.2.2.2
  · replace hf := (if_pos c46).symm.trans hf
    refine g_aload_n (pc := 21) 0 dd_M_next_0.2.2.2.2.2.2.2.2.2.2.1 rfl rfl ?_
    refine g_dup (pc := 22) dd_M_next_0.2.2.2.2.2.2.2.2.2.2.2.1 rfl ?_
    obtain ⟨x42, e43, hf⟩ := bd1_e hf
    refine g_get (pc := 23) (ci := 8) (kk := 21) dd_M_next_0.2.2.2.2.2.2.2.2.2.2.2.2.1 rfl in_M (by decide) wd_959 (gI_spec e43) ?_
    refine g_iconst (pc := 26) (1 : Int32) dd_M_next_0.2.2.2.2.2.2.2.2.2.2.2.2.2.1 (by decide) ?_
    refine g_iadd (pc := 27) dd_M_next_0.2.2.2.2.2.2.2.2.2.2.2.2.2.2.1 ?_
    obtain ⟨h44, e45, hf⟩ := bd1_e hf
    refine g_put (pc := 28) (ci := 8) (kk := 21) ty_M tyok_M nm_M dd_M_next_0.2.2.2.2.2.2.2.2.2.2.2.2.2.2.2.1 rfl in_M (by decide) wd_959 rfl (fun _ => rfl) (fun _ => rfl) (fun _ z => by cases z) e45 ?_
    refine g_goto (pc := 31) 8 dd_M_next_0.2.2.2.2.2.2.2.2.2.2.2.2.2.2.2.2.1 (by decide) ?_
    refine g_lv [0] rfl ?_
    exact hrec8 _ _ _  hf
def f_M_next_8  : Nat → Nat → mH → Option mH
  | 0 => fun _ _ => none
  | n + 1 => f_M_next_8b  (f_M_next_8  n)
theorem t_M_next_8 {sc : Nat × (Nat → Int32)}  : ∀ (n : Nat) (b0 : Nat) (h : mH) (h' : mH) (hf : f_M_next_8  n b0 h = some h'), G sc y_M_next prog_10_method_13_code 2 none 1 25 8 [(0, .ref b0)] [] h none h'
  | 0, _, _, _, hf => by cases hf
  | n + 1, _, _, _, hf => t_M_next_8b  (f_M_next_8  n) (t_M_next_8  n) _ _ _ hf
def f_M_next_0  (a0 : Nat) (h : mH) : Option mH :=
  bd1 (gI h a0 8 25) fun x1 =>
  if x1 ≤ 0 then
    f_M_next_8  FU a0 h
  else
    some h
set_option maxRecDepth 20000 in
theorem t_M_next_0 {sc : Nat × (Nat → Int32)}  (a0 : Nat) (h : mH) (h' : mH) (hf : f_M_next_0  a0 h = some h') : G sc y_M_next prog_10_method_13_code 2 none 1 25 0 [(0, .ref a0)] [] h none h' := by
  unfold f_M_next_0 at hf
  refine g_aload_n (pc := 0) 0 dd_M_next_0.1 rfl rfl ?_
  obtain ⟨x1, e2, hf⟩ := bd1_e hf
  refine g_get (pc := 1) (ci := 8) (kk := 25) dd_M_next_0.2.1 rfl in_M (by decide) wd_963 (gI_spec e2) ?_
  refine g_ifle (pc := 4) 8 dd_M_next_0.2.2.1 (by decide) (fun c3 => ?_) (fun c3 => ?_)
  · replace hf := (if_pos c3).symm.trans hf
    refine g_lv [0] rfl ?_
    exact t_M_next_8  FU _ _ _  hf
  · replace hf := (if_neg c3).symm.trans hf
    obtain rfl := ret1 hf
    exact g_vret (pc := 7) rfl dd_M_next_0.2.2.2.1
def f_M_next (a0 : Nat) (h : mH) : Option mH := f_M_next_0 a0 h
theorem c_M_next {sc : Nat × (Nat → Int32)} {a0 : Nat} {h : mH} {h' : mH} (hf : f_M_next a0 h = some h') : MM sc y_M_next prog_10_method_13_code 2 none 1 25 [.ref a0] h none h' :=
  mm_of_G si_pn_M (Nat.le_of_ble_eq_true rfl) (t_M_next_0 _ _ _ hf)
/-! M is (IIII)Z -/
set_option maxRecDepth 100000 in
theorem dd_M_is_0 : (decode prog_10_method_11_code 0 = .ok (.aload_n 0, 1)) ∧ (decode prog_10_method_11_code 1 = .ok (.getfield 130, 3)) ∧ (decode prog_10_method_11_code 4 = .ok (.aload_n 0, 1)) ∧ (decode prog_10_method_11_code 5 = .ok (.getfield 124, 3)) ∧ (decode prog_10_method_11_code 8 = .ok (.isub, 1)) ∧ (decode prog_10_method_11_code 9 = .ok (.iload_n 1, 1)) ∧ (decode prog_10_method_11_code 10 = .ok (.if_icmp .ne 48, 3)) ∧ (decode prog_10_method_11_code 13 = .ok (.aload_n 0, 1)) ∧ (decode prog_10_method_11_code 14 = .ok (.aload_n 0, 1)) ∧ (decode prog_10_method_11_code 15 = .ok (.getfield 124, 3)) ∧ (decode prog_10_method_11_code 18 = .ok (.invokevirtual 133, 3)) ∧ (decode prog_10_method_11_code 21 = .ok (.iload_n 2, 1)) ∧ (decode prog_10_method_11_code 22 = .ok (.if_icmp .ne 36, 3)) ∧ (decode prog_10_method_11_code 25 = .ok (.aload_n 0, 1)) ∧ (decode prog_10_method_11_code 26 = .ok (.aload_n 0, 1)) ∧ (decode prog_10_method_11_code 27 = .ok (.getfield 124, 3)) ∧ (decode prog_10_method_11_code 30 = .ok (.iconst 1, 1)) ∧ (decode prog_10_method_11_code 31 = .ok (.iadd, 1)) ∧ (decode prog_10_method_11_code 32 = .ok (.invokevirtual 133, 3)) ∧ (decode prog_10_method_11_code 35 = .ok (.iload_n 3, 1)) ∧ (decode prog_10_method_11_code 36 = .ok (.if_icmp .ne 22, 3)) ∧ (decode prog_10_method_11_code 39 = .ok (.aload_n 0, 1)) ∧ (decode prog_10_method_11_code 40 = .ok (.aload_n 0, 1)) ∧ (decode prog_10_method_11_code 41 = .ok (.getfield 124, 3)) := by
  have h : List.drop 0 prog_10_method_11_code.data.toList = 0x2a :: _ := rfl
  refine ⟨zq_k_n 42 h rfl (zq_o_42 _), ?_⟩
  replace h := zq_nx1 (q := 1) h rfl
  refine ⟨zq_k_u2 180 (fun z => .getfield z) 130 h rfl (zq_o_180 _) (by decide +kernel), ?_⟩
  replace h := zq_nx3 (q := 4) h rfl
  refine ⟨zq_k_n 42 h rfl (zq_o_42 _), ?_⟩
  replace h := zq_nx1 (q := 5) h rfl
  refine ⟨zq_k_u2 180 (fun z => .getfield z) 124 h rfl (zq_o_180 _) (by decide +kernel), ?_⟩
  replace h := zq_nx3 (q := 8) h rfl
  refine ⟨zq_k_n 100 h rfl (zq_o_100 _), ?_⟩
  replace h := zq_nx1 (q := 9) h rfl
  refine ⟨zq_k_n 27 h rfl (zq_o_27 _), ?_⟩
  replace h := zq_nx1 (q := 10) h rfl
  refine ⟨zq_k_s2 160 (fun z => .if_icmp .ne z) 48 h rfl (zq_o_160 _) (by decide +kernel), ?_⟩
  replace h := zq_nx3 (q := 13) h rfl
  refine ⟨zq_k_n 42 h rfl (zq_o_42 _), ?_⟩
  replace h := zq_nx1 (q := 14) h rfl
  refine ⟨zq_k_n 42 h rfl (zq_o_42 _), ?_⟩
  replace h := zq_nx1 (q := 15) h rfl
  refine ⟨zq_k_u2 180 (fun z => .getfield z) 124 h rfl (zq_o_180 _) (by decide +kernel), ?_⟩
  replace h := zq_nx3 (q := 18) h rfl
  refine ⟨zq_k_u2 182 (fun z => .invokevirtual z) 133 h rfl (zq_o_182 _) (by decide +kernel), ?_⟩
  replace h := zq_nx3 (q := 21) h rfl
  refine ⟨zq_k_n 28 h rfl (zq_o_28 _), ?_⟩
  replace h := zq_nx1 (q := 22) h rfl
  refine ⟨zq_k_s2 160 (fun z => .if_icmp .ne z) 36 h rfl (zq_o_160 _) (by decide +kernel), ?_⟩
  replace h := zq_nx3 (q := 25) h rfl
  refine ⟨zq_k_n 42 h rfl (zq_o_42 _), ?_⟩
  replace h := zq_nx1 (q := 26) h rfl
  refine ⟨zq_k_n 42 h rfl (zq_o_42 _), ?_⟩
  replace h := zq_nx1 (q := 27) h rfl
  refine ⟨zq_k_u2 180 (fun z => .getfield z) 124 h rfl (zq_o_180 _) (by decide +kernel), ?_⟩
  replace h := zq_nx3 (q := 30) h rfl
  refine ⟨zq_k_n 4 h rfl (zq_o_4 _), ?_⟩
  replace h := zq_nx1 (q := 31) h rfl
  refine ⟨zq_k_n 96 h rfl (zq_o_96 _), ?_⟩
  replace h := zq_nx1 (q := 32) h rfl
  refine ⟨zq_k_u2 182 (fun z => .invokevirtual z) 133 h rfl (zq_o_182 _) (by decide +kernel), ?_⟩
  replace h := zq_nx3 (q := 35) h rfl
  refine ⟨zq_k_n 29 h rfl (zq_o_29 _), ?_⟩
  replace h := zq_nx1 (q := 36) h rfl
  refine ⟨zq_k_s2 160 (fun z => .if_icmp .ne z) 22 h rfl (zq_o_160 _) (by decide +kernel), ?_⟩
  replace h := zq_nx3 (q := 39) h rfl
  refine ⟨zq_k_n 42 h rfl (zq_o_42 _), ?_⟩
  replace h := zq_nx1 (q := 40) h rfl
  refine ⟨zq_k_n 42 h rfl (zq_o_42 _), ?_⟩
  replace h := zq_nx1 (q := 41) h rfl
  exact zq_k_u2 180 (fun z => .getfield z) 124 h rfl (zq_o_180 _) (by decide +kernel)
set_option maxRecDepth 100000 in
theorem dd_M_is_44 : (decode prog_10_method_11_code 44 = .ok (.iconst 2, 1)) ∧ (decode prog_10_method_11_code 45 = .ok (.iadd, 1)) ∧ (decode prog_10_method_11_code 46 = .ok (.invokevirtual 133, 3)) ∧ (decode prog_10_method_11_code 49 = .ok (.iload 4, 2)) ∧ (decode prog_10_method_11_code 51 = .ok (.if_icmp .ne 7, 3)) ∧ (decode prog_10_method_11_code 54 = .ok (.iconst 1, 1)) ∧ (decode prog_10_method_11_code 55 = .ok (.goto 4, 3)) ∧ (decode prog_10_method_11_code 58 = .ok (.iconst 0, 1)) ∧ (decode prog_10_method_11_code 59 = .ok (.ireturn, 1)) := by
  have h : List.drop 44 prog_10_method_11_code.data.toList = 0x05 :: _ := rfl
  refine ⟨zq_k_n 5 h rfl (zq_o_5 _), ?_⟩
  replace h := zq_nx1 (q := 45) h rfl
  refine ⟨zq_k_n 96 h rfl (zq_o_96 _), ?_⟩
  replace h := zq_nx1 (q := 46) h rfl
  refine ⟨zq_k_u2 182 (fun z => .invokevirtual z) 133 h rfl (zq_o_182 _) (by decide +kernel), ?_⟩
  replace h := zq_nx3 (q := 49) h rfl
  refine ⟨zq_k_u1 21 (fun z => .iload z) 4 h rfl (zq_o_21 _) (by decide +kernel), ?_⟩
  replace h := zq_nx2 (q := 51) h rfl
  refine ⟨zq_k_s2 160 (fun z => .if_icmp .ne z) 7 h rfl (zq_o_160 _) (by decide +kernel), ?_⟩
  replace h := zq_nx3 (q := 54) h rfl
  refine ⟨zq_k_n 4 h rfl (zq_o_4 _), ?_⟩
  replace h := zq_nx1 (q := 55) h rfl
  refine ⟨zq_k_s2 167 (fun z => .goto z) 4 h rfl (zq_o_167 _) (by decide +kernel), ?_⟩
  replace h := zq_nx3 (q := 58) h rfl
  refine ⟨zq_k_n 3 h rfl (zq_o_3 _), ?_⟩
  replace h := zq_nx1 (q := 59) h rfl
  exact zq_k_n 172 h rfl (zq_o_172 _)
def f_M_is_58   (h : mH) : Option (Int32 × mH) :=
  some ((0 : Int32), h)
set_option maxRecDepth 20000 in
theorem t_M_is_58 {sc : Nat × (Nat → Int32)}   (h : mH) (r : Int32) (h' : mH) (hf : f_M_is_58   h = some (r, h')) : G sc y_M_is prog_10_method_11_code 5 (some .boolean) 1 21 58 [] [] h (some (.int r)) h' := by
  unfold f_M_is_58 at hf
  refine g_iconst (pc := 58) (0 : Int32) dd_M_is_44.2.2.2.2.2.2.2.1 (by decide) ?_
  obtain ⟨rfl, rfl⟩ := ret2 hf
  exact g_zret (pc := 59) rfl rfl dd_M_is_44.2.2.2.2.2.2.2.2
def f_M_is_0  (a0 : Nat) (a1 : Int32) (a2 : Int32) (a3 : Int32) (a4 : Int32) (h : mH) : Option (Int32 × mH) :=
  bd1 (gI h a0 8 21) fun x1 =>
  bd1 (gI h a0 8 22) fun x3 =>
  if (x1 - x3) = a1 then
    bd1 (gI h a0 8 22) fun x5 =>
    bd1 (kC h a0 8) fun _ =>
    bd2 (f_M_look a0 x5 h) fun x11 h9 =>
    if x11 = a2 then
      bd1 (gI h9 a0 8 22) fun x12 =>
      bd1 (kC h9 a0 8) fun _ =>
      bd2 (f_M_look a0 (x12 + (1 : Int32)) h9) fun x18 h16 =>
      if x18 = a3 then
        bd1 (gI h16 a0 8 22) fun x19 =>
        bd1 (kC h16 a0 8) fun _ =>
        bd2 (f_M_look a0 (x19 + (2 : Int32)) h16) fun x25 h23 =>
        if x25 = a4 then
          some ((1 : Int32), h23)
        else
          f_M_is_58  h23
      else
        f_M_is_58  h16
    else
      f_M_is_58  h9
  else
    f_M_is_58  h
set_option maxRecDepth 20000 in
theorem t_M_is_0 {sc : Nat × (Nat → Int32)}  (a0 : Nat) (a1 : Int32) (a2 : Int32) (a3 : Int32) (a4 : Int32) (h : mH) (r : Int32) (h' : mH) (hf : f_M_is_0  a0 a1 a2 a3 a4 h = some (r, h')) : G sc y_M_is prog_10_method_11_code 5 (some .boolean) 1 21 0 [(0, .ref a0), (1, .int a1), (2, .int a2), (3, .int a3), (4, .int a4)] [] h (some (.int r)) h' := by
  unfold f_M_is_0 at hf
  refine g_aload_n (pc := 0) 0 dd_M_is_0.1 rfl rfl ?_
  obtain ⟨x1, e2, hf⟩ := bd1_e hf
  refine g_get (pc := 1) (ci := 8) (kk := 21) dd_M_is_0.2.1 rfl in_M (by decide) wd_959 (gI_spec e2) ?_
  refine g_aload_n (pc := 4) 0 dd_M_is_0.2.2.1 rfl rfl ?_
  obtain ⟨x3, e4, hf⟩ := bd1_e hf
  refine g_get (pc := 5) (ci := 8) (kk := 22) dd_M_is_0.2.2.2.1 rfl in_M (by decide) wd_960 (gI_spec e4) ?_
  refine g_isub (pc := 8) dd_M_is_0.2.2.2.2.1 ?_
  refine g_iload_n (pc := 9) 1 dd_M_is_0.2.2.2.2.2.1 rfl rfl ?_
  refine g_icmpne (pc := 10) 58 dd_M_is_0.2.2.2.2.2.2.1 (by decide) (fun c29 => ?_) (fun c29 => ?_)
  · replace hf := (if_neg c29).symm.trans hf
    refine g_lv [] rfl ?_
    exact t_M_is_58  _ _ _  hf
  · replace hf := (if_pos c29).symm.trans hf
    refine g_aload_n (pc := 13) 0 dd_M_is_0.2.2.2.2.2.2.2.1 rfl rfl ?_
    refine g_aload_n (pc := 14) 0 dd_M_is_0.2.2.2.2.2.2.2.2.1 rfl rfl ?_
    obtain ⟨x5, e6, hf⟩ := bd1_e hf
    refine g_get (pc := 15) (ci := 8) (kk := 22) dd_M_is_0.2.2.2.2.2.2.2.2.2.1 rfl in_M (by decide) wd_960 (gI_spec e6) ?_
    obtain ⟨u8, e7, hf⟩ := bd1_e hf
    obtain ⟨x11, h9, e10, hf⟩ := bd2_e hf
    refine g_callV (pc := 18) (ci := 8) [.int x5] (site_of si_M_look (by decide) (by decide)) wd_1076 wd_1078 wp_33 dd_M_is_0.2.2.2.2.2.2.2.2.2.2.1 rfl e7 (Nat.le_of_ble_eq_true rfl) (fun z => absurd z si_na_M_look) (fun z => absurd z si_na_M_look) (fun z => absurd z si_na_M_look) (c_M_look e10) rfl ?_
    refine g_st [.int x11] rfl ?_
    refine g_iload_n (pc := 21) 2 dd_M_is_0.2.2.2.2.2.2.2.2.2.2.2.1 rfl rfl ?_
    refine g_icmpne (pc := 22) 58 dd_M_is_0.2.2.2.2.2.2.2.2.2.2.2.2.1 (by decide) (fun c28 => ?_) (fun c28 => ?_)
    · replace hf := (if_neg c28).symm.trans hf
      refine g_lv [] rfl ?_
      exact t_M_is_58  _ _ _  hf
    · replace hf := (if_pos c28).symm.trans hf
      refine g_aload_n (pc := 25) 0 dd_M_is_0.2.2.2.2.2.2.2.2.2.2.2.2.2.1 rfl rfl ?_
      refine g_aload_n (pc := 26) 0 dd_M_is_0.2.2.2.2.2.2.2.2.2.2.2.2.2.2.1 rfl rfl ?_
      obtain ⟨x12, e13, hf⟩ := bd1_e hf
      refine g_get (pc := 27) (ci := 8) (kk := 22) dd_M_is_0.2.2.2.2.2.2.2.2.2.2.2.2.2.2.2.1 rfl in_M (by decide) wd_960 (gI_spec e13) ?_
      refine g_iconst (pc := 30) (1 : Int32) dd_M_is_0.2.2.2.2.2.2.2.2.2.2.2.2.2.2.2.2.1 (by decide) ?_
      refine g_iadd (pc := 31) dd_M_is_0.2.2.2.2.2.2.2.2.2.2.2.2.2.2.2.2.2.1 ?_
      obtain ⟨u15, e14, hf⟩ := bd1_e hf
      obtain ⟨x18, h16, e17, hf⟩ := bd2_e hf
      refine g_callV (pc := 32) (ci := 8) [.int (x12 + (1 : Int32))] (site_of si_M_look (by decide) (by decide)) wd_1076 wd_1078 wp_33 dd_M_is_0.2.2.2.2.2.2.2.2.2.2.2.2.2.2.2.2.2.2.1 rfl e14 (Nat.le_of_ble_eq_true rfl) (fun z => absurd z si_na_M_look) (fun z => absurd z si_na_M_look) (fun z => absurd z si_na_M_look) (c_M_look e17) rfl ?_
      refine g_st [.int x18] rfl ?_
      refine g_iload_n (pc := 35) 3 dd_M_is_0.2.2.2.2.2.2.2.2.2.2.2.2.2.2.2.2.2.2.2.1 rfl rfl ?_
      refine g_icmpne (pc := 36) 58 dd_M_is_0.2.2.2.2.2.2.2.2.2.2.2.2.2.2.2.2.2.2.2.2.1 (by decide) (fun c27 => ?_) (fun c27 => ?_)
      · replace hf := (if_neg c27).symm.trans hf
        refine g_lv [] rfl ?_
        exact t_M_is_58  _ _ _  hf
      · replace hf := (if_pos c27).symm.trans hf
        refine g_aload_n (pc := 39) 0 dd_M_is_0.2.2.2.2.2.2.2.2.2.2.2.2.2.2.2.2.2.2.2.2.2.1 rfl rfl ?_
        refine g_aload_n (pc := 40) 0 dd_M_is_0.2.2.2.2.2.2.2.2.2.2.2.2.2.2.2.2.2.2.2.2.2.2.1 rfl rfl ?_
        obtain ⟨x19, e20, hf⟩ := bd1_e hf
        refine g_get (pc := 41) (ci := 8) (kk := 22) dd_M_is_0.2.2.2.2.2.2.2.2.2.2.2.2.2.2.2.2.2.2.2.2.2.2.2 rfl in_M (by decide) wd_960 (gI_spec e20) ?_
        refine g_iconst (pc := 44) (2 : Int32) dd_M_is_44.1 (by decide) ?_
        refine g_iadd (pc := 45) dd_M_is_44.2.1 ?_
        obtain ⟨u22, e21, hf⟩ := bd1_e hf
        obtain ⟨x25, h23, e24, hf⟩ := bd2_e hf
        refine g_callV (pc := 46) (ci := 8) [.int (x19 + (2 : Int32))] (site_of si_M_look (by decide) (by decide)) wd_1076 wd_1078 wp_33 dd_M_is_44.2.2.1 rfl e21 (Nat.le_of_ble_eq_true rfl) (fun z => absurd z si_na_M_look) (fun z => absurd z si_na_M_look) (fun z => absurd z si_na_M_look) (c_M_look e24) rfl ?_
        refine g_st [.int x25] rfl ?_
        refine g_iload (pc := 49) 4 dd_M_is_44.2.2.2.1 rfl ?_
        refine g_icmpne (pc := 51) 58 dd_M_is_44.2.2.2.2.1 (by decide) (fun c26 => ?_) (fun c26 => ?_)
        · replace hf := (if_neg c26).symm.trans hf
          refine g_lv [] rfl ?_
          exact t_M_is_58  _ _ _  hf
        · replace hf := (if_pos c26).symm.trans hf
          refine g_iconst (pc := 54) (1 : Int32) dd_M_is_44.2.2.2.2.2.1 (by decide) ?_
          refine g_goto (pc := 55) 59 dd_M_is_44.2.2.2.2.2.2.1 (by decide) ?_
          obtain ⟨rfl, rfl⟩ := ret2 hf
          exact g_zret (pc := 59) rfl rfl dd_M_is_44.2.2.2.2.2.2.2.2
def f_M_is (a0 : Nat) (a1 : Int32) (a2 : Int32) (a3 : Int32) (a4 : Int32) (h : mH) : Option (Int32 × mH) := f_M_is_0 a0 a1 a2 a3 a4 h
theorem c_M_is {sc : Nat × (Nat → Int32)} {a0 : Nat} {a1 : Int32} {a2 : Int32} {a3 : Int32} {a4 : Int32} {h : mH} {r : Int32} {h' : mH} (hf : f_M_is a0 a1 a2 a3 a4 h = some (r, h')) : MM sc y_M_is prog_10_method_11_code 5 (some .boolean) 1 21 [.ref a0, .int a1, .int a2, .int a3, .int a4] h (some (.int r)) h' :=
  mm_of_G si_pn_M (Nat.le_of_ble_eq_true rfl) (t_M_is_0 _ _ _ _ _ _ _ _ hf)
/-! M lineNow ()I -/
set_option maxRecDepth 100000 in
theorem dd_M_lineNow_0 : (decode prog_10_method_12_code 0 = .ok (.aload_n 0, 1)) ∧ (decode prog_10_method_12_code 1 = .ok (.iconst 3, 1)) ∧ (decode prog_10_method_12_code 2 = .ok (.bipush 108, 2)) ∧ (decode prog_10_method_12_code 4 = .ok (.bipush 97, 2)) ∧ (decode prog_10_method_12_code 6 = .ok (.bipush 119, 2)) ∧ (decode prog_10_method_12_code 8 = .ok (.invokevirtual 137, 3)) ∧ (decode prog_10_method_12_code 11 = .ok (.ifCond .eq 5, 3)) ∧ (decode prog_10_method_12_code 14 = .ok (.iconst 0, 1)) ∧ (decode prog_10_method_12_code 15 = .ok (.ireturn, 1)) ∧ (decode prog_10_method_12_code 16 = .ok (.aload_n 0, 1)) ∧ (decode prog_10_method_12_code 17 = .ok (.iconst 3, 1)) ∧ (decode prog_10_method_12_code 18 = .ok (.bipush 111, 2)) ∧ (decode prog_10_method_12_code 20 = .ok (.bipush 110, 2)) ∧ (decode prog_10_method_12_code 22 = .ok (.bipush 101, 2)) ∧ (decode prog_10_method_12_code 24 = .ok (.invokevirtual 137, 3)) ∧ (decode prog_10_method_12_code 27 = .ok (.ifCond .eq 5, 3)) ∧ (decode prog_10_method_12_code 30 = .ok (.iconst 1, 1)) ∧ (decode prog_10_method_12_code 31 = .ok (.ireturn, 1)) ∧ (decode prog_10_method_12_code 32 = .ok (.aload_n 0, 1)) ∧ (decode prog_10_method_12_code 33 = .ok (.iconst 4, 1)) ∧ (decode prog_10_method_12_code 34 = .ok (.bipush 119, 2)) ∧ (decode prog_10_method_12_code 36 = .ok (.bipush 97, 2)) ∧ (decode prog_10_method_12_code 38 = .ok (.bipush 110, 2)) ∧ (decode prog_10_method_12_code 40 = .ok (.invokevirtual 137, 3)) := by
  have h : List.drop 0 prog_10_method_12_code.data.toList = 0x2a :: _ := rfl
  refine ⟨zq_k_n 42 h rfl (zq_o_42 _), ?_⟩
  replace h := zq_nx1 (q := 1) h rfl
  refine ⟨zq_k_n 6 h rfl (zq_o_6 _), ?_⟩
  replace h := zq_nx1 (q := 2) h rfl
  refine ⟨zq_k_s1 16 (fun z => .bipush z) 108 h rfl (zq_o_16 _) (by decide +kernel), ?_⟩
  replace h := zq_nx2 (q := 4) h rfl
  refine ⟨zq_k_s1 16 (fun z => .bipush z) 97 h rfl (zq_o_16 _) (by decide +kernel), ?_⟩
  replace h := zq_nx2 (q := 6) h rfl
  refine ⟨zq_k_s1 16 (fun z => .bipush z) 119 h rfl (zq_o_16 _) (by decide +kernel), ?_⟩
  replace h := zq_nx2 (q := 8) h rfl
  refine ⟨zq_k_u2 182 (fun z => .invokevirtual z) 137 h rfl (zq_o_182 _) (by decide +kernel), ?_⟩
  replace h := zq_nx3 (q := 11) h rfl
  refine ⟨zq_k_s2 153 (fun z => .ifCond .eq z) 5 h rfl (zq_o_153 _) (by decide +kernel), ?_⟩
  replace h := zq_nx3 (q := 14) h rfl
  refine ⟨zq_k_n 3 h rfl (zq_o_3 _), ?_⟩
  replace h := zq_nx1 (q := 15) h rfl
  refine ⟨zq_k_n 172 h rfl (zq_o_172 _), ?_⟩
  replace h := zq_nx1 (q := 16) h rfl
  refine ⟨zq_k_n 42 h rfl (zq_o_42 _), ?_⟩
  replace h := zq_nx1 (q := 17) h rfl
  refine ⟨zq_k_n 6 h rfl (zq_o_6 _), ?_⟩
  replace h := zq_nx1 (q := 18) h rfl
  refine ⟨zq_k_s1 16 (fun z => .bipush z) 111 h rfl (zq_o_16 _) (by decide +kernel), ?_⟩
  replace h := zq_nx2 (q := 20) h rfl
  refine ⟨zq_k_s1 16 (fun z => .bipush z) 110 h rfl (zq_o_16 _) (by decide +kernel), ?_⟩
  replace h := zq_nx2 (q := 22) h rfl
  refine ⟨zq_k_s1 16 (fun z => .bipush z) 101 h rfl (zq_o_16 _) (by decide +kernel), ?_⟩
  replace h := zq_nx2 (q := 24) h rfl
  refine ⟨zq_k_u2 182 (fun z => .invokevirtual z) 137 h rfl (zq_o_182 _) (by decide +kernel), ?_⟩
  replace h := zq_nx3 (q := 27) h rfl
  refine ⟨zq_k_s2 153 (fun z => .ifCond .eq z) 5 h rfl (zq_o_153 _) (by decide +kernel), ?_⟩
  replace h := zq_nx3 (q := 30) h rfl
  refine ⟨zq_k_n 4 h rfl (zq_o_4 _), ?_⟩
  replace h := zq_nx1 (q := 31) h rfl
  refine ⟨zq_k_n 172 h rfl (zq_o_172 _), ?_⟩
  replace h := zq_nx1 (q := 32) h rfl
  refine ⟨zq_k_n 42 h rfl (zq_o_42 _), ?_⟩
  replace h := zq_nx1 (q := 33) h rfl
  refine ⟨zq_k_n 7 h rfl (zq_o_7 _), ?_⟩
  replace h := zq_nx1 (q := 34) h rfl
  refine ⟨zq_k_s1 16 (fun z => .bipush z) 119 h rfl (zq_o_16 _) (by decide +kernel), ?_⟩
  replace h := zq_nx2 (q := 36) h rfl
  refine ⟨zq_k_s1 16 (fun z => .bipush z) 97 h rfl (zq_o_16 _) (by decide +kernel), ?_⟩
  replace h := zq_nx2 (q := 38) h rfl
  refine ⟨zq_k_s1 16 (fun z => .bipush z) 110 h rfl (zq_o_16 _) (by decide +kernel), ?_⟩
  replace h := zq_nx2 (q := 40) h rfl
  exact zq_k_u2 182 (fun z => .invokevirtual z) 137 h rfl (zq_o_182 _) (by decide +kernel)
set_option maxRecDepth 100000 in
theorem dd_M_lineNow_43 : (decode prog_10_method_12_code 43 = .ok (.ifCond .eq 20, 3)) ∧ (decode prog_10_method_12_code 46 = .ok (.aload_n 0, 1)) ∧ (decode prog_10_method_12_code 47 = .ok (.aload_n 0, 1)) ∧ (decode prog_10_method_12_code 48 = .ok (.getfield 124, 3)) ∧ (decode prog_10_method_12_code 51 = .ok (.iconst 3, 1)) ∧ (decode prog_10_method_12_code 52 = .ok (.iadd, 1)) ∧ (decode prog_10_method_12_code 53 = .ok (.invokevirtual 133, 3)) ∧ (decode prog_10_method_12_code 56 = .ok (.bipush 116, 2)) ∧ (decode prog_10_method_12_code 58 = .ok (.if_icmp .ne 5, 3)) ∧ (decode prog_10_method_12_code 61 = .ok (.iconst 2, 1)) ∧ (decode prog_10_method_12_code 62 = .ok (.ireturn, 1)) ∧ (decode prog_10_method_12_code 63 = .ok (.aload_n 0, 1)) ∧ (decode prog_10_method_12_code 64 = .ok (.iconst 5, 1)) ∧ (decode prog_10_method_12_code 65 = .ok (.bipush 119, 2)) ∧ (decode prog_10_method_12_code 67 = .ok (.bipush 97, 2)) ∧ (decode prog_10_method_12_code 69 = .ok (.bipush 116, 2)) ∧ (decode prog_10_method_12_code 71 = .ok (.invokevirtual 137, 3)) ∧ (decode prog_10_method_12_code 74 = .ok (.ifCond .eq 37, 3)) ∧ (decode prog_10_method_12_code 77 = .ok (.aload_n 0, 1)) ∧ (decode prog_10_method_12_code 78 = .ok (.aload_n 0, 1)) ∧ (decode prog_10_method_12_code 79 = .ok (.getfield 124, 3)) ∧ (decode prog_10_method_12_code 82 = .ok (.iconst 3, 1)) ∧ (decode prog_10_method_12_code 83 = .ok (.iadd, 1)) ∧ (decode prog_10_method_12_code 84 = .ok (.invokevirtual 133, 3)) := by
  have h : List.drop 43 prog_10_method_12_code.data.toList = 0x99 :: _ := rfl
  refine ⟨zq_k_s2 153 (fun z => .ifCond .eq z) 20 h rfl (zq_o_153 _) (by decide +kernel), ?_⟩
  replace h := zq_nx3 (q := 46) h rfl
  refine ⟨zq_k_n 42 h rfl (zq_o_42 _), ?_⟩
  replace h := zq_nx1 (q := 47) h rfl
  refine ⟨zq_k_n 42 h rfl (zq_o_42 _), ?_⟩
  replace h := zq_nx1 (q := 48) h rfl
  refine ⟨zq_k_u2 180 (fun z => .getfield z) 124 h rfl (zq_o_180 _) (by decide +kernel), ?_⟩
  replace h := zq_nx3 (q := 51) h rfl
  refine ⟨zq_k_n 6 h rfl (zq_o_6 _), ?_⟩
  replace h := zq_nx1 (q := 52) h rfl
  refine ⟨zq_k_n 96 h rfl (zq_o_96 _), ?_⟩
  replace h := zq_nx1 (q := 53) h rfl
  refine ⟨zq_k_u2 182 (fun z => .invokevirtual z) 133 h rfl (zq_o_182 _) (by decide +kernel), ?_⟩
  replace h := zq_nx3 (q := 56) h rfl
  refine ⟨zq_k_s1 16 (fun z => .bipush z) 116 h rfl (zq_o_16 _) (by decide +kernel), ?_⟩
  replace h := zq_nx2 (q := 58) h rfl
  refine ⟨zq_k_s2 160 (fun z => .if_icmp .ne z) 5 h rfl (zq_o_160 _) (by decide +kernel), ?_⟩
  replace h := zq_nx3 (q := 61) h rfl
  refine ⟨zq_k_n 5 h rfl (zq_o_5 _), ?_⟩
  replace h := zq_nx1 (q := 62) h rfl
  refine ⟨zq_k_n 172 h rfl (zq_o_172 _), ?_⟩
  replace h := zq_nx1 (q := 63) h rfl
  refine ⟨zq_k_n 42 h rfl (zq_o_42 _), ?_⟩
  replace h := zq_nx1 (q := 64) h rfl
  refine ⟨zq_k_n 8 h rfl (zq_o_8 _), ?_⟩
  replace h := zq_nx1 (q := 65) h rfl
  refine ⟨zq_k_s1 16 (fun z => .bipush z) 119 h rfl (zq_o_16 _) (by decide +kernel), ?_⟩
  replace h := zq_nx2 (q := 67) h rfl
  refine ⟨zq_k_s1 16 (fun z => .bipush z) 97 h rfl (zq_o_16 _) (by decide +kernel), ?_⟩
  replace h := zq_nx2 (q := 69) h rfl
  refine ⟨zq_k_s1 16 (fun z => .bipush z) 116 h rfl (zq_o_16 _) (by decide +kernel), ?_⟩
  replace h := zq_nx2 (q := 71) h rfl
  refine ⟨zq_k_u2 182 (fun z => .invokevirtual z) 137 h rfl (zq_o_182 _) (by decide +kernel), ?_⟩
  replace h := zq_nx3 (q := 74) h rfl
  refine ⟨zq_k_s2 153 (fun z => .ifCond .eq z) 37 h rfl (zq_o_153 _) (by decide +kernel), ?_⟩
  replace h := zq_nx3 (q := 77) h rfl
  refine ⟨zq_k_n 42 h rfl (zq_o_42 _), ?_⟩
  replace h := zq_nx1 (q := 78) h rfl
  refine ⟨zq_k_n 42 h rfl (zq_o_42 _), ?_⟩
  replace h := zq_nx1 (q := 79) h rfl
  refine ⟨zq_k_u2 180 (fun z => .getfield z) 124 h rfl (zq_o_180 _) (by decide +kernel), ?_⟩
  replace h := zq_nx3 (q := 82) h rfl
  refine ⟨zq_k_n 6 h rfl (zq_o_6 _), ?_⟩
  replace h := zq_nx1 (q := 83) h rfl
  refine ⟨zq_k_n 96 h rfl (zq_o_96 _), ?_⟩
  replace h := zq_nx1 (q := 84) h rfl
  exact zq_k_u2 182 (fun z => .invokevirtual z) 133 h rfl (zq_o_182 _) (by decide +kernel)
set_option maxRecDepth 100000 in
theorem dd_M_lineNow_87 : (decode prog_10_method_12_code 87 = .ok (.bipush 99, 2)) ∧ (decode prog_10_method_12_code 89 = .ok (.if_icmp .ne 22, 3)) ∧ (decode prog_10_method_12_code 92 = .ok (.aload_n 0, 1)) ∧ (decode prog_10_method_12_code 93 = .ok (.aload_n 0, 1)) ∧ (decode prog_10_method_12_code 94 = .ok (.getfield 124, 3)) ∧ (decode prog_10_method_12_code 97 = .ok (.iconst 4, 1)) ∧ (decode prog_10_method_12_code 98 = .ok (.iadd, 1)) ∧ (decode prog_10_method_12_code 99 = .ok (.invokevirtual 133, 3)) ∧ (decode prog_10_method_12_code 102 = .ok (.bipush 104, 2)) ∧ (decode prog_10_method_12_code 104 = .ok (.if_icmp .ne 7, 3)) ∧ (decode prog_10_method_12_code 107 = .ok (.iconst 3, 1)) ∧ (decode prog_10_method_12_code 108 = .ok (.goto 5, 3)) ∧ (decode prog_10_method_12_code 111 = .ok (.bipush (-4), 2)) ∧ (decode prog_10_method_12_code 113 = .ok (.ireturn, 1)) := by
  have h : List.drop 87 prog_10_method_12_code.data.toList = 0x10 :: _ := rfl
  refine ⟨zq_k_s1 16 (fun z => .bipush z) 99 h rfl (zq_o_16 _) (by decide +kernel), ?_⟩
  replace h := zq_nx2 (q := 89) h rfl
  refine ⟨zq_k_s2 160 (fun z => .if_icmp .ne z) 22 h rfl (zq_o_160 _) (by decide +kernel), ?_⟩
  replace h := zq_nx3 (q := 92) h rfl
  refine ⟨zq_k_n 42 h rfl (zq_o_42 _), ?_⟩
  replace h := zq_nx1 (q := 93) h rfl
  refine ⟨zq_k_n 42 h rfl (zq_o_42 _), ?_⟩
  replace h := zq_nx1 (q := 94) h rfl
  refine ⟨zq_k_u2 180 (fun z => .getfield z) 124 h rfl (zq_o_180 _) (by decide +kernel), ?_⟩
  replace h := zq_nx3 (q := 97) h rfl
  refine ⟨zq_k_n 7 h rfl (zq_o_7 _), ?_⟩
  replace h := zq_nx1 (q := 98) h rfl
  refine ⟨zq_k_n 96 h rfl (zq_o_96 _), ?_⟩
  replace h := zq_nx1 (q := 99) h rfl
  refine ⟨zq_k_u2 182 (fun z => .invokevirtual z) 133 h rfl (zq_o_182 _) (by decide +kernel), ?_⟩
  replace h := zq_nx3 (q := 102) h rfl
  refine ⟨zq_k_s1 16 (fun z => .bipush z) 104 h rfl (zq_o_16 _) (by decide +kernel), ?_⟩
  replace h := zq_nx2 (q := 104) h rfl
  refine ⟨zq_k_s2 160 (fun z => .if_icmp .ne z) 7 h rfl (zq_o_160 _) (by decide +kernel), ?_⟩
  replace h := zq_nx3 (q := 107) h rfl
  refine ⟨zq_k_n 6 h rfl (zq_o_6 _), ?_⟩
  replace h := zq_nx1 (q := 108) h rfl
  refine ⟨zq_k_s2 167 (fun z => .goto z) 5 h rfl (zq_o_167 _) (by decide +kernel), ?_⟩
  replace h := zq_nx3 (q := 111) h rfl
  refine ⟨zq_k_s1 16 (fun z => .bipush z) (-4) h rfl (zq_o_16 _) (by decide +kernel), ?_⟩
  replace h := zq_nx2 (q := 113) h rfl
  exact zq_k_n 172 h rfl (zq_o_172 _)
def f_M_lineNow_111   (h : mH) : Option (Int32 × mH) :=
  some (((-4) : Int32), h)
set_option maxRecDepth 20000 in
theorem t_M_lineNow_111 {sc : Nat × (Nat → Int32)}   (h : mH) (r : Int32) (h' : mH) (hf : f_M_lineNow_111   h = some (r, h')) : G sc y_M_lineNow prog_10_method_12_code 1 (some .int) 2 45 111 [] [] h (some (.int r)) h' := by
  unfold f_M_lineNow_111 at hf
  refine g_bipush (pc := 111) ((-4) : Int32) dd_M_lineNow_87.2.2.2.2.2.2.2.2.2.2.2.2.1 (by decide) ?_
  obtain ⟨rfl, rfl⟩ := ret2 hf
  exact g_iret (pc := 113) rfl dd_M_lineNow_87.2.2.2.2.2.2.2.2.2.2.2.2.2
def f_M_lineNow_63  (b0 : Nat) (h : mH) : Option (Int32 × mH) :=
  bd1 (kC h b0 8) fun _ =>
  bd2 (f_M_is b0 (5 : Int32) (119 : Int32) (97 : Int32) (116 : Int32) h) fun x31 h29 =>
  if x31 = 0 then
    f_M_lineNow_111  h29
  else
    bd1 (gI h29 b0 8 22) fun x32 =>
    bd1 (kC h29 b0 8) fun _ =>
    bd2 (f_M_look b0 (x32 + (3 : Int32)) h29) fun x38 h36 =>
    if x38 = (99 : Int32) then
      bd1 (gI h36 b0 8 22) fun x39 =>
      bd1 (kC h36 b0 8) fun _ =>
      bd2 (f_M_look b0 (x39 + (4 : Int32)) h36) fun x45 h43 =>
      if x45 = (104 : Int32) then
        some ((3 : Int32), h43)
      else
        f_M_lineNow_111  h43
    else
      f_M_lineNow_111  h36
set_option maxRecDepth 20000 in
theorem t_M_lineNow_63 {sc : Nat × (Nat → Int32)}  (b0 : Nat) (h : mH) (r : Int32) (h' : mH) (hf : f_M_lineNow_63  b0 h = some (r, h')) : G sc y_M_lineNow prog_10_method_12_code 1 (some .int) 2 45 63 [(0, .ref b0)] [] h (some (.int r)) h' := by
  unfold f_M_lineNow_63 at hf
  refine g_aload_n (pc := 63) 0 dd_M_lineNow_43.2.2.2.2.2.2.2.2.2.2.2.1 rfl rfl ?_
  refine g_iconst (pc := 64) (5 : Int32) dd_M_lineNow_43.2.2.2.2.2.2.2.2.2.2.2.2.1 (by decide) ?_
  refine g_bipush (pc := 65) (119 : Int32) dd_M_lineNow_43.2.2.2.2.2.2.2.2.2.2.2.2.2.1 (by decide) ?_
  refine g_bipush (pc := 67) (97 : Int32) dd_M_lineNow_43.2.2.2.2.2.2.2.2.2.2.2.2.2.2.1 (by decide) ?_
  refine g_bipush (pc := 69) (116 : Int32) dd_M_lineNow_43.2.2.2.2.2.2.2.2.2.2.2.2.2.2.2.1 (by decide) ?_
  obtain ⟨u28, e27, hf⟩ := bd1_e hf
  obtain ⟨x31, h29, e30, hf⟩ := bd2_e hf
  refine g_callV (pc := 71) (ci := 8) [.int (5 : Int32), .int (119 : Int32), .int (97 : Int32), .int (116 : Int32)] (site_of si_M_is (by decide) (by decide)) wd_1096 wd_1098 wp_37 dd_M_lineNow_43.2.2.2.2.2.2.2.2.2.2.2.2.2.2.2.2.1 rfl e27 (Nat.le_of_ble_eq_true rfl) (fun z => absurd z si_na_M_is) (fun z => absurd z si_na_M_is) (fun z => absurd z si_na_M_is) (c_M_is e30) rfl ?_
  refine g_st [.int x31] rfl ?_
  refine g_ifeq (pc := 74) 111 dd_M_lineNow_43.2.2.2.2.2.2.2.2.2.2.2.2.2.2.2.2.2.1 (by decide) (fun c48 => ?_) (fun c48 => ?_)
  · replace hf := (if_pos c48).symm.trans hf
    refine g_lv [] rfl ?_
    exact t_M_lineNow_111  _ _ _  hf
  · replace hf := (if_neg c48).symm.trans hf
    refine g_aload_n (pc := 77) 0 dd_M_lineNow_43.2.2.2.2.2.2.2.2.2.2.2.2.2.2.2.2.2.2.1 rfl rfl ?_
    refine g_aload_n (pc := 78) 0 dd_M_lineNow_43.2.2.2.2.2.2.2.2.2.2.2.2.2.2.2.2.2.2.2.1 rfl rfl ?_
    obtain ⟨x32, e33, hf⟩ := bd1_e hf
    refine g_get (pc := 79) (ci := 8) (kk := 22) dd_M_lineNow_43.2.2.2.2.2.2.2.2.2.2.2.2.2.2.2.2.2.2.2.2.1 rfl in_M (by decide) wd_960 (gI_spec e33) ?_
    refine g_iconst (pc := 82) (3 : Int32) dd_M_lineNow_43.2.2.2.2.2.2.2.2.2.2.2.2.2.2.2.2.2.2.2.2.2.1 (by decide) ?_
    refine g_iadd (pc := 83) dd_M_lineNow_43.2.2.2.2.2.2.2.2.2.2.2.2.2.2.2.2.2.2.2.2.2.2.1 ?_
    obtain ⟨u35, e34, hf⟩ := bd1_e hf
    obtain ⟨x38, h36, e37, hf⟩ := bd2_e hf
    refine g_callV (pc := 84) (ci := 8) [.int (x32 + (3 : Int32))] (site_of si_M_look (by decide) (by decide)) wd_1076 wd_1078 wp_33 dd_M_lineNow_43.2.2.2.2.2.2.2.2.2.2.2.2.2.2.2.2.2.2.2.2.2.2.2 rfl e34 (Nat.le_of_ble_eq_true rfl) (fun z => absurd z si_na_M_look) (fun z => absurd z si_na_M_look) (fun z => absurd z si_na_M_look) (c_M_look e37) rfl ?_
    refine g_st [.int x38] rfl ?_
    refine g_bipush (pc := 87) (99 : Int32) dd_M_lineNow_87.1 (by decide) ?_
    refine g_icmpne (pc := 89) 111 dd_M_lineNow_87.2.1 (by decide) (fun c47 => ?_) (fun c47 => ?_)
    · replace hf := (if_neg c47).symm.trans hf
      refine g_lv [] rfl ?_
      exact t_M_lineNow_111  _ _ _  hf
    · replace hf := (if_pos c47).symm.trans hf
      refine g_aload_n (pc := 92) 0 dd_M_lineNow_87.2.2.1 rfl rfl ?_
      refine g_aload_n (pc := 93) 0 dd_M_lineNow_87.2.2.2.1 rfl rfl ?_
      obtain ⟨x39, e40, hf⟩ := bd1_e hf
      refine g_get (pc := 94) (ci := 8) (kk := 22) dd_M_lineNow_87.2.2.2.2.1 rfl in_M (by decide) wd_960 (gI_spec e40) ?_
      refine g_iconst (pc := 97) (4 : Int32) dd_M_lineNow_87.2.2.2.2.2.1 (by decide) ?_
      refine g_iadd (pc := 98) dd_M_lineNow_87.2.2.2.2.2.2.1 ?_
      obtain ⟨u42, e41, hf⟩ := bd1_e hf
      obtain ⟨x45, h43, e44, hf⟩ := bd2_e hf
      refine g_callV (pc := 99) (ci := 8) [.int (x39 + (4 : Int32))] (site_of si_M_look (by decide) (by decide)) wd_1076 wd_1078 wp_33 dd_M_lineNow_87.2.2.2.2.2.2.2.1 rfl e41 (Nat.le_of_ble_eq_true rfl) (fun z => absurd z si_na_M_look) (fun z => absurd z si_na_M_look) (fun z => absurd z si_na_M_look) (c_M_look e44) rfl ?_
      refine g_st [.int x45] rfl ?_
      refine g_bipush (pc := 102) (104 : Int32) dd_M_lineNow_87.2.2.2.2.2.2.2.2.1 (by decide) ?_
      refine g_icmpne (pc := 104) 111 dd_M_lineNow_87.2.2.2.2.2.2.2.2.2.1 (by decide) (fun c46 => ?_) (fun c46 => ?_)
      · replace hf := (if_neg c46).symm.trans hf
        refine g_lv [] rfl ?_
        exact t_M_lineNow_111  _ _ _  hf
      · replace hf := (if_pos c46).symm.trans hf
        refine g_iconst (pc := 107) (3 : Int32) dd_M_lineNow_87.2.2.2.2.2.2.2.2.2.2.1 (by decide) ?_
        refine g_goto (pc := 108) 113 dd_M_lineNow_87.2.2.2.2.2.2.2.2.2.2.2.1 (by decide) ?_
        obtain ⟨rfl, rfl⟩ := ret2 hf
        exact g_iret (pc := 113) rfl dd_M_lineNow_87.2.2.2.2.2.2.2.2.2.2.2.2.2
def f_M_lineNow_0  (a0 : Nat) (h : mH) : Option (Int32 × mH) :=
  bd1 (kC h a0 8) fun _ =>
  bd2 (f_M_is a0 (3 : Int32) (108 : Int32) (97 : Int32) (119 : Int32) h) fun x5 h3 =>
  if x5 = 0 then
    bd1 (kC h3 a0 8) fun _ =>
    bd2 (f_M_is a0 (3 : Int32) (111 : Int32) (110 : Int32) (101 : Int32) h3) fun x10 h8 =>
    if x10 = 0 then
      bd1 (kC h8 a0 8) fun _ =>
      bd2 (f_M_is a0 (4 : Int32) (119 : Int32) (97 : Int32) (110 : Int32) h8) fun x15 h13 =>
      if x15 = 0 then
        f_M_lineNow_63  a0 h13
      else
        bd1 (gI h13 a0 8 22) fun x16 =>
        bd1 (kC h13 a0 8) fun _ =>
        bd2 (f_M_look a0 (x16 + (3 : Int32)) h13) fun x22 h20 =>
        if x22 = (116 : Int32) then
          some ((2 : Int32), h20)
        else
          f_M_lineNow_63  a0 h20
    else
      some ((1 : Int32), h8)
  else
    some ((0 : Int32), h3)
set_option maxRecDepth 20000 in
theorem t_M_lineNow_0 {sc : Nat × (Nat → Int32)}  (a0 : Nat) (h : mH) (r : Int32) (h' : mH) (hf : f_M_lineNow_0  a0 h = some (r, h')) : G sc y_M_lineNow prog_10_method_12_code 1 (some .int) 2 45 0 [(0, .ref a0)] [] h (some (.int r)) h' := by
  unfold f_M_lineNow_0 at hf
  refine g_aload_n (pc := 0) 0 dd_M_lineNow_0.1 rfl rfl ?_
  refine g_iconst (pc := 1) (3 : Int32) dd_M_lineNow_0.2.1 (by decide) ?_
  refine g_bipush (pc := 2) (108 : Int32) dd_M_lineNow_0.2.2.1 (by decide) ?_
  refine g_bipush (pc := 4) (97 : Int32) dd_M_lineNow_0.2.2.2.1 (by decide) ?_
  refine g_bipush (pc := 6) (119 : Int32) dd_M_lineNow_0.2.2.2.2.1 (by decide) ?_
  obtain ⟨u2, e1, hf⟩ := bd1_e hf
  obtain ⟨x5, h3, e4, hf⟩ := bd2_e hf
  refine g_callV (pc := 8) (ci := 8) [.int (3 : Int32), .int (108 : Int32), .int (97 : Int32), .int (119 : Int32)] (site_of si_M_is (by decide) (by decide)) wd_1096 wd_1098 wp_37 dd_M_lineNow_0.2.2.2.2.2.1 rfl e1 (Nat.le_of_ble_eq_true rfl) (fun z => absurd z si_na_M_is) (fun z => absurd z si_na_M_is) (fun z => absurd z si_na_M_is) (c_M_is e4) rfl ?_
  refine g_st [.int x5] rfl ?_
  refine g_ifeq (pc := 11) 16 dd_M_lineNow_0.2.2.2.2.2.2.1 (by decide) (fun c26 => ?_) (fun c26 => ?_)
  · replace hf := (if_pos c26).symm.trans hf
    refine g_aload_n (pc := 16) 0 dd_M_lineNow_0.2.2.2.2.2.2.2.2.2.1 rfl rfl ?_
    refine g_iconst (pc := 17) (3 : Int32) dd_M_lineNow_0.2.2.2.2.2.2.2.2.2.2.1 (by decide) ?_
    refine g_bipush (pc := 18) (111 : Int32) dd_M_lineNow_0.2.2.2.2.2.2.2.2.2.2.2.1 (by decide) ?_
    refine g_bipush (pc := 20) (110 : Int32) dd_M_lineNow_0.2.2.2.2.2.2.2.2.2.2.2.2.1 (by decide) ?_
    refine g_bipush (pc := 22) (101 : Int32) dd_M_lineNow_0.2.2.2.2.2.2.2.2.2.2.2.2.2.1 (by decide) ?_
    obtain ⟨u7, e6, hf⟩ := bd1_e hf
    obtain ⟨x10, h8, e9, hf⟩ := bd2_e hf
    refine g_callV (pc := 24) (ci := 8) [.int (3 : Int32), .int (111 : Int32), .int (110 : Int32), .int (101 : Int32)] (site_of si_M_is (by decide) (by decide)) wd_1096 wd_1098 wp_37 dd_M_lineNow_0.2.2.2.2.2.2.2.2.2.2.2.2.2.2.1 rfl e6 (Nat.le_of_ble_eq_true rfl) (fun z => absurd z si_na_M_is) (fun z => absurd z si_na_M_is) (fun z => absurd z si_na_M_is) (c_M_is e9) rfl ?_
    refine g_st [.int x10] rfl ?_
    refine g_ifeq (pc := 27) 32 dd_M_lineNow_0.2.2.2.2.2.2.2.2.2.2.2.2.2.2.2.1 (by decide) (fun c25 => ?_) (fun c25 => ?_)
    · replace hf := (if_pos c25).symm.trans hf
      refine g_aload_n (pc := 32) 0 dd_M_lineNow_0.2.2.2.2.2.2.2.2.2.2.2.2.2.2.2.2.2.2.1 rfl rfl ?_
      refine g_iconst (pc := 33) (4 : Int32) dd_M_lineNow_0.2.2.2.2.2.2.2.2.2.2.2.2.2.2.2.2.2.2.2.1 (by decide) ?_
      refine g_bipush (pc := 34) (119 : Int32) dd_M_lineNow_0.2.2.2.2.2.2.2.2.2.2.2.2.2.2.2.2.2.2.2.2.1 (by decide) ?_
      refine g_bipush (pc := 36) (97 : Int32) dd_M_lineNow_0.2.2.2.2.2.2.2.2.2.2.2.2.2.2.2.2.2.2.2.2.2.1 (by decide) ?_
      refine g_bipush (pc := 38) (110 : Int32) dd_M_lineNow_0.2.2.2.2.2.2.2.2.2.2.2.2.2.2.2.2.2.2.2.2.2.2.1 (by decide) ?_
      obtain ⟨u12, e11, hf⟩ := bd1_e hf
      obtain ⟨x15, h13, e14, hf⟩ := bd2_e hf
      refine g_callV (pc := 40) (ci := 8) [.int (4 : Int32), .int (119 : Int32), .int (97 : Int32), .int (110 : Int32)] (site_of si_M_is (by decide) (by decide)) wd_1096 wd_1098 wp_37 dd_M_lineNow_0.2.2.2.2.2.2.2.2.2.2.2.2.2.2.2.2.2.2.2.2.2.2.2 rfl e11 (Nat.le_of_ble_eq_true rfl) (fun z => absurd z si_na_M_is) (fun z => absurd z si_na_M_is) (fun z => absurd z si_na_M_is) (c_M_is e14) rfl ?_
      refine g_st [.int x15] rfl ?_
      refine g_ifeq (pc := 43) 63 dd_M_lineNow_43.1 (by decide) (fun c24 => ?_) (fun c24 => ?_)
      · replace hf := (if_pos c24).symm.trans hf
        refine g_lv [0] rfl ?_
        exact t_M_lineNow_63  _ _ _ _  hf
      · replace hf := (if_neg c24).symm.trans hf
        refine g_aload_n (pc := 46) 0 dd_M_lineNow_43.2.1 rfl rfl ?_
        refine g_aload_n (pc := 47) 0 dd_M_lineNow_43.2.2.1 rfl rfl ?_
        obtain ⟨x16, e17, hf⟩ := bd1_e hf
        refine g_get (pc := 48) (ci := 8) (kk := 22) dd_M_lineNow_43.2.2.2.1 rfl in_M (by decide) wd_960 (gI_spec e17) ?_
        refine g_iconst (pc := 51) (3 : Int32) dd_M_lineNow_43.2.2.2.2.1 (by decide) ?_
        refine g_iadd (pc := 52) dd_M_lineNow_43.2.2.2.2.2.1 ?_
        obtain ⟨u19, e18, hf⟩ := bd1_e hf
        obtain ⟨x22, h20, e21, hf⟩ := bd2_e hf
        refine g_callV (pc := 53) (ci := 8) [.int (x16 + (3 : Int32))] (site_of si_M_look (by decide) (by decide)) wd_1076 wd_1078 wp_33 dd_M_lineNow_43.2.2.2.2.2.2.1 rfl e18 (Nat.le_of_ble_eq_true rfl) (fun z => absurd z si_na_M_look) (fun z => absurd z si_na_M_look) (fun z => absurd z si_na_M_look) (c_M_look e21) rfl ?_
        refine g_st [.int x22] rfl ?_
        refine g_bipush (pc := 56) (116 : Int32) dd_M_lineNow_43.2.2.2.2.2.2.2.1 (by decide) ?_
        refine g_icmpne (pc := 58) 63 dd_M_lineNow_43.2.2.2.2.2.2.2.2.1 (by decide) (fun c23 => ?_) (fun c23 => ?_)
        · replace hf := (if_neg c23).symm.trans hf
          refine g_lv [0] rfl ?_
          exact t_M_lineNow_63  _ _ _ _  hf
        · replace hf := (if_pos c23).symm.trans hf
          refine g_iconst (pc := 61) (2 : Int32) dd_M_lineNow_43.2.2.2.2.2.2.2.2.2.1 (by decide) ?_
          obtain ⟨rfl, rfl⟩ := ret2 hf
          exact g_iret (pc := 62) rfl dd_M_lineNow_43.2.2.2.2.2.2.2.2.2.2.1
    · replace hf := (if_neg c25).symm.trans hf
      refine g_iconst (pc := 30) (1 : Int32) dd_M_lineNow_0.2.2.2.2.2.2.2.2.2.2.2.2.2.2.2.2.1 (by decide) ?_
      obtain ⟨rfl, rfl⟩ := ret2 hf
      exact g_iret (pc := 31) rfl dd_M_lineNow_0.2.2.2.2.2.2.2.2.2.2.2.2.2.2.2.2.2.1
  · replace hf := (if_neg c26).symm.trans hf
    refine g_iconst (pc := 14) (0 : Int32) dd_M_lineNow_0.2.2.2.2.2.2.2.1 (by decide) ?_
    obtain ⟨rfl, rfl⟩ := ret2 hf
    exact g_iret (pc := 15) rfl dd_M_lineNow_0.2.2.2.2.2.2.2.2.1
def f_M_lineNow (a0 : Nat) (h : mH) : Option (Int32 × mH) := f_M_lineNow_0 a0 h
theorem c_M_lineNow {sc : Nat × (Nat → Int32)} {a0 : Nat} {h : mH} {r : Int32} {h' : mH} (hf : f_M_lineNow a0 h = some (r, h')) : MM sc y_M_lineNow prog_10_method_12_code 1 (some .int) 2 45 [.ref a0] h (some (.int r)) h' :=
  mm_of_G si_pn_M (Nat.le_of_ble_eq_true rfl) (t_M_lineNow_0 _ _ _ _ hf)
/-! M looked (II)I -/
set_option maxRecDepth 100000 in
theorem dd_M_looked_0 : (decode prog_10_method_14_code 0 = .ok (.aload_n 0, 1)) ∧ (decode prog_10_method_14_code 1 = .ok (.getfield 121, 3)) ∧ (decode prog_10_method_14_code 4 = .ok (.ifCond .ne 21, 3)) ∧ (decode prog_10_method_14_code 7 = .ok (.aload_n 0, 1)) ∧ (decode prog_10_method_14_code 8 = .ok (.aload_n 0, 1)) ∧ (decode prog_10_method_14_code 9 = .ok (.getfield 141, 3)) ∧ (decode prog_10_method_14_code 12 = .ok (.iconst 2, 1)) ∧ (decode prog_10_method_14_code 13 = .ok (.if_icmp .ne 7, 3)) ∧ (decode prog_10_method_14_code 16 = .ok (.iconst 1, 1)) ∧ (decode prog_10_method_14_code 17 = .ok (.goto 4, 3)) ∧ (decode prog_10_method_14_code 20 = .ok (.iconst 0, 1)) ∧ (decode prog_10_method_14_code 21 = .ok (.iconst 2, 1)) ∧ (decode prog_10_method_14_code 22 = .ok (.invokevirtual 155, 3)) ∧ (decode prog_10_method_14_code 25 = .ok (.aload_n 0, 1)) ∧ (decode prog_10_method_14_code 26 = .ok (.getfield 121, 3)) ∧ (decode prog_10_method_14_code 29 = .ok (.ifCond .ne 20, 3)) ∧ (decode prog_10_method_14_code 32 = .ok (.aload_n 0, 1)) ∧ (decode prog_10_method_14_code 33 = .ok (.aload_n 0, 1)) ∧ (decode prog_10_method_14_code 34 = .ok (.getfield 152, 3)) ∧ (decode prog_10_method_14_code 37 = .ok (.i2l, 1)) ∧ (decode prog_10_method_14_code 38 = .ok (.iload_n 1, 1)) ∧ (decode prog_10_method_14_code 39 = .ok (.i2l, 1)) ∧ (decode prog_10_method_14_code 40 = .ok (.iload_n 2, 1)) ∧ (decode prog_10_method_14_code 41 = .ok (.i2l, 1)) := by
  have h : List.drop 0 prog_10_method_14_code.data.toList = 0x2a :: _ := rfl
  refine ⟨zq_k_n 42 h rfl (zq_o_42 _), ?_⟩
  replace h := zq_nx1 (q := 1) h rfl
  refine ⟨zq_k_u2 180 (fun z => .getfield z) 121 h rfl (zq_o_180 _) (by decide +kernel), ?_⟩
  replace h := zq_nx3 (q := 4) h rfl
  refine ⟨zq_k_s2 154 (fun z => .ifCond .ne z) 21 h rfl (zq_o_154 _) (by decide +kernel), ?_⟩
  replace h := zq_nx3 (q := 7) h rfl
  refine ⟨zq_k_n 42 h rfl (zq_o_42 _), ?_⟩
  replace h := zq_nx1 (q := 8) h rfl
  refine ⟨zq_k_n 42 h rfl (zq_o_42 _), ?_⟩
  replace h := zq_nx1 (q := 9) h rfl
  refine ⟨zq_k_u2 180 (fun z => .getfield z) 141 h rfl (zq_o_180 _) (by decide +kernel), ?_⟩
  replace h := zq_nx3 (q := 12) h rfl
  refine ⟨zq_k_n 5 h rfl (zq_o_5 _), ?_⟩
  replace h := zq_nx1 (q := 13) h rfl
  refine ⟨zq_k_s2 160 (fun z => .if_icmp .ne z) 7 h rfl (zq_o_160 _) (by decide +kernel), ?_⟩
  replace h := zq_nx3 (q := 16) h rfl
  refine ⟨zq_k_n 4 h rfl (zq_o_4 _), ?_⟩
  replace h := zq_nx1 (q := 17) h rfl
  refine ⟨zq_k_s2 167 (fun z => .goto z) 4 h rfl (zq_o_167 _) (by decide +kernel), ?_⟩
  replace h := zq_nx3 (q := 20) h rfl
  refine ⟨zq_k_n 3 h rfl (zq_o_3 _), ?_⟩
  replace h := zq_nx1 (q := 21) h rfl
  refine ⟨zq_k_n 5 h rfl (zq_o_5 _), ?_⟩
  replace h := zq_nx1 (q := 22) h rfl
  refine ⟨zq_k_u2 182 (fun z => .invokevirtual z) 155 h rfl (zq_o_182 _) (by decide +kernel), ?_⟩
  replace h := zq_nx3 (q := 25) h rfl
  refine ⟨zq_k_n 42 h rfl (zq_o_42 _), ?_⟩
  replace h := zq_nx1 (q := 26) h rfl
  refine ⟨zq_k_u2 180 (fun z => .getfield z) 121 h rfl (zq_o_180 _) (by decide +kernel), ?_⟩
  replace h := zq_nx3 (q := 29) h rfl
  refine ⟨zq_k_s2 154 (fun z => .ifCond .ne z) 20 h rfl (zq_o_154 _) (by decide +kernel), ?_⟩
  replace h := zq_nx3 (q := 32) h rfl
  refine ⟨zq_k_n 42 h rfl (zq_o_42 _), ?_⟩
  replace h := zq_nx1 (q := 33) h rfl
  refine ⟨zq_k_n 42 h rfl (zq_o_42 _), ?_⟩
  replace h := zq_nx1 (q := 34) h rfl
  refine ⟨zq_k_u2 180 (fun z => .getfield z) 152 h rfl (zq_o_180 _) (by decide +kernel), ?_⟩
  replace h := zq_nx3 (q := 37) h rfl
  refine ⟨zq_k_n 133 h rfl (zq_o_133 _), ?_⟩
  replace h := zq_nx1 (q := 38) h rfl
  refine ⟨zq_k_n 27 h rfl (zq_o_27 _), ?_⟩
  replace h := zq_nx1 (q := 39) h rfl
  refine ⟨zq_k_n 133 h rfl (zq_o_133 _), ?_⟩
  replace h := zq_nx1 (q := 40) h rfl
  refine ⟨zq_k_n 28 h rfl (zq_o_28 _), ?_⟩
  replace h := zq_nx1 (q := 41) h rfl
  exact zq_k_n 133 h rfl (zq_o_133 _)
set_option maxRecDepth 100000 in
theorem dd_M_looked_42 : (decode prog_10_method_14_code 42 = .ok (.invokestatic 114, 3)) ∧ (decode prog_10_method_14_code 45 = .ok (.iconst 3, 1)) ∧ (decode prog_10_method_14_code 46 = .ok (.invokevirtual 155, 3)) ∧ (decode prog_10_method_14_code 49 = .ok (.aload_n 0, 1)) ∧ (decode prog_10_method_14_code 50 = .ok (.getfield 121, 3)) ∧ (decode prog_10_method_14_code 53 = .ok (.ifCond .ne 10, 3)) ∧ (decode prog_10_method_14_code 56 = .ok (.aload_n 0, 1)) ∧ (decode prog_10_method_14_code 57 = .ok (.getfield 152, 3)) ∧ (decode prog_10_method_14_code 60 = .ok (.goto 4, 3)) ∧ (decode prog_10_method_14_code 63 = .ok (.iconst 0, 1)) ∧ (decode prog_10_method_14_code 64 = .ok (.ireturn, 1)) := by
  have h : List.drop 42 prog_10_method_14_code.data.toList = 0xb8 :: _ := rfl
  refine ⟨zq_k_u2 184 (fun z => .invokestatic z) 114 h rfl (zq_o_184 _) (by decide +kernel), ?_⟩
  replace h := zq_nx3 (q := 45) h rfl
  refine ⟨zq_k_n 6 h rfl (zq_o_6 _), ?_⟩
  replace h := zq_nx1 (q := 46) h rfl
  refine ⟨zq_k_u2 182 (fun z => .invokevirtual z) 155 h rfl (zq_o_182 _) (by decide +kernel), ?_⟩
  replace h := zq_nx3 (q := 49) h rfl
  refine ⟨zq_k_n 42 h rfl (zq_o_42 _), ?_⟩
  replace h := zq_nx1 (q := 50) h rfl
  refine ⟨zq_k_u2 180 (fun z => .getfield z) 121 h rfl (zq_o_180 _) (by decide +kernel), ?_⟩
  replace h := zq_nx3 (q := 53) h rfl
  refine ⟨zq_k_s2 154 (fun z => .ifCond .ne z) 10 h rfl (zq_o_154 _) (by decide +kernel), ?_⟩
  replace h := zq_nx3 (q := 56) h rfl
  refine ⟨zq_k_n 42 h rfl (zq_o_42 _), ?_⟩
  replace h := zq_nx1 (q := 57) h rfl
  refine ⟨zq_k_u2 180 (fun z => .getfield z) 152 h rfl (zq_o_180 _) (by decide +kernel), ?_⟩
  replace h := zq_nx3 (q := 60) h rfl
  refine ⟨zq_k_s2 167 (fun z => .goto z) 4 h rfl (zq_o_167 _) (by decide +kernel), ?_⟩
  replace h := zq_nx3 (q := 63) h rfl
  refine ⟨zq_k_n 3 h rfl (zq_o_3 _), ?_⟩
  replace h := zq_nx1 (q := 64) h rfl
  exact zq_k_n 172 h rfl (zq_o_172 _)
def f_M_looked_49  (b0 : Nat) (h : mH) : Option (Int32 × mH) :=
  bd1 (gI h b0 8 25) fun x23 =>
  if x23 = 0 then
    bd1 (gI h b0 8 24) fun x25 =>
    some (x25, h)
  else
    some ((0 : Int32), h)
set_option maxRecDepth 20000 in
theorem t_M_looked_49 {sc : Nat × (Nat → Int32)}  (b0 : Nat) (h : mH) (r : Int32) (h' : mH) (hf : f_M_looked_49  b0 h = some (r, h')) : G sc y_M_looked prog_10_method_14_code 3 (some .int) 1 25 49 [(0, .ref b0)] [] h (some (.int r)) h' := by
  unfold f_M_looked_49 at hf
  refine g_aload_n (pc := 49) 0 dd_M_looked_42.2.2.2.1 rfl rfl ?_
  obtain ⟨x23, e24, hf⟩ := bd1_e hf
  refine g_get (pc := 50) (ci := 8) (kk := 25) dd_M_looked_42.2.2.2.2.1 rfl in_M (by decide) wd_963 (gI_spec e24) ?_
  refine g_ifne (pc := 53) 63 dd_M_looked_42.2.2.2.2.2.1 (by decide) (fun c27 => ?_) (fun c27 => ?_)
  · replace hf := (if_neg c27).symm.trans hf
    refine g_iconst (pc := 63) (0 : Int32) dd_M_looked_42.2.2.2.2.2.2.2.2.2.1 (by decide) ?_
    obtain ⟨rfl, rfl⟩ := ret2 hf
    exact g_iret (pc := 64) rfl dd_M_looked_42.2.2.2.2.2.2.2.2.2.2
  · replace hf := (if_pos c27).symm.trans hf
    refine g_aload_n (pc := 56) 0 dd_M_looked_42.2.2.2.2.2.2.1 rfl rfl ?_
    obtain ⟨x25, e26, hf⟩ := bd1_e hf
    refine g_get (pc := 57) (ci := 8) (kk := 24) dd_M_looked_42.2.2.2.2.2.2.2.1 rfl in_M (by decide) wd_962 (gI_spec e26) ?_
    refine g_goto (pc := 60) 64 dd_M_looked_42.2.2.2.2.2.2.2.2.1 (by decide) ?_
    obtain ⟨rfl, rfl⟩ := ret2 hf
    exact g_iret (pc := 64) rfl dd_M_looked_42.2.2.2.2.2.2.2.2.2.2
def f_M_looked_25  (b0 : Nat) (b1 : Int32) (b2 : Int32) (h : mH) : Option (Int32 × mH) :=
  bd1 (gI h b0 8 25) fun x11 =>
  if x11 = 0 then
    bd1 (gI h b0 8 24) fun x13 =>
    bd2 (f_M_in x13.toInt64 b1.toInt64 b2.toInt64 h) fun x17 h15 =>
    bd1 (kC h15 b0 8) fun _ =>
    bd1 (f_M_needs b0 x17 (3 : Int32) h15) fun h20 =>
    f_M_looked_49  b0 h20
  else
    f_M_looked_49  b0 h
set_option maxRecDepth 20000 in
theorem t_M_looked_25 {sc : Nat × (Nat → Int32)}  (b0 : Nat) (b1 : Int32) (b2 : Int32) (h : mH) (r : Int32) (h' : mH) (hf : f_M_looked_25  b0 b1 b2 h = some (r, h')) : G sc y_M_looked prog_10_method_14_code 3 (some .int) 1 25 25 [(0, .ref b0), (1, .int b1), (2, .int b2)] [] h (some (.int r)) h' := by
  unfold f_M_looked_25 at hf
  refine g_aload_n (pc := 25) 0 dd_M_looked_0.2.2.2.2.2.2.2.2.2.2.2.2.2.1 rfl rfl ?_
  obtain ⟨x11, e12, hf⟩ := bd1_e hf
  refine g_get (pc := 26) (ci := 8) (kk := 25) dd_M_looked_0.2.2.2.2.2.2.2.2.2.2.2.2.2.2.1 rfl in_M (by decide) wd_963 (gI_spec e12) ?_
  refine g_ifne (pc := 29) 49 dd_M_looked_0.2.2.2.2.2.2.2.2.2.2.2.2.2.2.2.1 (by decide) (fun c22 => ?_) (fun c22 => ?_)
  · replace hf := (if_neg c22).symm.trans hf
    refine g_lv [0] rfl ?_
    exact t_M_looked_49  _ _ _ _  hf
  · replace hf := (if_pos c22).symm.trans hf
    refine g_aload_n (pc := 32) 0 dd_M_looked_0.2.2.2.2.2.2.2.2.2.2.2.2.2.2.2.2.1 rfl rfl ?_
    refine g_aload_n (pc := 33) 0 dd_M_looked_0.2.2.2.2.2.2.2.2.2.2.2.2.2.2.2.2.2.1 rfl rfl ?_
    obtain ⟨x13, e14, hf⟩ := bd1_e hf
    refine g_get (pc := 34) (ci := 8) (kk := 24) dd_M_looked_0.2.2.2.2.2.2.2.2.2.2.2.2.2.2.2.2.2.2.1 rfl in_M (by decide) wd_962 (gI_spec e14) ?_
    refine g_i2l (pc := 37) dd_M_looked_0.2.2.2.2.2.2.2.2.2.2.2.2.2.2.2.2.2.2.2.1 ?_
    refine g_iload_n (pc := 38) 1 dd_M_looked_0.2.2.2.2.2.2.2.2.2.2.2.2.2.2.2.2.2.2.2.2.1 rfl rfl ?_
    refine g_i2l (pc := 39) dd_M_looked_0.2.2.2.2.2.2.2.2.2.2.2.2.2.2.2.2.2.2.2.2.2.1 ?_
    refine g_iload_n (pc := 40) 2 dd_M_looked_0.2.2.2.2.2.2.2.2.2.2.2.2.2.2.2.2.2.2.2.2.2.2.1 rfl rfl ?_
    refine g_i2l (pc := 41) dd_M_looked_0.2.2.2.2.2.2.2.2.2.2.2.2.2.2.2.2.2.2.2.2.2.2.2 ?_
    obtain ⟨x17, h15, e16, hf⟩ := bd2_e hf
    refine g_callS (pc := 42) [.long x13.toInt64, .long b1.toInt64, .long b2.toInt64] (site_of si_M_in (by decide) (by decide)) wd_1061 wd_1062 dd_M_looked_42.1 (Nat.le_of_ble_eq_true rfl) (fun z => absurd z si_na_M_in) (fun z => absurd z si_na_M_in) (fun z => absurd z si_na_M_in) (c_M_in e16) rfl ?_
    refine g_st [.int x17, .ref b0] rfl ?_
    refine g_iconst (pc := 45) (3 : Int32) dd_M_looked_42.2.1 (by decide) ?_
    obtain ⟨u19, e18, hf⟩ := bd1_e hf
    obtain ⟨h20, e21, hf⟩ := bd1_e hf
    refine g_callV (pc := 46) (ci := 8) [.int x17, .int (3 : Int32)] (site_of si_M_needs (by decide) (by decide)) wd_1084 wd_1086 wp_34 dd_M_looked_42.2.2.1 rfl e18 (Nat.le_of_ble_eq_true rfl) (fun z => absurd z si_na_M_needs) (fun z => absurd z si_na_M_needs) (fun z => absurd z si_na_M_needs) (c_M_needs e21) rfl ?_
    refine g_st [] rfl ?_
    refine g_lv [0] rfl ?_
    exact t_M_looked_49  _ _ _ _  hf
def f_M_looked_21  (b0 : Nat) (b1 : Int32) (b2 : Int32) (s0 : Nat) (s1 : Int32) (h : mH) : Option (Int32 × mH) :=
  bd1 (kC h s0 8) fun _ =>
  bd1 (f_M_needs s0 s1 (2 : Int32) h) fun h9 =>
  f_M_looked_25  b0 b1 b2 h9
set_option maxRecDepth 20000 in
theorem t_M_looked_21 {sc : Nat × (Nat → Int32)}  (b0 : Nat) (b1 : Int32) (b2 : Int32) (s0 : Nat) (s1 : Int32) (h : mH) (r : Int32) (h' : mH) (hf : f_M_looked_21  b0 b1 b2 s0 s1 h = some (r, h')) : G sc y_M_looked prog_10_method_14_code 3 (some .int) 1 25 21 [(0, .ref b0), (1, .int b1), (2, .int b2)] [.int s1, .ref s0] h (some (.int r)) h' := by
  unfold f_M_looked_21 at hf
  refine g_iconst (pc := 21) (2 : Int32) dd_M_looked_0.2.2.2.2.2.2.2.2.2.2.2.1 (by decide) ?_
  obtain ⟨u8, e7, hf⟩ := bd1_e hf
  obtain ⟨h9, e10, hf⟩ := bd1_e hf
  refine g_callV (pc := 22) (ci := 8) [.int s1, .int (2 : Int32)] (site_of si_M_needs (by decide) (by decide)) wd_1084 wd_1086 wp_34 dd_M_looked_0.2.2.2.2.2.2.2.2.2.2.2.2.1 rfl e7 (Nat.le_of_ble_eq_true rfl) (fun z => absurd z si_na_M_needs) (fun z => absurd z si_na_M_needs) (fun z => absurd z si_na_M_needs) (c_M_needs e10) rfl ?_
  refine g_st [] rfl ?_
  refine g_lv [0, 1, 2] rfl ?_
  exact t_M_looked_25  _ _ _ _ _ _  hf
def f_M_looked_0  (a0 : Nat) (a1 : Int32) (a2 : Int32) (h : mH) : Option (Int32 × mH) :=
  bd1 (gI h a0 8 25) fun x1 =>
  if x1 = 0 then
    bd1 (gI h a0 8 23) fun x3 =>
    if x3 = (2 : Int32) then
      f_M_looked_21  a0 a1 a2 a0 (1 : Int32) h
    else
      f_M_looked_21  a0 a1 a2 a0 (0 : Int32) h
  else
    f_M_looked_25  a0 a1 a2 h
set_option maxRecDepth 20000 in
theorem t_M_looked_0 {sc : Nat × (Nat → Int32)}  (a0 : Nat) (a1 : Int32) (a2 : Int32) (h : mH) (r : Int32) (h' : mH) (hf : f_M_looked_0  a0 a1 a2 h = some (r, h')) : G sc y_M_looked prog_10_method_14_code 3 (some .int) 1 25 0 [(0, .ref a0), (1, .int a1), (2, .int a2)] [] h (some (.int r)) h' := by
  unfold f_M_looked_0 at hf
  refine g_aload_n (pc := 0) 0 dd_M_looked_0.1 rfl rfl ?_
  obtain ⟨x1, e2, hf⟩ := bd1_e hf
  refine g_get (pc := 1) (ci := 8) (kk := 25) dd_M_looked_0.2.1 rfl in_M (by decide) wd_963 (gI_spec e2) ?_
  refine g_ifne (pc := 4) 25 dd_M_looked_0.2.2.1 (by decide) (fun c6 => ?_) (fun c6 => ?_)
  · replace hf := (if_neg c6).symm.trans hf
    refine g_lv [0, 1, 2] rfl ?_
    exact t_M_looked_25  _ _ _ _ _ _  hf
  · replace hf := (if_pos c6).symm.trans hf
    refine g_aload_n (pc := 7) 0 dd_M_looked_0.2.2.2.1 rfl rfl ?_
    refine g_aload_n (pc := 8) 0 dd_M_looked_0.2.2.2.2.1 rfl rfl ?_
    obtain ⟨x3, e4, hf⟩ := bd1_e hf
    refine g_get (pc := 9) (ci := 8) (kk := 23) dd_M_looked_0.2.2.2.2.2.1 rfl in_M (by decide) wd_961 (gI_spec e4) ?_
    refine g_iconst (pc := 12) (2 : Int32) dd_M_looked_0.2.2.2.2.2.2.1 (by decide) ?_
    refine g_icmpne (pc := 13) 20 dd_M_looked_0.2.2.2.2.2.2.2.1 (by decide) (fun c5 => ?_) (fun c5 => ?_)
    · replace hf := (if_neg c5).symm.trans hf
      refine g_iconst (pc := 20) (0 : Int32) dd_M_looked_0.2.2.2.2.2.2.2.2.2.2.1 (by decide) ?_
      refine g_lv [0, 1, 2] rfl ?_
      exact t_M_looked_21  _ _ _ _ _ _ _ _  hf
    · replace hf := (if_pos c5).symm.trans hf
      refine g_iconst (pc := 16) (1 : Int32) dd_M_looked_0.2.2.2.2.2.2.2.2.1 (by decide) ?_
      refine g_goto (pc := 17) 21 dd_M_looked_0.2.2.2.2.2.2.2.2.2.1 (by decide) ?_
      refine g_lv [0, 1, 2] rfl ?_
      exact t_M_looked_21  _ _ _ _ _ _ _ _  hf
def f_M_looked (a0 : Nat) (a1 : Int32) (a2 : Int32) (h : mH) : Option (Int32 × mH) := f_M_looked_0 a0 a1 a2 h
theorem c_M_looked {sc : Nat × (Nat → Int32)} {a0 : Nat} {a1 : Int32} {a2 : Int32} {h : mH} {r : Int32} {h' : mH} (hf : f_M_looked a0 a1 a2 h = some (r, h')) : MM sc y_M_looked prog_10_method_14_code 3 (some .int) 1 25 [.ref a0, .int a1, .int a2] h (some (.int r)) h' :=
  mm_of_G si_pn_M (Nat.le_of_ble_eq_true rfl) (t_M_looked_0 _ _ _ _ _ _ hf)
/-! M readNumber (II)I -/
set_option maxRecDepth 100000 in
theorem dd_M_readNumber_0 : (decode prog_10_method_15_code 0 = .ok (.aload_n 0, 1)) ∧ (decode prog_10_method_15_code 1 = .ok (.iload_n 1, 1)) ∧ (decode prog_10_method_15_code 2 = .ok (.iload_n 2, 1)) ∧ (decode prog_10_method_15_code 3 = .ok (.invokevirtual 158, 3)) ∧ (decode prog_10_method_15_code 6 = .ok (.istore_n 3, 1)) ∧ (decode prog_10_method_15_code 7 = .ok (.aload_n 0, 1)) ∧ (decode prog_10_method_15_code 8 = .ok (.invokevirtual 162, 3)) ∧ (decode prog_10_method_15_code 11 = .ok (.iload_n 3, 1)) ∧ (decode prog_10_method_15_code 12 = .ok (.ireturn, 1)) := by
  have h : List.drop 0 prog_10_method_15_code.data.toList = 0x2a :: _ := rfl
  refine ⟨zq_k_n 42 h rfl (zq_o_42 _), ?_⟩
  replace h := zq_nx1 (q := 1) h rfl
  refine ⟨zq_k_n 27 h rfl (zq_o_27 _), ?_⟩
  replace h := zq_nx1 (q := 2) h rfl
  refine ⟨zq_k_n 28 h rfl (zq_o_28 _), ?_⟩
  replace h := zq_nx1 (q := 3) h rfl
  refine ⟨zq_k_u2 182 (fun z => .invokevirtual z) 158 h rfl (zq_o_182 _) (by decide +kernel), ?_⟩
  replace h := zq_nx3 (q := 6) h rfl
  refine ⟨zq_k_n 62 h rfl (zq_o_62 _), ?_⟩
  replace h := zq_nx1 (q := 7) h rfl
  refine ⟨zq_k_n 42 h rfl (zq_o_42 _), ?_⟩
  replace h := zq_nx1 (q := 8) h rfl
  refine ⟨zq_k_u2 182 (fun z => .invokevirtual z) 162 h rfl (zq_o_182 _) (by decide +kernel), ?_⟩
  replace h := zq_nx3 (q := 11) h rfl
  refine ⟨zq_k_n 29 h rfl (zq_o_29 _), ?_⟩
  replace h := zq_nx1 (q := 12) h rfl
  exact zq_k_n 172 h rfl (zq_o_172 _)
def f_M_readNumber_0  (a0 : Nat) (a1 : Int32) (a2 : Int32) (h : mH) : Option (Int32 × mH) :=
  bd1 (kC h a0 8) fun _ =>
  bd2 (f_M_looked a0 a1 a2 h) fun x5 h3 =>
  bd1 (kC h3 a0 8) fun _ =>
  bd1 (f_M_next a0 h3) fun h8 =>
  some (x5, h8)
set_option maxRecDepth 20000 in
theorem t_M_readNumber_0 {sc : Nat × (Nat → Int32)}  (a0 : Nat) (a1 : Int32) (a2 : Int32) (h : mH) (r : Int32) (h' : mH) (hf : f_M_readNumber_0  a0 a1 a2 h = some (r, h')) : G sc y_M_readNumber prog_10_method_15_code 4 (some .int) 2 47 0 [(0, .ref a0), (1, .int a1), (2, .int a2)] [] h (some (.int r)) h' := by
  unfold f_M_readNumber_0 at hf
  refine g_aload_n (pc := 0) 0 dd_M_readNumber_0.1 rfl rfl ?_
  refine g_iload_n (pc := 1) 1 dd_M_readNumber_0.2.1 rfl rfl ?_
  refine g_iload_n (pc := 2) 2 dd_M_readNumber_0.2.2.1 rfl rfl ?_
  obtain ⟨u2, e1, hf⟩ := bd1_e hf
  obtain ⟨x5, h3, e4, hf⟩ := bd2_e hf
  refine g_callV (pc := 3) (ci := 8) [.int a1, .int a2] (site_of si_M_looked (by decide) (by decide)) wd_1112 wd_1114 wp_41 dd_M_readNumber_0.2.2.2.1 rfl e1 (Nat.le_of_ble_eq_true rfl) (fun z => absurd z si_na_M_looked) (fun z => absurd z si_na_M_looked) (fun z => absurd z si_na_M_looked) (c_M_looked e4) rfl ?_
  refine g_st [.int x5] rfl ?_
  refine g_istore_n (pc := 6) [(3, .int x5), (0, .ref a0), (1, .int a1), (2, .int a2)] dd_M_readNumber_0.2.2.2.2.1 rfl (Nat.le_of_ble_eq_true rfl) rfl ?_
  refine g_aload_n (pc := 7) 1 dd_M_readNumber_0.2.2.2.2.2.1 rfl rfl ?_
  obtain ⟨u7, e6, hf⟩ := bd1_e hf
  obtain ⟨h8, e9, hf⟩ := bd1_e hf
  refine g_callV (pc := 8) (ci := 8) [] (site_of si_M_next (by decide) (by decide)) wd_1072 wd_1074 wp_32 dd_M_readNumber_0.2.2.2.2.2.2.1 rfl e6 (Nat.le_of_ble_eq_true rfl) (fun z => absurd z si_na_M_next) (fun z => absurd z si_na_M_next) (fun z => absurd z si_na_M_next) (c_M_next e9) rfl ?_
  refine g_st [] rfl ?_
  refine g_iload_n (pc := 11) 0 dd_M_readNumber_0.2.2.2.2.2.2.2.1 rfl rfl ?_
  obtain ⟨rfl, rfl⟩ := ret2 hf
  exact g_iret (pc := 12) rfl dd_M_readNumber_0.2.2.2.2.2.2.2.2
def f_M_readNumber (a0 : Nat) (a1 : Int32) (a2 : Int32) (h : mH) : Option (Int32 × mH) := f_M_readNumber_0 a0 a1 a2 h
theorem c_M_readNumber {sc : Nat × (Nat → Int32)} {a0 : Nat} {a1 : Int32} {a2 : Int32} {h : mH} {r : Int32} {h' : mH} (hf : f_M_readNumber a0 a1 a2 h = some (r, h')) : MM sc y_M_readNumber prog_10_method_15_code 4 (some .int) 2 47 [.ref a0, .int a1, .int a2] h (some (.int r)) h' :=
  mm_of_G si_pn_M (Nat.le_of_ble_eq_true rfl) (t_M_readNumber_0 _ _ _ _ _ _ hf)
/-! M readLawOf (I)I -/
set_option maxRecDepth 100000 in
theorem dd_M_readLawOf_0 : (decode prog_10_method_16_code 0 = .ok (.aload_n 0, 1)) ∧ (decode prog_10_method_16_code 1 = .ok (.iconst 0, 1)) ∧ (decode prog_10_method_16_code 2 = .ok (.iconst 4, 1)) ∧ (decode prog_10_method_16_code 3 = .ok (.invokevirtual 158, 3)) ∧ (decode prog_10_method_16_code 6 = .ok (.istore_n 2, 1)) ∧ (decode prog_10_method_16_code 7 = .ok (.aload_n 0, 1)) ∧ (decode prog_10_method_16_code 8 = .ok (.getfield 121, 3)) ∧ (decode prog_10_method_16_code 11 = .ok (.ifCond .ne 21, 3)) ∧ (decode prog_10_method_16_code 14 = .ok (.aload_n 0, 1)) ∧ (decode prog_10_method_16_code 15 = .ok (.iload_n 1, 1)) ∧ (decode prog_10_method_16_code 16 = .ok (.iload_n 2, 1)) ∧ (decode prog_10_method_16_code 17 = .ok (.ishr, 1)) ∧ (decode prog_10_method_16_code 18 = .ok (.iconst 1, 1)) ∧ (decode prog_10_method_16_code 19 = .ok (.iand, 1)) ∧ (decode prog_10_method_16_code 20 = .ok (.ifCond .ne 7, 3)) ∧ (decode prog_10_method_16_code 23 = .ok (.iconst 1, 1)) ∧ (decode prog_10_method_16_code 24 = .ok (.goto 4, 3)) ∧ (decode prog_10_method_16_code 27 = .ok (.iconst 0, 1)) ∧ (decode prog_10_method_16_code 28 = .ok (.iconst 4, 1)) ∧ (decode prog_10_method_16_code 29 = .ok (.invokevirtual 155, 3)) ∧ (decode prog_10_method_16_code 32 = .ok (.aload_n 0, 1)) ∧ (decode prog_10_method_16_code 33 = .ok (.getfield 121, 3)) ∧ (decode prog_10_method_16_code 36 = .ok (.ifCond .ne 23, 3)) ∧ (decode prog_10_method_16_code 39 = .ok (.aload_n 0, 1)) := by
  have h : List.drop 0 prog_10_method_16_code.data.toList = 0x2a :: _ := rfl
  refine ⟨zq_k_n 42 h rfl (zq_o_42 _), ?_⟩
  replace h := zq_nx1 (q := 1) h rfl
  refine ⟨zq_k_n 3 h rfl (zq_o_3 _), ?_⟩
  replace h := zq_nx1 (q := 2) h rfl
  refine ⟨zq_k_n 7 h rfl (zq_o_7 _), ?_⟩
  replace h := zq_nx1 (q := 3) h rfl
  refine ⟨zq_k_u2 182 (fun z => .invokevirtual z) 158 h rfl (zq_o_182 _) (by decide +kernel), ?_⟩
  replace h := zq_nx3 (q := 6) h rfl
  refine ⟨zq_k_n 61 h rfl (zq_o_61 _), ?_⟩
  replace h := zq_nx1 (q := 7) h rfl
  refine ⟨zq_k_n 42 h rfl (zq_o_42 _), ?_⟩
  replace h := zq_nx1 (q := 8) h rfl
  refine ⟨zq_k_u2 180 (fun z => .getfield z) 121 h rfl (zq_o_180 _) (by decide +kernel), ?_⟩
  replace h := zq_nx3 (q := 11) h rfl
  refine ⟨zq_k_s2 154 (fun z => .ifCond .ne z) 21 h rfl (zq_o_154 _) (by decide +kernel), ?_⟩
  replace h := zq_nx3 (q := 14) h rfl
  refine ⟨zq_k_n 42 h rfl (zq_o_42 _), ?_⟩
  replace h := zq_nx1 (q := 15) h rfl
  refine ⟨zq_k_n 27 h rfl (zq_o_27 _), ?_⟩
  replace h := zq_nx1 (q := 16) h rfl
  refine ⟨zq_k_n 28 h rfl (zq_o_28 _), ?_⟩
  replace h := zq_nx1 (q := 17) h rfl
  refine ⟨zq_k_n 122 h rfl (zq_o_122 _), ?_⟩
  replace h := zq_nx1 (q := 18) h rfl
  refine ⟨zq_k_n 4 h rfl (zq_o_4 _), ?_⟩
  replace h := zq_nx1 (q := 19) h rfl
  refine ⟨zq_k_n 126 h rfl (zq_o_126 _), ?_⟩
  replace h := zq_nx1 (q := 20) h rfl
  refine ⟨zq_k_s2 154 (fun z => .ifCond .ne z) 7 h rfl (zq_o_154 _) (by decide +kernel), ?_⟩
  replace h := zq_nx3 (q := 23) h rfl
  refine ⟨zq_k_n 4 h rfl (zq_o_4 _), ?_⟩
  replace h := zq_nx1 (q := 24) h rfl
  refine ⟨zq_k_s2 167 (fun z => .goto z) 4 h rfl (zq_o_167 _) (by decide +kernel), ?_⟩
  replace h := zq_nx3 (q := 27) h rfl
  refine ⟨zq_k_n 3 h rfl (zq_o_3 _), ?_⟩
  replace h := zq_nx1 (q := 28) h rfl
  refine ⟨zq_k_n 7 h rfl (zq_o_7 _), ?_⟩
  replace h := zq_nx1 (q := 29) h rfl
  refine ⟨zq_k_u2 182 (fun z => .invokevirtual z) 155 h rfl (zq_o_182 _) (by decide +kernel), ?_⟩
  replace h := zq_nx3 (q := 32) h rfl
  refine ⟨zq_k_n 42 h rfl (zq_o_42 _), ?_⟩
  replace h := zq_nx1 (q := 33) h rfl
  refine ⟨zq_k_u2 180 (fun z => .getfield z) 121 h rfl (zq_o_180 _) (by decide +kernel), ?_⟩
  replace h := zq_nx3 (q := 36) h rfl
  refine ⟨zq_k_s2 154 (fun z => .ifCond .ne z) 23 h rfl (zq_o_154 _) (by decide +kernel), ?_⟩
  replace h := zq_nx3 (q := 39) h rfl
  exact zq_k_n 42 h rfl (zq_o_42 _)
set_option maxRecDepth 100000 in
theorem dd_M_readLawOf_40 : (decode prog_10_method_16_code 40 = .ok (.iload_n 2, 1)) ∧ (decode prog_10_method_16_code 41 = .ok (.aload_n 0, 1)) ∧ (decode prog_10_method_16_code 42 = .ok (.getfield 100, 3)) ∧ (decode prog_10_method_16_code 45 = .ok (.if_icmp .le 7, 3)) ∧ (decode prog_10_method_16_code 48 = .ok (.iload_n 2, 1)) ∧ (decode prog_10_method_16_code 49 = .ok (.goto 7, 3)) ∧ (decode prog_10_method_16_code 52 = .ok (.aload_n 0, 1)) ∧ (decode prog_10_method_16_code 53 = .ok (.getfield 100, 3)) ∧ (decode prog_10_method_16_code 56 = .ok (.putfield 100, 3)) ∧ (decode prog_10_method_16_code 59 = .ok (.aload_n 0, 1)) ∧ (decode prog_10_method_16_code 60 = .ok (.invokevirtual 162, 3)) ∧ (decode prog_10_method_16_code 63 = .ok (.iload_n 1, 1)) ∧ (decode prog_10_method_16_code 64 = .ok (.iconst 1, 1)) ∧ (decode prog_10_method_16_code 65 = .ok (.iload_n 2, 1)) ∧ (decode prog_10_method_16_code 66 = .ok (.ishl, 1)) ∧ (decode prog_10_method_16_code 67 = .ok (.ior, 1)) ∧ (decode prog_10_method_16_code 68 = .ok (.ireturn, 1)) := by
  have h : List.drop 40 prog_10_method_16_code.data.toList = 0x1c :: _ := rfl
  refine ⟨zq_k_n 28 h rfl (zq_o_28 _), ?_⟩
  replace h := zq_nx1 (q := 41) h rfl
  refine ⟨zq_k_n 42 h rfl (zq_o_42 _), ?_⟩
  replace h := zq_nx1 (q := 42) h rfl
  refine ⟨zq_k_u2 180 (fun z => .getfield z) 100 h rfl (zq_o_180 _) (by decide +kernel), ?_⟩
  replace h := zq_nx3 (q := 45) h rfl
  refine ⟨zq_k_s2 164 (fun z => .if_icmp .le z) 7 h rfl (zq_o_164 _) (by decide +kernel), ?_⟩
  replace h := zq_nx3 (q := 48) h rfl
  refine ⟨zq_k_n 28 h rfl (zq_o_28 _), ?_⟩
  replace h := zq_nx1 (q := 49) h rfl
  refine ⟨zq_k_s2 167 (fun z => .goto z) 7 h rfl (zq_o_167 _) (by decide +kernel), ?_⟩
  replace h := zq_nx3 (q := 52) h rfl
  refine ⟨zq_k_n 42 h rfl (zq_o_42 _), ?_⟩
  replace h := zq_nx1 (q := 53) h rfl
  refine ⟨zq_k_u2 180 (fun z => .getfield z) 100 h rfl (zq_o_180 _) (by decide +kernel), ?_⟩
  replace h := zq_nx3 (q := 56) h rfl
  refine ⟨zq_k_u2 181 (fun z => .putfield z) 100 h rfl (zq_o_181 _) (by decide +kernel), ?_⟩
  replace h := zq_nx3 (q := 59) h rfl
  refine ⟨zq_k_n 42 h rfl (zq_o_42 _), ?_⟩
  replace h := zq_nx1 (q := 60) h rfl
  refine ⟨zq_k_u2 182 (fun z => .invokevirtual z) 162 h rfl (zq_o_182 _) (by decide +kernel), ?_⟩
  replace h := zq_nx3 (q := 63) h rfl
  refine ⟨zq_k_n 27 h rfl (zq_o_27 _), ?_⟩
  replace h := zq_nx1 (q := 64) h rfl
  refine ⟨zq_k_n 4 h rfl (zq_o_4 _), ?_⟩
  replace h := zq_nx1 (q := 65) h rfl
  refine ⟨zq_k_n 28 h rfl (zq_o_28 _), ?_⟩
  replace h := zq_nx1 (q := 66) h rfl
  refine ⟨zq_k_n 120 h rfl (zq_o_120 _), ?_⟩
  replace h := zq_nx1 (q := 67) h rfl
  refine ⟨zq_k_n 128 h rfl (zq_o_128 _), ?_⟩
  replace h := zq_nx1 (q := 68) h rfl
  exact zq_k_n 172 h rfl (zq_o_172 _)
def f_M_readLawOf_59  (b0 : Nat) (b1 : Int32) (b2 : Int32) (h : mH) : Option (Int32 × mH) :=
  bd1 (kC h b0 8) fun _ =>
  bd1 (f_M_next b0 h) fun h26 =>
  some (b1 ||| ((1 : Int32) <<< (b2 &&& 31)), h26)
set_option maxRecDepth 20000 in
theorem t_M_readLawOf_59 {sc : Nat × (Nat → Int32)}  (b0 : Nat) (b1 : Int32) (b2 : Int32) (h : mH) (r : Int32) (h' : mH) (hf : f_M_readLawOf_59  b0 b1 b2 h = some (r, h')) : G sc y_M_readLawOf prog_10_method_16_code 3 (some .int) 2 47 59 [(0, .ref b0), (1, .int b1), (2, .int b2)] [] h (some (.int r)) h' := by
  unfold f_M_readLawOf_59 at hf
  refine g_aload_n (pc := 59) 0 dd_M_readLawOf_40.2.2.2.2.2.2.2.2.2.1 rfl rfl ?_
  obtain ⟨u25, e24, hf⟩ := bd1_e hf
  obtain ⟨h26, e27, hf⟩ := bd1_e hf
  refine g_callV (pc := 60) (ci := 8) [] (site_of si_M_next (by decide) (by decide)) wd_1072 wd_1074 wp_32 dd_M_readLawOf_40.2.2.2.2.2.2.2.2.2.2.1 rfl e24 (Nat.le_of_ble_eq_true rfl) (fun z => absurd z si_na_M_next) (fun z => absurd z si_na_M_next) (fun z => absurd z si_na_M_next) (c_M_next e27) rfl ?_
  refine g_st [] rfl ?_
  refine g_iload_n (pc := 63) 1 dd_M_readLawOf_40.2.2.2.2.2.2.2.2.2.2.2.1 rfl rfl ?_
  refine g_iconst (pc := 64) (1 : Int32) dd_M_readLawOf_40.2.2.2.2.2.2.2.2.2.2.2.2.1 (by decide) ?_
  refine g_iload_n (pc := 65) 2 dd_M_readLawOf_40.2.2.2.2.2.2.2.2.2.2.2.2.2.1 rfl rfl ?_
  refine g_ishl (pc := 66) dd_M_readLawOf_40.2.2.2.2.2.2.2.2.2.2.2.2.2.2.1 ?_
  refine g_ior (pc := 67) dd_M_readLawOf_40.2.2.2.2.2.2.2.2.2.2.2.2.2.2.2.1 ?_
  obtain ⟨rfl, rfl⟩ := ret2 hf
  exact g_iret (pc := 68) rfl dd_M_readLawOf_40.2.2.2.2.2.2.2.2.2.2.2.2.2.2.2.2
def f_M_readLawOf_56  (b0 : Nat) (b1 : Int32) (b2 : Int32) (s0 : Nat) (s1 : Int32) (h : mH) : Option (Int32 × mH) :=
  bd1 (pV h s0 8 17 (.int s1)) fun h22 =>
  f_M_readLawOf_59  b0 b1 b2 h22
set_option maxRecDepth 20000 in
theorem t_M_readLawOf_56 {sc : Nat × (Nat → Int32)}  (b0 : Nat) (b1 : Int32) (b2 : Int32) (s0 : Nat) (s1 : Int32) (h : mH) (r : Int32) (h' : mH) (hf : f_M_readLawOf_56  b0 b1 b2 s0 s1 h = some (r, h')) : G sc y_M_readLawOf prog_10_method_16_code 3 (some .int) 2 47 56 [(0, .ref b0), (1, .int b1), (2, .int b2)] [.int s1, .ref s0] h (some (.int r)) h' := by
  unfold f_M_readLawOf_56 at hf
  obtain ⟨h22, e23, hf⟩ := bd1_e hf
  refine g_put (pc := 56) (ci := 8) (kk := 17) ty_M tyok_M nm_M dd_M_readLawOf_40.2.2.2.2.2.2.2.2.1 rfl in_M (by decide) wd_955 rfl (fun _ => rfl) (fun _ => rfl) (fun _ z => by cases z) e23 ?_
  refine g_lv [0, 1, 2] rfl ?_
  exact t_M_readLawOf_59  _ _ _ _ _ _  hf
def f_M_readLawOf_32  (b0 : Nat) (b1 : Int32) (b2 : Int32) (h : mH) : Option (Int32 × mH) :=
  bd1 (gI h b0 8 25) fun x14 =>
  if x14 = 0 then
    bd1 (gI h b0 8 17) fun x16 =>
    if b2 ≤ x16 then
      bd1 (gI h b0 8 17) fun x18 =>
      f_M_readLawOf_56  b0 b1 b2 b0 x18 h
    else
      f_M_readLawOf_56  b0 b1 b2 b0 b2 h
  else
    f_M_readLawOf_59  b0 b1 b2 h
set_option maxRecDepth 20000 in
theorem t_M_readLawOf_32 {sc : Nat × (Nat → Int32)}  (b0 : Nat) (b1 : Int32) (b2 : Int32) (h : mH) (r : Int32) (h' : mH) (hf : f_M_readLawOf_32  b0 b1 b2 h = some (r, h')) : G sc y_M_readLawOf prog_10_method_16_code 3 (some .int) 2 47 32 [(0, .ref b0), (1, .int b1), (2, .int b2)] [] h (some (.int r)) h' := by
  unfold f_M_readLawOf_32 at hf
  refine g_aload_n (pc := 32) 0 dd_M_readLawOf_0.2.2.2.2.2.2.2.2.2.2.2.2.2.2.2.2.2.2.2.2.1 rfl rfl ?_
  obtain ⟨x14, e15, hf⟩ := bd1_e hf
  refine g_get (pc := 33) (ci := 8) (kk := 25) dd_M_readLawOf_0.2.2.2.2.2.2.2.2.2.2.2.2.2.2.2.2.2.2.2.2.2.1 rfl in_M (by decide) wd_963 (gI_spec e15) ?_
  refine g_ifne (pc := 36) 59 dd_M_readLawOf_0.2.2.2.2.2.2.2.2.2.2.2.2.2.2.2.2.2.2.2.2.2.2.1 (by decide) (fun c21 => ?_) (fun c21 => ?_)
  · replace hf := (if_neg c21).symm.trans hf
    refine g_lv [0, 1, 2] rfl ?_
    exact t_M_readLawOf_59  _ _ _ _ _ _  hf
  · replace hf := (if_pos c21).symm.trans hf
    refine g_aload_n (pc := 39) 0 dd_M_readLawOf_0.2.2.2.2.2.2.2.2.2.2.2.2.2.2.2.2.2.2.2.2.2.2.2 rfl rfl ?_
    refine g_iload_n (pc := 40) 2 dd_M_readLawOf_40.1 rfl rfl ?_
    refine g_aload_n (pc := 41) 0 dd_M_readLawOf_40.2.1 rfl rfl ?_
    obtain ⟨x16, e17, hf⟩ := bd1_e hf
    refine g_get (pc := 42) (ci := 8) (kk := 17) dd_M_readLawOf_40.2.2.1 rfl in_M (by decide) wd_955 (gI_spec e17) ?_
    refine g_icmple (pc := 45) 52 dd_M_readLawOf_40.2.2.2.1 (by decide) (fun c20 => ?_) (fun c20 => ?_)
    · replace hf := (if_pos c20).symm.trans hf
      refine g_aload_n (pc := 52) 0 dd_M_readLawOf_40.2.2.2.2.2.2.1 rfl rfl ?_
      obtain ⟨x18, e19, hf⟩ := bd1_e hf
      refine g_get (pc := 53) (ci := 8) (kk := 17) dd_M_readLawOf_40.2.2.2.2.2.2.2.1 rfl in_M (by decide) wd_955 (gI_spec e19) ?_
      refine g_lv [0, 1, 2] rfl ?_
      exact t_M_readLawOf_56  _ _ _ _ _ _ _ _  hf
    · replace hf := (if_neg c20).symm.trans hf
      refine g_iload_n (pc := 48) 2 dd_M_readLawOf_40.2.2.2.2.1 rfl rfl ?_
      refine g_goto (pc := 49) 56 dd_M_readLawOf_40.2.2.2.2.2.1 (by decide) ?_
      refine g_lv [0, 1, 2] rfl ?_
      exact t_M_readLawOf_56  _ _ _ _ _ _ _ _  hf
def f_M_readLawOf_28  (b0 : Nat) (b1 : Int32) (b2 : Int32) (s0 : Nat) (s1 : Int32) (h : mH) : Option (Int32 × mH) :=
  bd1 (kC h s0 8) fun _ =>
  bd1 (f_M_needs s0 s1 (4 : Int32) h) fun h12 =>
  f_M_readLawOf_32  b0 b1 b2 h12
set_option maxRecDepth 20000 in
theorem t_M_readLawOf_28 {sc : Nat × (Nat → Int32)}  (b0 : Nat) (b1 : Int32) (b2 : Int32) (s0 : Nat) (s1 : Int32) (h : mH) (r : Int32) (h' : mH) (hf : f_M_readLawOf_28  b0 b1 b2 s0 s1 h = some (r, h')) : G sc y_M_readLawOf prog_10_method_16_code 3 (some .int) 2 47 28 [(0, .ref b0), (1, .int b1), (2, .int b2)] [.int s1, .ref s0] h (some (.int r)) h' := by
  unfold f_M_readLawOf_28 at hf
  refine g_iconst (pc := 28) (4 : Int32) dd_M_readLawOf_0.2.2.2.2.2.2.2.2.2.2.2.2.2.2.2.2.2.2.1 (by decide) ?_
  obtain ⟨u11, e10, hf⟩ := bd1_e hf
  obtain ⟨h12, e13, hf⟩ := bd1_e hf
  refine g_callV (pc := 29) (ci := 8) [.int s1, .int (4 : Int32)] (site_of si_M_needs (by decide) (by decide)) wd_1084 wd_1086 wp_34 dd_M_readLawOf_0.2.2.2.2.2.2.2.2.2.2.2.2.2.2.2.2.2.2.2.1 rfl e10 (Nat.le_of_ble_eq_true rfl) (fun z => absurd z si_na_M_needs) (fun z => absurd z si_na_M_needs) (fun z => absurd z si_na_M_needs) (c_M_needs e13) rfl ?_
  refine g_st [] rfl ?_
  refine g_lv [0, 1, 2] rfl ?_
  exact t_M_readLawOf_32  _ _ _ _ _ _  hf
def f_M_readLawOf_0  (a0 : Nat) (a1 : Int32) (h : mH) : Option (Int32 × mH) :=
  bd1 (kC h a0 8) fun _ =>
  bd2 (f_M_looked a0 (0 : Int32) (4 : Int32) h) fun x5 h3 =>
  bd1 (gI h3 a0 8 25) fun x6 =>
  if x6 = 0 then
    if ((a1 >>> (x5 &&& 31)) &&& (1 : Int32)) = 0 then
      f_M_readLawOf_28  a0 a1 x5 a0 (1 : Int32) h3
    else
      f_M_readLawOf_28  a0 a1 x5 a0 (0 : Int32) h3
  else
    f_M_readLawOf_32  a0 a1 x5 h3
set_option maxRecDepth 20000 in
theorem t_M_readLawOf_0 {sc : Nat × (Nat → Int32)}  (a0 : Nat) (a1 : Int32) (h : mH) (r : Int32) (h' : mH) (hf : f_M_readLawOf_0  a0 a1 h = some (r, h')) : G sc y_M_readLawOf prog_10_method_16_code 3 (some .int) 2 47 0 [(0, .ref a0), (1, .int a1)] [] h (some (.int r)) h' := by
  unfold f_M_readLawOf_0 at hf
  refine g_aload_n (pc := 0) 0 dd_M_readLawOf_0.1 rfl rfl ?_
  refine g_iconst (pc := 1) (0 : Int32) dd_M_readLawOf_0.2.1 (by decide) ?_
  refine g_iconst (pc := 2) (4 : Int32) dd_M_readLawOf_0.2.2.1 (by decide) ?_
  obtain ⟨u2, e1, hf⟩ := bd1_e hf
  obtain ⟨x5, h3, e4, hf⟩ := bd2_e hf
  refine g_callV (pc := 3) (ci := 8) [.int (0 : Int32), .int (4 : Int32)] (site_of si_M_looked (by decide) (by decide)) wd_1112 wd_1114 wp_41 dd_M_readLawOf_0.2.2.2.1 rfl e1 (Nat.le_of_ble_eq_true rfl) (fun z => absurd z si_na_M_looked) (fun z => absurd z si_na_M_looked) (fun z => absurd z si_na_M_looked) (c_M_looked e4) rfl ?_
  refine g_st [.int x5] rfl ?_
  refine g_istore_n (pc := 6) [(2, .int x5), (0, .ref a0), (1, .int a1)] dd_M_readLawOf_0.2.2.2.2.1 rfl (Nat.le_of_ble_eq_true rfl) rfl ?_
  refine g_aload_n (pc := 7) 1 dd_M_readLawOf_0.2.2.2.2.2.1 rfl rfl ?_
  obtain ⟨x6, e7, hf⟩ := bd1_e hf
  refine g_get (pc := 8) (ci := 8) (kk := 25) dd_M_readLawOf_0.2.2.2.2.2.2.1 rfl in_M (by decide) wd_963 (gI_spec e7) ?_
  refine g_ifne (pc := 11) 32 dd_M_readLawOf_0.2.2.2.2.2.2.2.1 (by decide) (fun c9 => ?_) (fun c9 => ?_)
  · replace hf := (if_neg c9).symm.trans hf
    refine g_lv [1, 2, 0] rfl ?_
    exact t_M_readLawOf_32  _ _ _ _ _ _  hf
  · replace hf := (if_pos c9).symm.trans hf
    refine g_aload_n (pc := 14) 1 dd_M_readLawOf_0.2.2.2.2.2.2.2.2.1 rfl rfl ?_
    refine g_iload_n (pc := 15) 2 dd_M_readLawOf_0.2.2.2.2.2.2.2.2.2.1 rfl rfl ?_
    refine g_iload_n (pc := 16) 0 dd_M_readLawOf_0.2.2.2.2.2.2.2.2.2.2.1 rfl rfl ?_
    refine g_ishr (pc := 17) dd_M_readLawOf_0.2.2.2.2.2.2.2.2.2.2.2.1 ?_
    refine g_iconst (pc := 18) (1 : Int32) dd_M_readLawOf_0.2.2.2.2.2.2.2.2.2.2.2.2.1 (by decide) ?_
    refine g_iand (pc := 19) dd_M_readLawOf_0.2.2.2.2.2.2.2.2.2.2.2.2.2.1 ?_
    refine g_ifne (pc := 20) 27 dd_M_readLawOf_0.2.2.2.2.2.2.2.2.2.2.2.2.2.2.1 (by decide) (fun c8 => ?_) (fun c8 => ?_)
    · replace hf := (if_neg c8).symm.trans hf
      refine g_iconst (pc := 27) (0 : Int32) dd_M_readLawOf_0.2.2.2.2.2.2.2.2.2.2.2.2.2.2.2.2.2.1 (by decide) ?_
      refine g_lv [1, 2, 0] rfl ?_
      exact t_M_readLawOf_28  _ _ _ _ _ _ _ _  hf
    · replace hf := (if_pos c8).symm.trans hf
      refine g_iconst (pc := 23) (1 : Int32) dd_M_readLawOf_0.2.2.2.2.2.2.2.2.2.2.2.2.2.2.2.1 (by decide) ?_
      refine g_goto (pc := 24) 28 dd_M_readLawOf_0.2.2.2.2.2.2.2.2.2.2.2.2.2.2.2.2.1 (by decide) ?_
      refine g_lv [1, 2, 0] rfl ?_
      exact t_M_readLawOf_28  _ _ _ _ _ _ _ _  hf
def f_M_readLawOf (a0 : Nat) (a1 : Int32) (h : mH) : Option (Int32 × mH) := f_M_readLawOf_0 a0 a1 h
theorem c_M_readLawOf {sc : Nat × (Nat → Int32)} {a0 : Nat} {a1 : Int32} {h : mH} {r : Int32} {h' : mH} (hf : f_M_readLawOf a0 a1 h = some (r, h')) : MM sc y_M_readLawOf prog_10_method_16_code 3 (some .int) 2 47 [.ref a0, .int a1] h (some (.int r)) h' :=
  mm_of_G si_pn_M (Nat.le_of_ble_eq_true rfl) (t_M_readLawOf_0 _ _ _ _ _ hf)
/-! M readLaw ()V -/
set_option maxRecDepth 100000 in
theorem dd_M_readLaw_0 : (decode prog_10_method_17_code 0 = .ok (.aload_n 0, 1)) ∧ (decode prog_10_method_17_code 1 = .ok (.getfield 93, 3)) ∧ (decode prog_10_method_17_code 4 = .ok (.istore_n 1, 1)) ∧ (decode prog_10_method_17_code 5 = .ok (.aload_n 0, 1)) ∧ (decode prog_10_method_17_code 6 = .ok (.getfield 32, 3)) ∧ (decode prog_10_method_17_code 9 = .ok (.iconst 0, 1)) ∧ (decode prog_10_method_17_code 10 = .ok (.iload_n 1, 1)) ∧ (decode prog_10_method_17_code 11 = .ok (.iadd, 1)) ∧ (decode prog_10_method_17_code 12 = .ok (.aload_n 0, 1)) ∧ (decode prog_10_method_17_code 13 = .ok (.iconst 0, 1)) ∧ (decode prog_10_method_17_code 14 = .ok (.bipush 9, 2)) ∧ (decode prog_10_method_17_code 16 = .ok (.invokevirtual 165, 3)) ∧ (decode prog_10_method_17_code 19 = .ok (.iastore, 1)) ∧ (decode prog_10_method_17_code 20 = .ok (.aload_n 0, 1)) ∧ (decode prog_10_method_17_code 21 = .ok (.getfield 35, 3)) ∧ (decode prog_10_method_17_code 24 = .ok (.iload_n 1, 1)) ∧ (decode prog_10_method_17_code 25 = .ok (.aload_n 0, 1)) ∧ (decode prog_10_method_17_code 26 = .ok (.iconst 1, 1)) ∧ (decode prog_10_method_17_code 27 = .ok (.iconst 3, 1)) ∧ (decode prog_10_method_17_code 28 = .ok (.invokevirtual 165, 3)) ∧ (decode prog_10_method_17_code 31 = .ok (.iastore, 1)) ∧ (decode prog_10_method_17_code 32 = .ok (.aload_n 0, 1)) ∧ (decode prog_10_method_17_code 33 = .ok (.getfield 38, 3)) ∧ (decode prog_10_method_17_code 36 = .ok (.iload_n 1, 1)) := by
  have h : List.drop 0 prog_10_method_17_code.data.toList = 0x2a :: _ := rfl
  refine ⟨zq_k_n 42 h rfl (zq_o_42 _), ?_⟩
  replace h := zq_nx1 (q := 1) h rfl
  refine ⟨zq_k_u2 180 (fun z => .getfield z) 93 h rfl (zq_o_180 _) (by decide +kernel), ?_⟩
  replace h := zq_nx3 (q := 4) h rfl
  refine ⟨zq_k_n 60 h rfl (zq_o_60 _), ?_⟩
  replace h := zq_nx1 (q := 5) h rfl
  refine ⟨zq_k_n 42 h rfl (zq_o_42 _), ?_⟩
  replace h := zq_nx1 (q := 6) h rfl
  refine ⟨zq_k_u2 180 (fun z => .getfield z) 32 h rfl (zq_o_180 _) (by decide +kernel), ?_⟩
  replace h := zq_nx3 (q := 9) h rfl
  refine ⟨zq_k_n 3 h rfl (zq_o_3 _), ?_⟩
  replace h := zq_nx1 (q := 10) h rfl
  refine ⟨zq_k_n 27 h rfl (zq_o_27 _), ?_⟩
  replace h := zq_nx1 (q := 11) h rfl
  refine ⟨zq_k_n 96 h rfl (zq_o_96 _), ?_⟩
  replace h := zq_nx1 (q := 12) h rfl
  refine ⟨zq_k_n 42 h rfl (zq_o_42 _), ?_⟩
  replace h := zq_nx1 (q := 13) h rfl
  refine ⟨zq_k_n 3 h rfl (zq_o_3 _), ?_⟩
  replace h := zq_nx1 (q := 14) h rfl
  refine ⟨zq_k_s1 16 (fun z => .bipush z) 9 h rfl (zq_o_16 _) (by decide +kernel), ?_⟩
  replace h := zq_nx2 (q := 16) h rfl
  refine ⟨zq_k_u2 182 (fun z => .invokevirtual z) 165 h rfl (zq_o_182 _) (by decide +kernel), ?_⟩
  replace h := zq_nx3 (q := 19) h rfl
  refine ⟨zq_k_n 79 h rfl (zq_o_79 _), ?_⟩
  replace h := zq_nx1 (q := 20) h rfl
  refine ⟨zq_k_n 42 h rfl (zq_o_42 _), ?_⟩
  replace h := zq_nx1 (q := 21) h rfl
  refine ⟨zq_k_u2 180 (fun z => .getfield z) 35 h rfl (zq_o_180 _) (by decide +kernel), ?_⟩
  replace h := zq_nx3 (q := 24) h rfl
  refine ⟨zq_k_n 27 h rfl (zq_o_27 _), ?_⟩
  replace h := zq_nx1 (q := 25) h rfl
  refine ⟨zq_k_n 42 h rfl (zq_o_42 _), ?_⟩
  replace h := zq_nx1 (q := 26) h rfl
  refine ⟨zq_k_n 4 h rfl (zq_o_4 _), ?_⟩
  replace h := zq_nx1 (q := 27) h rfl
  refine ⟨zq_k_n 6 h rfl (zq_o_6 _), ?_⟩
  replace h := zq_nx1 (q := 28) h rfl
  refine ⟨zq_k_u2 182 (fun z => .invokevirtual z) 165 h rfl (zq_o_182 _) (by decide +kernel), ?_⟩
  replace h := zq_nx3 (q := 31) h rfl
  refine ⟨zq_k_n 79 h rfl (zq_o_79 _), ?_⟩
  replace h := zq_nx1 (q := 32) h rfl
  refine ⟨zq_k_n 42 h rfl (zq_o_42 _), ?_⟩
  replace h := zq_nx1 (q := 33) h rfl
  refine ⟨zq_k_u2 180 (fun z => .getfield z) 38 h rfl (zq_o_180 _) (by decide +kernel), ?_⟩
  replace h := zq_nx3 (q := 36) h rfl
  exact zq_k_n 27 h rfl (zq_o_27 _)
set_option maxRecDepth 100000 in
theorem dd_M_readLaw_37 : (decode prog_10_method_17_code 37 = .ok (.aload_n 0, 1)) ∧ (decode prog_10_method_17_code 38 = .ok (.iconst 0, 1)) ∧ (decode prog_10_method_17_code 39 = .ok (.bipush 9, 2)) ∧ (decode prog_10_method_17_code 41 = .ok (.invokevirtual 165, 3)) ∧ (decode prog_10_method_17_code 44 = .ok (.iastore, 1)) ∧ (decode prog_10_method_17_code 45 = .ok (.aload_n 0, 1)) ∧ (decode prog_10_method_17_code 46 = .ok (.getfield 41, 3)) ∧ (decode prog_10_method_17_code 49 = .ok (.iload_n 1, 1)) ∧ (decode prog_10_method_17_code 50 = .ok (.aload_n 0, 1)) ∧ (decode prog_10_method_17_code 51 = .ok (.iconst 0, 1)) ∧ (decode prog_10_method_17_code 52 = .ok (.bipush 9, 2)) ∧ (decode prog_10_method_17_code 54 = .ok (.invokevirtual 165, 3)) ∧ (decode prog_10_method_17_code 57 = .ok (.iastore, 1)) ∧ (decode prog_10_method_17_code 58 = .ok (.aload_n 0, 1)) ∧ (decode prog_10_method_17_code 59 = .ok (.getfield 121, 3)) ∧ (decode prog_10_method_17_code 62 = .ok (.ifCond .ne 65, 3)) ∧ (decode prog_10_method_17_code 65 = .ok (.aload_n 0, 1)) ∧ (decode prog_10_method_17_code 66 = .ok (.getfield 141, 3)) ∧ (decode prog_10_method_17_code 69 = .ok (.iconst 2, 1)) ∧ (decode prog_10_method_17_code 70 = .ok (.if_icmp .ne 57, 3)) ∧ (decode prog_10_method_17_code 73 = .ok (.aload_n 0, 1)) ∧ (decode prog_10_method_17_code 74 = .ok (.iconst 1, 1)) ∧ (decode prog_10_method_17_code 75 = .ok (.iload_n 1, 1)) ∧ (decode prog_10_method_17_code 76 = .ok (.ishl, 1)) := by
  have h : List.drop 37 prog_10_method_17_code.data.toList = 0x2a :: _ := rfl
  refine ⟨zq_k_n 42 h rfl (zq_o_42 _), ?_⟩
  replace h := zq_nx1 (q := 38) h rfl
  refine ⟨zq_k_n 3 h rfl (zq_o_3 _), ?_⟩
  replace h := zq_nx1 (q := 39) h rfl
  refine ⟨zq_k_s1 16 (fun z => .bipush z) 9 h rfl (zq_o_16 _) (by decide +kernel), ?_⟩
  replace h := zq_nx2 (q := 41) h rfl
  refine ⟨zq_k_u2 182 (fun z => .invokevirtual z) 165 h rfl (zq_o_182 _) (by decide +kernel), ?_⟩
  replace h := zq_nx3 (q := 44) h rfl
  refine ⟨zq_k_n 79 h rfl (zq_o_79 _), ?_⟩
  replace h := zq_nx1 (q := 45) h rfl
  refine ⟨zq_k_n 42 h rfl (zq_o_42 _), ?_⟩
  replace h := zq_nx1 (q := 46) h rfl
  refine ⟨zq_k_u2 180 (fun z => .getfield z) 41 h rfl (zq_o_180 _) (by decide +kernel), ?_⟩
  replace h := zq_nx3 (q := 49) h rfl
  refine ⟨zq_k_n 27 h rfl (zq_o_27 _), ?_⟩
  replace h := zq_nx1 (q := 50) h rfl
  refine ⟨zq_k_n 42 h rfl (zq_o_42 _), ?_⟩
  replace h := zq_nx1 (q := 51) h rfl
  refine ⟨zq_k_n 3 h rfl (zq_o_3 _), ?_⟩
  replace h := zq_nx1 (q := 52) h rfl
  refine ⟨zq_k_s1 16 (fun z => .bipush z) 9 h rfl (zq_o_16 _) (by decide +kernel), ?_⟩
  replace h := zq_nx2 (q := 54) h rfl
  refine ⟨zq_k_u2 182 (fun z => .invokevirtual z) 165 h rfl (zq_o_182 _) (by decide +kernel), ?_⟩
  replace h := zq_nx3 (q := 57) h rfl
  refine ⟨zq_k_n 79 h rfl (zq_o_79 _), ?_⟩
  replace h := zq_nx1 (q := 58) h rfl
  refine ⟨zq_k_n 42 h rfl (zq_o_42 _), ?_⟩
  replace h := zq_nx1 (q := 59) h rfl
  refine ⟨zq_k_u2 180 (fun z => .getfield z) 121 h rfl (zq_o_180 _) (by decide +kernel), ?_⟩
  replace h := zq_nx3 (q := 62) h rfl
  refine ⟨zq_k_s2 154 (fun z => .ifCond .ne z) 65 h rfl (zq_o_154 _) (by decide +kernel), ?_⟩
  replace h := zq_nx3 (q := 65) h rfl
  refine ⟨zq_k_n 42 h rfl (zq_o_42 _), ?_⟩
  replace h := zq_nx1 (q := 66) h rfl
  refine ⟨zq_k_u2 180 (fun z => .getfield z) 141 h rfl (zq_o_180 _) (by decide +kernel), ?_⟩
  replace h := zq_nx3 (q := 69) h rfl
  refine ⟨zq_k_n 5 h rfl (zq_o_5 _), ?_⟩
  replace h := zq_nx1 (q := 70) h rfl
  refine ⟨zq_k_s2 160 (fun z => .if_icmp .ne z) 57 h rfl (zq_o_160 _) (by decide +kernel), ?_⟩
  replace h := zq_nx3 (q := 73) h rfl
  refine ⟨zq_k_n 42 h rfl (zq_o_42 _), ?_⟩
  replace h := zq_nx1 (q := 74) h rfl
  refine ⟨zq_k_n 4 h rfl (zq_o_4 _), ?_⟩
  replace h := zq_nx1 (q := 75) h rfl
  refine ⟨zq_k_n 27 h rfl (zq_o_27 _), ?_⟩
  replace h := zq_nx1 (q := 76) h rfl
  exact zq_k_n 120 h rfl (zq_o_120 _)
set_option maxRecDepth 100000 in
theorem dd_M_readLaw_77 : (decode prog_10_method_17_code 77 = .ok (.invokevirtual 168, 3)) ∧ (decode prog_10_method_17_code 80 = .ok (.iconst 1, 1)) ∧ (decode prog_10_method_17_code 81 = .ok (.iload_n 1, 1)) ∧ (decode prog_10_method_17_code 82 = .ok (.ishl, 1)) ∧ (decode prog_10_method_17_code 83 = .ok (.iconst (-1), 1)) ∧ (decode prog_10_method_17_code 84 = .ok (.ixor, 1)) ∧ (decode prog_10_method_17_code 85 = .ok (.iand, 1)) ∧ (decode prog_10_method_17_code 86 = .ok (.istore_n 2, 1)) ∧ (decode prog_10_method_17_code 87 = .ok (.iconst 0, 1)) ∧ (decode prog_10_method_17_code 88 = .ok (.istore_n 3, 1)) ∧ (decode prog_10_method_17_code 89 = .ok (.iload_n 3, 1)) ∧ (decode prog_10_method_17_code 90 = .ok (.iconst 5, 1)) ∧ (decode prog_10_method_17_code 91 = .ok (.if_icmp .ge 36, 3)) ∧ (decode prog_10_method_17_code 94 = .ok (.aload_n 0, 1)) ∧ (decode prog_10_method_17_code 95 = .ok (.getfield 32, 3)) ∧ (decode prog_10_method_17_code 98 = .ok (.iconst 5, 1)) ∧ (decode prog_10_method_17_code 99 = .ok (.iload_n 1, 1)) ∧ (decode prog_10_method_17_code 100 = .ok (.iadd, 1)) ∧ (decode prog_10_method_17_code 101 = .ok (.iload_n 2, 1)) ∧ (decode prog_10_method_17_code 102 = .ok (.iconst 1, 1)) ∧ (decode prog_10_method_17_code 103 = .ok (.iload_n 3, 1)) ∧ (decode prog_10_method_17_code 104 = .ok (.ishl, 1)) ∧ (decode prog_10_method_17_code 105 = .ok (.if_icmp .ne 7, 3)) ∧ (decode prog_10_method_17_code 108 = .ok (.iload_n 3, 1)) := by
  have h : List.drop 77 prog_10_method_17_code.data.toList = 0xb6 :: _ := rfl
  refine ⟨zq_k_u2 182 (fun z => .invokevirtual z) 168 h rfl (zq_o_182 _) (by decide +kernel), ?_⟩
  replace h := zq_nx3 (q := 80) h rfl
  refine ⟨zq_k_n 4 h rfl (zq_o_4 _), ?_⟩
  replace h := zq_nx1 (q := 81) h rfl
  refine ⟨zq_k_n 27 h rfl (zq_o_27 _), ?_⟩
  replace h := zq_nx1 (q := 82) h rfl
  refine ⟨zq_k_n 120 h rfl (zq_o_120 _), ?_⟩
  replace h := zq_nx1 (q := 83) h rfl
  refine ⟨zq_k_n 2 h rfl (zq_o_2 _), ?_⟩
  replace h := zq_nx1 (q := 84) h rfl
  refine ⟨zq_k_n 130 h rfl (zq_o_130 _), ?_⟩
  replace h := zq_nx1 (q := 85) h rfl
  refine ⟨zq_k_n 126 h rfl (zq_o_126 _), ?_⟩
  replace h := zq_nx1 (q := 86) h rfl
  refine ⟨zq_k_n 61 h rfl (zq_o_61 _), ?_⟩
  replace h := zq_nx1 (q := 87) h rfl
  refine ⟨zq_k_n 3 h rfl (zq_o_3 _), ?_⟩
  replace h := zq_nx1 (q := 88) h rfl
  refine ⟨zq_k_n 62 h rfl (zq_o_62 _), ?_⟩
  replace h := zq_nx1 (q := 89) h rfl
  refine ⟨zq_k_n 29 h rfl (zq_o_29 _), ?_⟩
  replace h := zq_nx1 (q := 90) h rfl
  refine ⟨zq_k_n 8 h rfl (zq_o_8 _), ?_⟩
  replace h := zq_nx1 (q := 91) h rfl
  refine ⟨zq_k_s2 162 (fun z => .if_icmp .ge z) 36 h rfl (zq_o_162 _) (by decide +kernel), ?_⟩
  replace h := zq_nx3 (q := 94) h rfl
  refine ⟨zq_k_n 42 h rfl (zq_o_42 _), ?_⟩
  replace h := zq_nx1 (q := 95) h rfl
  refine ⟨zq_k_u2 180 (fun z => .getfield z) 32 h rfl (zq_o_180 _) (by decide +kernel), ?_⟩
  replace h := zq_nx3 (q := 98) h rfl
  refine ⟨zq_k_n 8 h rfl (zq_o_8 _), ?_⟩
  replace h := zq_nx1 (q := 99) h rfl
  refine ⟨zq_k_n 27 h rfl (zq_o_27 _), ?_⟩
  replace h := zq_nx1 (q := 100) h rfl
  refine ⟨zq_k_n 96 h rfl (zq_o_96 _), ?_⟩
  replace h := zq_nx1 (q := 101) h rfl
  refine ⟨zq_k_n 28 h rfl (zq_o_28 _), ?_⟩
  replace h := zq_nx1 (q := 102) h rfl
  refine ⟨zq_k_n 4 h rfl (zq_o_4 _), ?_⟩
  replace h := zq_nx1 (q := 103) h rfl
  refine ⟨zq_k_n 29 h rfl (zq_o_29 _), ?_⟩
  replace h := zq_nx1 (q := 104) h rfl
  refine ⟨zq_k_n 120 h rfl (zq_o_120 _), ?_⟩
  replace h := zq_nx1 (q := 105) h rfl
  refine ⟨zq_k_s2 160 (fun z => .if_icmp .ne z) 7 h rfl (zq_o_160 _) (by decide +kernel), ?_⟩
  replace h := zq_nx3 (q := 108) h rfl
  exact zq_k_n 29 h rfl (zq_o_29 _)
set_option maxRecDepth 100000 in
theorem dd_M_readLaw_109 : (decode prog_10_method_17_code 109 = .ok (.goto 11, 3)) ∧ (decode prog_10_method_17_code 112 = .ok (.aload_n 0, 1)) ∧ (decode prog_10_method_17_code 113 = .ok (.getfield 32, 3)) ∧ (decode prog_10_method_17_code 116 = .ok (.iconst 5, 1)) ∧ (decode prog_10_method_17_code 117 = .ok (.iload_n 1, 1)) ∧ (decode prog_10_method_17_code 118 = .ok (.iadd, 1)) ∧ (decode prog_10_method_17_code 119 = .ok (.iaload, 1)) ∧ (decode prog_10_method_17_code 120 = .ok (.iastore, 1)) ∧ (decode prog_10_method_17_code 121 = .ok (.iinc 3 1, 3)) ∧ (decode prog_10_method_17_code 124 = .ok (.goto (-35), 3)) ∧ (decode prog_10_method_17_code 127 = .ok (.aload_n 0, 1)) ∧ (decode prog_10_method_17_code 128 = .ok (.dup, 1)) ∧ (decode prog_10_method_17_code 129 = .ok (.getfield 93, 3)) ∧ (decode prog_10_method_17_code 132 = .ok (.iconst 1, 1)) ∧ (decode prog_10_method_17_code 133 = .ok (.iadd, 1)) ∧ (decode prog_10_method_17_code 134 = .ok (.putfield 93, 3)) ∧ (decode prog_10_method_17_code 137 = .ok (.return_, 1)) := by
  have h : List.drop 109 prog_10_method_17_code.data.toList = 0xa7 :: _ := rfl
  refine ⟨zq_k_s2 167 (fun z => .goto z) 11 h rfl (zq_o_167 _) (by decide +kernel), ?_⟩
  replace h := zq_nx3 (q := 112) h rfl
  refine ⟨zq_k_n 42 h rfl (zq_o_42 _), ?_⟩
  replace h := zq_nx1 (q := 113) h rfl
  refine ⟨zq_k_u2 180 (fun z => .getfield z) 32 h rfl (zq_o_180 _) (by decide +kernel), ?_⟩
  replace h := zq_nx3 (q := 116) h rfl
  refine ⟨zq_k_n 8 h rfl (zq_o_8 _), ?_⟩
  replace h := zq_nx1 (q := 117) h rfl
  refine ⟨zq_k_n 27 h rfl (zq_o_27 _), ?_⟩
  replace h := zq_nx1 (q := 118) h rfl
  refine ⟨zq_k_n 96 h rfl (zq_o_96 _), ?_⟩
  replace h := zq_nx1 (q := 119) h rfl
  refine ⟨zq_k_n 46 h rfl (zq_o_46 _), ?_⟩
  replace h := zq_nx1 (q := 120) h rfl
  refine ⟨zq_k_n 79 h rfl (zq_o_79 _), ?_⟩
  replace h := zq_nx1 (q := 121) h rfl
  refine ⟨zq_k_iinc 3 1 h rfl (zq_o_132 _) (by decide +kernel) (by decide +kernel), ?_⟩
  replace h := zq_nx3 (q := 124) h rfl
  refine ⟨zq_k_s2 167 (fun z => .goto z) (-35) h rfl (zq_o_167 _) (by decide +kernel), ?_⟩
  replace h := zq_nx3 (q := 127) h rfl
  refine ⟨zq_k_n 42 h rfl (zq_o_42 _), ?_⟩
  replace h := zq_nx1 (q := 128) h rfl
  refine ⟨zq_k_n 89 h rfl (zq_o_89 _), ?_⟩
  replace h := zq_nx1 (q := 129) h rfl
  refine ⟨zq_k_u2 180 (fun z => .getfield z) 93 h rfl (zq_o_180 _) (by decide +kernel), ?_⟩
  replace h := zq_nx3 (q := 132) h rfl
  refine ⟨zq_k_n 4 h rfl (zq_o_4 _), ?_⟩
  replace h := zq_nx1 (q := 133) h rfl
  refine ⟨zq_k_n 96 h rfl (zq_o_96 _), ?_⟩
  replace h := zq_nx1 (q := 134) h rfl
  refine ⟨zq_k_u2 181 (fun z => .putfield z) 93 h rfl (zq_o_181 _) (by decide +kernel), ?_⟩
  replace h := zq_nx3 (q := 137) h rfl
  exact zq_k_n 177 h rfl (zq_o_177 _)
def f_M_readLaw_127  (b0 : Nat) (h : mH) : Option mH :=
  bd1 (gI h b0 8 10) fun x60 =>
  bd1 (pV h b0 8 10 (.int (x60 + (1 : Int32)))) fun h62 =>
  some h62
set_option maxRecDepth 20000 in
theorem t_M_readLaw_127 {sc : Nat × (Nat → Int32)}  (b0 : Nat) (h : mH) (h' : mH) (hf : f_M_readLaw_127  b0 h = some h') : G sc y_M_readLaw prog_10_method_17_code 4 none 3 70 127 [(0, .ref b0)] [] h none h' := by
  unfold f_M_readLaw_127 at hf
  refine g_aload_n (pc := 127) 0 dd_M_readLaw_109.2.2.2.2.2.2.2.2.2.2.1 rfl rfl ?_
  refine g_dup (pc := 128) dd_M_readLaw_109.2.2.2.2.2.2.2.2.2.2.2.1 rfl ?_
  obtain ⟨x60, e61, hf⟩ := bd1_e hf
  refine g_get (pc := 129) (ci := 8) (kk := 10) dd_M_readLaw_109.2.2.2.2.2.2.2.2.2.2.2.2.1 rfl in_M (by decide) wd_948 (gI_spec e61) ?_
  refine g_iconst (pc := 132) (1 : Int32) dd_M_readLaw_109.2.2.2.2.2.2.2.2.2.2.2.2.2.1 (by decide) ?_
  refine g_iadd (pc := 133) dd_M_readLaw_109.2.2.2.2.2.2.2.2.2.2.2.2.2.2.1 ?_
  obtain ⟨h62, e63, hf⟩ := bd1_e hf
  refine g_put (pc := 134) (ci := 8) (kk := 10) ty_M tyok_M nm_M dd_M_readLaw_109.2.2.2.2.2.2.2.2.2.2.2.2.2.2.2.1 rfl in_M (by decide) wd_948 rfl (fun _ => rfl) (fun _ => rfl) (fun _ z => by cases z) e63 ?_
  obtain rfl := ret1 hf
  exact g_vret (pc := 137) rfl dd_M_readLaw_109.2.2.2.2.2.2.2.2.2.2.2.2.2.2.2.2
def f_M_readLaw_120 (rec89 : Nat → Int32 → Int32 → Int32 → mH → Option mH) (b0 : Nat) (b1 : Int32) (b2 : Int32) (b3 : Int32) (s0 : Nat) (s1 : Int32) (s2 : Int32) (h : mH) : Option mH :=
  bd1 (sI h 0 s0 s1 s2) fun h58 =>
  rec89 b0 b1 b2 (b3 + (1 : Int32)) h58
set_option maxRecDepth 20000 in
theorem t_M_readLaw_120 {sc : Nat × (Nat → Int32)} (rec89 : Nat → Int32 → Int32 → Int32 → mH → Option mH) (hrec89 : ∀ (b0 : Nat) (b1 : Int32) (b2 : Int32) (b3 : Int32) (h : mH) (h' : mH), rec89 b0 b1 b2 b3 h = some h' → G sc y_M_readLaw prog_10_method_17_code 4 none 3 70 89 [(0, .ref b0), (1, .int b1), (2, .int b2), (3, .int b3)] [] h none h') (b0 : Nat) (b1 : Int32) (b2 : Int32) (b3 : Int32) (s0 : Nat) (s1 : Int32) (s2 : Int32) (h : mH) (h' : mH) (hf : f_M_readLaw_120 rec89 b0 b1 b2 b3 s0 s1 s2 h = some h') : G sc y_M_readLaw prog_10_method_17_code 4 none 3 70 120 [(0, .ref b0), (1, .int b1), (2, .int b2), (3, .int b3)] [.int s2, .int s1, .ref s0] h none h' := by
  unfold f_M_readLaw_120 at hf
  obtain ⟨h58, e59, hf⟩ := bd1_e hf
  refine g_iast (pc := 120) dd_M_readLaw_109.2.2.2.2.2.2.2.1 e59 ?_
  refine g_iinc (pc := 121) 3 (b3 + (1 : Int32)) [(3, .int (b3 + (1 : Int32))), (0, .ref b0), (1, .int b1), (2, .int b2)] dd_M_readLaw_109.2.2.2.2.2.2.2.2.1 rfl rfl (Nat.le_of_ble_eq_true rfl) rfl ?_
  refine g_goto (pc := 124) 89 dd_M_readLaw_109.2.2.2.2.2.2.2.2.2.1 (by decide) ?_
  refine g_lv [1, 2, 3, 0] rfl ?_
  exact hrec89 _ _ _ _ _ _  hf
def f_M_readLaw_89b (rec89 : Nat → Int32 → Int32 → Int32 → mH → Option mH) (b0 : Nat) (b1 : Int32) (b2 : Int32) (b3 : Int32) (h : mH) : Option mH :=
  if (5 : Int32) ≤ b3 then
    f_M_readLaw_127  b0 h
  else
    bd1 (gR h b0 8 9) fun x50 =>
    if b2 = ((1 : Int32) <<< (b3 &&& 31)) then
      f_M_readLaw_120 rec89 b0 b1 b2 b3 x50 ((5 : Int32) + b1) b3 h
    else
      bd1 (gR h b0 8 9) fun x52 =>
      bd1 (aI h 0 x52 ((5 : Int32) + b1)) fun x54 =>
      f_M_readLaw_120 rec89 b0 b1 b2 b3 x50 ((5 : Int32) + b1) x54 h
set_option maxRecDepth 20000 in
theorem t_M_readLaw_89b {sc : Nat × (Nat → Int32)} (rec89 : Nat → Int32 → Int32 → Int32 → mH → Option mH) (hrec89 : ∀ (b0 : Nat) (b1 : Int32) (b2 : Int32) (b3 : Int32) (h : mH) (h' : mH), rec89 b0 b1 b2 b3 h = some h' → G sc y_M_readLaw prog_10_method_17_code 4 none 3 70 89 [(0, .ref b0), (1, .int b1), (2, .int b2), (3, .int b3)] [] h none h') (b0 : Nat) (b1 : Int32) (b2 : Int32) (b3 : Int32) (h : mH) (h' : mH) (hf : f_M_readLaw_89b rec89 b0 b1 b2 b3 h = some h') : G sc y_M_readLaw prog_10_method_17_code 4 none 3 70 89 [(0, .ref b0), (1, .int b1), (2, .int b2), (3, .int b3)] [] h none h' := by
  unfold f_M_readLaw_89b at hf
  refine g_iload_n (pc := 89) 3 dd_M_readLaw_77.2.2.2.2.2.2.2.2.2.2.1 rfl rfl ?_
  refine g_iconst (pc := 90) (5 : Int32) dd_M_readLaw_77.2.2.2.2.2.2.2.2.2.2.2.1 (by decide) ?_
  refine g_icmpge (pc := 91) 127 dd_M_readLaw_77.2.2.2.2.2.2.2.2.2.2.2.2.1 (by decide) (fun c57 => ?_) (fun c57 => ?_)
  · replace hf := (if_pos c57).symm.trans hf
    refine g_lv [0] rfl ?_
    exact t_M_readLaw_127  _ _ _  hf
  · replace hf := (if_neg c57).symm.trans hf
    refine g_aload_n (pc := 94) 0 dd_M_readLaw_77.2.2.2.2.2.2.2.2.2.2.2.2.2.1 rfl rfl ?_
    obtain ⟨x50, e51, hf⟩ := bd1_e hf
    refine g_get (pc := 95) (ci := 8) (kk := 9) dd_M_readLaw_77.2.2.2.2.2.2.2.2.2.2.2.2.2.2.1 rfl in_M (by decide) wd_947 (gR_spec e51) ?_
    refine g_iconst (pc := 98) (5 : Int32) dd_M_readLaw_77.2.2.2.2.2.2.2.2.2.2.2.2.2.2.2.1 (by decide) ?_
    refine g_iload_n (pc := 99) 1 dd_M_readLaw_77.2.2.2.2.2.2.2.2.2.2.2.2.2.2.2.2.1 rfl rfl ?_
    refine g_iadd (pc := 100) dd_M_readLaw_77.2.2.2.2.2.2.2.2.2.2.2.2.2.2.2.2.2.1 ?_
    refine g_iload_n (pc := 101) 2 dd_M_readLaw_77.2.2.2.2.2.2.2.2.2.2.2.2.2.2.2.2.2.2.1 rfl rfl ?_
    refine g_iconst (pc := 102) (1 : Int32) dd_M_readLaw_77.2.2.2.2.2.2.2.2.2.2.2.2.2.2.2.2.2.2.2.1 (by decide) ?_
    refine g_iload_n (pc := 103) 3 dd_M_readLaw_77.2.2.2.2.2.2.2.2.2.2.2.2.2.2.2.2.2.2.2.2.1 rfl rfl ?_
    refine g_ishl (pc := 104) dd_M_readLaw_77.2.2.2.2.2.2.2.2.2.2.2.2.2.2.2.2.2.2.2.2.2.1 ?_
    refine g_icmpne (pc := 105) 112 dd_M_readLaw_77.2.2.2.2.2.2.2.2.2.2.2.2.2.2.2.2.2.2.2.2.2.2.1 (by decide) (fun c56 => ?_) (fun c56 => ?_)
    · replace hf := (if_neg c56).symm.trans hf
      refine g_aload_n (pc := 112) 0 dd_M_readLaw_109.2.1 rfl rfl ?_
      obtain ⟨x52, e53, hf⟩ := bd1_e hf
      refine g_get (pc := 113) (ci := 8) (kk := 9) dd_M_readLaw_109.2.2.1 rfl in_M (by decide) wd_947 (gR_spec e53) ?_
      refine g_iconst (pc := 116) (5 : Int32) dd_M_readLaw_109.2.2.2.1 (by decide) ?_
      refine g_iload_n (pc := 117) 1 dd_M_readLaw_109.2.2.2.2.1 rfl rfl ?_
      refine g_iadd (pc := 118) dd_M_readLaw_109.2.2.2.2.2.1 ?_
      obtain ⟨x54, e55, hf⟩ := bd1_e hf
      refine g_iald (pc := 119) dd_M_readLaw_109.2.2.2.2.2.2.1 e55 ?_
      refine g_lv [0, 1, 2, 3] rfl ?_
      exact t_M_readLaw_120 rec89 hrec89 _ _ _ _ _ _ _ _ _  hf
    · replace hf := (if_pos c56).symm.trans hf
      refine g_iload_n (pc := 108) 3 dd_M_readLaw_77.2.2.2.2.2.2.2.2.2.2.2.2.2.2.2.2.2.2.2.2.2.2.2 rfl rfl ?_
      refine g_goto (pc := 109) 120 dd_M_readLaw_109.1 (by decide) ?_
      refine g_lv [0, 1, 2, 3] rfl ?_
      exact t_M_readLaw_120 rec89 hrec89 _ _ _ _ _ _ _ _ _  hf
def f_M_readLaw_89  : Nat → Nat → Int32 → Int32 → Int32 → mH → Option mH
  | 0 => fun _ _ _ _ _ => none
  | n + 1 => f_M_readLaw_89b  (f_M_readLaw_89  n)
theorem t_M_readLaw_89 {sc : Nat × (Nat → Int32)}  : ∀ (n : Nat) (b0 : Nat) (b1 : Int32) (b2 : Int32) (b3 : Int32) (h : mH) (h' : mH) (hf : f_M_readLaw_89  n b0 b1 b2 b3 h = some h'), G sc y_M_readLaw prog_10_method_17_code 4 none 3 70 89 [(0, .ref b0), (1, .int b1), (2, .int b2), (3, .int b3)] [] h none h'
  | 0, _, _, _, _, _, _, hf => by cases hf
  | n + 1, _, _, _, _, _, _, hf => t_M_readLaw_89b  (f_M_readLaw_89  n) (t_M_readLaw_89  n) _ _ _ _ _ _ hf
def f_M_readLaw_0  (a0 : Nat) (h : mH) : Option mH :=
  bd1 (gI h a0 8 10) fun x1 =>
  bd1 (gR h a0 8 9) fun x3 =>
  bd1 (kC h a0 8) fun _ =>
  bd2 (f_M_readNumber a0 (0 : Int32) (9 : Int32) h) fun x9 h7 =>
  bd1 (sI h7 0 x3 ((0 : Int32) + x1) x9) fun h10 =>
  bd1 (gR h10 a0 8 12) fun x12 =>
  bd1 (kC h10 a0 8) fun _ =>
  bd2 (f_M_readNumber a0 (1 : Int32) (3 : Int32) h10) fun x18 h16 =>
  bd1 (sI h16 0 x12 x1 x18) fun h19 =>
  bd1 (gR h19 a0 8 13) fun x21 =>
  bd1 (kC h19 a0 8) fun _ =>
  bd2 (f_M_readNumber a0 (0 : Int32) (9 : Int32) h19) fun x27 h25 =>
  bd1 (sI h25 0 x21 x1 x27) fun h28 =>
  bd1 (gR h28 a0 8 14) fun x30 =>
  bd1 (kC h28 a0 8) fun _ =>
  bd2 (f_M_readNumber a0 (0 : Int32) (9 : Int32) h28) fun x36 h34 =>
  bd1 (sI h34 0 x30 x1 x36) fun h37 =>
  bd1 (gI h37 a0 8 25) fun x39 =>
  if x39 = 0 then
    bd1 (gI h37 a0 8 23) fun x41 =>
    if x41 = (2 : Int32) then
      bd1 (kC h37 a0 8) fun _ =>
      bd2 (f_M_readLawOf a0 ((1 : Int32) <<< (x1 &&& 31)) h37) fun x47 h45 =>
      f_M_readLaw_89  FU a0 x1 (x47 &&& (((1 : Int32) <<< (x1 &&& 31)) ^^^ ((-1) : Int32))) (0 : Int32) h45
    else
      f_M_readLaw_127  a0 h37
  else
    f_M_readLaw_127  a0 h37
set_option maxRecDepth 20000 in
theorem t_M_readLaw_0 {sc : Nat × (Nat → Int32)}  (a0 : Nat) (h : mH) (h' : mH) (hf : f_M_readLaw_0  a0 h = some h') : G sc y_M_readLaw prog_10_method_17_code 4 none 3 70 0 [(0, .ref a0)] [] h none h' := by
  unfold f_M_readLaw_0 at hf
  refine g_aload_n (pc := 0) 0 dd_M_readLaw_0.1 rfl rfl ?_
  obtain ⟨x1, e2, hf⟩ := bd1_e hf
  refine g_get (pc := 1) (ci := 8) (kk := 10) dd_M_readLaw_0.2.1 rfl in_M (by decide) wd_948 (gI_spec e2) ?_
  refine g_istore_n (pc := 4) [(1, .int x1), (0, .ref a0)] dd_M_readLaw_0.2.2.1 rfl (Nat.le_of_ble_eq_true rfl) rfl ?_
  refine g_aload_n (pc := 5) 1 dd_M_readLaw_0.2.2.2.1 rfl rfl ?_
  obtain ⟨x3, e4, hf⟩ := bd1_e hf
  refine g_get (pc := 6) (ci := 8) (kk := 9) dd_M_readLaw_0.2.2.2.2.1 rfl in_M (by decide) wd_947 (gR_spec e4) ?_
  refine g_iconst (pc := 9) (0 : Int32) dd_M_readLaw_0.2.2.2.2.2.1 (by decide) ?_
  refine g_iload_n (pc := 10) 0 dd_M_readLaw_0.2.2.2.2.2.2.1 rfl rfl ?_
  refine g_iadd (pc := 11) dd_M_readLaw_0.2.2.2.2.2.2.2.1 ?_
  refine g_aload_n (pc := 12) 1 dd_M_readLaw_0.2.2.2.2.2.2.2.2.1 rfl rfl ?_
  refine g_iconst (pc := 13) (0 : Int32) dd_M_readLaw_0.2.2.2.2.2.2.2.2.2.1 (by decide) ?_
  refine g_bipush (pc := 14) (9 : Int32) dd_M_readLaw_0.2.2.2.2.2.2.2.2.2.2.1 (by decide) ?_
  obtain ⟨u6, e5, hf⟩ := bd1_e hf
  obtain ⟨x9, h7, e8, hf⟩ := bd2_e hf
  refine g_callV (pc := 16) (ci := 8) [.int (0 : Int32), .int (9 : Int32)] (site_of si_M_readNumber (by decide) (by decide)) wd_1108 wd_1110 wp_40 dd_M_readLaw_0.2.2.2.2.2.2.2.2.2.2.2.1 rfl e5 (Nat.le_of_ble_eq_true rfl) (fun z => absurd z si_na_M_readNumber) (fun z => absurd z si_na_M_readNumber) (fun z => absurd z si_na_M_readNumber) (c_M_readNumber e8) rfl ?_
  refine g_st [.int x9, .int ((0 : Int32) + x1), .ref x3] rfl ?_
  obtain ⟨h10, e11, hf⟩ := bd1_e hf
  refine g_iast (pc := 19) dd_M_readLaw_0.2.2.2.2.2.2.2.2.2.2.2.2.1 e11 ?_
  refine g_aload_n (pc := 20) 1 dd_M_readLaw_0.2.2.2.2.2.2.2.2.2.2.2.2.2.1 rfl rfl ?_
  obtain ⟨x12, e13, hf⟩ := bd1_e hf
  refine g_get (pc := 21) (ci := 8) (kk := 12) dd_M_readLaw_0.2.2.2.2.2.2.2.2.2.2.2.2.2.2.1 rfl in_M (by decide) wd_950 (gR_spec e13) ?_
  refine g_iload_n (pc := 24) 0 dd_M_readLaw_0.2.2.2.2.2.2.2.2.2.2.2.2.2.2.2.1 rfl rfl ?_
  refine g_aload_n (pc := 25) 1 dd_M_readLaw_0.2.2.2.2.2.2.2.2.2.2.2.2.2.2.2.2.1 rfl rfl ?_
  refine g_iconst (pc := 26) (1 : Int32) dd_M_readLaw_0.2.2.2.2.2.2.2.2.2.2.2.2.2.2.2.2.2.1 (by decide) ?_
  refine g_iconst (pc := 27) (3 : Int32) dd_M_readLaw_0.2.2.2.2.2.2.2.2.2.2.2.2.2.2.2.2.2.2.1 (by decide) ?_
  obtain ⟨u15, e14, hf⟩ := bd1_e hf
  obtain ⟨x18, h16, e17, hf⟩ := bd2_e hf
  refine g_callV (pc := 28) (ci := 8) [.int (1 : Int32), .int (3 : Int32)] (site_of si_M_readNumber (by decide) (by decide)) wd_1108 wd_1110 wp_40 dd_M_readLaw_0.2.2.2.2.2.2.2.2.2.2.2.2.2.2.2.2.2.2.2.1 rfl e14 (Nat.le_of_ble_eq_true rfl) (fun z => absurd z si_na_M_readNumber) (fun z => absurd z si_na_M_readNumber) (fun z => absurd z si_na_M_readNumber) (c_M_readNumber e17) rfl ?_
  refine g_st [.int x18, .int x1, .ref x12] rfl ?_
  obtain ⟨h19, e20, hf⟩ := bd1_e hf
  refine g_iast (pc := 31) dd_M_readLaw_0.2.2.2.2.2.2.2.2.2.2.2.2.2.2.2.2.2.2.2.2.1 e20 ?_
  refine g_aload_n (pc := 32) 1 dd_M_readLaw_0.2.2.2.2.2.2.2.2.2.2.2.2.2.2.2.2.2.2.2.2.2.1 rfl rfl ?_
  obtain ⟨x21, e22, hf⟩ := bd1_e hf
  refine g_get (pc := 33) (ci := 8) (kk := 13) dd_M_readLaw_0.2.2.2.2.2.2.2.2.2.2.2.2.2.2.2.2.2.2.2.2.2.2.1 rfl in_M (by decide) wd_951 (gR_spec e22) ?_
  refine g_iload_n (pc := 36) 0 dd_M_readLaw_0.2.2.2.2.2.2.2.2.2.2.2.2.2.2.2.2.2.2.2.2.2.2.2 rfl rfl ?_
  refine g_aload_n (pc := 37) 1 dd_M_readLaw_37.1 rfl rfl ?_
  refine g_iconst (pc := 38) (0 : Int32) dd_M_readLaw_37.2.1 (by decide) ?_
  refine g_bipush (pc := 39) (9 : Int32) dd_M_readLaw_37.2.2.1 (by decide) ?_
  obtain ⟨u24, e23, hf⟩ := bd1_e hf
  obtain ⟨x27, h25, e26, hf⟩ := bd2_e hf
  refine g_callV (pc := 41) (ci := 8) [.int (0 : Int32), .int (9 : Int32)] (site_of si_M_readNumber (by decide) (by decide)) wd_1108 wd_1110 wp_40 dd_M_readLaw_37.2.2.2.1 rfl e23 (Nat.le_of_ble_eq_true rfl) (fun z => absurd z si_na_M_readNumber) (fun z => absurd z si_na_M_readNumber) (fun z => absurd z si_na_M_readNumber) (c_M_readNumber e26) rfl ?_
  refine g_st [.int x27, .int x1, .ref x21] rfl ?_
  obtain ⟨h28, e29, hf⟩ := bd1_e hf
  refine g_iast (pc := 44) dd_M_readLaw_37.2.2.2.2.1 e29 ?_
  refine g_aload_n (pc := 45) 1 dd_M_readLaw_37.2.2.2.2.2.1 rfl rfl ?_
  obtain ⟨x30, e31, hf⟩ := bd1_e hf
  refine g_get (pc := 46) (ci := 8) (kk := 14) dd_M_readLaw_37.2.2.2.2.2.2.1 rfl in_M (by decide) wd_952 (gR_spec e31) ?_
  refine g_iload_n (pc := 49) 0 dd_M_readLaw_37.2.2.2.2.2.2.2.1 rfl rfl ?_
  refine g_aload_n (pc := 50) 1 dd_M_readLaw_37.2.2.2.2.2.2.2.2.1 rfl rfl ?_
  refine g_iconst (pc := 51) (0 : Int32) dd_M_readLaw_37.2.2.2.2.2.2.2.2.2.1 (by decide) ?_
  refine g_bipush (pc := 52) (9 : Int32) dd_M_readLaw_37.2.2.2.2.2.2.2.2.2.2.1 (by decide) ?_
  obtain ⟨u33, e32, hf⟩ := bd1_e hf
  obtain ⟨x36, h34, e35, hf⟩ := bd2_e hf
  refine g_callV (pc := 54) (ci := 8) [.int (0 : Int32), .int (9 : Int32)] (site_of si_M_readNumber (by decide) (by decide)) wd_1108 wd_1110 wp_40 dd_M_readLaw_37.2.2.2.2.2.2.2.2.2.2.2.1 rfl e32 (Nat.le_of_ble_eq_true rfl) (fun z => absurd z si_na_M_readNumber) (fun z => absurd z si_na_M_readNumber) (fun z => absurd z si_na_M_readNumber) (c_M_readNumber e35) rfl ?_
  refine g_st [.int x36, .int x1, .ref x30] rfl ?_
  obtain ⟨h37, e38, hf⟩ := bd1_e hf
  refine g_iast (pc := 57) dd_M_readLaw_37.2.2.2.2.2.2.2.2.2.2.2.2.1 e38 ?_
  refine g_aload_n (pc := 58) 1 dd_M_readLaw_37.2.2.2.2.2.2.2.2.2.2.2.2.2.1 rfl rfl ?_
  obtain ⟨x39, e40, hf⟩ := bd1_e hf
  refine g_get (pc := 59) (ci := 8) (kk := 25) dd_M_readLaw_37.2.2.2.2.2.2.2.2.2.2.2.2.2.2.1 rfl in_M (by decide) wd_963 (gI_spec e40) ?_
  refine g_ifne (pc := 62) 127 dd_M_readLaw_37.2.2.2.2.2.2.2.2.2.2.2.2.2.2.2.1 (by decide) (fun c49 => ?_) (fun c49 => ?_)
  · replace hf := (if_neg c49).symm.trans hf
    refine g_lv [1] rfl ?_
    exact t_M_readLaw_127  _ _ _  hf
  · replace hf := (if_pos c49).symm.trans hf
    refine g_aload_n (pc := 65) 1 dd_M_readLaw_37.2.2.2.2.2.2.2.2.2.2.2.2.2.2.2.2.1 rfl rfl ?_
    obtain ⟨x41, e42, hf⟩ := bd1_e hf
    refine g_get (pc := 66) (ci := 8) (kk := 23) dd_M_readLaw_37.2.2.2.2.2.2.2.2.2.2.2.2.2.2.2.2.2.1 rfl in_M (by decide) wd_961 (gI_spec e42) ?_
    refine g_iconst (pc := 69) (2 : Int32) dd_M_readLaw_37.2.2.2.2.2.2.2.2.2.2.2.2.2.2.2.2.2.2.1 (by decide) ?_
    refine g_icmpne (pc := 70) 127 dd_M_readLaw_37.2.2.2.2.2.2.2.2.2.2.2.2.2.2.2.2.2.2.2.1 (by decide) (fun c48 => ?_) (fun c48 => ?_)
    · replace hf := (if_neg c48).symm.trans hf
      refine g_lv [1] rfl ?_
      exact t_M_readLaw_127  _ _ _  hf
    · replace hf := (if_pos c48).symm.trans hf
      refine g_aload_n (pc := 73) 1 dd_M_readLaw_37.2.2.2.2.2.2.2.2.2.2.2.2.2.2.2.2.2.2.2.2.1 rfl rfl ?_
      refine g_iconst (pc := 74) (1 : Int32) dd_M_readLaw_37.2.2.2.2.2.2.2.2.2.2.2.2.2.2.2.2.2.2.2.2.2.1 (by decide) ?_
      refine g_iload_n (pc := 75) 0 dd_M_readLaw_37.2.2.2.2.2.2.2.2.2.2.2.2.2.2.2.2.2.2.2.2.2.2.1 rfl rfl ?_
      refine g_ishl (pc := 76) dd_M_readLaw_37.2.2.2.2.2.2.2.2.2.2.2.2.2.2.2.2.2.2.2.2.2.2.2 ?_
      obtain ⟨u44, e43, hf⟩ := bd1_e hf
      obtain ⟨x47, h45, e46, hf⟩ := bd2_e hf
      refine g_callV (pc := 77) (ci := 8) [.int ((1 : Int32) <<< (x1 &&& 31))] (site_of si_M_readLawOf (by decide) (by decide)) wd_1116 wd_1118 wp_42 dd_M_readLaw_77.1 rfl e43 (Nat.le_of_ble_eq_true rfl) (fun z => absurd z si_na_M_readLawOf) (fun z => absurd z si_na_M_readLawOf) (fun z => absurd z si_na_M_readLawOf) (c_M_readLawOf e46) rfl ?_
      refine g_st [.int x47] rfl ?_
      refine g_iconst (pc := 80) (1 : Int32) dd_M_readLaw_77.2.1 (by decide) ?_
      refine g_iload_n (pc := 81) 0 dd_M_readLaw_77.2.2.1 rfl rfl ?_
      refine g_ishl (pc := 82) dd_M_readLaw_77.2.2.2.1 ?_
      refine g_iconst (pc := 83) ((-1) : Int32) dd_M_readLaw_77.2.2.2.2.1 (by decide) ?_
      refine g_ixor (pc := 84) dd_M_readLaw_77.2.2.2.2.2.1 ?_
      refine g_iand (pc := 85) dd_M_readLaw_77.2.2.2.2.2.2.1 ?_
      refine g_istore_n (pc := 86) [(2, .int (x47 &&& (((1 : Int32) <<< (x1 &&& 31)) ^^^ ((-1) : Int32)))), (1, .int x1), (0, .ref a0)] dd_M_readLaw_77.2.2.2.2.2.2.2.1 rfl (Nat.le_of_ble_eq_true rfl) rfl ?_
      refine g_iconst (pc := 87) (0 : Int32) dd_M_readLaw_77.2.2.2.2.2.2.2.2.1 (by decide) ?_
      refine g_istore_n (pc := 88) [(3, .int (0 : Int32)), (2, .int (x47 &&& (((1 : Int32) <<< (x1 &&& 31)) ^^^ ((-1) : Int32)))), (1, .int x1), (0, .ref a0)] dd_M_readLaw_77.2.2.2.2.2.2.2.2.2.1 rfl (Nat.le_of_ble_eq_true rfl) rfl ?_
      refine g_lv [3, 2, 1, 0] rfl ?_
      exact t_M_readLaw_89  FU _ _ _ _ _ _  hf
def f_M_readLaw (a0 : Nat) (h : mH) : Option mH := f_M_readLaw_0 a0 h
theorem c_M_readLaw {sc : Nat × (Nat → Int32)} {a0 : Nat} {h : mH} {h' : mH} (hf : f_M_readLaw a0 h = some h') : MM sc y_M_readLaw prog_10_method_17_code 4 none 3 70 [.ref a0] h none h' :=
  mm_of_G si_pn_M (Nat.le_of_ble_eq_true rfl) (t_M_readLaw_0 _ _ _ hf)
/-! M readOne ()V -/
set_option maxRecDepth 100000 in
theorem dd_M_readOne_0 : (decode prog_10_method_18_code 0 = .ok (.aload_n 0, 1)) ∧ (decode prog_10_method_18_code 1 = .ok (.getfield 97, 3)) ∧ (decode prog_10_method_18_code 4 = .ok (.istore_n 1, 1)) ∧ (decode prog_10_method_18_code 5 = .ok (.aload_n 0, 1)) ∧ (decode prog_10_method_18_code 6 = .ok (.getfield 32, 3)) ∧ (decode prog_10_method_18_code 9 = .ok (.bipush 12, 2)) ∧ (decode prog_10_method_18_code 11 = .ok (.iload_n 1, 1)) ∧ (decode prog_10_method_18_code 12 = .ok (.iadd, 1)) ∧ (decode prog_10_method_18_code 13 = .ok (.aload_n 0, 1)) ∧ (decode prog_10_method_18_code 14 = .ok (.iconst 0, 1)) ∧ (decode prog_10_method_18_code 15 = .ok (.iconst 5, 1)) ∧ (decode prog_10_method_18_code 16 = .ok (.invokevirtual 165, 3)) ∧ (decode prog_10_method_18_code 19 = .ok (.iastore, 1)) ∧ (decode prog_10_method_18_code 20 = .ok (.aload_n 0, 1)) ∧ (decode prog_10_method_18_code 21 = .ok (.getfield 44, 3)) ∧ (decode prog_10_method_18_code 24 = .ok (.iload_n 1, 1)) ∧ (decode prog_10_method_18_code 25 = .ok (.aload_n 0, 1)) ∧ (decode prog_10_method_18_code 26 = .ok (.iconst 0, 1)) ∧ (decode prog_10_method_18_code 27 = .ok (.iconst 3, 1)) ∧ (decode prog_10_method_18_code 28 = .ok (.invokevirtual 165, 3)) ∧ (decode prog_10_method_18_code 31 = .ok (.iastore, 1)) ∧ (decode prog_10_method_18_code 32 = .ok (.aload_n 0, 1)) ∧ (decode prog_10_method_18_code 33 = .ok (.getfield 47, 3)) ∧ (decode prog_10_method_18_code 36 = .ok (.iload_n 1, 1)) := by
  have h : List.drop 0 prog_10_method_18_code.data.toList = 0x2a :: _ := rfl
  refine ⟨zq_k_n 42 h rfl (zq_o_42 _), ?_⟩
  replace h := zq_nx1 (q := 1) h rfl
  refine ⟨zq_k_u2 180 (fun z => .getfield z) 97 h rfl (zq_o_180 _) (by decide +kernel), ?_⟩
  replace h := zq_nx3 (q := 4) h rfl
  refine ⟨zq_k_n 60 h rfl (zq_o_60 _), ?_⟩
  replace h := zq_nx1 (q := 5) h rfl
  refine ⟨zq_k_n 42 h rfl (zq_o_42 _), ?_⟩
  replace h := zq_nx1 (q := 6) h rfl
  refine ⟨zq_k_u2 180 (fun z => .getfield z) 32 h rfl (zq_o_180 _) (by decide +kernel), ?_⟩
  replace h := zq_nx3 (q := 9) h rfl
  refine ⟨zq_k_s1 16 (fun z => .bipush z) 12 h rfl (zq_o_16 _) (by decide +kernel), ?_⟩
  replace h := zq_nx2 (q := 11) h rfl
  refine ⟨zq_k_n 27 h rfl (zq_o_27 _), ?_⟩
  replace h := zq_nx1 (q := 12) h rfl
  refine ⟨zq_k_n 96 h rfl (zq_o_96 _), ?_⟩
  replace h := zq_nx1 (q := 13) h rfl
  refine ⟨zq_k_n 42 h rfl (zq_o_42 _), ?_⟩
  replace h := zq_nx1 (q := 14) h rfl
  refine ⟨zq_k_n 3 h rfl (zq_o_3 _), ?_⟩
  replace h := zq_nx1 (q := 15) h rfl
  refine ⟨zq_k_n 8 h rfl (zq_o_8 _), ?_⟩
  replace h := zq_nx1 (q := 16) h rfl
  refine ⟨zq_k_u2 182 (fun z => .invokevirtual z) 165 h rfl (zq_o_182 _) (by decide +kernel), ?_⟩
  replace h := zq_nx3 (q := 19) h rfl
  refine ⟨zq_k_n 79 h rfl (zq_o_79 _), ?_⟩
  replace h := zq_nx1 (q := 20) h rfl
  refine ⟨zq_k_n 42 h rfl (zq_o_42 _), ?_⟩
  replace h := zq_nx1 (q := 21) h rfl
  refine ⟨zq_k_u2 180 (fun z => .getfield z) 44 h rfl (zq_o_180 _) (by decide +kernel), ?_⟩
  replace h := zq_nx3 (q := 24) h rfl
  refine ⟨zq_k_n 27 h rfl (zq_o_27 _), ?_⟩
  replace h := zq_nx1 (q := 25) h rfl
  refine ⟨zq_k_n 42 h rfl (zq_o_42 _), ?_⟩
  replace h := zq_nx1 (q := 26) h rfl
  refine ⟨zq_k_n 3 h rfl (zq_o_3 _), ?_⟩
  replace h := zq_nx1 (q := 27) h rfl
  refine ⟨zq_k_n 6 h rfl (zq_o_6 _), ?_⟩
  replace h := zq_nx1 (q := 28) h rfl
  refine ⟨zq_k_u2 182 (fun z => .invokevirtual z) 165 h rfl (zq_o_182 _) (by decide +kernel), ?_⟩
  replace h := zq_nx3 (q := 31) h rfl
  refine ⟨zq_k_n 79 h rfl (zq_o_79 _), ?_⟩
  replace h := zq_nx1 (q := 32) h rfl
  refine ⟨zq_k_n 42 h rfl (zq_o_42 _), ?_⟩
  replace h := zq_nx1 (q := 33) h rfl
  refine ⟨zq_k_u2 180 (fun z => .getfield z) 47 h rfl (zq_o_180 _) (by decide +kernel), ?_⟩
  replace h := zq_nx3 (q := 36) h rfl
  exact zq_k_n 27 h rfl (zq_o_27 _)
set_option maxRecDepth 100000 in
theorem dd_M_readOne_37 : (decode prog_10_method_18_code 37 = .ok (.aload_n 0, 1)) ∧ (decode prog_10_method_18_code 38 = .ok (.iconst 0, 1)) ∧ (decode prog_10_method_18_code 39 = .ok (.bipush 10, 2)) ∧ (decode prog_10_method_18_code 41 = .ok (.invokevirtual 165, 3)) ∧ (decode prog_10_method_18_code 44 = .ok (.iastore, 1)) ∧ (decode prog_10_method_18_code 45 = .ok (.aload_n 0, 1)) ∧ (decode prog_10_method_18_code 46 = .ok (.getfield 32, 3)) ∧ (decode prog_10_method_18_code 49 = .ok (.bipush 15, 2)) ∧ (decode prog_10_method_18_code 51 = .ok (.iload_n 1, 1)) ∧ (decode prog_10_method_18_code 52 = .ok (.iadd, 1)) ∧ (decode prog_10_method_18_code 53 = .ok (.aload_n 0, 1)) ∧ (decode prog_10_method_18_code 54 = .ok (.iconst 0, 1)) ∧ (decode prog_10_method_18_code 55 = .ok (.bipush 99, 2)) ∧ (decode prog_10_method_18_code 57 = .ok (.invokevirtual 165, 3)) ∧ (decode prog_10_method_18_code 60 = .ok (.iastore, 1)) ∧ (decode prog_10_method_18_code 61 = .ok (.aload_n 0, 1)) ∧ (decode prog_10_method_18_code 62 = .ok (.getfield 121, 3)) ∧ (decode prog_10_method_18_code 65 = .ok (.ifCond .ne 36, 3)) ∧ (decode prog_10_method_18_code 68 = .ok (.aload_n 0, 1)) ∧ (decode prog_10_method_18_code 69 = .ok (.getfield 141, 3)) ∧ (decode prog_10_method_18_code 72 = .ok (.iconst 2, 1)) ∧ (decode prog_10_method_18_code 73 = .ok (.if_icmp .ne 28, 3)) ∧ (decode prog_10_method_18_code 76 = .ok (.aload_n 0, 1)) ∧ (decode prog_10_method_18_code 77 = .ok (.getfield 32, 3)) := by
  have h : List.drop 37 prog_10_method_18_code.data.toList = 0x2a :: _ := rfl
  refine ⟨zq_k_n 42 h rfl (zq_o_42 _), ?_⟩
  replace h := zq_nx1 (q := 38) h rfl
  refine ⟨zq_k_n 3 h rfl (zq_o_3 _), ?_⟩
  replace h := zq_nx1 (q := 39) h rfl
  refine ⟨zq_k_s1 16 (fun z => .bipush z) 10 h rfl (zq_o_16 _) (by decide +kernel), ?_⟩
  replace h := zq_nx2 (q := 41) h rfl
  refine ⟨zq_k_u2 182 (fun z => .invokevirtual z) 165 h rfl (zq_o_182 _) (by decide +kernel), ?_⟩
  replace h := zq_nx3 (q := 44) h rfl
  refine ⟨zq_k_n 79 h rfl (zq_o_79 _), ?_⟩
  replace h := zq_nx1 (q := 45) h rfl
  refine ⟨zq_k_n 42 h rfl (zq_o_42 _), ?_⟩
  replace h := zq_nx1 (q := 46) h rfl
  refine ⟨zq_k_u2 180 (fun z => .getfield z) 32 h rfl (zq_o_180 _) (by decide +kernel), ?_⟩
  replace h := zq_nx3 (q := 49) h rfl
  refine ⟨zq_k_s1 16 (fun z => .bipush z) 15 h rfl (zq_o_16 _) (by decide +kernel), ?_⟩
  replace h := zq_nx2 (q := 51) h rfl
  refine ⟨zq_k_n 27 h rfl (zq_o_27 _), ?_⟩
  replace h := zq_nx1 (q := 52) h rfl
  refine ⟨zq_k_n 96 h rfl (zq_o_96 _), ?_⟩
  replace h := zq_nx1 (q := 53) h rfl
  refine ⟨zq_k_n 42 h rfl (zq_o_42 _), ?_⟩
  replace h := zq_nx1 (q := 54) h rfl
  refine ⟨zq_k_n 3 h rfl (zq_o_3 _), ?_⟩
  replace h := zq_nx1 (q := 55) h rfl
  refine ⟨zq_k_s1 16 (fun z => .bipush z) 99 h rfl (zq_o_16 _) (by decide +kernel), ?_⟩
  replace h := zq_nx2 (q := 57) h rfl
  refine ⟨zq_k_u2 182 (fun z => .invokevirtual z) 165 h rfl (zq_o_182 _) (by decide +kernel), ?_⟩
  replace h := zq_nx3 (q := 60) h rfl
  refine ⟨zq_k_n 79 h rfl (zq_o_79 _), ?_⟩
  replace h := zq_nx1 (q := 61) h rfl
  refine ⟨zq_k_n 42 h rfl (zq_o_42 _), ?_⟩
  replace h := zq_nx1 (q := 62) h rfl
  refine ⟨zq_k_u2 180 (fun z => .getfield z) 121 h rfl (zq_o_180 _) (by decide +kernel), ?_⟩
  replace h := zq_nx3 (q := 65) h rfl
  refine ⟨zq_k_s2 154 (fun z => .ifCond .ne z) 36 h rfl (zq_o_154 _) (by decide +kernel), ?_⟩
  replace h := zq_nx3 (q := 68) h rfl
  refine ⟨zq_k_n 42 h rfl (zq_o_42 _), ?_⟩
  replace h := zq_nx1 (q := 69) h rfl
  refine ⟨zq_k_u2 180 (fun z => .getfield z) 141 h rfl (zq_o_180 _) (by decide +kernel), ?_⟩
  replace h := zq_nx3 (q := 72) h rfl
  refine ⟨zq_k_n 5 h rfl (zq_o_5 _), ?_⟩
  replace h := zq_nx1 (q := 73) h rfl
  refine ⟨zq_k_s2 160 (fun z => .if_icmp .ne z) 28 h rfl (zq_o_160 _) (by decide +kernel), ?_⟩
  replace h := zq_nx3 (q := 76) h rfl
  refine ⟨zq_k_n 42 h rfl (zq_o_42 _), ?_⟩
  replace h := zq_nx1 (q := 77) h rfl
  exact zq_k_u2 180 (fun z => .getfield z) 32 h rfl (zq_o_180 _) (by decide +kernel)
set_option maxRecDepth 100000 in
theorem dd_M_readOne_80 : (decode prog_10_method_18_code 80 = .ok (.bipush 18, 2)) ∧ (decode prog_10_method_18_code 82 = .ok (.iload_n 1, 1)) ∧ (decode prog_10_method_18_code 83 = .ok (.iadd, 1)) ∧ (decode prog_10_method_18_code 84 = .ok (.aload_n 0, 1)) ∧ (decode prog_10_method_18_code 85 = .ok (.aload_n 0, 1)) ∧ (decode prog_10_method_18_code 86 = .ok (.getfield 32, 3)) ∧ (decode prog_10_method_18_code 89 = .ok (.bipush 18, 2)) ∧ (decode prog_10_method_18_code 91 = .ok (.iload_n 1, 1)) ∧ (decode prog_10_method_18_code 92 = .ok (.iadd, 1)) ∧ (decode prog_10_method_18_code 93 = .ok (.iaload, 1)) ∧ (decode prog_10_method_18_code 94 = .ok (.invokevirtual 168, 3)) ∧ (decode prog_10_method_18_code 97 = .ok (.iastore, 1)) ∧ (decode prog_10_method_18_code 98 = .ok (.goto (-37), 3)) ∧ (decode prog_10_method_18_code 101 = .ok (.aload_n 0, 1)) ∧ (decode prog_10_method_18_code 102 = .ok (.dup, 1)) ∧ (decode prog_10_method_18_code 103 = .ok (.getfield 97, 3)) ∧ (decode prog_10_method_18_code 106 = .ok (.iconst 1, 1)) ∧ (decode prog_10_method_18_code 107 = .ok (.iadd, 1)) ∧ (decode prog_10_method_18_code 108 = .ok (.putfield 97, 3)) ∧ (decode prog_10_method_18_code 111 = .ok (.return_, 1)) := by
  have h : List.drop 80 prog_10_method_18_code.data.toList = 0x10 :: _ := rfl
  refine ⟨zq_k_s1 16 (fun z => .bipush z) 18 h rfl (zq_o_16 _) (by decide +kernel), ?_⟩
  replace h := zq_nx2 (q := 82) h rfl
  refine ⟨zq_k_n 27 h rfl (zq_o_27 _), ?_⟩
  replace h := zq_nx1 (q := 83) h rfl
  refine ⟨zq_k_n 96 h rfl (zq_o_96 _), ?_⟩
  replace h := zq_nx1 (q := 84) h rfl
  refine ⟨zq_k_n 42 h rfl (zq_o_42 _), ?_⟩
  replace h := zq_nx1 (q := 85) h rfl
  refine ⟨zq_k_n 42 h rfl (zq_o_42 _), ?_⟩
  replace h := zq_nx1 (q := 86) h rfl
  refine ⟨zq_k_u2 180 (fun z => .getfield z) 32 h rfl (zq_o_180 _) (by decide +kernel), ?_⟩
  replace h := zq_nx3 (q := 89) h rfl
  refine ⟨zq_k_s1 16 (fun z => .bipush z) 18 h rfl (zq_o_16 _) (by decide +kernel), ?_⟩
  replace h := zq_nx2 (q := 91) h rfl
  refine ⟨zq_k_n 27 h rfl (zq_o_27 _), ?_⟩
  replace h := zq_nx1 (q := 92) h rfl
  refine ⟨zq_k_n 96 h rfl (zq_o_96 _), ?_⟩
  replace h := zq_nx1 (q := 93) h rfl
  refine ⟨zq_k_n 46 h rfl (zq_o_46 _), ?_⟩
  replace h := zq_nx1 (q := 94) h rfl
  refine ⟨zq_k_u2 182 (fun z => .invokevirtual z) 168 h rfl (zq_o_182 _) (by decide +kernel), ?_⟩
  replace h := zq_nx3 (q := 97) h rfl
  refine ⟨zq_k_n 79 h rfl (zq_o_79 _), ?_⟩
  replace h := zq_nx1 (q := 98) h rfl
  refine ⟨zq_k_s2 167 (fun z => .goto z) (-37) h rfl (zq_o_167 _) (by decide +kernel), ?_⟩
  replace h := zq_nx3 (q := 101) h rfl
  refine ⟨zq_k_n 42 h rfl (zq_o_42 _), ?_⟩
  replace h := zq_nx1 (q := 102) h rfl
  refine ⟨zq_k_n 89 h rfl (zq_o_89 _), ?_⟩
  replace h := zq_nx1 (q := 103) h rfl
  refine ⟨zq_k_u2 180 (fun z => .getfield z) 97 h rfl (zq_o_180 _) (by decide +kernel), ?_⟩
  replace h := zq_nx3 (q := 106) h rfl
  refine ⟨zq_k_n 4 h rfl (zq_o_4 _), ?_⟩
  replace h := zq_nx1 (q := 107) h rfl
  refine ⟨zq_k_n 96 h rfl (zq_o_96 _), ?_⟩
  replace h := zq_nx1 (q := 108) h rfl
  refine ⟨zq_k_u2 181 (fun z => .putfield z) 97 h rfl (zq_o_181 _) (by decide +kernel), ?_⟩
  replace h := zq_nx3 (q := 111) h rfl
  exact zq_k_n 177 h rfl (zq_o_177 _)
def f_M_readOne_101  (b0 : Nat) (h : mH) : Option mH :=
  bd1 (gI h b0 8 11) fun x58 =>
  bd1 (pV h b0 8 11 (.int (x58 + (1 : Int32)))) fun h60 =>
  some h60
set_option maxRecDepth 20000 in
theorem t_M_readOne_101 {sc : Nat × (Nat → Int32)}  (b0 : Nat) (h : mH) (h' : mH) (hf : f_M_readOne_101  b0 h = some h') : G sc y_M_readOne prog_10_method_18_code 2 none 3 70 101 [(0, .ref b0)] [] h none h' := by
  unfold f_M_readOne_101 at hf
  refine g_aload_n (pc := 101) 0 dd_M_readOne_80.2.2.2.2.2.2.2.2.2.2.2.2.2.1 rfl rfl ?_
  refine g_dup (pc := 102) dd_M_readOne_80.2.2.2.2.2.2.2.2.2.2.2.2.2.2.1 rfl ?_
  obtain ⟨x58, e59, hf⟩ := bd1_e hf
  refine g_get (pc := 103) (ci := 8) (kk := 11) dd_M_readOne_80.2.2.2.2.2.2.2.2.2.2.2.2.2.2.2.1 rfl in_M (by decide) wd_949 (gI_spec e59) ?_
  refine g_iconst (pc := 106) (1 : Int32) dd_M_readOne_80.2.2.2.2.2.2.2.2.2.2.2.2.2.2.2.2.1 (by decide) ?_
  refine g_iadd (pc := 107) dd_M_readOne_80.2.2.2.2.2.2.2.2.2.2.2.2.2.2.2.2.2.1 ?_
  obtain ⟨h60, e61, hf⟩ := bd1_e hf
  refine g_put (pc := 108) (ci := 8) (kk := 11) ty_M tyok_M nm_M dd_M_readOne_80.2.2.2.2.2.2.2.2.2.2.2.2.2.2.2.2.2.2.1 rfl in_M (by decide) wd_949 rfl (fun _ => rfl) (fun _ => rfl) (fun _ z => by cases z) e61 ?_
  obtain rfl := ret1 hf
  exact g_vret (pc := 111) rfl dd_M_readOne_80.2.2.2.2.2.2.2.2.2.2.2.2.2.2.2.2.2.2.2
def f_M_readOne_61b (rec61 : Nat → Int32 → mH → Option mH) (b0 : Nat) (b1 : Int32) (h : mH) : Option mH :=
  bd1 (gI h b0 8 25) fun x39 =>
  if x39 = 0 then
    bd1 (gI h b0 8 23) fun x41 =>
    if x41 = (2 : Int32) then
      bd1 (gR h b0 8 9) fun x43 =>
      bd1 (gR h b0 8 9) fun x45 =>
      bd1 (aI h 0 x45 ((18 : Int32) + b1)) fun x47 =>
      bd1 (kC h b0 8) fun _ =>
      bd2 (f_M_readLawOf b0 x47 h) fun x53 h51 =>
      bd1 (sI h51 0 x43 ((18 : Int32) + b1) x53) fun h54 =>
      rec61 b0 b1 h54
    else
      f_M_readOne_101  b0 h
  else
    f_M_readOne_101  b0 h
set_option maxRecDepth 20000 in
theorem t_M_readOne_61b {sc : Nat × (Nat → Int32)} (rec61 : Nat → Int32 → mH → Option mH) (hrec61 : ∀ (b0 : Nat) (b1 : Int32) (h : mH) (h' : mH), rec61 b0 b1 h = some h' → G sc y_M_readOne prog_10_method_18_code 2 none 3 70 61 [(0, .ref b0), (1, .int b1)] [] h none h') (b0 : Nat) (b1 : Int32) (h : mH) (h' : mH) (hf : f_M_readOne_61b rec61 b0 b1 h = some h') : G sc y_M_readOne prog_10_method_18_code 2 none 3 70 61 [(0, .ref b0), (1, .int b1)] [] h none h' := by
  unfold f_M_readOne_61b at hf
  refine g_aload_n (pc := 61) 0 dd_M_readOne_37.2.2.2.2.2.2.2.2.2.2.2.2.2.2.2.1 rfl rfl ?_
  obtain ⟨x39, e40, hf⟩ := bd1_e hf
  refine g_get (pc := 62) (ci := 8) (kk := 25) dd_M_readOne_37.2.2.2.2.2.2.2.2.2.2.2.2.2.2.2.2.1 rfl in_M (by decide) wd_963 (gI_spec e40) ?_
  refine g_ifne (pc := 65) 101 dd_M_readOne_37.2.2.2.2.2.2.2.2.2.2.2.2.2.2.2.2.2.1 (by decide) (fun c57 => ?_) (fun c57 => ?_)
  · replace hf := (if_neg c57).symm.trans hf
    refine g_lv [0] rfl ?_
    exact t_M_readOne_101  _ _ _  hf
  · replace hf := (if_pos c57).symm.trans hf
    refine g_aload_n (pc := 68) 0 dd_M_readOne_37.2.2.2.2.2.2.2.2.2.2.2.2.2.2.2.2.2.2.1 rfl rfl ?_
    obtain ⟨x41, e42, hf⟩ := bd1_e hf
    refine g_get (pc := 69) (ci := 8) (kk := 23) dd_M_readOne_37.2.2.2.2.2.2.2.2.2.2.2.2.2.2.2.2.2.2.2.1 rfl in_M (by decide) wd_961 (gI_spec e42) ?_
    refine g_iconst (pc := 72) (2 : Int32) dd_M_readOne_37.2.2.2.2.2.2.2.2.2.2.2.2.2.2.2.2.2.2.2.2.1 (by decide) ?_
    refine g_icmpne (pc := 73) 101 dd_M_readOne_37.2.2.2.2.2.2.2.2.2.2.2.2.2.2.2.2.2.2.2.2.2.1 (by decide) (fun c56 => ?_) (fun c56 => ?_)
    · replace hf := (if_neg c56).symm.trans hf
      refine g_lv [0] rfl ?_
      exact t_M_readOne_101  _ _ _  hf
    · replace hf := (if_pos c56).symm.trans hf
      refine g_aload_n (pc := 76) 0 dd_M_readOne_37.2.2.2.2.2.2.2.2.2.2.2.2.2.2.2.2.2.2.2.2.2.2.1 rfl rfl ?_
      obtain ⟨x43, e44, hf⟩ := bd1_e hf
      refine g_get (pc := 77) (ci := 8) (kk := 9) dd_M_readOne_37.2.2.2.2.2.2.2.2.2.2.2.2.2.2.2.2.2.2.2.2.2.2.2 rfl in_M (by decide) wd_947 (gR_spec e44) ?_
      refine g_bipush (pc := 80) (18 : Int32) dd_M_readOne_80.1 (by decide) ?_
      refine g_iload_n (pc := 82) 1 dd_M_readOne_80.2.1 rfl rfl ?_
      refine g_iadd (pc := 83) dd_M_readOne_80.2.2.1 ?_
      refine g_aload_n (pc := 84) 0 dd_M_readOne_80.2.2.2.1 rfl rfl ?_
      refine g_aload_n (pc := 85) 0 dd_M_readOne_80.2.2.2.2.1 rfl rfl ?_
      obtain ⟨x45, e46, hf⟩ := bd1_e hf
      refine g_get (pc := 86) (ci := 8) (kk := 9) dd_M_readOne_80.2.2.2.2.2.1 rfl in_M (by decide) wd_947 (gR_spec e46) ?_
      refine g_bipush (pc := 89) (18 : Int32) dd_M_readOne_80.2.2.2.2.2.2.1 (by decide) ?_
      refine g_iload_n (pc := 91) 1 dd_M_readOne_80.2.2.2.2.2.2.2.1 rfl rfl ?_
      refine g_iadd (pc := 92) dd_M_readOne_80.2.2.2.2.2.2.2.2.1 ?_
      obtain ⟨x47, e48, hf⟩ := bd1_e hf
      refine g_iald (pc := 93) dd_M_readOne_80.2.2.2.2.2.2.2.2.2.1 e48 ?_
      obtain ⟨u50, e49, hf⟩ := bd1_e hf
      obtain ⟨x53, h51, e52, hf⟩ := bd2_e hf
      refine g_callV (pc := 94) (ci := 8) [.int x47] (site_of si_M_readLawOf (by decide) (by decide)) wd_1116 wd_1118 wp_42 dd_M_readOne_80.2.2.2.2.2.2.2.2.2.2.1 rfl e49 (Nat.le_of_ble_eq_true rfl) (fun z => absurd z si_na_M_readLawOf) (fun z => absurd z si_na_M_readLawOf) (fun z => absurd z si_na_M_readLawOf) (c_M_readLawOf e52) rfl ?_
      refine g_st [.int x53, .int ((18 : Int32) + b1), .ref x43] rfl ?_
      obtain ⟨h54, e55, hf⟩ := bd1_e hf
      refine g_iast (pc := 97) dd_M_readOne_80.2.2.2.2.2.2.2.2.2.2.2.1 e55 ?_
      refine g_goto (pc := 98) 61 dd_M_readOne_80.2.2.2.2.2.2.2.2.2.2.2.2.1 (by decide) ?_
      refine g_lv [0, 1] rfl ?_
      exact hrec61 _ _ _ _  hf
def f_M_readOne_61  : Nat → Nat → Int32 → mH → Option mH
  | 0 => fun _ _ _ => none
  | n + 1 => f_M_readOne_61b  (f_M_readOne_61  n)
theorem t_M_readOne_61 {sc : Nat × (Nat → Int32)}  : ∀ (n : Nat) (b0 : Nat) (b1 : Int32) (h : mH) (h' : mH) (hf : f_M_readOne_61  n b0 b1 h = some h'), G sc y_M_readOne prog_10_method_18_code 2 none 3 70 61 [(0, .ref b0), (1, .int b1)] [] h none h'
  | 0, _, _, _, _, hf => by cases hf
  | n + 1, _, _, _, _, hf => t_M_readOne_61b  (f_M_readOne_61  n) (t_M_readOne_61  n) _ _ _ _ hf
def f_M_readOne_0  (a0 : Nat) (h : mH) : Option mH :=
  bd1 (gI h a0 8 11) fun x1 =>
  bd1 (gR h a0 8 9) fun x3 =>
  bd1 (kC h a0 8) fun _ =>
  bd2 (f_M_readNumber a0 (0 : Int32) (5 : Int32) h) fun x9 h7 =>
  bd1 (sI h7 0 x3 ((12 : Int32) + x1) x9) fun h10 =>
  bd1 (gR h10 a0 8 15) fun x12 =>
  bd1 (kC h10 a0 8) fun _ =>
  bd2 (f_M_readNumber a0 (0 : Int32) (3 : Int32) h10) fun x18 h16 =>
  bd1 (sI h16 0 x12 x1 x18) fun h19 =>
  bd1 (gR h19 a0 8 16) fun x21 =>
  bd1 (kC h19 a0 8) fun _ =>
  bd2 (f_M_readNumber a0 (0 : Int32) (10 : Int32) h19) fun x27 h25 =>
  bd1 (sI h25 0 x21 x1 x27) fun h28 =>
  bd1 (gR h28 a0 8 9) fun x30 =>
  bd1 (kC h28 a0 8) fun _ =>
  bd2 (f_M_readNumber a0 (0 : Int32) (99 : Int32) h28) fun x36 h34 =>
  bd1 (sI h34 0 x30 ((15 : Int32) + x1) x36) fun h37 =>
  f_M_readOne_61  FU a0 x1 h37
set_option maxRecDepth 20000 in
theorem t_M_readOne_0 {sc : Nat × (Nat → Int32)}  (a0 : Nat) (h : mH) (h' : mH) (hf : f_M_readOne_0  a0 h = some h') : G sc y_M_readOne prog_10_method_18_code 2 none 3 70 0 [(0, .ref a0)] [] h none h' := by
  unfold f_M_readOne_0 at hf
  refine g_aload_n (pc := 0) 0 dd_M_readOne_0.1 rfl rfl ?_
  obtain ⟨x1, e2, hf⟩ := bd1_e hf
  refine g_get (pc := 1) (ci := 8) (kk := 11) dd_M_readOne_0.2.1 rfl in_M (by decide) wd_949 (gI_spec e2) ?_
  refine g_istore_n (pc := 4) [(1, .int x1), (0, .ref a0)] dd_M_readOne_0.2.2.1 rfl (Nat.le_of_ble_eq_true rfl) rfl ?_
  refine g_aload_n (pc := 5) 1 dd_M_readOne_0.2.2.2.1 rfl rfl ?_
  obtain ⟨x3, e4, hf⟩ := bd1_e hf
  refine g_get (pc := 6) (ci := 8) (kk := 9) dd_M_readOne_0.2.2.2.2.1 rfl in_M (by decide) wd_947 (gR_spec e4) ?_
  refine g_bipush (pc := 9) (12 : Int32) dd_M_readOne_0.2.2.2.2.2.1 (by decide) ?_
  refine g_iload_n (pc := 11) 0 dd_M_readOne_0.2.2.2.2.2.2.1 rfl rfl ?_
  refine g_iadd (pc := 12) dd_M_readOne_0.2.2.2.2.2.2.2.1 ?_
  refine g_aload_n (pc := 13) 1 dd_M_readOne_0.2.2.2.2.2.2.2.2.1 rfl rfl ?_
  refine g_iconst (pc := 14) (0 : Int32) dd_M_readOne_0.2.2.2.2.2.2.2.2.2.1 (by decide) ?_
  refine g_iconst (pc := 15) (5 : Int32) dd_M_readOne_0.2.2.2.2.2.2.2.2.2.2.1 (by decide) ?_
  obtain ⟨u6, e5, hf⟩ := bd1_e hf
  obtain ⟨x9, h7, e8, hf⟩ := bd2_e hf
  refine g_callV (pc := 16) (ci := 8) [.int (0 : Int32), .int (5 : Int32)] (site_of si_M_readNumber (by decide) (by decide)) wd_1108 wd_1110 wp_40 dd_M_readOne_0.2.2.2.2.2.2.2.2.2.2.2.1 rfl e5 (Nat.le_of_ble_eq_true rfl) (fun z => absurd z si_na_M_readNumber) (fun z => absurd z si_na_M_readNumber) (fun z => absurd z si_na_M_readNumber) (c_M_readNumber e8) rfl ?_
  refine g_st [.int x9, .int ((12 : Int32) + x1), .ref x3] rfl ?_
  obtain ⟨h10, e11, hf⟩ := bd1_e hf
  refine g_iast (pc := 19) dd_M_readOne_0.2.2.2.2.2.2.2.2.2.2.2.2.1 e11 ?_
  refine g_aload_n (pc := 20) 1 dd_M_readOne_0.2.2.2.2.2.2.2.2.2.2.2.2.2.1 rfl rfl ?_
  obtain ⟨x12, e13, hf⟩ := bd1_e hf
  refine g_get (pc := 21) (ci := 8) (kk := 15) dd_M_readOne_0.2.2.2.2.2.2.2.2.2.2.2.2.2.2.1 rfl in_M (by decide) wd_953 (gR_spec e13) ?_
  refine g_iload_n (pc := 24) 0 dd_M_readOne_0.2.2.2.2.2.2.2.2.2.2.2.2.2.2.2.1 rfl rfl ?_
  refine g_aload_n (pc := 25) 1 dd_M_readOne_0.2.2.2.2.2.2.2.2.2.2.2.2.2.2.2.2.1 rfl rfl ?_
  refine g_iconst (pc := 26) (0 : Int32) dd_M_readOne_0.2.2.2.2.2.2.2.2.2.2.2.2.2.2.2.2.2.1 (by decide) ?_
  refine g_iconst (pc := 27) (3 : Int32) dd_M_readOne_0.2.2.2.2.2.2.2.2.2.2.2.2.2.2.2.2.2.2.1 (by decide) ?_
  obtain ⟨u15, e14, hf⟩ := bd1_e hf
  obtain ⟨x18, h16, e17, hf⟩ := bd2_e hf
  refine g_callV (pc := 28) (ci := 8) [.int (0 : Int32), .int (3 : Int32)] (site_of si_M_readNumber (by decide) (by decide)) wd_1108 wd_1110 wp_40 dd_M_readOne_0.2.2.2.2.2.2.2.2.2.2.2.2.2.2.2.2.2.2.2.1 rfl e14 (Nat.le_of_ble_eq_true rfl) (fun z => absurd z si_na_M_readNumber) (fun z => absurd z si_na_M_readNumber) (fun z => absurd z si_na_M_readNumber) (c_M_readNumber e17) rfl ?_
  refine g_st [.int x18, .int x1, .ref x12] rfl ?_
  obtain ⟨h19, e20, hf⟩ := bd1_e hf
  refine g_iast (pc := 31) dd_M_readOne_0.2.2.2.2.2.2.2.2.2.2.2.2.2.2.2.2.2.2.2.2.1 e20 ?_
  refine g_aload_n (pc := 32) 1 dd_M_readOne_0.2.2.2.2.2.2.2.2.2.2.2.2.2.2.2.2.2.2.2.2.2.1 rfl rfl ?_
  obtain ⟨x21, e22, hf⟩ := bd1_e hf
  refine g_get (pc := 33) (ci := 8) (kk := 16) dd_M_readOne_0.2.2.2.2.2.2.2.2.2.2.2.2.2.2.2.2.2.2.2.2.2.2.1 rfl in_M (by decide) wd_954 (gR_spec e22) ?_
  refine g_iload_n (pc := 36) 0 dd_M_readOne_0.2.2.2.2.2.2.2.2.2.2.2.2.2.2.2.2.2.2.2.2.2.2.2 rfl rfl ?_
  refine g_aload_n (pc := 37) 1 dd_M_readOne_37.1 rfl rfl ?_
  refine g_iconst (pc := 38) (0 : Int32) dd_M_readOne_37.2.1 (by decide) ?_
  refine g_bipush (pc := 39) (10 : Int32) dd_M_readOne_37.2.2.1 (by decide) ?_
  obtain ⟨u24, e23, hf⟩ := bd1_e hf
  obtain ⟨x27, h25, e26, hf⟩ := bd2_e hf
  refine g_callV (pc := 41) (ci := 8) [.int (0 : Int32), .int (10 : Int32)] (site_of si_M_readNumber (by decide) (by decide)) wd_1108 wd_1110 wp_40 dd_M_readOne_37.2.2.2.1 rfl e23 (Nat.le_of_ble_eq_true rfl) (fun z => absurd z si_na_M_readNumber) (fun z => absurd z si_na_M_readNumber) (fun z => absurd z si_na_M_readNumber) (c_M_readNumber e26) rfl ?_
  refine g_st [.int x27, .int x1, .ref x21] rfl ?_
  obtain ⟨h28, e29, hf⟩ := bd1_e hf
  refine g_iast (pc := 44) dd_M_readOne_37.2.2.2.2.1 e29 ?_
  refine g_aload_n (pc := 45) 1 dd_M_readOne_37.2.2.2.2.2.1 rfl rfl ?_
  obtain ⟨x30, e31, hf⟩ := bd1_e hf
  refine g_get (pc := 46) (ci := 8) (kk := 9) dd_M_readOne_37.2.2.2.2.2.2.1 rfl in_M (by decide) wd_947 (gR_spec e31) ?_
  refine g_bipush (pc := 49) (15 : Int32) dd_M_readOne_37.2.2.2.2.2.2.2.1 (by decide) ?_
  refine g_iload_n (pc := 51) 0 dd_M_readOne_37.2.2.2.2.2.2.2.2.1 rfl rfl ?_
  refine g_iadd (pc := 52) dd_M_readOne_37.2.2.2.2.2.2.2.2.2.1 ?_
  refine g_aload_n (pc := 53) 1 dd_M_readOne_37.2.2.2.2.2.2.2.2.2.2.1 rfl rfl ?_
  refine g_iconst (pc := 54) (0 : Int32) dd_M_readOne_37.2.2.2.2.2.2.2.2.2.2.2.1 (by decide) ?_
  refine g_bipush (pc := 55) (99 : Int32) dd_M_readOne_37.2.2.2.2.2.2.2.2.2.2.2.2.1 (by decide) ?_
  obtain ⟨u33, e32, hf⟩ := bd1_e hf
  obtain ⟨x36, h34, e35, hf⟩ := bd2_e hf
  refine g_callV (pc := 57) (ci := 8) [.int (0 : Int32), .int (99 : Int32)] (site_of si_M_readNumber (by decide) (by decide)) wd_1108 wd_1110 wp_40 dd_M_readOne_37.2.2.2.2.2.2.2.2.2.2.2.2.2.1 rfl e32 (Nat.le_of_ble_eq_true rfl) (fun z => absurd z si_na_M_readNumber) (fun z => absurd z si_na_M_readNumber) (fun z => absurd z si_na_M_readNumber) (c_M_readNumber e35) rfl ?_
  refine g_st [.int x36, .int ((15 : Int32) + x1), .ref x30] rfl ?_
  obtain ⟨h37, e38, hf⟩ := bd1_e hf
  refine g_iast (pc := 60) dd_M_readOne_37.2.2.2.2.2.2.2.2.2.2.2.2.2.2.1 e38 ?_
  refine g_lv [1, 0] rfl ?_
  exact t_M_readOne_61  FU _ _ _ _  hf
def f_M_readOne (a0 : Nat) (h : mH) : Option mH := f_M_readOne_0 a0 h
theorem c_M_readOne {sc : Nat × (Nat → Int32)} {a0 : Nat} {h : mH} {h' : mH} (hf : f_M_readOne a0 h = some h') : MM sc y_M_readOne prog_10_method_18_code 2 none 3 70 [.ref a0] h none h' :=
  mm_of_G si_pn_M (Nat.le_of_ble_eq_true rfl) (t_M_readOne_0 _ _ _ hf)
/-! M readLineOf (I)V -/
set_option maxRecDepth 100000 in
theorem dd_M_readLineOf_0 : (decode prog_10_method_19_code 0 = .ok (.iload_n 1, 1)) ∧ (decode prog_10_method_19_code 1 = .ok (.tableswitch 100 0 2 #[27, 34, 41], 27)) ∧ (decode prog_10_method_19_code 28 = .ok (.aload_n 0, 1)) ∧ (decode prog_10_method_19_code 29 = .ok (.invokevirtual 171, 3)) ∧ (decode prog_10_method_19_code 32 = .ok (.goto 87, 3)) ∧ (decode prog_10_method_19_code 35 = .ok (.aload_n 0, 1)) ∧ (decode prog_10_method_19_code 36 = .ok (.invokevirtual 174, 3)) ∧ (decode prog_10_method_19_code 39 = .ok (.goto 80, 3)) ∧ (decode prog_10_method_19_code 42 = .ok (.aload_n 0, 1)) ∧ (decode prog_10_method_19_code 43 = .ok (.iconst 0, 1)) ∧ (decode prog_10_method_19_code 44 = .ok (.iconst 2, 1)) ∧ (decode prog_10_method_19_code 45 = .ok (.invokevirtual 165, 3)) ∧ (decode prog_10_method_19_code 48 = .ok (.istore_n 2, 1)) ∧ (decode prog_10_method_19_code 49 = .ok (.aload_n 0, 1)) ∧ (decode prog_10_method_19_code 50 = .ok (.aload_n 0, 1)) ∧ (decode prog_10_method_19_code 51 = .ok (.getfield 121, 3)) ∧ (decode prog_10_method_19_code 54 = .ok (.ifCond .ne 15, 3)) ∧ (decode prog_10_method_19_code 57 = .ok (.iload_n 2, 1)) ∧ (decode prog_10_method_19_code 58 = .ok (.aload_n 0, 1)) ∧ (decode prog_10_method_19_code 59 = .ok (.getfield 103, 3)) ∧ (decode prog_10_method_19_code 62 = .ok (.if_icmp .le 7, 3)) ∧ (decode prog_10_method_19_code 65 = .ok (.iload_n 2, 1)) ∧ (decode prog_10_method_19_code 66 = .ok (.goto 7, 3)) ∧ (decode prog_10_method_19_code 69 = .ok (.aload_n 0, 1)) := by
  have h : List.drop 0 prog_10_method_19_code.data.toList = 0x1b :: _ := rfl
  refine ⟨zq_k_n 27 h rfl (zq_o_27 _), ?_⟩
  replace h := zq_nx1 (q := 1) h rfl
  refine ⟨by decide +kernel, ?_⟩
  have h : List.drop 28 prog_10_method_19_code.data.toList = 0x2a :: _ := rfl
  refine ⟨zq_k_n 42 h rfl (zq_o_42 _), ?_⟩
  replace h := zq_nx1 (q := 29) h rfl
  refine ⟨zq_k_u2 182 (fun z => .invokevirtual z) 171 h rfl (zq_o_182 _) (by decide +kernel), ?_⟩
  replace h := zq_nx3 (q := 32) h rfl
  refine ⟨zq_k_s2 167 (fun z => .goto z) 87 h rfl (zq_o_167 _) (by decide +kernel), ?_⟩
  replace h := zq_nx3 (q := 35) h rfl
  refine ⟨zq_k_n 42 h rfl (zq_o_42 _), ?_⟩
  replace h := zq_nx1 (q := 36) h rfl
  refine ⟨zq_k_u2 182 (fun z => .invokevirtual z) 174 h rfl (zq_o_182 _) (by decide +kernel), ?_⟩
  replace h := zq_nx3 (q := 39) h rfl
  refine ⟨zq_k_s2 167 (fun z => .goto z) 80 h rfl (zq_o_167 _) (by decide +kernel), ?_⟩
  replace h := zq_nx3 (q := 42) h rfl
  refine ⟨zq_k_n 42 h rfl (zq_o_42 _), ?_⟩
  replace h := zq_nx1 (q := 43) h rfl
  refine ⟨zq_k_n 3 h rfl (zq_o_3 _), ?_⟩
  replace h := zq_nx1 (q := 44) h rfl
  refine ⟨zq_k_n 5 h rfl (zq_o_5 _), ?_⟩
  replace h := zq_nx1 (q := 45) h rfl
  refine ⟨zq_k_u2 182 (fun z => .invokevirtual z) 165 h rfl (zq_o_182 _) (by decide +kernel), ?_⟩
  replace h := zq_nx3 (q := 48) h rfl
  refine ⟨zq_k_n 61 h rfl (zq_o_61 _), ?_⟩
  replace h := zq_nx1 (q := 49) h rfl
  refine ⟨zq_k_n 42 h rfl (zq_o_42 _), ?_⟩
  replace h := zq_nx1 (q := 50) h rfl
  refine ⟨zq_k_n 42 h rfl (zq_o_42 _), ?_⟩
  replace h := zq_nx1 (q := 51) h rfl
  refine ⟨zq_k_u2 180 (fun z => .getfield z) 121 h rfl (zq_o_180 _) (by decide +kernel), ?_⟩
  replace h := zq_nx3 (q := 54) h rfl
  refine ⟨zq_k_s2 154 (fun z => .ifCond .ne z) 15 h rfl (zq_o_154 _) (by decide +kernel), ?_⟩
  replace h := zq_nx3 (q := 57) h rfl
  refine ⟨zq_k_n 28 h rfl (zq_o_28 _), ?_⟩
  replace h := zq_nx1 (q := 58) h rfl
  refine ⟨zq_k_n 42 h rfl (zq_o_42 _), ?_⟩
  replace h := zq_nx1 (q := 59) h rfl
  refine ⟨zq_k_u2 180 (fun z => .getfield z) 103 h rfl (zq_o_180 _) (by decide +kernel), ?_⟩
  replace h := zq_nx3 (q := 62) h rfl
  refine ⟨zq_k_s2 164 (fun z => .if_icmp .le z) 7 h rfl (zq_o_164 _) (by decide +kernel), ?_⟩
  replace h := zq_nx3 (q := 65) h rfl
  refine ⟨zq_k_n 28 h rfl (zq_o_28 _), ?_⟩
  replace h := zq_nx1 (q := 66) h rfl
  refine ⟨zq_k_s2 167 (fun z => .goto z) 7 h rfl (zq_o_167 _) (by decide +kernel), ?_⟩
  replace h := zq_nx3 (q := 69) h rfl
  exact zq_k_n 42 h rfl (zq_o_42 _)
set_option maxRecDepth 100000 in
theorem dd_M_readLineOf_70 : (decode prog_10_method_19_code 70 = .ok (.getfield 103, 3)) ∧ (decode prog_10_method_19_code 73 = .ok (.putfield 103, 3)) ∧ (decode prog_10_method_19_code 76 = .ok (.aload_n 0, 1)) ∧ (decode prog_10_method_19_code 77 = .ok (.getfield 32, 3)) ∧ (decode prog_10_method_19_code 80 = .ok (.bipush 21, 2)) ∧ (decode prog_10_method_19_code 82 = .ok (.iload_n 2, 1)) ∧ (decode prog_10_method_19_code 83 = .ok (.iadd, 1)) ∧ (decode prog_10_method_19_code 84 = .ok (.aload_n 0, 1)) ∧ (decode prog_10_method_19_code 85 = .ok (.aload_n 0, 1)) ∧ (decode prog_10_method_19_code 86 = .ok (.getfield 32, 3)) ∧ (decode prog_10_method_19_code 89 = .ok (.bipush 21, 2)) ∧ (decode prog_10_method_19_code 91 = .ok (.iload_n 2, 1)) ∧ (decode prog_10_method_19_code 92 = .ok (.iadd, 1)) ∧ (decode prog_10_method_19_code 93 = .ok (.iaload, 1)) ∧ (decode prog_10_method_19_code 94 = .ok (.invokevirtual 168, 3)) ∧ (decode prog_10_method_19_code 97 = .ok (.iastore, 1)) ∧ (decode prog_10_method_19_code 98 = .ok (.goto 21, 3)) ∧ (decode prog_10_method_19_code 101 = .ok (.aload_n 0, 1)) ∧ (decode prog_10_method_19_code 102 = .ok (.getfield 32, 3)) ∧ (decode prog_10_method_19_code 105 = .ok (.bipush 11, 2)) ∧ (decode prog_10_method_19_code 107 = .ok (.aload_n 0, 1)) ∧ (decode prog_10_method_19_code 108 = .ok (.aload_n 0, 1)) ∧ (decode prog_10_method_19_code 109 = .ok (.getfield 32, 3)) ∧ (decode prog_10_method_19_code 112 = .ok (.bipush 11, 2)) := by
  have h : List.drop 70 prog_10_method_19_code.data.toList = 0xb4 :: _ := rfl
  refine ⟨zq_k_u2 180 (fun z => .getfield z) 103 h rfl (zq_o_180 _) (by decide +kernel), ?_⟩
  replace h := zq_nx3 (q := 73) h rfl
  refine ⟨zq_k_u2 181 (fun z => .putfield z) 103 h rfl (zq_o_181 _) (by decide +kernel), ?_⟩
  replace h := zq_nx3 (q := 76) h rfl
  refine ⟨zq_k_n 42 h rfl (zq_o_42 _), ?_⟩
  replace h := zq_nx1 (q := 77) h rfl
  refine ⟨zq_k_u2 180 (fun z => .getfield z) 32 h rfl (zq_o_180 _) (by decide +kernel), ?_⟩
  replace h := zq_nx3 (q := 80) h rfl
  refine ⟨zq_k_s1 16 (fun z => .bipush z) 21 h rfl (zq_o_16 _) (by decide +kernel), ?_⟩
  replace h := zq_nx2 (q := 82) h rfl
  refine ⟨zq_k_n 28 h rfl (zq_o_28 _), ?_⟩
  replace h := zq_nx1 (q := 83) h rfl
  refine ⟨zq_k_n 96 h rfl (zq_o_96 _), ?_⟩
  replace h := zq_nx1 (q := 84) h rfl
  refine ⟨zq_k_n 42 h rfl (zq_o_42 _), ?_⟩
  replace h := zq_nx1 (q := 85) h rfl
  refine ⟨zq_k_n 42 h rfl (zq_o_42 _), ?_⟩
  replace h := zq_nx1 (q := 86) h rfl
  refine ⟨zq_k_u2 180 (fun z => .getfield z) 32 h rfl (zq_o_180 _) (by decide +kernel), ?_⟩
  replace h := zq_nx3 (q := 89) h rfl
  refine ⟨zq_k_s1 16 (fun z => .bipush z) 21 h rfl (zq_o_16 _) (by decide +kernel), ?_⟩
  replace h := zq_nx2 (q := 91) h rfl
  refine ⟨zq_k_n 28 h rfl (zq_o_28 _), ?_⟩
  replace h := zq_nx1 (q := 92) h rfl
  refine ⟨zq_k_n 96 h rfl (zq_o_96 _), ?_⟩
  replace h := zq_nx1 (q := 93) h rfl
  refine ⟨zq_k_n 46 h rfl (zq_o_46 _), ?_⟩
  replace h := zq_nx1 (q := 94) h rfl
  refine ⟨zq_k_u2 182 (fun z => .invokevirtual z) 168 h rfl (zq_o_182 _) (by decide +kernel), ?_⟩
  replace h := zq_nx3 (q := 97) h rfl
  refine ⟨zq_k_n 79 h rfl (zq_o_79 _), ?_⟩
  replace h := zq_nx1 (q := 98) h rfl
  refine ⟨zq_k_s2 167 (fun z => .goto z) 21 h rfl (zq_o_167 _) (by decide +kernel), ?_⟩
  replace h := zq_nx3 (q := 101) h rfl
  refine ⟨zq_k_n 42 h rfl (zq_o_42 _), ?_⟩
  replace h := zq_nx1 (q := 102) h rfl
  refine ⟨zq_k_u2 180 (fun z => .getfield z) 32 h rfl (zq_o_180 _) (by decide +kernel), ?_⟩
  replace h := zq_nx3 (q := 105) h rfl
  refine ⟨zq_k_s1 16 (fun z => .bipush z) 11 h rfl (zq_o_16 _) (by decide +kernel), ?_⟩
  replace h := zq_nx2 (q := 107) h rfl
  refine ⟨zq_k_n 42 h rfl (zq_o_42 _), ?_⟩
  replace h := zq_nx1 (q := 108) h rfl
  refine ⟨zq_k_n 42 h rfl (zq_o_42 _), ?_⟩
  replace h := zq_nx1 (q := 109) h rfl
  refine ⟨zq_k_u2 180 (fun z => .getfield z) 32 h rfl (zq_o_180 _) (by decide +kernel), ?_⟩
  replace h := zq_nx3 (q := 112) h rfl
  exact zq_k_s1 16 (fun z => .bipush z) 11 h rfl (zq_o_16 _) (by decide +kernel)
set_option maxRecDepth 100000 in
theorem dd_M_readLineOf_114 : (decode prog_10_method_19_code 114 = .ok (.iaload, 1)) ∧ (decode prog_10_method_19_code 115 = .ok (.invokevirtual 168, 3)) ∧ (decode prog_10_method_19_code 118 = .ok (.iastore, 1)) ∧ (decode prog_10_method_19_code 119 = .ok (.return_, 1)) := by
  have h : List.drop 114 prog_10_method_19_code.data.toList = 0x2e :: _ := rfl
  refine ⟨zq_k_n 46 h rfl (zq_o_46 _), ?_⟩
  replace h := zq_nx1 (q := 115) h rfl
  refine ⟨zq_k_u2 182 (fun z => .invokevirtual z) 168 h rfl (zq_o_182 _) (by decide +kernel), ?_⟩
  replace h := zq_nx3 (q := 118) h rfl
  refine ⟨zq_k_n 79 h rfl (zq_o_79 _), ?_⟩
  replace h := zq_nx1 (q := 119) h rfl
  exact zq_k_n 177 h rfl (zq_o_177 _)
def f_M_readLineOf_73  (b0 : Nat) (b2 : Int32) (s0 : Nat) (s1 : Int32) (h : mH) : Option mH :=
  bd1 (pV h s0 8 18 (.int s1)) fun h36 =>
  bd1 (gR h36 b0 8 9) fun x38 =>
  bd1 (gR h36 b0 8 9) fun x40 =>
  bd1 (aI h36 0 x40 ((21 : Int32) + b2)) fun x42 =>
  bd1 (kC h36 b0 8) fun _ =>
  bd2 (f_M_readLawOf b0 x42 h36) fun x48 h46 =>
  bd1 (sI h46 0 x38 ((21 : Int32) + b2) x48) fun h49 =>
  some h49
set_option maxRecDepth 20000 in
theorem t_M_readLineOf_73 {sc : Nat × (Nat → Int32)}  (b0 : Nat) (b2 : Int32) (s0 : Nat) (s1 : Int32) (h : mH) (h' : mH) (hf : f_M_readLineOf_73  b0 b2 s0 s1 h = some h') : G sc y_M_readLineOf prog_10_method_19_code 3 none 4 93 73 [(0, .ref b0), (2, .int b2)] [.int s1, .ref s0] h none h' := by
  unfold f_M_readLineOf_73 at hf
  obtain ⟨h36, e37, hf⟩ := bd1_e hf
  refine g_put (pc := 73) (ci := 8) (kk := 18) ty_M tyok_M nm_M dd_M_readLineOf_70.2.1 rfl in_M (by decide) wd_956 rfl (fun _ => rfl) (fun _ => rfl) (fun _ z => by cases z) e37 ?_
  refine g_aload_n (pc := 76) 0 dd_M_readLineOf_70.2.2.1 rfl rfl ?_
  obtain ⟨x38, e39, hf⟩ := bd1_e hf
  refine g_get (pc := 77) (ci := 8) (kk := 9) dd_M_readLineOf_70.2.2.2.1 rfl in_M (by decide) wd_947 (gR_spec e39) ?_
  refine g_bipush (pc := 80) (21 : Int32) dd_M_readLineOf_70.2.2.2.2.1 (by decide) ?_
  refine g_iload_n (pc := 82) 1 dd_M_readLineOf_70.2.2.2.2.2.1 rfl rfl ?_
  refine g_iadd (pc := 83) dd_M_readLineOf_70.2.2.2.2.2.2.1 ?_
  refine g_aload_n (pc := 84) 0 dd_M_readLineOf_70.2.2.2.2.2.2.2.1 rfl rfl ?_
  refine g_aload_n (pc := 85) 0 dd_M_readLineOf_70.2.2.2.2.2.2.2.2.1 rfl rfl ?_
  obtain ⟨x40, e41, hf⟩ := bd1_e hf
  refine g_get (pc := 86) (ci := 8) (kk := 9) dd_M_readLineOf_70.2.2.2.2.2.2.2.2.2.1 rfl in_M (by decide) wd_947 (gR_spec e41) ?_
  refine g_bipush (pc := 89) (21 : Int32) dd_M_readLineOf_70.2.2.2.2.2.2.2.2.2.2.1 (by decide) ?_
  refine g_iload_n (pc := 91) 1 dd_M_readLineOf_70.2.2.2.2.2.2.2.2.2.2.2.1 rfl rfl ?_
  refine g_iadd (pc := 92) dd_M_readLineOf_70.2.2.2.2.2.2.2.2.2.2.2.2.1 ?_
  obtain ⟨x42, e43, hf⟩ := bd1_e hf
  refine g_iald (pc := 93) dd_M_readLineOf_70.2.2.2.2.2.2.2.2.2.2.2.2.2.1 e43 ?_
  obtain ⟨u45, e44, hf⟩ := bd1_e hf
  obtain ⟨x48, h46, e47, hf⟩ := bd2_e hf
  refine g_callV (pc := 94) (ci := 8) [.int x42] (site_of si_M_readLawOf (by decide) (by decide)) wd_1116 wd_1118 wp_42 dd_M_readLineOf_70.2.2.2.2.2.2.2.2.2.2.2.2.2.2.1 rfl e44 (Nat.le_of_ble_eq_true rfl) (fun z => absurd z si_na_M_readLawOf) (fun z => absurd z si_na_M_readLawOf) (fun z => absurd z si_na_M_readLawOf) (c_M_readLawOf e47) rfl ?_
  refine g_st [.int x48, .int ((21 : Int32) + b2), .ref x38] rfl ?_
  obtain ⟨h49, e50, hf⟩ := bd1_e hf
  refine g_iast (pc := 97) dd_M_readLineOf_70.2.2.2.2.2.2.2.2.2.2.2.2.2.2.2.1 e50 ?_
  refine g_goto (pc := 98) 119 dd_M_readLineOf_70.2.2.2.2.2.2.2.2.2.2.2.2.2.2.2.2.1 (by decide) ?_
  obtain rfl := ret1 hf
  exact g_vret (pc := 119) rfl dd_M_readLineOf_114.2.2.2
def f_M_readLineOf_69  (b0 : Nat) (b2 : Int32) (s0 : Nat) (h : mH) : Option mH :=
  bd1 (gI h b0 8 18) fun x51 =>
  f_M_readLineOf_73  b0 b2 s0 x51 h
set_option maxRecDepth 20000 in
theorem t_M_readLineOf_69 {sc : Nat × (Nat → Int32)}  (b0 : Nat) (b2 : Int32) (s0 : Nat) (h : mH) (h' : mH) (hf : f_M_readLineOf_69  b0 b2 s0 h = some h') : G sc y_M_readLineOf prog_10_method_19_code 3 none 4 93 69 [(0, .ref b0), (2, .int b2)] [.ref s0] h none h' := by
  unfold f_M_readLineOf_69 at hf
  refine g_aload_n (pc := 69) 0 dd_M_readLineOf_0.2.2.2.2.2.2.2.2.2.2.2.2.2.2.2.2.2.2.2.2.2.2.2 rfl rfl ?_
  obtain ⟨x51, e52, hf⟩ := bd1_e hf
  refine g_get (pc := 70) (ci := 8) (kk := 18) dd_M_readLineOf_70.1 rfl in_M (by decide) wd_956 (gI_spec e52) ?_
  refine g_lv [0, 1] rfl ?_
  exact t_M_readLineOf_73  _ _ _ _ _ _  hf
def f_M_readLineOf_0  (a0 : Nat) (a1 : Int32) (h : mH) : Option mH :=
  if a1 = (0 : Int32) then
    bd1 (kC h a0 8) fun _ =>
    bd1 (f_M_readLaw a0 h) fun h4 =>
    some h4
  else
  if a1 = (1 : Int32) then
    bd1 (kC h a0 8) fun _ =>
    bd1 (f_M_readOne a0 h) fun h9 =>
    some h9
  else
  if a1 = (2 : Int32) then
    bd1 (kC h a0 8) fun _ =>
    bd2 (f_M_readNumber a0 (0 : Int32) (2 : Int32) h) fun x16 h14 =>
    bd1 (gI h14 a0 8 25) fun x17 =>
    if x17 = 0 then
      bd1 (gI h14 a0 8 18) fun x19 =>
      if x16 ≤ x19 then
        f_M_readLineOf_69  a0 x16 a0 h14
      else
        f_M_readLineOf_73  a0 x16 a0 x16 h14
    else
      f_M_readLineOf_69  a0 x16 a0 h14
  else
  bd1 (gR h a0 8 9) fun x23 =>
  bd1 (gR h a0 8 9) fun x25 =>
  bd1 (aI h 0 x25 (11 : Int32)) fun x27 =>
  bd1 (kC h a0 8) fun _ =>
  bd2 (f_M_readLawOf a0 x27 h) fun x33 h31 =>
  bd1 (sI h31 0 x23 (11 : Int32) x33) fun h34 =>
  some h34
set_option maxRecDepth 20000 in
theorem t_M_readLineOf_0 {sc : Nat × (Nat → Int32)}  (a0 : Nat) (a1 : Int32) (h : mH) (h' : mH) (hf : f_M_readLineOf_0  a0 a1 h = some h') : G sc y_M_readLineOf prog_10_method_19_code 3 none 4 93 0 [(0, .ref a0), (1, .int a1)] [] h none h' := by
  unfold f_M_readLineOf_0 at hf
  refine g_iload_n (pc := 0) 1 dd_M_readLineOf_0.1 rfl rfl ?_
  by_cases c1 : a1 = (0 : Int32)
  · replace hf := (if_pos c1).symm.trans hf
    refine g_tabIn (pc := 1) 28 (0 : Int32) dd_M_readLineOf_0.2.1 c1 (by decide) (by decide) rfl (by decide) ?_
    refine g_aload_n (pc := 28) 0 dd_M_readLineOf_0.2.2.1 rfl rfl ?_
    obtain ⟨u3, e2, hf⟩ := bd1_e hf
    obtain ⟨h4, e5, hf⟩ := bd1_e hf
    refine g_callV (pc := 29) (ci := 8) [] (site_of si_M_readLaw (by decide) (by decide)) wd_1104 wd_1106 wp_39 dd_M_readLineOf_0.2.2.2.1 rfl e2 (Nat.le_of_ble_eq_true rfl) (fun z => absurd z si_na_M_readLaw) (fun z => absurd z si_na_M_readLaw) (fun z => absurd z si_na_M_readLaw) (c_M_readLaw e5) rfl ?_
    refine g_st [] rfl ?_
    refine g_goto (pc := 32) 119 dd_M_readLineOf_0.2.2.2.2.1 (by decide) ?_
    obtain rfl := ret1 hf
    exact g_vret (pc := 119) rfl dd_M_readLineOf_114.2.2.2
  replace hf := (if_neg c1).symm.trans hf
  by_cases c6 : a1 = (1 : Int32)
  · replace hf := (if_pos c6).symm.trans hf
    refine g_tabIn (pc := 1) 35 (1 : Int32) dd_M_readLineOf_0.2.1 c6 (by decide) (by decide) rfl (by decide) ?_
    refine g_aload_n (pc := 35) 0 dd_M_readLineOf_0.2.2.2.2.2.1 rfl rfl ?_
    obtain ⟨u8, e7, hf⟩ := bd1_e hf
    obtain ⟨h9, e10, hf⟩ := bd1_e hf
    refine g_callV (pc := 36) (ci := 8) [] (site_of si_M_readOne (by decide) (by decide)) wd_1120 wd_1122 wp_43 dd_M_readLineOf_0.2.2.2.2.2.2.1 rfl e7 (Nat.le_of_ble_eq_true rfl) (fun z => absurd z si_na_M_readOne) (fun z => absurd z si_na_M_readOne) (fun z => absurd z si_na_M_readOne) (c_M_readOne e10) rfl ?_
    refine g_st [] rfl ?_
    refine g_goto (pc := 39) 119 dd_M_readLineOf_0.2.2.2.2.2.2.2.1 (by decide) ?_
    obtain rfl := ret1 hf
    exact g_vret (pc := 119) rfl dd_M_readLineOf_114.2.2.2
  replace hf := (if_neg c6).symm.trans hf
  by_cases c11 : a1 = (2 : Int32)
  · replace hf := (if_pos c11).symm.trans hf
    refine g_tabIn (pc := 1) 42 (2 : Int32) dd_M_readLineOf_0.2.1 c11 (by decide) (by decide) rfl (by decide) ?_
    refine g_aload_n (pc := 42) 0 dd_M_readLineOf_0.2.2.2.2.2.2.2.2.1 rfl rfl ?_
    refine g_iconst (pc := 43) (0 : Int32) dd_M_readLineOf_0.2.2.2.2.2.2.2.2.2.1 (by decide) ?_
    refine g_iconst (pc := 44) (2 : Int32) dd_M_readLineOf_0.2.2.2.2.2.2.2.2.2.2.1 (by decide) ?_
    obtain ⟨u13, e12, hf⟩ := bd1_e hf
    obtain ⟨x16, h14, e15, hf⟩ := bd2_e hf
    refine g_callV (pc := 45) (ci := 8) [.int (0 : Int32), .int (2 : Int32)] (site_of si_M_readNumber (by decide) (by decide)) wd_1108 wd_1110 wp_40 dd_M_readLineOf_0.2.2.2.2.2.2.2.2.2.2.2.1 rfl e12 (Nat.le_of_ble_eq_true rfl) (fun z => absurd z si_na_M_readNumber) (fun z => absurd z si_na_M_readNumber) (fun z => absurd z si_na_M_readNumber) (c_M_readNumber e15) rfl ?_
    refine g_st [.int x16] rfl ?_
    refine g_istore_n (pc := 48) [(2, .int x16), (0, .ref a0), (1, .int a1)] dd_M_readLineOf_0.2.2.2.2.2.2.2.2.2.2.2.2.1 rfl (Nat.le_of_ble_eq_true rfl) rfl ?_
    refine g_aload_n (pc := 49) 1 dd_M_readLineOf_0.2.2.2.2.2.2.2.2.2.2.2.2.2.1 rfl rfl ?_
    refine g_aload_n (pc := 50) 1 dd_M_readLineOf_0.2.2.2.2.2.2.2.2.2.2.2.2.2.2.1 rfl rfl ?_
    obtain ⟨x17, e18, hf⟩ := bd1_e hf
    refine g_get (pc := 51) (ci := 8) (kk := 25) dd_M_readLineOf_0.2.2.2.2.2.2.2.2.2.2.2.2.2.2.2.1 rfl in_M (by decide) wd_963 (gI_spec e18) ?_
    refine g_ifne (pc := 54) 69 dd_M_readLineOf_0.2.2.2.2.2.2.2.2.2.2.2.2.2.2.2.2.1 (by decide) (fun c22 => ?_) (fun c22 => ?_)
    · replace hf := (if_neg c22).symm.trans hf
      refine g_lv [1, 0] rfl ?_
      exact t_M_readLineOf_69  _ _ _ _ _  hf
    · replace hf := (if_pos c22).symm.trans hf
      refine g_iload_n (pc := 57) 0 dd_M_readLineOf_0.2.2.2.2.2.2.2.2.2.2.2.2.2.2.2.2.2.1 rfl rfl ?_
      refine g_aload_n (pc := 58) 1 dd_M_readLineOf_0.2.2.2.2.2.2.2.2.2.2.2.2.2.2.2.2.2.2.1 rfl rfl ?_
      obtain ⟨x19, e20, hf⟩ := bd1_e hf
      refine g_get (pc := 59) (ci := 8) (kk := 18) dd_M_readLineOf_0.2.2.2.2.2.2.2.2.2.2.2.2.2.2.2.2.2.2.2.1 rfl in_M (by decide) wd_956 (gI_spec e20) ?_
      refine g_icmple (pc := 62) 69 dd_M_readLineOf_0.2.2.2.2.2.2.2.2.2.2.2.2.2.2.2.2.2.2.2.2.1 (by decide) (fun c21 => ?_) (fun c21 => ?_)
      · replace hf := (if_pos c21).symm.trans hf
        refine g_lv [1, 0] rfl ?_
        exact t_M_readLineOf_69  _ _ _ _ _  hf
      · replace hf := (if_neg c21).symm.trans hf
        refine g_iload_n (pc := 65) 0 dd_M_readLineOf_0.2.2.2.2.2.2.2.2.2.2.2.2.2.2.2.2.2.2.2.2.2.1 rfl rfl ?_
        refine g_goto (pc := 66) 73 dd_M_readLineOf_0.2.2.2.2.2.2.2.2.2.2.2.2.2.2.2.2.2.2.2.2.2.2.1 (by decide) ?_
        refine g_lv [1, 0] rfl ?_
        exact t_M_readLineOf_73  _ _ _ _ _ _  hf
  replace hf := (if_neg c11).symm.trans hf
  refine g_tabOut (pc := 1) 101 3 dd_M_readLineOf_0.2.1 (by decide) (fun i hi => ?_) (by decide) ?_
  · rcases (show i = 0 ∨ i = 1 ∨ i = 2 by omega) with rfl | rfl | rfl
    · exact c1
    · exact c6
    · exact c11
  refine g_aload_n (pc := 101) 0 dd_M_readLineOf_70.2.2.2.2.2.2.2.2.2.2.2.2.2.2.2.2.2.1 rfl rfl ?_
  obtain ⟨x23, e24, hf⟩ := bd1_e hf
  refine g_get (pc := 102) (ci := 8) (kk := 9) dd_M_readLineOf_70.2.2.2.2.2.2.2.2.2.2.2.2.2.2.2.2.2.2.1 rfl in_M (by decide) wd_947 (gR_spec e24) ?_
  refine g_bipush (pc := 105) (11 : Int32) dd_M_readLineOf_70.2.2.2.2.2.2.2.2.2.2.2.2.2.2.2.2.2.2.2.1 (by decide) ?_
  refine g_aload_n (pc := 107) 0 dd_M_readLineOf_70.2.2.2.2.2.2.2.2.2.2.2.2.2.2.2.2.2.2.2.2.1 rfl rfl ?_
  refine g_aload_n (pc := 108) 0 dd_M_readLineOf_70.2.2.2.2.2.2.2.2.2.2.2.2.2.2.2.2.2.2.2.2.2.1 rfl rfl ?_
  obtain ⟨x25, e26, hf⟩ := bd1_e hf
  refine g_get (pc := 109) (ci := 8) (kk := 9) dd_M_readLineOf_70.2.2.2.2.2.2.2.2.2.2.2.2.2.2.2.2.2.2.2.2.2.2.1 rfl in_M (by decide) wd_947 (gR_spec e26) ?_
  refine g_bipush (pc := 112) (11 : Int32) dd_M_readLineOf_70.2.2.2.2.2.2.2.2.2.2.2.2.2.2.2.2.2.2.2.2.2.2.2 (by decide) ?_
  obtain ⟨x27, e28, hf⟩ := bd1_e hf
  refine g_iald (pc := 114) dd_M_readLineOf_114.1 e28 ?_
  obtain ⟨u30, e29, hf⟩ := bd1_e hf
  obtain ⟨x33, h31, e32, hf⟩ := bd2_e hf
  refine g_callV (pc := 115) (ci := 8) [.int x27] (site_of si_M_readLawOf (by decide) (by decide)) wd_1116 wd_1118 wp_42 dd_M_readLineOf_114.2.1 rfl e29 (Nat.le_of_ble_eq_true rfl) (fun z => absurd z si_na_M_readLawOf) (fun z => absurd z si_na_M_readLawOf) (fun z => absurd z si_na_M_readLawOf) (c_M_readLawOf e32) rfl ?_
  refine g_st [.int x33, .int (11 : Int32), .ref x23] rfl ?_
  obtain ⟨h34, e35, hf⟩ := bd1_e hf
  refine g_iast (pc := 118) dd_M_readLineOf_114.2.2.1 e35 ?_
  obtain rfl := ret1 hf
  exact g_vret (pc := 119) rfl dd_M_readLineOf_114.2.2.2
def f_M_readLineOf (a0 : Nat) (a1 : Int32) (h : mH) : Option mH := f_M_readLineOf_0 a0 a1 h
theorem c_M_readLineOf {sc : Nat × (Nat → Int32)} {a0 : Nat} {a1 : Int32} {h : mH} {h' : mH} (hf : f_M_readLineOf a0 a1 h = some h') : MM sc y_M_readLineOf prog_10_method_19_code 3 none 4 93 [.ref a0, .int a1] h none h' :=
  mm_of_G si_pn_M (Nat.le_of_ble_eq_true rfl) (t_M_readLineOf_0 _ _ _ _ hf)
/-! M readLine ()V -/
set_option maxRecDepth 100000 in
theorem dd_M_readLine_0 : (decode prog_10_method_20_code 0 = .ok (.aload_n 0, 1)) ∧ (decode prog_10_method_20_code 1 = .ok (.getfield 141, 3)) ∧ (decode prog_10_method_20_code 4 = .ok (.iconst 1, 1)) ∧ (decode prog_10_method_20_code 5 = .ok (.if_icmp .ne 10, 3)) ∧ (decode prog_10_method_20_code 8 = .ok (.aload_n 0, 1)) ∧ (decode prog_10_method_20_code 9 = .ok (.invokevirtual 177, 3)) ∧ (decode prog_10_method_20_code 12 = .ok (.goto 5, 3)) ∧ (decode prog_10_method_20_code 15 = .ok (.bipush (-4), 2)) ∧ (decode prog_10_method_20_code 17 = .ok (.istore_n 1, 1)) ∧ (decode prog_10_method_20_code 18 = .ok (.aload_n 0, 1)) ∧ (decode prog_10_method_20_code 19 = .ok (.iload_n 1, 1)) ∧ (decode prog_10_method_20_code 20 = .ok (.bipush (-4), 2)) ∧ (decode prog_10_method_20_code 22 = .ok (.if_icmp .eq 7, 3)) ∧ (decode prog_10_method_20_code 25 = .ok (.iconst 1, 1)) ∧ (decode prog_10_method_20_code 26 = .ok (.goto 4, 3)) ∧ (decode prog_10_method_20_code 29 = .ok (.iconst 0, 1)) ∧ (decode prog_10_method_20_code 30 = .ok (.iconst 2, 1)) ∧ (decode prog_10_method_20_code 31 = .ok (.invokevirtual 155, 3)) ∧ (decode prog_10_method_20_code 34 = .ok (.aload_n 0, 1)) ∧ (decode prog_10_method_20_code 35 = .ok (.iload_n 1, 1)) ∧ (decode prog_10_method_20_code 36 = .ok (.ifCond .ne 11, 3)) ∧ (decode prog_10_method_20_code 39 = .ok (.aload_n 0, 1)) ∧ (decode prog_10_method_20_code 40 = .ok (.getfield 93, 3)) ∧ (decode prog_10_method_20_code 43 = .ok (.iconst 5, 1)) := by
  have h : List.drop 0 prog_10_method_20_code.data.toList = 0x2a :: _ := rfl
  refine ⟨zq_k_n 42 h rfl (zq_o_42 _), ?_⟩
  replace h := zq_nx1 (q := 1) h rfl
  refine ⟨zq_k_u2 180 (fun z => .getfield z) 141 h rfl (zq_o_180 _) (by decide +kernel), ?_⟩
  replace h := zq_nx3 (q := 4) h rfl
  refine ⟨zq_k_n 4 h rfl (zq_o_4 _), ?_⟩
  replace h := zq_nx1 (q := 5) h rfl
  refine ⟨zq_k_s2 160 (fun z => .if_icmp .ne z) 10 h rfl (zq_o_160 _) (by decide +kernel), ?_⟩
  replace h := zq_nx3 (q := 8) h rfl
  refine ⟨zq_k_n 42 h rfl (zq_o_42 _), ?_⟩
  replace h := zq_nx1 (q := 9) h rfl
  refine ⟨zq_k_u2 182 (fun z => .invokevirtual z) 177 h rfl (zq_o_182 _) (by decide +kernel), ?_⟩
  replace h := zq_nx3 (q := 12) h rfl
  refine ⟨zq_k_s2 167 (fun z => .goto z) 5 h rfl (zq_o_167 _) (by decide +kernel), ?_⟩
  replace h := zq_nx3 (q := 15) h rfl
  refine ⟨zq_k_s1 16 (fun z => .bipush z) (-4) h rfl (zq_o_16 _) (by decide +kernel), ?_⟩
  replace h := zq_nx2 (q := 17) h rfl
  refine ⟨zq_k_n 60 h rfl (zq_o_60 _), ?_⟩
  replace h := zq_nx1 (q := 18) h rfl
  refine ⟨zq_k_n 42 h rfl (zq_o_42 _), ?_⟩
  replace h := zq_nx1 (q := 19) h rfl
  refine ⟨zq_k_n 27 h rfl (zq_o_27 _), ?_⟩
  replace h := zq_nx1 (q := 20) h rfl
  refine ⟨zq_k_s1 16 (fun z => .bipush z) (-4) h rfl (zq_o_16 _) (by decide +kernel), ?_⟩
  replace h := zq_nx2 (q := 22) h rfl
  refine ⟨zq_k_s2 159 (fun z => .if_icmp .eq z) 7 h rfl (zq_o_159 _) (by decide +kernel), ?_⟩
  replace h := zq_nx3 (q := 25) h rfl
  refine ⟨zq_k_n 4 h rfl (zq_o_4 _), ?_⟩
  replace h := zq_nx1 (q := 26) h rfl
  refine ⟨zq_k_s2 167 (fun z => .goto z) 4 h rfl (zq_o_167 _) (by decide +kernel), ?_⟩
  replace h := zq_nx3 (q := 29) h rfl
  refine ⟨zq_k_n 3 h rfl (zq_o_3 _), ?_⟩
  replace h := zq_nx1 (q := 30) h rfl
  refine ⟨zq_k_n 5 h rfl (zq_o_5 _), ?_⟩
  replace h := zq_nx1 (q := 31) h rfl
  refine ⟨zq_k_u2 182 (fun z => .invokevirtual z) 155 h rfl (zq_o_182 _) (by decide +kernel), ?_⟩
  replace h := zq_nx3 (q := 34) h rfl
  refine ⟨zq_k_n 42 h rfl (zq_o_42 _), ?_⟩
  replace h := zq_nx1 (q := 35) h rfl
  refine ⟨zq_k_n 27 h rfl (zq_o_27 _), ?_⟩
  replace h := zq_nx1 (q := 36) h rfl
  refine ⟨zq_k_s2 154 (fun z => .ifCond .ne z) 11 h rfl (zq_o_154 _) (by decide +kernel), ?_⟩
  replace h := zq_nx3 (q := 39) h rfl
  refine ⟨zq_k_n 42 h rfl (zq_o_42 _), ?_⟩
  replace h := zq_nx1 (q := 40) h rfl
  refine ⟨zq_k_u2 180 (fun z => .getfield z) 93 h rfl (zq_o_180 _) (by decide +kernel), ?_⟩
  replace h := zq_nx3 (q := 43) h rfl
  exact zq_k_n 8 h rfl (zq_o_8 _)
set_option maxRecDepth 100000 in
theorem dd_M_readLine_44 : (decode prog_10_method_20_code 44 = .ok (.if_icmp .ge 20, 3)) ∧ (decode prog_10_method_20_code 47 = .ok (.iload_n 1, 1)) ∧ (decode prog_10_method_20_code 48 = .ok (.iconst 1, 1)) ∧ (decode prog_10_method_20_code 49 = .ok (.if_icmp .ne 11, 3)) ∧ (decode prog_10_method_20_code 52 = .ok (.aload_n 0, 1)) ∧ (decode prog_10_method_20_code 53 = .ok (.getfield 97, 3)) ∧ (decode prog_10_method_20_code 56 = .ok (.iconst 3, 1)) ∧ (decode prog_10_method_20_code 57 = .ok (.if_icmp .ge 7, 3)) ∧ (decode prog_10_method_20_code 60 = .ok (.iconst 1, 1)) ∧ (decode prog_10_method_20_code 61 = .ok (.goto 4, 3)) ∧ (decode prog_10_method_20_code 64 = .ok (.iconst 0, 1)) ∧ (decode prog_10_method_20_code 65 = .ok (.iconst 5, 1)) ∧ (decode prog_10_method_20_code 66 = .ok (.invokevirtual 155, 3)) ∧ (decode prog_10_method_20_code 69 = .ok (.aload_n 0, 1)) ∧ (decode prog_10_method_20_code 70 = .ok (.invokevirtual 162, 3)) ∧ (decode prog_10_method_20_code 73 = .ok (.aload_n 0, 1)) ∧ (decode prog_10_method_20_code 74 = .ok (.getfield 121, 3)) ∧ (decode prog_10_method_20_code 77 = .ok (.ifCond .le 4, 3)) ∧ (decode prog_10_method_20_code 80 = .ok (.return_, 1)) ∧ (decode prog_10_method_20_code 81 = .ok (.aload_n 0, 1)) ∧ (decode prog_10_method_20_code 82 = .ok (.iload_n 1, 1)) ∧ (decode prog_10_method_20_code 83 = .ok (.invokevirtual 181, 3)) ∧ (decode prog_10_method_20_code 86 = .ok (.aload_n 0, 1)) ∧ (decode prog_10_method_20_code 87 = .ok (.getfield 121, 3)) := by
  have h : List.drop 44 prog_10_method_20_code.data.toList = 0xa2 :: _ := rfl
  refine ⟨zq_k_s2 162 (fun z => .if_icmp .ge z) 20 h rfl (zq_o_162 _) (by decide +kernel), ?_⟩
  replace h := zq_nx3 (q := 47) h rfl
  refine ⟨zq_k_n 27 h rfl (zq_o_27 _), ?_⟩
  replace h := zq_nx1 (q := 48) h rfl
  refine ⟨zq_k_n 4 h rfl (zq_o_4 _), ?_⟩
  replace h := zq_nx1 (q := 49) h rfl
  refine ⟨zq_k_s2 160 (fun z => .if_icmp .ne z) 11 h rfl (zq_o_160 _) (by decide +kernel), ?_⟩
  replace h := zq_nx3 (q := 52) h rfl
  refine ⟨zq_k_n 42 h rfl (zq_o_42 _), ?_⟩
  replace h := zq_nx1 (q := 53) h rfl
  refine ⟨zq_k_u2 180 (fun z => .getfield z) 97 h rfl (zq_o_180 _) (by decide +kernel), ?_⟩
  replace h := zq_nx3 (q := 56) h rfl
  refine ⟨zq_k_n 6 h rfl (zq_o_6 _), ?_⟩
  replace h := zq_nx1 (q := 57) h rfl
  refine ⟨zq_k_s2 162 (fun z => .if_icmp .ge z) 7 h rfl (zq_o_162 _) (by decide +kernel), ?_⟩
  replace h := zq_nx3 (q := 60) h rfl
  refine ⟨zq_k_n 4 h rfl (zq_o_4 _), ?_⟩
  replace h := zq_nx1 (q := 61) h rfl
  refine ⟨zq_k_s2 167 (fun z => .goto z) 4 h rfl (zq_o_167 _) (by decide +kernel), ?_⟩
  replace h := zq_nx3 (q := 64) h rfl
  refine ⟨zq_k_n 3 h rfl (zq_o_3 _), ?_⟩
  replace h := zq_nx1 (q := 65) h rfl
  refine ⟨zq_k_n 8 h rfl (zq_o_8 _), ?_⟩
  replace h := zq_nx1 (q := 66) h rfl
  refine ⟨zq_k_u2 182 (fun z => .invokevirtual z) 155 h rfl (zq_o_182 _) (by decide +kernel), ?_⟩
  replace h := zq_nx3 (q := 69) h rfl
  refine ⟨zq_k_n 42 h rfl (zq_o_42 _), ?_⟩
  replace h := zq_nx1 (q := 70) h rfl
  refine ⟨zq_k_u2 182 (fun z => .invokevirtual z) 162 h rfl (zq_o_182 _) (by decide +kernel), ?_⟩
  replace h := zq_nx3 (q := 73) h rfl
  refine ⟨zq_k_n 42 h rfl (zq_o_42 _), ?_⟩
  replace h := zq_nx1 (q := 74) h rfl
  refine ⟨zq_k_u2 180 (fun z => .getfield z) 121 h rfl (zq_o_180 _) (by decide +kernel), ?_⟩
  replace h := zq_nx3 (q := 77) h rfl
  refine ⟨zq_k_s2 158 (fun z => .ifCond .le z) 4 h rfl (zq_o_158 _) (by decide +kernel), ?_⟩
  replace h := zq_nx3 (q := 80) h rfl
  refine ⟨zq_k_n 177 h rfl (zq_o_177 _), ?_⟩
  replace h := zq_nx1 (q := 81) h rfl
  refine ⟨zq_k_n 42 h rfl (zq_o_42 _), ?_⟩
  replace h := zq_nx1 (q := 82) h rfl
  refine ⟨zq_k_n 27 h rfl (zq_o_27 _), ?_⟩
  replace h := zq_nx1 (q := 83) h rfl
  refine ⟨zq_k_u2 182 (fun z => .invokevirtual z) 181 h rfl (zq_o_182 _) (by decide +kernel), ?_⟩
  replace h := zq_nx3 (q := 86) h rfl
  refine ⟨zq_k_n 42 h rfl (zq_o_42 _), ?_⟩
  replace h := zq_nx1 (q := 87) h rfl
  exact zq_k_u2 180 (fun z => .getfield z) 121 h rfl (zq_o_180 _) (by decide +kernel)
set_option maxRecDepth 100000 in
theorem dd_M_readLine_90 : (decode prog_10_method_20_code 90 = .ok (.ifCond .ne 21, 3)) ∧ (decode prog_10_method_20_code 93 = .ok (.aload_n 0, 1)) ∧ (decode prog_10_method_20_code 94 = .ok (.aload_n 0, 1)) ∧ (decode prog_10_method_20_code 95 = .ok (.getfield 141, 3)) ∧ (decode prog_10_method_20_code 98 = .ok (.iconst 3, 1)) ∧ (decode prog_10_method_20_code 99 = .ok (.if_icmp .ne 7, 3)) ∧ (decode prog_10_method_20_code 102 = .ok (.iconst 1, 1)) ∧ (decode prog_10_method_20_code 103 = .ok (.goto 4, 3)) ∧ (decode prog_10_method_20_code 106 = .ok (.iconst 0, 1)) ∧ (decode prog_10_method_20_code 107 = .ok (.iconst 2, 1)) ∧ (decode prog_10_method_20_code 108 = .ok (.invokevirtual 155, 3)) ∧ (decode prog_10_method_20_code 111 = .ok (.aload_n 0, 1)) ∧ (decode prog_10_method_20_code 112 = .ok (.invokevirtual 162, 3)) ∧ (decode prog_10_method_20_code 115 = .ok (.return_, 1)) := by
  have h : List.drop 90 prog_10_method_20_code.data.toList = 0x9a :: _ := rfl
  refine ⟨zq_k_s2 154 (fun z => .ifCond .ne z) 21 h rfl (zq_o_154 _) (by decide +kernel), ?_⟩
  replace h := zq_nx3 (q := 93) h rfl
  refine ⟨zq_k_n 42 h rfl (zq_o_42 _), ?_⟩
  replace h := zq_nx1 (q := 94) h rfl
  refine ⟨zq_k_n 42 h rfl (zq_o_42 _), ?_⟩
  replace h := zq_nx1 (q := 95) h rfl
  refine ⟨zq_k_u2 180 (fun z => .getfield z) 141 h rfl (zq_o_180 _) (by decide +kernel), ?_⟩
  replace h := zq_nx3 (q := 98) h rfl
  refine ⟨zq_k_n 6 h rfl (zq_o_6 _), ?_⟩
  replace h := zq_nx1 (q := 99) h rfl
  refine ⟨zq_k_s2 160 (fun z => .if_icmp .ne z) 7 h rfl (zq_o_160 _) (by decide +kernel), ?_⟩
  replace h := zq_nx3 (q := 102) h rfl
  refine ⟨zq_k_n 4 h rfl (zq_o_4 _), ?_⟩
  replace h := zq_nx1 (q := 103) h rfl
  refine ⟨zq_k_s2 167 (fun z => .goto z) 4 h rfl (zq_o_167 _) (by decide +kernel), ?_⟩
  replace h := zq_nx3 (q := 106) h rfl
  refine ⟨zq_k_n 3 h rfl (zq_o_3 _), ?_⟩
  replace h := zq_nx1 (q := 107) h rfl
  refine ⟨zq_k_n 5 h rfl (zq_o_5 _), ?_⟩
  replace h := zq_nx1 (q := 108) h rfl
  refine ⟨zq_k_u2 182 (fun z => .invokevirtual z) 155 h rfl (zq_o_182 _) (by decide +kernel), ?_⟩
  replace h := zq_nx3 (q := 111) h rfl
  refine ⟨zq_k_n 42 h rfl (zq_o_42 _), ?_⟩
  replace h := zq_nx1 (q := 112) h rfl
  refine ⟨zq_k_u2 182 (fun z => .invokevirtual z) 162 h rfl (zq_o_182 _) (by decide +kernel), ?_⟩
  replace h := zq_nx3 (q := 115) h rfl
  exact zq_k_n 177 h rfl (zq_o_177 _)
def f_M_readLine_111  (b0 : Nat) (h : mH) : Option mH :=
  bd1 (kC h b0 8) fun _ =>
  bd1 (f_M_next b0 h) fun h49 =>
  some h49
set_option maxRecDepth 20000 in
theorem t_M_readLine_111 {sc : Nat × (Nat → Int32)}  (b0 : Nat) (h : mH) (h' : mH) (hf : f_M_readLine_111  b0 h = some h') : G sc y_M_readLine prog_10_method_20_code 2 none 5 115 111 [(0, .ref b0)] [] h none h' := by
  unfold f_M_readLine_111 at hf
  refine g_aload_n (pc := 111) 0 dd_M_readLine_90.2.2.2.2.2.2.2.2.2.2.2.1 rfl rfl ?_
  obtain ⟨u48, e47, hf⟩ := bd1_e hf
  obtain ⟨h49, e50, hf⟩ := bd1_e hf
  refine g_callV (pc := 112) (ci := 8) [] (site_of si_M_next (by decide) (by decide)) wd_1072 wd_1074 wp_32 dd_M_readLine_90.2.2.2.2.2.2.2.2.2.2.2.2.1 rfl e47 (Nat.le_of_ble_eq_true rfl) (fun z => absurd z si_na_M_next) (fun z => absurd z si_na_M_next) (fun z => absurd z si_na_M_next) (c_M_next e50) rfl ?_
  refine g_st [] rfl ?_
  obtain rfl := ret1 hf
  exact g_vret (pc := 115) rfl dd_M_readLine_90.2.2.2.2.2.2.2.2.2.2.2.2.2
def f_M_readLine_107  (b0 : Nat) (s0 : Nat) (s1 : Int32) (h : mH) : Option mH :=
  bd1 (kC h s0 8) fun _ =>
  bd1 (f_M_needs s0 s1 (2 : Int32) h) fun h45 =>
  f_M_readLine_111  b0 h45
set_option maxRecDepth 20000 in
theorem t_M_readLine_107 {sc : Nat × (Nat → Int32)}  (b0 : Nat) (s0 : Nat) (s1 : Int32) (h : mH) (h' : mH) (hf : f_M_readLine_107  b0 s0 s1 h = some h') : G sc y_M_readLine prog_10_method_20_code 2 none 5 115 107 [(0, .ref b0)] [.int s1, .ref s0] h none h' := by
  unfold f_M_readLine_107 at hf
  refine g_iconst (pc := 107) (2 : Int32) dd_M_readLine_90.2.2.2.2.2.2.2.2.2.1 (by decide) ?_
  obtain ⟨u44, e43, hf⟩ := bd1_e hf
  obtain ⟨h45, e46, hf⟩ := bd1_e hf
  refine g_callV (pc := 108) (ci := 8) [.int s1, .int (2 : Int32)] (site_of si_M_needs (by decide) (by decide)) wd_1084 wd_1086 wp_34 dd_M_readLine_90.2.2.2.2.2.2.2.2.2.2.1 rfl e43 (Nat.le_of_ble_eq_true rfl) (fun z => absurd z si_na_M_needs) (fun z => absurd z si_na_M_needs) (fun z => absurd z si_na_M_needs) (c_M_needs e46) rfl ?_
  refine g_st [] rfl ?_
  refine g_lv [0] rfl ?_
  exact t_M_readLine_111  _ _ _  hf
def f_M_readLine_65  (b0 : Nat) (b1 : Int32) (s0 : Nat) (s1 : Int32) (h : mH) : Option mH :=
  bd1 (kC h s0 8) fun _ =>
  bd1 (f_M_needs s0 s1 (5 : Int32) h) fun h24 =>
  bd1 (kC h24 b0 8) fun _ =>
  bd1 (f_M_next b0 h24) fun h28 =>
  bd1 (gI h28 b0 8 25) fun x30 =>
  if x30 ≤ 0 then
    bd1 (kC h28 b0 8) fun _ =>
    bd1 (f_M_readLineOf b0 b1 h28) fun h34 =>
    bd1 (gI h34 b0 8 25) fun x36 =>
    if x36 = 0 then
      bd1 (gI h34 b0 8 23) fun x38 =>
      if x38 = (3 : Int32) then
        f_M_readLine_107  b0 b0 (1 : Int32) h34
      else
        f_M_readLine_107  b0 b0 (0 : Int32) h34
    else
      f_M_readLine_111  b0 h34
  else
    some h28
set_option maxRecDepth 20000 in
theorem t_M_readLine_65 {sc : Nat × (Nat → Int32)}  (b0 : Nat) (b1 : Int32) (s0 : Nat) (s1 : Int32) (h : mH) (h' : mH) (hf : f_M_readLine_65  b0 b1 s0 s1 h = some h') : G sc y_M_readLine prog_10_method_20_code 2 none 5 115 65 [(0, .ref b0), (1, .int b1)] [.int s1, .ref s0] h none h' := by
  unfold f_M_readLine_65 at hf
  refine g_iconst (pc := 65) (5 : Int32) dd_M_readLine_44.2.2.2.2.2.2.2.2.2.2.2.1 (by decide) ?_
  obtain ⟨u23, e22, hf⟩ := bd1_e hf
  obtain ⟨h24, e25, hf⟩ := bd1_e hf
  refine g_callV (pc := 66) (ci := 8) [.int s1, .int (5 : Int32)] (site_of si_M_needs (by decide) (by decide)) wd_1084 wd_1086 wp_34 dd_M_readLine_44.2.2.2.2.2.2.2.2.2.2.2.2.1 rfl e22 (Nat.le_of_ble_eq_true rfl) (fun z => absurd z si_na_M_needs) (fun z => absurd z si_na_M_needs) (fun z => absurd z si_na_M_needs) (c_M_needs e25) rfl ?_
  refine g_st [] rfl ?_
  refine g_aload_n (pc := 69) 0 dd_M_readLine_44.2.2.2.2.2.2.2.2.2.2.2.2.2.1 rfl rfl ?_
  obtain ⟨u27, e26, hf⟩ := bd1_e hf
  obtain ⟨h28, e29, hf⟩ := bd1_e hf
  refine g_callV (pc := 70) (ci := 8) [] (site_of si_M_next (by decide) (by decide)) wd_1072 wd_1074 wp_32 dd_M_readLine_44.2.2.2.2.2.2.2.2.2.2.2.2.2.2.1 rfl e26 (Nat.le_of_ble_eq_true rfl) (fun z => absurd z si_na_M_next) (fun z => absurd z si_na_M_next) (fun z => absurd z si_na_M_next) (c_M_next e29) rfl ?_
  refine g_st [] rfl ?_
  refine g_aload_n (pc := 73) 0 dd_M_readLine_44.2.2.2.2.2.2.2.2.2.2.2.2.2.2.2.1 rfl rfl ?_
  obtain ⟨x30, e31, hf⟩ := bd1_e hf
  refine g_get (pc := 74) (ci := 8) (kk := 25) dd_M_readLine_44.2.2.2.2.2.2.2.2.2.2.2.2.2.2.2.2.1 rfl in_M (by decide) wd_963 (gI_spec e31) ?_
  refine g_ifle (pc := 77) 81 dd_M_readLine_44.2.2.2.2.2.2.2.2.2.2.2.2.2.2.2.2.2.1 (by decide) (fun c42 => ?_) (fun c42 => ?_)
  · replace hf := (if_pos c42).symm.trans hf
    refine g_aload_n (pc := 81) 0 dd_M_readLine_44.2.2.2.2.2.2.2.2.2.2.2.2.2.2.2.2.2.2.2.1 rfl rfl ?_
    refine g_iload_n (pc := 82) 1 dd_M_readLine_44.2.2.2.2.2.2.2.2.2.2.2.2.2.2.2.2.2.2.2.2.1 rfl rfl ?_
    obtain ⟨u33, e32, hf⟩ := bd1_e hf
    obtain ⟨h34, e35, hf⟩ := bd1_e hf
    refine g_callV (pc := 83) (ci := 8) [.int b1] (site_of si_M_readLineOf (by decide) (by decide)) wd_1100 wd_1102 wp_38 dd_M_readLine_44.2.2.2.2.2.2.2.2.2.2.2.2.2.2.2.2.2.2.2.2.2.1 rfl e32 (Nat.le_of_ble_eq_true rfl) (fun z => absurd z si_na_M_readLineOf) (fun z => absurd z si_na_M_readLineOf) (fun z => absurd z si_na_M_readLineOf) (c_M_readLineOf e35) rfl ?_
    refine g_st [] rfl ?_
    refine g_aload_n (pc := 86) 0 dd_M_readLine_44.2.2.2.2.2.2.2.2.2.2.2.2.2.2.2.2.2.2.2.2.2.2.1 rfl rfl ?_
    obtain ⟨x36, e37, hf⟩ := bd1_e hf
    refine g_get (pc := 87) (ci := 8) (kk := 25) dd_M_readLine_44.2.2.2.2.2.2.2.2.2.2.2.2.2.2.2.2.2.2.2.2.2.2.2 rfl in_M (by decide) wd_963 (gI_spec e37) ?_
    refine g_ifne (pc := 90) 111 dd_M_readLine_90.1 (by decide) (fun c41 => ?_) (fun c41 => ?_)
    · replace hf := (if_neg c41).symm.trans hf
      refine g_lv [0] rfl ?_
      exact t_M_readLine_111  _ _ _  hf
    · replace hf := (if_pos c41).symm.trans hf
      refine g_aload_n (pc := 93) 0 dd_M_readLine_90.2.1 rfl rfl ?_
      refine g_aload_n (pc := 94) 0 dd_M_readLine_90.2.2.1 rfl rfl ?_
      obtain ⟨x38, e39, hf⟩ := bd1_e hf
      refine g_get (pc := 95) (ci := 8) (kk := 23) dd_M_readLine_90.2.2.2.1 rfl in_M (by decide) wd_961 (gI_spec e39) ?_
      refine g_iconst (pc := 98) (3 : Int32) dd_M_readLine_90.2.2.2.2.1 (by decide) ?_
      refine g_icmpne (pc := 99) 106 dd_M_readLine_90.2.2.2.2.2.1 (by decide) (fun c40 => ?_) (fun c40 => ?_)
      · replace hf := (if_neg c40).symm.trans hf
        refine g_iconst (pc := 106) (0 : Int32) dd_M_readLine_90.2.2.2.2.2.2.2.2.1 (by decide) ?_
        refine g_lv [0] rfl ?_
        exact t_M_readLine_107  _ _ _ _ _  hf
      · replace hf := (if_pos c40).symm.trans hf
        refine g_iconst (pc := 102) (1 : Int32) dd_M_readLine_90.2.2.2.2.2.2.1 (by decide) ?_
        refine g_goto (pc := 103) 107 dd_M_readLine_90.2.2.2.2.2.2.2.1 (by decide) ?_
        refine g_lv [0] rfl ?_
        exact t_M_readLine_107  _ _ _ _ _  hf
  · replace hf := (if_neg c42).symm.trans hf
    obtain rfl := ret1 hf
    exact g_vret (pc := 80) rfl dd_M_readLine_44.2.2.2.2.2.2.2.2.2.2.2.2.2.2.2.2.2.2.1
def f_M_readLine_64  (b0 : Nat) (b1 : Int32) (s0 : Nat) (h : mH) : Option mH :=
  f_M_readLine_65  b0 b1 s0 (0 : Int32) h
set_option maxRecDepth 20000 in
theorem t_M_readLine_64 {sc : Nat × (Nat → Int32)}  (b0 : Nat) (b1 : Int32) (s0 : Nat) (h : mH) (h' : mH) (hf : f_M_readLine_64  b0 b1 s0 h = some h') : G sc y_M_readLine prog_10_method_20_code 2 none 5 115 64 [(0, .ref b0), (1, .int b1)] [.ref s0] h none h' := by
  unfold f_M_readLine_64 at hf
  refine g_iconst (pc := 64) (0 : Int32) dd_M_readLine_44.2.2.2.2.2.2.2.2.2.2.1 (by decide) ?_
  refine g_lv [0, 1] rfl ?_
  exact t_M_readLine_65  _ _ _ _ _ _  hf
def f_M_readLine_60  (b0 : Nat) (b1 : Int32) (s0 : Nat) (h : mH) : Option mH :=
  f_M_readLine_65  b0 b1 s0 (1 : Int32) h
set_option maxRecDepth 20000 in
theorem t_M_readLine_60 {sc : Nat × (Nat → Int32)}  (b0 : Nat) (b1 : Int32) (s0 : Nat) (h : mH) (h' : mH) (hf : f_M_readLine_60  b0 b1 s0 h = some h') : G sc y_M_readLine prog_10_method_20_code 2 none 5 115 60 [(0, .ref b0), (1, .int b1)] [.ref s0] h none h' := by
  unfold f_M_readLine_60 at hf
  refine g_iconst (pc := 60) (1 : Int32) dd_M_readLine_44.2.2.2.2.2.2.2.2.1 (by decide) ?_
  refine g_goto (pc := 61) 65 dd_M_readLine_44.2.2.2.2.2.2.2.2.2.1 (by decide) ?_
  refine g_lv [0, 1] rfl ?_
  exact t_M_readLine_65  _ _ _ _ _ _  hf
def f_M_readLine_47  (b0 : Nat) (b1 : Int32) (s0 : Nat) (h : mH) : Option mH :=
  if b1 = (1 : Int32) then
    bd1 (gI h b0 8 11) fun x18 =>
    if (3 : Int32) ≤ x18 then
      f_M_readLine_64  b0 b1 s0 h
    else
      f_M_readLine_60  b0 b1 s0 h
  else
    f_M_readLine_60  b0 b1 s0 h
set_option maxRecDepth 20000 in
theorem t_M_readLine_47 {sc : Nat × (Nat → Int32)}  (b0 : Nat) (b1 : Int32) (s0 : Nat) (h : mH) (h' : mH) (hf : f_M_readLine_47  b0 b1 s0 h = some h') : G sc y_M_readLine prog_10_method_20_code 2 none 5 115 47 [(0, .ref b0), (1, .int b1)] [.ref s0] h none h' := by
  unfold f_M_readLine_47 at hf
  refine g_iload_n (pc := 47) 1 dd_M_readLine_44.2.1 rfl rfl ?_
  refine g_iconst (pc := 48) (1 : Int32) dd_M_readLine_44.2.2.1 (by decide) ?_
  refine g_icmpne (pc := 49) 60 dd_M_readLine_44.2.2.2.1 (by decide) (fun c21 => ?_) (fun c21 => ?_)
  · replace hf := (if_neg c21).symm.trans hf
    refine g_lv [0, 1] rfl ?_
    exact t_M_readLine_60  _ _ _ _ _  hf
  · replace hf := (if_pos c21).symm.trans hf
    refine g_aload_n (pc := 52) 0 dd_M_readLine_44.2.2.2.2.1 rfl rfl ?_
    obtain ⟨x18, e19, hf⟩ := bd1_e hf
    refine g_get (pc := 53) (ci := 8) (kk := 11) dd_M_readLine_44.2.2.2.2.2.1 rfl in_M (by decide) wd_949 (gI_spec e19) ?_
    refine g_iconst (pc := 56) (3 : Int32) dd_M_readLine_44.2.2.2.2.2.2.1 (by decide) ?_
    refine g_icmpge (pc := 57) 64 dd_M_readLine_44.2.2.2.2.2.2.2.1 (by decide) (fun c20 => ?_) (fun c20 => ?_)
    · replace hf := (if_pos c20).symm.trans hf
      refine g_lv [0, 1] rfl ?_
      exact t_M_readLine_64  _ _ _ _ _  hf
    · replace hf := (if_neg c20).symm.trans hf
      refine g_lv [0, 1] rfl ?_
      exact t_M_readLine_60  _ _ _ _ _  hf
def f_M_readLine_30  (b0 : Nat) (b1 : Int32) (s0 : Nat) (s1 : Int32) (h : mH) : Option mH :=
  bd1 (kC h s0 8) fun _ =>
  bd1 (f_M_needs s0 s1 (2 : Int32) h) fun h12 =>
  if b1 = 0 then
    bd1 (gI h12 b0 8 10) fun x14 =>
    if (5 : Int32) ≤ x14 then
      f_M_readLine_64  b0 b1 b0 h12
    else
      f_M_readLine_47  b0 b1 b0 h12
  else
    f_M_readLine_47  b0 b1 b0 h12
set_option maxRecDepth 20000 in
theorem t_M_readLine_30 {sc : Nat × (Nat → Int32)}  (b0 : Nat) (b1 : Int32) (s0 : Nat) (s1 : Int32) (h : mH) (h' : mH) (hf : f_M_readLine_30  b0 b1 s0 s1 h = some h') : G sc y_M_readLine prog_10_method_20_code 2 none 5 115 30 [(0, .ref b0), (1, .int b1)] [.int s1, .ref s0] h none h' := by
  unfold f_M_readLine_30 at hf
  refine g_iconst (pc := 30) (2 : Int32) dd_M_readLine_0.2.2.2.2.2.2.2.2.2.2.2.2.2.2.2.2.1 (by decide) ?_
  obtain ⟨u11, e10, hf⟩ := bd1_e hf
  obtain ⟨h12, e13, hf⟩ := bd1_e hf
  refine g_callV (pc := 31) (ci := 8) [.int s1, .int (2 : Int32)] (site_of si_M_needs (by decide) (by decide)) wd_1084 wd_1086 wp_34 dd_M_readLine_0.2.2.2.2.2.2.2.2.2.2.2.2.2.2.2.2.2.1 rfl e10 (Nat.le_of_ble_eq_true rfl) (fun z => absurd z si_na_M_needs) (fun z => absurd z si_na_M_needs) (fun z => absurd z si_na_M_needs) (c_M_needs e13) rfl ?_
  refine g_st [] rfl ?_
  refine g_aload_n (pc := 34) 0 dd_M_readLine_0.2.2.2.2.2.2.2.2.2.2.2.2.2.2.2.2.2.2.1 rfl rfl ?_
  refine g_iload_n (pc := 35) 1 dd_M_readLine_0.2.2.2.2.2.2.2.2.2.2.2.2.2.2.2.2.2.2.2.1 rfl rfl ?_
  refine g_ifne (pc := 36) 47 dd_M_readLine_0.2.2.2.2.2.2.2.2.2.2.2.2.2.2.2.2.2.2.2.2.1 (by decide) (fun c17 => ?_) (fun c17 => ?_)
  · replace hf := (if_neg c17).symm.trans hf
    refine g_lv [0, 1] rfl ?_
    exact t_M_readLine_47  _ _ _ _ _  hf
  · replace hf := (if_pos c17).symm.trans hf
    refine g_aload_n (pc := 39) 0 dd_M_readLine_0.2.2.2.2.2.2.2.2.2.2.2.2.2.2.2.2.2.2.2.2.2.1 rfl rfl ?_
    obtain ⟨x14, e15, hf⟩ := bd1_e hf
    refine g_get (pc := 40) (ci := 8) (kk := 10) dd_M_readLine_0.2.2.2.2.2.2.2.2.2.2.2.2.2.2.2.2.2.2.2.2.2.2.1 rfl in_M (by decide) wd_948 (gI_spec e15) ?_
    refine g_iconst (pc := 43) (5 : Int32) dd_M_readLine_0.2.2.2.2.2.2.2.2.2.2.2.2.2.2.2.2.2.2.2.2.2.2.2 (by decide) ?_
    refine g_icmpge (pc := 44) 64 dd_M_readLine_44.1 (by decide) (fun c16 => ?_) (fun c16 => ?_)
    · replace hf := (if_pos c16).symm.trans hf
      refine g_lv [0, 1] rfl ?_
      exact t_M_readLine_64  _ _ _ _ _  hf
    · replace hf := (if_neg c16).symm.trans hf
      refine g_lv [0, 1] rfl ?_
      exact t_M_readLine_47  _ _ _ _ _  hf
def f_M_readLine_17  (b0 : Nat) (s0 : Int32) (h : mH) : Option mH :=
  if s0 = ((-4) : Int32) then
    f_M_readLine_30  b0 s0 b0 (0 : Int32) h
  else
    f_M_readLine_30  b0 s0 b0 (1 : Int32) h
set_option maxRecDepth 20000 in
theorem t_M_readLine_17 {sc : Nat × (Nat → Int32)}  (b0 : Nat) (s0 : Int32) (h : mH) (h' : mH) (hf : f_M_readLine_17  b0 s0 h = some h') : G sc y_M_readLine prog_10_method_20_code 2 none 5 115 17 [(0, .ref b0)] [.int s0] h none h' := by
  unfold f_M_readLine_17 at hf
  refine g_istore_n (pc := 17) [(1, .int s0), (0, .ref b0)] dd_M_readLine_0.2.2.2.2.2.2.2.2.1 rfl (Nat.le_of_ble_eq_true rfl) rfl ?_
  refine g_aload_n (pc := 18) 1 dd_M_readLine_0.2.2.2.2.2.2.2.2.2.1 rfl rfl ?_
  refine g_iload_n (pc := 19) 0 dd_M_readLine_0.2.2.2.2.2.2.2.2.2.2.1 rfl rfl ?_
  refine g_bipush (pc := 20) ((-4) : Int32) dd_M_readLine_0.2.2.2.2.2.2.2.2.2.2.2.1 (by decide) ?_
  refine g_icmpeq (pc := 22) 29 dd_M_readLine_0.2.2.2.2.2.2.2.2.2.2.2.2.1 (by decide) (fun c9 => ?_) (fun c9 => ?_)
  · replace hf := (if_pos c9).symm.trans hf
    refine g_iconst (pc := 29) (0 : Int32) dd_M_readLine_0.2.2.2.2.2.2.2.2.2.2.2.2.2.2.2.1 (by decide) ?_
    refine g_lv [1, 0] rfl ?_
    exact t_M_readLine_30  _ _ _ _ _ _  hf
  · replace hf := (if_neg c9).symm.trans hf
    refine g_iconst (pc := 25) (1 : Int32) dd_M_readLine_0.2.2.2.2.2.2.2.2.2.2.2.2.2.1 (by decide) ?_
    refine g_goto (pc := 26) 30 dd_M_readLine_0.2.2.2.2.2.2.2.2.2.2.2.2.2.2.1 (by decide) ?_
    refine g_lv [1, 0] rfl ?_
    exact t_M_readLine_30  _ _ _ _ _ _  hf
def f_M_readLine_0  (a0 : Nat) (h : mH) : Option mH :=
  bd1 (gI h a0 8 23) fun x1 =>
  if x1 = (1 : Int32) then
    bd1 (kC h a0 8) fun _ =>
    bd2 (f_M_lineNow a0 h) fun x7 h5 =>
    f_M_readLine_17  a0 x7 h5
  else
    f_M_readLine_17  a0 ((-4) : Int32) h
set_option maxRecDepth 20000 in
theorem t_M_readLine_0 {sc : Nat × (Nat → Int32)}  (a0 : Nat) (h : mH) (h' : mH) (hf : f_M_readLine_0  a0 h = some h') : G sc y_M_readLine prog_10_method_20_code 2 none 5 115 0 [(0, .ref a0)] [] h none h' := by
  unfold f_M_readLine_0 at hf
  refine g_aload_n (pc := 0) 0 dd_M_readLine_0.1 rfl rfl ?_
  obtain ⟨x1, e2, hf⟩ := bd1_e hf
  refine g_get (pc := 1) (ci := 8) (kk := 23) dd_M_readLine_0.2.1 rfl in_M (by decide) wd_961 (gI_spec e2) ?_
  refine g_iconst (pc := 4) (1 : Int32) dd_M_readLine_0.2.2.1 (by decide) ?_
  refine g_icmpne (pc := 5) 15 dd_M_readLine_0.2.2.2.1 (by decide) (fun c8 => ?_) (fun c8 => ?_)
  · replace hf := (if_neg c8).symm.trans hf
    refine g_bipush (pc := 15) ((-4) : Int32) dd_M_readLine_0.2.2.2.2.2.2.2.1 (by decide) ?_
    refine g_lv [0] rfl ?_
    exact t_M_readLine_17  _ _ _ _  hf
  · replace hf := (if_pos c8).symm.trans hf
    refine g_aload_n (pc := 8) 0 dd_M_readLine_0.2.2.2.2.1 rfl rfl ?_
    obtain ⟨u4, e3, hf⟩ := bd1_e hf
    obtain ⟨x7, h5, e6, hf⟩ := bd2_e hf
    refine g_callV (pc := 9) (ci := 8) [] (site_of si_M_lineNow (by decide) (by decide)) wd_1092 wd_1094 wp_36 dd_M_readLine_0.2.2.2.2.2.1 rfl e3 (Nat.le_of_ble_eq_true rfl) (fun z => absurd z si_na_M_lineNow) (fun z => absurd z si_na_M_lineNow) (fun z => absurd z si_na_M_lineNow) (c_M_lineNow e6) rfl ?_
    refine g_st [.int x7] rfl ?_
    refine g_goto (pc := 12) 17 dd_M_readLine_0.2.2.2.2.2.2.1 (by decide) ?_
    refine g_lv [0] rfl ?_
    exact t_M_readLine_17  _ _ _ _  hf
def f_M_readLine (a0 : Nat) (h : mH) : Option mH := f_M_readLine_0 a0 h
theorem c_M_readLine {sc : Nat × (Nat → Int32)} {a0 : Nat} {h : mH} {h' : mH} (hf : f_M_readLine a0 h = some h') : MM sc y_M_readLine prog_10_method_20_code 2 none 5 115 [.ref a0] h none h' :=
  mm_of_G si_pn_M (Nat.le_of_ble_eq_true rfl) (t_M_readLine_0 _ _ _ hf)
end
/-! 21.model -/
section
/-! M text ()I -/
set_option maxRecDepth 100000 in
theorem dd_M_text_0 : (decode prog_10_method_21_code 0 = .ok (.iconst 0, 1)) ∧ (decode prog_10_method_21_code 1 = .ok (.istore_n 1, 1)) ∧ (decode prog_10_method_21_code 2 = .ok (.aload_n 0, 1)) ∧ (decode prog_10_method_21_code 3 = .ok (.iconst 0, 1)) ∧ (decode prog_10_method_21_code 4 = .ok (.putfield 121, 3)) ∧ (decode prog_10_method_21_code 7 = .ok (.aload_n 0, 1)) ∧ (decode prog_10_method_21_code 8 = .ok (.iconst 0, 1)) ∧ (decode prog_10_method_21_code 9 = .ok (.putfield 130, 3)) ∧ (decode prog_10_method_21_code 12 = .ok (.aload_n 0, 1)) ∧ (decode prog_10_method_21_code 13 = .ok (.invokevirtual 87, 3)) ∧ (decode prog_10_method_21_code 16 = .ok (.aload_n 0, 1)) ∧ (decode prog_10_method_21_code 17 = .ok (.invokevirtual 162, 3)) ∧ (decode prog_10_method_21_code 20 = .ok (.aload_n 0, 1)) ∧ (decode prog_10_method_21_code 21 = .ok (.getfield 121, 3)) ∧ (decode prog_10_method_21_code 24 = .ok (.ifCond .ne 20, 3)) ∧ (decode prog_10_method_21_code 27 = .ok (.aload_n 0, 1)) ∧ (decode prog_10_method_21_code 28 = .ok (.getfield 141, 3)) ∧ (decode prog_10_method_21_code 31 = .ok (.ifCond .eq 13, 3)) ∧ (decode prog_10_method_21_code 34 = .ok (.aload_n 0, 1)) ∧ (decode prog_10_method_21_code 35 = .ok (.invokevirtual 185, 3)) ∧ (decode prog_10_method_21_code 38 = .ok (.iinc 1 1, 3)) ∧ (decode prog_10_method_21_code 41 = .ok (.goto (-21), 3)) ∧ (decode prog_10_method_21_code 44 = .ok (.aload_n 0, 1)) ∧ (decode prog_10_method_21_code 45 = .ok (.getfield 121, 3)) := by
  have h : List.drop 0 prog_10_method_21_code.data.toList = 0x03 :: _ := rfl
  refine ⟨zq_k_n 3 h rfl (zq_o_3 _), ?_⟩
  replace h := zq_nx1 (q := 1) h rfl
  refine ⟨zq_k_n 60 h rfl (zq_o_60 _), ?_⟩
  replace h := zq_nx1 (q := 2) h rfl
  refine ⟨zq_k_n 42 h rfl (zq_o_42 _), ?_⟩
  replace h := zq_nx1 (q := 3) h rfl
  refine ⟨zq_k_n 3 h rfl (zq_o_3 _), ?_⟩
  replace h := zq_nx1 (q := 4) h rfl
  refine ⟨zq_k_u2 181 (fun z => .putfield z) 121 h rfl (zq_o_181 _) (by decide +kernel), ?_⟩
  replace h := zq_nx3 (q := 7) h rfl
  refine ⟨zq_k_n 42 h rfl (zq_o_42 _), ?_⟩
  replace h := zq_nx1 (q := 8) h rfl
  refine ⟨zq_k_n 3 h rfl (zq_o_3 _), ?_⟩
  replace h := zq_nx1 (q := 9) h rfl
  refine ⟨zq_k_u2 181 (fun z => .putfield z) 130 h rfl (zq_o_181 _) (by decide +kernel), ?_⟩
  replace h := zq_nx3 (q := 12) h rfl
  refine ⟨zq_k_n 42 h rfl (zq_o_42 _), ?_⟩
  replace h := zq_nx1 (q := 13) h rfl
  refine ⟨zq_k_u2 182 (fun z => .invokevirtual z) 87 h rfl (zq_o_182 _) (by decide +kernel), ?_⟩
  replace h := zq_nx3 (q := 16) h rfl
  refine ⟨zq_k_n 42 h rfl (zq_o_42 _), ?_⟩
  replace h := zq_nx1 (q := 17) h rfl
  refine ⟨zq_k_u2 182 (fun z => .invokevirtual z) 162 h rfl (zq_o_182 _) (by decide +kernel), ?_⟩
  replace h := zq_nx3 (q := 20) h rfl
  refine ⟨zq_k_n 42 h rfl (zq_o_42 _), ?_⟩
  replace h := zq_nx1 (q := 21) h rfl
  refine ⟨zq_k_u2 180 (fun z => .getfield z) 121 h rfl (zq_o_180 _) (by decide +kernel), ?_⟩
  replace h := zq_nx3 (q := 24) h rfl
  refine ⟨zq_k_s2 154 (fun z => .ifCond .ne z) 20 h rfl (zq_o_154 _) (by decide +kernel), ?_⟩
  replace h := zq_nx3 (q := 27) h rfl
  refine ⟨zq_k_n 42 h rfl (zq_o_42 _), ?_⟩
  replace h := zq_nx1 (q := 28) h rfl
  refine ⟨zq_k_u2 180 (fun z => .getfield z) 141 h rfl (zq_o_180 _) (by decide +kernel), ?_⟩
  replace h := zq_nx3 (q := 31) h rfl
  refine ⟨zq_k_s2 153 (fun z => .ifCond .eq z) 13 h rfl (zq_o_153 _) (by decide +kernel), ?_⟩
  replace h := zq_nx3 (q := 34) h rfl
  refine ⟨zq_k_n 42 h rfl (zq_o_42 _), ?_⟩
  replace h := zq_nx1 (q := 35) h rfl
  refine ⟨zq_k_u2 182 (fun z => .invokevirtual z) 185 h rfl (zq_o_182 _) (by decide +kernel), ?_⟩
  replace h := zq_nx3 (q := 38) h rfl
  refine ⟨zq_k_iinc 1 1 h rfl (zq_o_132 _) (by decide +kernel) (by decide +kernel), ?_⟩
  replace h := zq_nx3 (q := 41) h rfl
  refine ⟨zq_k_s2 167 (fun z => .goto z) (-21) h rfl (zq_o_167 _) (by decide +kernel), ?_⟩
  replace h := zq_nx3 (q := 44) h rfl
  refine ⟨zq_k_n 42 h rfl (zq_o_42 _), ?_⟩
  replace h := zq_nx1 (q := 45) h rfl
  exact zq_k_u2 180 (fun z => .getfield z) 121 h rfl (zq_o_180 _) (by decide +kernel)
set_option maxRecDepth 100000 in
theorem dd_M_text_48 : (decode prog_10_method_21_code 48 = .ok (.ifCond .ne 36, 3)) ∧ (decode prog_10_method_21_code 51 = .ok (.aload_n 0, 1)) ∧ (decode prog_10_method_21_code 52 = .ok (.aload_n 0, 1)) ∧ (decode prog_10_method_21_code 53 = .ok (.getfield 100, 3)) ∧ (decode prog_10_method_21_code 56 = .ok (.aload_n 0, 1)) ∧ (decode prog_10_method_21_code 57 = .ok (.getfield 93, 3)) ∧ (decode prog_10_method_21_code 60 = .ok (.if_icmp .ge 18, 3)) ∧ (decode prog_10_method_21_code 63 = .ok (.aload_n 0, 1)) ∧ (decode prog_10_method_21_code 64 = .ok (.getfield 103, 3)) ∧ (decode prog_10_method_21_code 67 = .ok (.aload_n 0, 1)) ∧ (decode prog_10_method_21_code 68 = .ok (.getfield 97, 3)) ∧ (decode prog_10_method_21_code 71 = .ok (.if_icmp .ge 7, 3)) ∧ (decode prog_10_method_21_code 74 = .ok (.iconst 1, 1)) ∧ (decode prog_10_method_21_code 75 = .ok (.goto 4, 3)) ∧ (decode prog_10_method_21_code 78 = .ok (.iconst 0, 1)) ∧ (decode prog_10_method_21_code 79 = .ok (.bipush 6, 2)) ∧ (decode prog_10_method_21_code 81 = .ok (.invokevirtual 155, 3)) ∧ (decode prog_10_method_21_code 84 = .ok (.aload_n 0, 1)) ∧ (decode prog_10_method_21_code 85 = .ok (.iconst 0, 1)) ∧ (decode prog_10_method_21_code 86 = .ok (.putfield 118, 3)) ∧ (decode prog_10_method_21_code 89 = .ok (.aload_n 0, 1)) ∧ (decode prog_10_method_21_code 90 = .ok (.getfield 121, 3)) ∧ (decode prog_10_method_21_code 93 = .ok (.ifCond .le 11, 3)) ∧ (decode prog_10_method_21_code 96 = .ok (.bipush (-10), 2)) := by
  have h : List.drop 48 prog_10_method_21_code.data.toList = 0x9a :: _ := rfl
  refine ⟨zq_k_s2 154 (fun z => .ifCond .ne z) 36 h rfl (zq_o_154 _) (by decide +kernel), ?_⟩
  replace h := zq_nx3 (q := 51) h rfl
  refine ⟨zq_k_n 42 h rfl (zq_o_42 _), ?_⟩
  replace h := zq_nx1 (q := 52) h rfl
  refine ⟨zq_k_n 42 h rfl (zq_o_42 _), ?_⟩
  replace h := zq_nx1 (q := 53) h rfl
  refine ⟨zq_k_u2 180 (fun z => .getfield z) 100 h rfl (zq_o_180 _) (by decide +kernel), ?_⟩
  replace h := zq_nx3 (q := 56) h rfl
  refine ⟨zq_k_n 42 h rfl (zq_o_42 _), ?_⟩
  replace h := zq_nx1 (q := 57) h rfl
  refine ⟨zq_k_u2 180 (fun z => .getfield z) 93 h rfl (zq_o_180 _) (by decide +kernel), ?_⟩
  replace h := zq_nx3 (q := 60) h rfl
  refine ⟨zq_k_s2 162 (fun z => .if_icmp .ge z) 18 h rfl (zq_o_162 _) (by decide +kernel), ?_⟩
  replace h := zq_nx3 (q := 63) h rfl
  refine ⟨zq_k_n 42 h rfl (zq_o_42 _), ?_⟩
  replace h := zq_nx1 (q := 64) h rfl
  refine ⟨zq_k_u2 180 (fun z => .getfield z) 103 h rfl (zq_o_180 _) (by decide +kernel), ?_⟩
  replace h := zq_nx3 (q := 67) h rfl
  refine ⟨zq_k_n 42 h rfl (zq_o_42 _), ?_⟩
  replace h := zq_nx1 (q := 68) h rfl
  refine ⟨zq_k_u2 180 (fun z => .getfield z) 97 h rfl (zq_o_180 _) (by decide +kernel), ?_⟩
  replace h := zq_nx3 (q := 71) h rfl
  refine ⟨zq_k_s2 162 (fun z => .if_icmp .ge z) 7 h rfl (zq_o_162 _) (by decide +kernel), ?_⟩
  replace h := zq_nx3 (q := 74) h rfl
  refine ⟨zq_k_n 4 h rfl (zq_o_4 _), ?_⟩
  replace h := zq_nx1 (q := 75) h rfl
  refine ⟨zq_k_s2 167 (fun z => .goto z) 4 h rfl (zq_o_167 _) (by decide +kernel), ?_⟩
  replace h := zq_nx3 (q := 78) h rfl
  refine ⟨zq_k_n 3 h rfl (zq_o_3 _), ?_⟩
  replace h := zq_nx1 (q := 79) h rfl
  refine ⟨zq_k_s1 16 (fun z => .bipush z) 6 h rfl (zq_o_16 _) (by decide +kernel), ?_⟩
  replace h := zq_nx2 (q := 81) h rfl
  refine ⟨zq_k_u2 182 (fun z => .invokevirtual z) 155 h rfl (zq_o_182 _) (by decide +kernel), ?_⟩
  replace h := zq_nx3 (q := 84) h rfl
  refine ⟨zq_k_n 42 h rfl (zq_o_42 _), ?_⟩
  replace h := zq_nx1 (q := 85) h rfl
  refine ⟨zq_k_n 3 h rfl (zq_o_3 _), ?_⟩
  replace h := zq_nx1 (q := 86) h rfl
  refine ⟨zq_k_u2 181 (fun z => .putfield z) 118 h rfl (zq_o_181 _) (by decide +kernel), ?_⟩
  replace h := zq_nx3 (q := 89) h rfl
  refine ⟨zq_k_n 42 h rfl (zq_o_42 _), ?_⟩
  replace h := zq_nx1 (q := 90) h rfl
  refine ⟨zq_k_u2 180 (fun z => .getfield z) 121 h rfl (zq_o_180 _) (by decide +kernel), ?_⟩
  replace h := zq_nx3 (q := 93) h rfl
  refine ⟨zq_k_s2 158 (fun z => .ifCond .le z) 11 h rfl (zq_o_158 _) (by decide +kernel), ?_⟩
  replace h := zq_nx3 (q := 96) h rfl
  exact zq_k_s1 16 (fun z => .bipush z) (-10) h rfl (zq_o_16 _) (by decide +kernel)
set_option maxRecDepth 100000 in
theorem dd_M_text_98 : (decode prog_10_method_21_code 98 = .ok (.aload_n 0, 1)) ∧ (decode prog_10_method_21_code 99 = .ok (.getfield 127, 3)) ∧ (decode prog_10_method_21_code 102 = .ok (.isub, 1)) ∧ (decode prog_10_method_21_code 103 = .ok (.ireturn, 1)) ∧ (decode prog_10_method_21_code 104 = .ok (.aload_n 0, 1)) ∧ (decode prog_10_method_21_code 105 = .ok (.invokevirtual 90, 3)) ∧ (decode prog_10_method_21_code 108 = .ok (.iload_n 1, 1)) ∧ (decode prog_10_method_21_code 109 = .ok (.ireturn, 1)) := by
  have h : List.drop 98 prog_10_method_21_code.data.toList = 0x2a :: _ := rfl
  refine ⟨zq_k_n 42 h rfl (zq_o_42 _), ?_⟩
  replace h := zq_nx1 (q := 99) h rfl
  refine ⟨zq_k_u2 180 (fun z => .getfield z) 127 h rfl (zq_o_180 _) (by decide +kernel), ?_⟩
  replace h := zq_nx3 (q := 102) h rfl
  refine ⟨zq_k_n 100 h rfl (zq_o_100 _), ?_⟩
  replace h := zq_nx1 (q := 103) h rfl
  refine ⟨zq_k_n 172 h rfl (zq_o_172 _), ?_⟩
  replace h := zq_nx1 (q := 104) h rfl
  refine ⟨zq_k_n 42 h rfl (zq_o_42 _), ?_⟩
  replace h := zq_nx1 (q := 105) h rfl
  refine ⟨zq_k_u2 182 (fun z => .invokevirtual z) 90 h rfl (zq_o_182 _) (by decide +kernel), ?_⟩
  replace h := zq_nx3 (q := 108) h rfl
  refine ⟨zq_k_n 27 h rfl (zq_o_27 _), ?_⟩
  replace h := zq_nx1 (q := 109) h rfl
  exact zq_k_n 172 h rfl (zq_o_172 _)
def f_M_text_84  (b0 : Nat) (b1 : Int32) (h : mH) : Option (Int32 × mH) :=
  bd1 (pV h b0 8 20 (.int (0 : Int32))) fun h40 =>
  bd1 (gI h40 b0 8 25) fun x42 =>
  if x42 ≤ 0 then
    bd1 (kC h40 b0 8) fun _ =>
    bd1 (f_M_keepDraft b0 h40) fun h46 =>
    some (b1, h46)
  else
    bd1 (gI h40 b0 8 26) fun x48 =>
    some (((-10) : Int32) - x48, h40)
set_option maxRecDepth 20000 in
theorem t_M_text_84 {sc : Nat × (Nat → Int32)}  (b0 : Nat) (b1 : Int32) (h : mH) (r : Int32) (h' : mH) (hf : f_M_text_84  b0 b1 h = some (r, h')) : G sc y_M_text prog_10_method_21_code 2 (some .int) 6 136 84 [(0, .ref b0), (1, .int b1)] [] h (some (.int r)) h' := by
  unfold f_M_text_84 at hf
  refine g_aload_n (pc := 84) 0 dd_M_text_48.2.2.2.2.2.2.2.2.2.2.2.2.2.2.2.2.2.1 rfl rfl ?_
  refine g_iconst (pc := 85) (0 : Int32) dd_M_text_48.2.2.2.2.2.2.2.2.2.2.2.2.2.2.2.2.2.2.1 (by decide) ?_
  obtain ⟨h40, e41, hf⟩ := bd1_e hf
  refine g_put (pc := 86) (ci := 8) (kk := 20) ty_M tyok_M nm_M dd_M_text_48.2.2.2.2.2.2.2.2.2.2.2.2.2.2.2.2.2.2.2.1 rfl in_M (by decide) wd_958 rfl (fun _ => rfl) (fun _ => rfl) (fun _ z => by cases z) e41 ?_
  refine g_aload_n (pc := 89) 0 dd_M_text_48.2.2.2.2.2.2.2.2.2.2.2.2.2.2.2.2.2.2.2.2.1 rfl rfl ?_
  obtain ⟨x42, e43, hf⟩ := bd1_e hf
  refine g_get (pc := 90) (ci := 8) (kk := 25) dd_M_text_48.2.2.2.2.2.2.2.2.2.2.2.2.2.2.2.2.2.2.2.2.2.1 rfl in_M (by decide) wd_963 (gI_spec e43) ?_
  refine g_ifle (pc := 93) 104 dd_M_text_48.2.2.2.2.2.2.2.2.2.2.2.2.2.2.2.2.2.2.2.2.2.2.1 (by decide) (fun c50 => ?_) (fun c50 => ?_)
  · replace hf := (if_pos c50).symm.trans hf
    refine g_aload_n (pc := 104) 0 dd_M_text_98.2.2.2.2.1 rfl rfl ?_
    obtain ⟨u45, e44, hf⟩ := bd1_e hf
    obtain ⟨h46, e47, hf⟩ := bd1_e hf
    refine g_callV (pc := 105) (ci := 8) [] (site_of si_M_keepDraft (by decide) (by decide)) wd_934 wd_936 wp_31 dd_M_text_98.2.2.2.2.2.1 rfl e44 (Nat.le_of_ble_eq_true rfl) (fun z => absurd z si_na_M_keepDraft) (fun z => absurd z si_na_M_keepDraft) (fun z => absurd z si_na_M_keepDraft) (c_M_keepDraft e47) rfl ?_
    refine g_st [] rfl ?_
    refine g_iload_n (pc := 108) 1 dd_M_text_98.2.2.2.2.2.2.1 rfl rfl ?_
    obtain ⟨rfl, rfl⟩ := ret2 hf
    exact g_iret (pc := 109) rfl dd_M_text_98.2.2.2.2.2.2.2
  · replace hf := (if_neg c50).symm.trans hf
    refine g_bipush (pc := 96) ((-10) : Int32) dd_M_text_48.2.2.2.2.2.2.2.2.2.2.2.2.2.2.2.2.2.2.2.2.2.2.2 (by decide) ?_
    refine g_aload_n (pc := 98) 0 dd_M_text_98.1 rfl rfl ?_
    obtain ⟨x48, e49, hf⟩ := bd1_e hf
    refine g_get (pc := 99) (ci := 8) (kk := 26) dd_M_text_98.2.1 rfl in_M (by decide) wd_964 (gI_spec e49) ?_
    refine g_isub (pc := 102) dd_M_text_98.2.2.1 ?_
    obtain ⟨rfl, rfl⟩ := ret2 hf
    exact g_iret (pc := 103) rfl dd_M_text_98.2.2.2.1
def f_M_text_79  (b0 : Nat) (b1 : Int32) (s0 : Nat) (s1 : Int32) (h : mH) : Option (Int32 × mH) :=
  bd1 (kC h s0 8) fun _ =>
  bd1 (f_M_needs s0 s1 (6 : Int32) h) fun h38 =>
  f_M_text_84  b0 b1 h38
set_option maxRecDepth 20000 in
theorem t_M_text_79 {sc : Nat × (Nat → Int32)}  (b0 : Nat) (b1 : Int32) (s0 : Nat) (s1 : Int32) (h : mH) (r : Int32) (h' : mH) (hf : f_M_text_79  b0 b1 s0 s1 h = some (r, h')) : G sc y_M_text prog_10_method_21_code 2 (some .int) 6 136 79 [(0, .ref b0), (1, .int b1)] [.int s1, .ref s0] h (some (.int r)) h' := by
  unfold f_M_text_79 at hf
  refine g_bipush (pc := 79) (6 : Int32) dd_M_text_48.2.2.2.2.2.2.2.2.2.2.2.2.2.2.2.1 (by decide) ?_
  obtain ⟨u37, e36, hf⟩ := bd1_e hf
  obtain ⟨h38, e39, hf⟩ := bd1_e hf
  refine g_callV (pc := 81) (ci := 8) [.int s1, .int (6 : Int32)] (site_of si_M_needs (by decide) (by decide)) wd_1084 wd_1086 wp_34 dd_M_text_48.2.2.2.2.2.2.2.2.2.2.2.2.2.2.2.2.1 rfl e36 (Nat.le_of_ble_eq_true rfl) (fun z => absurd z si_na_M_needs) (fun z => absurd z si_na_M_needs) (fun z => absurd z si_na_M_needs) (c_M_needs e39) rfl ?_
  refine g_st [] rfl ?_
  refine g_lv [0, 1] rfl ?_
  exact t_M_text_84  _ _ _ _ _  hf
def f_M_text_78  (b0 : Nat) (b1 : Int32) (s0 : Nat) (h : mH) : Option (Int32 × mH) :=
  f_M_text_79  b0 b1 s0 (0 : Int32) h
set_option maxRecDepth 20000 in
theorem t_M_text_78 {sc : Nat × (Nat → Int32)}  (b0 : Nat) (b1 : Int32) (s0 : Nat) (h : mH) (r : Int32) (h' : mH) (hf : f_M_text_78  b0 b1 s0 h = some (r, h')) : G sc y_M_text prog_10_method_21_code 2 (some .int) 6 136 78 [(0, .ref b0), (1, .int b1)] [.ref s0] h (some (.int r)) h' := by
  unfold f_M_text_78 at hf
  refine g_iconst (pc := 78) (0 : Int32) dd_M_text_48.2.2.2.2.2.2.2.2.2.2.2.2.2.2.1 (by decide) ?_
  refine g_lv [0, 1] rfl ?_
  exact t_M_text_79  _ _ _ _ _ _ _  hf
def f_M_text_44  (b0 : Nat) (b1 : Int32) (h : mH) : Option (Int32 × mH) :=
  bd1 (gI h b0 8 25) fun x23 =>
  if x23 = 0 then
    bd1 (gI h b0 8 17) fun x25 =>
    bd1 (gI h b0 8 10) fun x27 =>
    if x27 ≤ x25 then
      f_M_text_78  b0 b1 b0 h
    else
      bd1 (gI h b0 8 18) fun x29 =>
      bd1 (gI h b0 8 11) fun x31 =>
      if x31 ≤ x29 then
        f_M_text_78  b0 b1 b0 h
      else
        f_M_text_79  b0 b1 b0 (1 : Int32) h
  else
    f_M_text_84  b0 b1 h
set_option maxRecDepth 20000 in
theorem t_M_text_44 {sc : Nat × (Nat → Int32)}  (b0 : Nat) (b1 : Int32) (h : mH) (r : Int32) (h' : mH) (hf : f_M_text_44  b0 b1 h = some (r, h')) : G sc y_M_text prog_10_method_21_code 2 (some .int) 6 136 44 [(0, .ref b0), (1, .int b1)] [] h (some (.int r)) h' := by
  unfold f_M_text_44 at hf
  refine g_aload_n (pc := 44) 0 dd_M_text_0.2.2.2.2.2.2.2.2.2.2.2.2.2.2.2.2.2.2.2.2.2.2.1 rfl rfl ?_
  obtain ⟨x23, e24, hf⟩ := bd1_e hf
  refine g_get (pc := 45) (ci := 8) (kk := 25) dd_M_text_0.2.2.2.2.2.2.2.2.2.2.2.2.2.2.2.2.2.2.2.2.2.2.2 rfl in_M (by decide) wd_963 (gI_spec e24) ?_
  refine g_ifne (pc := 48) 84 dd_M_text_48.1 (by decide) (fun c35 => ?_) (fun c35 => ?_)
  · replace hf := (if_neg c35).symm.trans hf
    refine g_lv [0, 1] rfl ?_
    exact t_M_text_84  _ _ _ _ _  hf
  · replace hf := (if_pos c35).symm.trans hf
    refine g_aload_n (pc := 51) 0 dd_M_text_48.2.1 rfl rfl ?_
    refine g_aload_n (pc := 52) 0 dd_M_text_48.2.2.1 rfl rfl ?_
    obtain ⟨x25, e26, hf⟩ := bd1_e hf
    refine g_get (pc := 53) (ci := 8) (kk := 17) dd_M_text_48.2.2.2.1 rfl in_M (by decide) wd_955 (gI_spec e26) ?_
    refine g_aload_n (pc := 56) 0 dd_M_text_48.2.2.2.2.1 rfl rfl ?_
    obtain ⟨x27, e28, hf⟩ := bd1_e hf
    refine g_get (pc := 57) (ci := 8) (kk := 10) dd_M_text_48.2.2.2.2.2.1 rfl in_M (by decide) wd_948 (gI_spec e28) ?_
    refine g_icmpge (pc := 60) 78 dd_M_text_48.2.2.2.2.2.2.1 (by decide) (fun c34 => ?_) (fun c34 => ?_)
    · replace hf := (if_pos c34).symm.trans hf
      refine g_lv [0, 1] rfl ?_
      exact t_M_text_78  _ _ _ _ _ _  hf
    · replace hf := (if_neg c34).symm.trans hf
      refine g_aload_n (pc := 63) 0 dd_M_text_48.2.2.2.2.2.2.2.1 rfl rfl ?_
      obtain ⟨x29, e30, hf⟩ := bd1_e hf
      refine g_get (pc := 64) (ci := 8) (kk := 18) dd_M_text_48.2.2.2.2.2.2.2.2.1 rfl in_M (by decide) wd_956 (gI_spec e30) ?_
      refine g_aload_n (pc := 67) 0 dd_M_text_48.2.2.2.2.2.2.2.2.2.1 rfl rfl ?_
      obtain ⟨x31, e32, hf⟩ := bd1_e hf
      refine g_get (pc := 68) (ci := 8) (kk := 11) dd_M_text_48.2.2.2.2.2.2.2.2.2.2.1 rfl in_M (by decide) wd_949 (gI_spec e32) ?_
      refine g_icmpge (pc := 71) 78 dd_M_text_48.2.2.2.2.2.2.2.2.2.2.2.1 (by decide) (fun c33 => ?_) (fun c33 => ?_)
      · replace hf := (if_pos c33).symm.trans hf
        refine g_lv [0, 1] rfl ?_
        exact t_M_text_78  _ _ _ _ _ _  hf
      · replace hf := (if_neg c33).symm.trans hf
        refine g_iconst (pc := 74) (1 : Int32) dd_M_text_48.2.2.2.2.2.2.2.2.2.2.2.2.1 (by decide) ?_
        refine g_goto (pc := 75) 79 dd_M_text_48.2.2.2.2.2.2.2.2.2.2.2.2.2.1 (by decide) ?_
        refine g_lv [0, 1] rfl ?_
        exact t_M_text_79  _ _ _ _ _ _ _  hf
def f_M_text_20b (rec20 : Nat → Int32 → mH → Option (Int32 × mH)) (b0 : Nat) (b1 : Int32) (h : mH) : Option (Int32 × mH) :=
  bd1 (gI h b0 8 25) fun x13 =>
  if x13 = 0 then
    bd1 (gI h b0 8 23) fun x15 =>
    if x15 = 0 then
      f_M_text_44  b0 b1 h
    else
      bd1 (kC h b0 8) fun _ =>
      bd1 (f_M_readLine b0 h) fun h19 =>
      rec20 b0 (b1 + (1 : Int32)) h19
  else
    f_M_text_44  b0 b1 h
set_option maxRecDepth 20000 in
theorem t_M_text_20b {sc : Nat × (Nat → Int32)} (rec20 : Nat → Int32 → mH → Option (Int32 × mH)) (hrec20 : ∀ (b0 : Nat) (b1 : Int32) (h : mH) (r : Int32) (h' : mH), rec20 b0 b1 h = some (r, h') → G sc y_M_text prog_10_method_21_code 2 (some .int) 6 136 20 [(0, .ref b0), (1, .int b1)] [] h (some (.int r)) h') (b0 : Nat) (b1 : Int32) (h : mH) (r : Int32) (h' : mH) (hf : f_M_text_20b rec20 b0 b1 h = some (r, h')) : G sc y_M_text prog_10_method_21_code 2 (some .int) 6 136 20 [(0, .ref b0), (1, .int b1)] [] h (some (.int r)) h' := by
  unfold f_M_text_20b at hf
  refine g_aload_n (pc := 20) 0 dd_M_text_0.2.2.2.2.2.2.2.2.2.2.2.2.1 rfl rfl ?_
  obtain ⟨x13, e14, hf⟩ := bd1_e hf
  refine g_get (pc := 21) (ci := 8) (kk := 25) dd_M_text_0.2.2.2.2.2.2.2.2.2.2.2.2.2.1 rfl in_M (by decide) wd_963 (gI_spec e14) ?_
  refine g_ifne (pc := 24) 44 dd_M_text_0.2.2.2.2.2.2.2.2.2.2.2.2.2.2.1 (by decide) (fun c22 => ?_) (fun c22 => ?_)
  · replace hf := (if_neg c22).symm.trans hf
    refine g_lv [0, 1] rfl ?_
    exact t_M_text_44  _ _ _ _ _  hf
  · replace hf := (if_pos c22).symm.trans hf
    refine g_aload_n (pc := 27) 0 dd_M_text_0.2.2.2.2.2.2.2.2.2.2.2.2.2.2.2.1 rfl rfl ?_
    obtain ⟨x15, e16, hf⟩ := bd1_e hf
    refine g_get (pc := 28) (ci := 8) (kk := 23) dd_M_text_0.2.2.2.2.2.2.2.2.2.2.2.2.2.2.2.2.1 rfl in_M (by decide) wd_961 (gI_spec e16) ?_
    refine g_ifeq (pc := 31) 44 dd_M_text_0.2.2.2.2.2.2.2.2.2.2.2.2.2.2.2.2.2.1 (by decide) (fun c21 => ?_) (fun c21 => ?_)
    · replace hf := (if_pos c21).symm.trans hf
      refine g_lv [0, 1] rfl ?_
      exact t_M_text_44  _ _ _ _ _  hf
    · replace hf := (if_neg c21).symm.trans hf
      refine g_aload_n (pc := 34) 0 dd_M_text_0.2.2.2.2.2.2.2.2.2.2.2.2.2.2.2.2.2.2.1 rfl rfl ?_
      obtain ⟨u18, e17, hf⟩ := bd1_e hf
      obtain ⟨h19, e20, hf⟩ := bd1_e hf
      refine g_callV (pc := 35) (ci := 8) [] (site_of si_M_readLine (by decide) (by decide)) wd_1088 wd_1090 wp_35 dd_M_text_0.2.2.2.2.2.2.2.2.2.2.2.2.2.2.2.2.2.2.2.1 rfl e17 (Nat.le_of_ble_eq_true rfl) (fun z => absurd z si_na_M_readLine) (fun z => absurd z si_na_M_readLine) (fun z => absurd z si_na_M_readLine) (c_M_readLine e20) rfl ?_
      refine g_st [] rfl ?_
      refine g_iinc (pc := 38) 1 (b1 + (1 : Int32)) [(1, .int (b1 + (1 : Int32))), (0, .ref b0)] dd_M_text_0.2.2.2.2.2.2.2.2.2.2.2.2.2.2.2.2.2.2.2.2.1 rfl rfl (Nat.le_of_ble_eq_true rfl) rfl ?_
      refine g_goto (pc := 41) 20 dd_M_text_0.2.2.2.2.2.2.2.2.2.2.2.2.2.2.2.2.2.2.2.2.2.1 (by decide) ?_
      refine g_lv [1, 0] rfl ?_
      exact hrec20 _ _ _ _ _  hf
def f_M_text_20  : Nat → Nat → Int32 → mH → Option (Int32 × mH)
  | 0 => fun _ _ _ => none
  | n + 1 => f_M_text_20b  (f_M_text_20  n)
theorem t_M_text_20 {sc : Nat × (Nat → Int32)}  : ∀ (n : Nat) (b0 : Nat) (b1 : Int32) (h : mH) (r : Int32) (h' : mH) (hf : f_M_text_20  n b0 b1 h = some (r, h')), G sc y_M_text prog_10_method_21_code 2 (some .int) 6 136 20 [(0, .ref b0), (1, .int b1)] [] h (some (.int r)) h'
  | 0, _, _, _, _, _, hf => by cases hf
  | n + 1, _, _, _, _, _, hf => t_M_text_20b  (f_M_text_20  n) (t_M_text_20  n) _ _ _ _ _ hf
def f_M_text_0  (a0 : Nat) (h : mH) : Option (Int32 × mH) :=
  bd1 (pV h a0 8 25 (.int (0 : Int32))) fun h1 =>
  bd1 (pV h1 a0 8 21 (.int (0 : Int32))) fun h3 =>
  bd1 (kC h3 a0 8) fun _ =>
  bd1 (f_M_firstDraft a0 h3) fun h7 =>
  bd1 (kC h7 a0 8) fun _ =>
  bd1 (f_M_next a0 h7) fun h11 =>
  f_M_text_20  FU a0 (0 : Int32) h11
set_option maxRecDepth 20000 in
theorem t_M_text_0 {sc : Nat × (Nat → Int32)}  (a0 : Nat) (h : mH) (r : Int32) (h' : mH) (hf : f_M_text_0  a0 h = some (r, h')) : G sc y_M_text prog_10_method_21_code 2 (some .int) 6 136 0 [(0, .ref a0)] [] h (some (.int r)) h' := by
  unfold f_M_text_0 at hf
  refine g_iconst (pc := 0) (0 : Int32) dd_M_text_0.1 (by decide) ?_
  refine g_istore_n (pc := 1) [(1, .int (0 : Int32)), (0, .ref a0)] dd_M_text_0.2.1 rfl (Nat.le_of_ble_eq_true rfl) rfl ?_
  refine g_aload_n (pc := 2) 1 dd_M_text_0.2.2.1 rfl rfl ?_
  refine g_iconst (pc := 3) (0 : Int32) dd_M_text_0.2.2.2.1 (by decide) ?_
  obtain ⟨h1, e2, hf⟩ := bd1_e hf
  refine g_put (pc := 4) (ci := 8) (kk := 25) ty_M tyok_M nm_M dd_M_text_0.2.2.2.2.1 rfl in_M (by decide) wd_963 rfl (fun _ => rfl) (fun _ => rfl) (fun _ z => by cases z) e2 ?_
  refine g_aload_n (pc := 7) 1 dd_M_text_0.2.2.2.2.2.1 rfl rfl ?_
  refine g_iconst (pc := 8) (0 : Int32) dd_M_text_0.2.2.2.2.2.2.1 (by decide) ?_
  obtain ⟨h3, e4, hf⟩ := bd1_e hf
  refine g_put (pc := 9) (ci := 8) (kk := 21) ty_M tyok_M nm_M dd_M_text_0.2.2.2.2.2.2.2.1 rfl in_M (by decide) wd_959 rfl (fun _ => rfl) (fun _ => rfl) (fun _ z => by cases z) e4 ?_
  refine g_aload_n (pc := 12) 1 dd_M_text_0.2.2.2.2.2.2.2.2.1 rfl rfl ?_
  obtain ⟨u6, e5, hf⟩ := bd1_e hf
  obtain ⟨h7, e8, hf⟩ := bd1_e hf
  refine g_callV (pc := 13) (ci := 8) [] (site_of si_M_firstDraft (by decide) (by decide)) wd_930 wd_932 wp_30 dd_M_text_0.2.2.2.2.2.2.2.2.2.1 rfl e5 (Nat.le_of_ble_eq_true rfl) (fun z => absurd z si_na_M_firstDraft) (fun z => absurd z si_na_M_firstDraft) (fun z => absurd z si_na_M_firstDraft) (c_M_firstDraft e8) rfl ?_
  refine g_st [] rfl ?_
  refine g_aload_n (pc := 16) 1 dd_M_text_0.2.2.2.2.2.2.2.2.2.2.1 rfl rfl ?_
  obtain ⟨u10, e9, hf⟩ := bd1_e hf
  obtain ⟨h11, e12, hf⟩ := bd1_e hf
  refine g_callV (pc := 17) (ci := 8) [] (site_of si_M_next (by decide) (by decide)) wd_1072 wd_1074 wp_32 dd_M_text_0.2.2.2.2.2.2.2.2.2.2.2.1 rfl e9 (Nat.le_of_ble_eq_true rfl) (fun z => absurd z si_na_M_next) (fun z => absurd z si_na_M_next) (fun z => absurd z si_na_M_next) (c_M_next e12) rfl ?_
  refine g_st [] rfl ?_
  refine g_lv [1, 0] rfl ?_
  exact t_M_text_20  FU _ _ _ _ _  hf
def f_M_text (a0 : Nat) (h : mH) : Option (Int32 × mH) := f_M_text_0 a0 h
theorem c_M_text {sc : Nat × (Nat → Int32)} {a0 : Nat} {h : mH} {r : Int32} {h' : mH} (hf : f_M_text a0 h = some (r, h')) : MM sc y_M_text prog_10_method_21_code 2 (some .int) 6 136 [.ref a0] h (some (.int r)) h' :=
  mm_of_G si_pn_M (Nat.le_of_ble_eq_true rfl) (t_M_text_0 _ _ _ _ hf)
/-! M fault ()I -/
set_option maxRecDepth 100000 in
theorem dd_M_fault_0 : (decode prog_10_method_22_code 0 = .ok (.aload_n 0, 1)) ∧ (decode prog_10_method_22_code 1 = .ok (.getfield 121, 3)) ∧ (decode prog_10_method_22_code 4 = .ok (.ireturn, 1)) := by
  have h : List.drop 0 prog_10_method_22_code.data.toList = 0x2a :: _ := rfl
  refine ⟨zq_k_n 42 h rfl (zq_o_42 _), ?_⟩
  replace h := zq_nx1 (q := 1) h rfl
  refine ⟨zq_k_u2 180 (fun z => .getfield z) 121 h rfl (zq_o_180 _) (by decide +kernel), ?_⟩
  replace h := zq_nx3 (q := 4) h rfl
  exact zq_k_n 172 h rfl (zq_o_172 _)
def f_M_fault_0  (a0 : Nat) (h : mH) : Option (Int32 × mH) :=
  bd1 (gI h a0 8 25) fun x1 =>
  some (x1, h)
set_option maxRecDepth 20000 in
theorem t_M_fault_0 {sc : Nat × (Nat → Int32)}  (a0 : Nat) (h : mH) (r : Int32) (h' : mH) (hf : f_M_fault_0  a0 h = some (r, h')) : G sc y_M_fault prog_10_method_22_code 1 (some .int) 0 0 0 [(0, .ref a0)] [] h (some (.int r)) h' := by
  unfold f_M_fault_0 at hf
  refine g_aload_n (pc := 0) 0 dd_M_fault_0.1 rfl rfl ?_
  obtain ⟨x1, e2, hf⟩ := bd1_e hf
  refine g_get (pc := 1) (ci := 8) (kk := 25) dd_M_fault_0.2.1 rfl in_M (by decide) wd_963 (gI_spec e2) ?_
  obtain ⟨rfl, rfl⟩ := ret2 hf
  exact g_iret (pc := 4) rfl dd_M_fault_0.2.2
def f_M_fault (a0 : Nat) (h : mH) : Option (Int32 × mH) := f_M_fault_0 a0 h
theorem c_M_fault {sc : Nat × (Nat → Int32)} {a0 : Nat} {h : mH} {r : Int32} {h' : mH} (hf : f_M_fault a0 h = some (r, h')) : MM sc y_M_fault prog_10_method_22_code 1 (some .int) 0 0 [.ref a0] h (some (.int r)) h' :=
  mm_of_G si_pn_M (Nat.le_of_ble_eq_true rfl) (t_M_fault_0 _ _ _ _ hf)
/-! M rule (I)I -/
set_option maxRecDepth 100000 in
theorem dd_M_rule_0 : (decode prog_10_method_35_code 0 = .ok (.iload_n 1, 1)) ∧ (decode prog_10_method_35_code 1 = .ok (.tableswitch 81 0 5 #[39, 44, 49, 57, 65, 73], 39)) ∧ (decode prog_10_method_35_code 40 = .ok (.aload_n 0, 1)) ∧ (decode prog_10_method_35_code 41 = .ok (.getfield 106, 3)) ∧ (decode prog_10_method_35_code 44 = .ok (.ireturn, 1)) ∧ (decode prog_10_method_35_code 45 = .ok (.aload_n 0, 1)) ∧ (decode prog_10_method_35_code 46 = .ok (.getfield 109, 3)) ∧ (decode prog_10_method_35_code 49 = .ok (.ireturn, 1)) ∧ (decode prog_10_method_35_code 50 = .ok (.aload_n 0, 1)) ∧ (decode prog_10_method_35_code 51 = .ok (.getfield 7, 3)) ∧ (decode prog_10_method_35_code 54 = .ok (.bipush 39, 2)) ∧ (decode prog_10_method_35_code 56 = .ok (.iaload, 1)) ∧ (decode prog_10_method_35_code 57 = .ok (.ireturn, 1)) ∧ (decode prog_10_method_35_code 58 = .ok (.aload_n 0, 1)) ∧ (decode prog_10_method_35_code 59 = .ok (.getfield 7, 3)) ∧ (decode prog_10_method_35_code 62 = .ok (.bipush 40, 2)) ∧ (decode prog_10_method_35_code 64 = .ok (.iaload, 1)) ∧ (decode prog_10_method_35_code 65 = .ok (.ireturn, 1)) ∧ (decode prog_10_method_35_code 66 = .ok (.aload_n 0, 1)) ∧ (decode prog_10_method_35_code 67 = .ok (.getfield 7, 3)) ∧ (decode prog_10_method_35_code 70 = .ok (.bipush 10, 2)) ∧ (decode prog_10_method_35_code 72 = .ok (.iaload, 1)) ∧ (decode prog_10_method_35_code 73 = .ok (.ireturn, 1)) ∧ (decode prog_10_method_35_code 74 = .ok (.aload_n 0, 1)) := by
  have h : List.drop 0 prog_10_method_35_code.data.toList = 0x1b :: _ := rfl
  refine ⟨zq_k_n 27 h rfl (zq_o_27 _), ?_⟩
  replace h := zq_nx1 (q := 1) h rfl
  refine ⟨by decide +kernel, ?_⟩
  have h : List.drop 40 prog_10_method_35_code.data.toList = 0x2a :: _ := rfl
  refine ⟨zq_k_n 42 h rfl (zq_o_42 _), ?_⟩
  replace h := zq_nx1 (q := 41) h rfl
  refine ⟨zq_k_u2 180 (fun z => .getfield z) 106 h rfl (zq_o_180 _) (by decide +kernel), ?_⟩
  replace h := zq_nx3 (q := 44) h rfl
  refine ⟨zq_k_n 172 h rfl (zq_o_172 _), ?_⟩
  replace h := zq_nx1 (q := 45) h rfl
  refine ⟨zq_k_n 42 h rfl (zq_o_42 _), ?_⟩
  replace h := zq_nx1 (q := 46) h rfl
  refine ⟨zq_k_u2 180 (fun z => .getfield z) 109 h rfl (zq_o_180 _) (by decide +kernel), ?_⟩
  replace h := zq_nx3 (q := 49) h rfl
  refine ⟨zq_k_n 172 h rfl (zq_o_172 _), ?_⟩
  replace h := zq_nx1 (q := 50) h rfl
  refine ⟨zq_k_n 42 h rfl (zq_o_42 _), ?_⟩
  replace h := zq_nx1 (q := 51) h rfl
  refine ⟨zq_k_u2 180 (fun z => .getfield z) 7 h rfl (zq_o_180 _) (by decide +kernel), ?_⟩
  replace h := zq_nx3 (q := 54) h rfl
  refine ⟨zq_k_s1 16 (fun z => .bipush z) 39 h rfl (zq_o_16 _) (by decide +kernel), ?_⟩
  replace h := zq_nx2 (q := 56) h rfl
  refine ⟨zq_k_n 46 h rfl (zq_o_46 _), ?_⟩
  replace h := zq_nx1 (q := 57) h rfl
  refine ⟨zq_k_n 172 h rfl (zq_o_172 _), ?_⟩
  replace h := zq_nx1 (q := 58) h rfl
  refine ⟨zq_k_n 42 h rfl (zq_o_42 _), ?_⟩
  replace h := zq_nx1 (q := 59) h rfl
  refine ⟨zq_k_u2 180 (fun z => .getfield z) 7 h rfl (zq_o_180 _) (by decide +kernel), ?_⟩
  replace h := zq_nx3 (q := 62) h rfl
  refine ⟨zq_k_s1 16 (fun z => .bipush z) 40 h rfl (zq_o_16 _) (by decide +kernel), ?_⟩
  replace h := zq_nx2 (q := 64) h rfl
  refine ⟨zq_k_n 46 h rfl (zq_o_46 _), ?_⟩
  replace h := zq_nx1 (q := 65) h rfl
  refine ⟨zq_k_n 172 h rfl (zq_o_172 _), ?_⟩
  replace h := zq_nx1 (q := 66) h rfl
  refine ⟨zq_k_n 42 h rfl (zq_o_42 _), ?_⟩
  replace h := zq_nx1 (q := 67) h rfl
  refine ⟨zq_k_u2 180 (fun z => .getfield z) 7 h rfl (zq_o_180 _) (by decide +kernel), ?_⟩
  replace h := zq_nx3 (q := 70) h rfl
  refine ⟨zq_k_s1 16 (fun z => .bipush z) 10 h rfl (zq_o_16 _) (by decide +kernel), ?_⟩
  replace h := zq_nx2 (q := 72) h rfl
  refine ⟨zq_k_n 46 h rfl (zq_o_46 _), ?_⟩
  replace h := zq_nx1 (q := 73) h rfl
  refine ⟨zq_k_n 172 h rfl (zq_o_172 _), ?_⟩
  replace h := zq_nx1 (q := 74) h rfl
  exact zq_k_n 42 h rfl (zq_o_42 _)
set_option maxRecDepth 100000 in
theorem dd_M_rule_75 : (decode prog_10_method_35_code 75 = .ok (.getfield 7, 3)) ∧ (decode prog_10_method_35_code 78 = .ok (.bipush 11, 2)) ∧ (decode prog_10_method_35_code 80 = .ok (.iaload, 1)) ∧ (decode prog_10_method_35_code 81 = .ok (.ireturn, 1)) ∧ (decode prog_10_method_35_code 82 = .ok (.iconst (-1), 1)) ∧ (decode prog_10_method_35_code 83 = .ok (.ireturn, 1)) := by
  have h : List.drop 75 prog_10_method_35_code.data.toList = 0xb4 :: _ := rfl
  refine ⟨zq_k_u2 180 (fun z => .getfield z) 7 h rfl (zq_o_180 _) (by decide +kernel), ?_⟩
  replace h := zq_nx3 (q := 78) h rfl
  refine ⟨zq_k_s1 16 (fun z => .bipush z) 11 h rfl (zq_o_16 _) (by decide +kernel), ?_⟩
  replace h := zq_nx2 (q := 80) h rfl
  refine ⟨zq_k_n 46 h rfl (zq_o_46 _), ?_⟩
  replace h := zq_nx1 (q := 81) h rfl
  refine ⟨zq_k_n 172 h rfl (zq_o_172 _), ?_⟩
  replace h := zq_nx1 (q := 82) h rfl
  refine ⟨zq_k_n 2 h rfl (zq_o_2 _), ?_⟩
  replace h := zq_nx1 (q := 83) h rfl
  exact zq_k_n 172 h rfl (zq_o_172 _)
def f_M_rule_0  (a0 : Nat) (a1 : Int32) (h : mH) : Option (Int32 × mH) :=
  if a1 = (0 : Int32) then
    bd1 (gI h a0 8 2) fun x2 =>
    some (x2, h)
  else
  if a1 = (1 : Int32) then
    bd1 (gI h a0 8 3) fun x5 =>
    some (x5, h)
  else
  if a1 = (2 : Int32) then
    bd1 (gR h a0 8 0) fun x8 =>
    bd1 (aI h 0 x8 (39 : Int32)) fun x10 =>
    some (x10, h)
  else
  if a1 = (3 : Int32) then
    bd1 (gR h a0 8 0) fun x13 =>
    bd1 (aI h 0 x13 (40 : Int32)) fun x15 =>
    some (x15, h)
  else
  if a1 = (4 : Int32) then
    bd1 (gR h a0 8 0) fun x18 =>
    bd1 (aI h 0 x18 (10 : Int32)) fun x20 =>
    some (x20, h)
  else
  if a1 = (5 : Int32) then
    bd1 (gR h a0 8 0) fun x23 =>
    bd1 (aI h 0 x23 (11 : Int32)) fun x25 =>
    some (x25, h)
  else
  some (((-1) : Int32), h)
set_option maxRecDepth 20000 in
theorem t_M_rule_0 {sc : Nat × (Nat → Int32)}  (a0 : Nat) (a1 : Int32) (h : mH) (r : Int32) (h' : mH) (hf : f_M_rule_0  a0 a1 h = some (r, h')) : G sc y_M_rule prog_10_method_35_code 2 (some .int) 0 0 0 [(0, .ref a0), (1, .int a1)] [] h (some (.int r)) h' := by
  unfold f_M_rule_0 at hf
  refine g_iload_n (pc := 0) 1 dd_M_rule_0.1 rfl rfl ?_
  by_cases c1 : a1 = (0 : Int32)
  · replace hf := (if_pos c1).symm.trans hf
    refine g_tabIn (pc := 1) 40 (0 : Int32) dd_M_rule_0.2.1 c1 (by decide) (by decide) rfl (by decide) ?_
    refine g_aload_n (pc := 40) 0 dd_M_rule_0.2.2.1 rfl rfl ?_
    obtain ⟨x2, e3, hf⟩ := bd1_e hf
    refine g_get (pc := 41) (ci := 8) (kk := 2) dd_M_rule_0.2.2.2.1 rfl in_M (by decide) wd_940 (gI_spec e3) ?_
    obtain ⟨rfl, rfl⟩ := ret2 hf
    exact g_iret (pc := 44) rfl dd_M_rule_0.2.2.2.2.1
  replace hf := (if_neg c1).symm.trans hf
  by_cases c4 : a1 = (1 : Int32)
  · replace hf := (if_pos c4).symm.trans hf
    refine g_tabIn (pc := 1) 45 (1 : Int32) dd_M_rule_0.2.1 c4 (by decide) (by decide) rfl (by decide) ?_
    refine g_aload_n (pc := 45) 0 dd_M_rule_0.2.2.2.2.2.1 rfl rfl ?_
    obtain ⟨x5, e6, hf⟩ := bd1_e hf
    refine g_get (pc := 46) (ci := 8) (kk := 3) dd_M_rule_0.2.2.2.2.2.2.1 rfl in_M (by decide) wd_941 (gI_spec e6) ?_
    obtain ⟨rfl, rfl⟩ := ret2 hf
    exact g_iret (pc := 49) rfl dd_M_rule_0.2.2.2.2.2.2.2.1
  replace hf := (if_neg c4).symm.trans hf
  by_cases c7 : a1 = (2 : Int32)
  · replace hf := (if_pos c7).symm.trans hf
    refine g_tabIn (pc := 1) 50 (2 : Int32) dd_M_rule_0.2.1 c7 (by decide) (by decide) rfl (by decide) ?_
    refine g_aload_n (pc := 50) 0 dd_M_rule_0.2.2.2.2.2.2.2.2.1 rfl rfl ?_
    obtain ⟨x8, e9, hf⟩ := bd1_e hf
    refine g_get (pc := 51) (ci := 8) (kk := 0) dd_M_rule_0.2.2.2.2.2.2.2.2.2.1 rfl in_M (by decide) wd_938 (gR_spec e9) ?_
    refine g_bipush (pc := 54) (39 : Int32) dd_M_rule_0.2.2.2.2.2.2.2.2.2.2.1 (by decide) ?_
    obtain ⟨x10, e11, hf⟩ := bd1_e hf
    refine g_iald (pc := 56) dd_M_rule_0.2.2.2.2.2.2.2.2.2.2.2.1 e11 ?_
    obtain ⟨rfl, rfl⟩ := ret2 hf
    exact g_iret (pc := 57) rfl dd_M_rule_0.2.2.2.2.2.2.2.2.2.2.2.2.1
  replace hf := (if_neg c7).symm.trans hf
  by_cases c12 : a1 = (3 : Int32)
  · replace hf := (if_pos c12).symm.trans hf
    refine g_tabIn (pc := 1) 58 (3 : Int32) dd_M_rule_0.2.1 c12 (by decide) (by decide) rfl (by decide) ?_
    refine g_aload_n (pc := 58) 0 dd_M_rule_0.2.2.2.2.2.2.2.2.2.2.2.2.2.1 rfl rfl ?_
    obtain ⟨x13, e14, hf⟩ := bd1_e hf
    refine g_get (pc := 59) (ci := 8) (kk := 0) dd_M_rule_0.2.2.2.2.2.2.2.2.2.2.2.2.2.2.1 rfl in_M (by decide) wd_938 (gR_spec e14) ?_
    refine g_bipush (pc := 62) (40 : Int32) dd_M_rule_0.2.2.2.2.2.2.2.2.2.2.2.2.2.2.2.1 (by decide) ?_
    obtain ⟨x15, e16, hf⟩ := bd1_e hf
    refine g_iald (pc := 64) dd_M_rule_0.2.2.2.2.2.2.2.2.2.2.2.2.2.2.2.2.1 e16 ?_
    obtain ⟨rfl, rfl⟩ := ret2 hf
    exact g_iret (pc := 65) rfl dd_M_rule_0.2.2.2.2.2.2.2.2.2.2.2.2.2.2.2.2.2.1
  replace hf := (if_neg c12).symm.trans hf
  by_cases c17 : a1 = (4 : Int32)
  · replace hf := (if_pos c17).symm.trans hf
    refine g_tabIn (pc := 1) 66 (4 : Int32) dd_M_rule_0.2.1 c17 (by decide) (by decide) rfl (by decide) ?_
    refine g_aload_n (pc := 66) 0 dd_M_rule_0.2.2.2.2.2.2.2.2.2.2.2.2.2.2.2.2.2.2.1 rfl rfl ?_
    obtain ⟨x18, e19, hf⟩ := bd1_e hf
    refine g_get (pc := 67) (ci := 8) (kk := 0) dd_M_rule_0.2.2.2.2.2.2.2.2.2.2.2.2.2.2.2.2.2.2.2.1 rfl in_M (by decide) wd_938 (gR_spec e19) ?_
    refine g_bipush (pc := 70) (10 : Int32) dd_M_rule_0.2.2.2.2.2.2.2.2.2.2.2.2.2.2.2.2.2.2.2.2.1 (by decide) ?_
    obtain ⟨x20, e21, hf⟩ := bd1_e hf
    refine g_iald (pc := 72) dd_M_rule_0.2.2.2.2.2.2.2.2.2.2.2.2.2.2.2.2.2.2.2.2.2.1 e21 ?_
    obtain ⟨rfl, rfl⟩ := ret2 hf
    exact g_iret (pc := 73) rfl dd_M_rule_0.2.2.2.2.2.2.2.2.2.2.2.2.2.2.2.2.2.2.2.2.2.2.1
  replace hf := (if_neg c17).symm.trans hf
  by_cases c22 : a1 = (5 : Int32)
  · replace hf := (if_pos c22).symm.trans hf
    refine g_tabIn (pc := 1) 74 (5 : Int32) dd_M_rule_0.2.1 c22 (by decide) (by decide) rfl (by decide) ?_
    refine g_aload_n (pc := 74) 0 dd_M_rule_0.2.2.2.2.2.2.2.2.2.2.2.2.2.2.2.2.2.2.2.2.2.2.2 rfl rfl ?_
    obtain ⟨x23, e24, hf⟩ := bd1_e hf
    refine g_get (pc := 75) (ci := 8) (kk := 0) dd_M_rule_75.1 rfl in_M (by decide) wd_938 (gR_spec e24) ?_
    refine g_bipush (pc := 78) (11 : Int32) dd_M_rule_75.2.1 (by decide) ?_
    obtain ⟨x25, e26, hf⟩ := bd1_e hf
    refine g_iald (pc := 80) dd_M_rule_75.2.2.1 e26 ?_
    obtain ⟨rfl, rfl⟩ := ret2 hf
    exact g_iret (pc := 81) rfl dd_M_rule_75.2.2.2.1
  replace hf := (if_neg c22).symm.trans hf
  refine g_tabOut (pc := 1) 82 6 dd_M_rule_0.2.1 (by decide) (fun i hi => ?_) (by decide) ?_
  · rcases (show i = 0 ∨ i = 1 ∨ i = 2 ∨ i = 3 ∨ i = 4 ∨ i = 5 by omega) with rfl | rfl | rfl | rfl | rfl | rfl
    · exact c1
    · exact c4
    · exact c7
    · exact c12
    · exact c17
    · exact c22
  refine g_iconst (pc := 82) ((-1) : Int32) dd_M_rule_75.2.2.2.2.1 (by decide) ?_
  obtain ⟨rfl, rfl⟩ := ret2 hf
  exact g_iret (pc := 83) rfl dd_M_rule_75.2.2.2.2.2
def f_M_rule (a0 : Nat) (a1 : Int32) (h : mH) : Option (Int32 × mH) := f_M_rule_0 a0 a1 h
theorem c_M_rule {sc : Nat × (Nat → Int32)} {a0 : Nat} {a1 : Int32} {h : mH} {r : Int32} {h' : mH} (hf : f_M_rule a0 a1 h = some (r, h')) : MM sc y_M_rule prog_10_method_35_code 2 (some .int) 0 0 [.ref a0, .int a1] h (some (.int r)) h' :=
  mm_of_G si_pn_M (Nat.le_of_ble_eq_true rfl) (t_M_rule_0 _ _ _ _ _ hf)
/-! M isLaw (I)Z -/
set_option maxRecDepth 100000 in
theorem dd_M_isLaw_0 : (decode prog_10_method_23_code 0 = .ok (.iload_n 1, 1)) ∧ (decode prog_10_method_23_code 1 = .ok (.i2l, 1)) ∧ (decode prog_10_method_23_code 2 = .ok (.lconst 0, 1)) ∧ (decode prog_10_method_23_code 3 = .ok (.aload_n 0, 1)) ∧ (decode prog_10_method_23_code 4 = .ok (.getfield 106, 3)) ∧ (decode prog_10_method_23_code 7 = .ok (.iconst 1, 1)) ∧ (decode prog_10_method_23_code 8 = .ok (.isub, 1)) ∧ (decode prog_10_method_23_code 9 = .ok (.i2l, 1)) ∧ (decode prog_10_method_23_code 10 = .ok (.invokestatic 114, 3)) ∧ (decode prog_10_method_23_code 13 = .ok (.ireturn, 1)) := by
  have h : List.drop 0 prog_10_method_23_code.data.toList = 0x1b :: _ := rfl
  refine ⟨zq_k_n 27 h rfl (zq_o_27 _), ?_⟩
  replace h := zq_nx1 (q := 1) h rfl
  refine ⟨zq_k_n 133 h rfl (zq_o_133 _), ?_⟩
  replace h := zq_nx1 (q := 2) h rfl
  refine ⟨zq_k_n 9 h rfl (zq_o_9 _), ?_⟩
  replace h := zq_nx1 (q := 3) h rfl
  refine ⟨zq_k_n 42 h rfl (zq_o_42 _), ?_⟩
  replace h := zq_nx1 (q := 4) h rfl
  refine ⟨zq_k_u2 180 (fun z => .getfield z) 106 h rfl (zq_o_180 _) (by decide +kernel), ?_⟩
  replace h := zq_nx3 (q := 7) h rfl
  refine ⟨zq_k_n 4 h rfl (zq_o_4 _), ?_⟩
  replace h := zq_nx1 (q := 8) h rfl
  refine ⟨zq_k_n 100 h rfl (zq_o_100 _), ?_⟩
  replace h := zq_nx1 (q := 9) h rfl
  refine ⟨zq_k_n 133 h rfl (zq_o_133 _), ?_⟩
  replace h := zq_nx1 (q := 10) h rfl
  refine ⟨zq_k_u2 184 (fun z => .invokestatic z) 114 h rfl (zq_o_184 _) (by decide +kernel), ?_⟩
  replace h := zq_nx3 (q := 13) h rfl
  exact zq_k_n 172 h rfl (zq_o_172 _)
def f_M_isLaw_0  (a0 : Nat) (a1 : Int32) (h : mH) : Option (Int32 × mH) :=
  bd1 (gI h a0 8 2) fun x1 =>
  bd2 (f_M_in a1.toInt64 (0 : Int64) ((x1 - (1 : Int32)).toInt64) h) fun x5 h3 =>
  if x5 = 0 ∨ x5 = 1 then some (x5, h3) else none
set_option maxRecDepth 20000 in
theorem t_M_isLaw_0 {sc : Nat × (Nat → Int32)}  (a0 : Nat) (a1 : Int32) (h : mH) (r : Int32) (h' : mH) (hf : f_M_isLaw_0  a0 a1 h = some (r, h')) : G sc y_M_isLaw prog_10_method_23_code 2 (some .boolean) 1 25 0 [(0, .ref a0), (1, .int a1)] [] h (some (.int r)) h' := by
  unfold f_M_isLaw_0 at hf
  refine g_iload_n (pc := 0) 1 dd_M_isLaw_0.1 rfl rfl ?_
  refine g_i2l (pc := 1) dd_M_isLaw_0.2.1 ?_
  refine g_lconst (pc := 2) (0 : Int64) dd_M_isLaw_0.2.2.1 (by decide) ?_
  refine g_aload_n (pc := 3) 0 dd_M_isLaw_0.2.2.2.1 rfl rfl ?_
  obtain ⟨x1, e2, hf⟩ := bd1_e hf
  refine g_get (pc := 4) (ci := 8) (kk := 2) dd_M_isLaw_0.2.2.2.2.1 rfl in_M (by decide) wd_940 (gI_spec e2) ?_
  refine g_iconst (pc := 7) (1 : Int32) dd_M_isLaw_0.2.2.2.2.2.1 (by decide) ?_
  refine g_isub (pc := 8) dd_M_isLaw_0.2.2.2.2.2.2.1 ?_
  refine g_i2l (pc := 9) dd_M_isLaw_0.2.2.2.2.2.2.2.1 ?_
  obtain ⟨x5, h3, e4, hf⟩ := bd2_e hf
  refine g_callS (pc := 10) [.long a1.toInt64, .long (0 : Int64), .long ((x1 - (1 : Int32)).toInt64)] (site_of si_M_in (by decide) (by decide)) wd_1061 wd_1062 dd_M_isLaw_0.2.2.2.2.2.2.2.2.1 (Nat.le_of_ble_eq_true rfl) (fun z => absurd z si_na_M_in) (fun z => absurd z si_na_M_in) (fun z => absurd z si_na_M_in) (c_M_in e4) rfl ?_
  refine g_st [.int x5] rfl ?_
  by_cases c6 : x5 = 0 ∨ x5 = 1
  · replace hf := (if_pos c6).symm.trans hf
    obtain ⟨rfl, rfl⟩ := ret2 hf
    exact g_zret (pc := 13) rfl (nar_z c6) dd_M_isLaw_0.2.2.2.2.2.2.2.2.2
  · exact absurd ((if_neg c6).symm.trans hf) (by simp)
def f_M_isLaw (a0 : Nat) (a1 : Int32) (h : mH) : Option (Int32 × mH) := f_M_isLaw_0 a0 a1 h
theorem c_M_isLaw {sc : Nat × (Nat → Int32)} {a0 : Nat} {a1 : Int32} {h : mH} {r : Int32} {h' : mH} (hf : f_M_isLaw a0 a1 h = some (r, h')) : MM sc y_M_isLaw prog_10_method_23_code 2 (some .boolean) 1 25 [.ref a0, .int a1] h (some (.int r)) h' :=
  mm_of_G si_pn_M (Nat.le_of_ble_eq_true rfl) (t_M_isLaw_0 _ _ _ _ _ hf)
/-! M doesStand (I)Z -/
set_option maxRecDepth 100000 in
theorem dd_M_doesStand_0 : (decode prog_10_method_26_code 0 = .ok (.aload_n 0, 1)) ∧ (decode prog_10_method_26_code 1 = .ok (.getfield 7, 3)) ∧ (decode prog_10_method_26_code 4 = .ok (.bipush 10, 2)) ∧ (decode prog_10_method_26_code 6 = .ok (.iaload, 1)) ∧ (decode prog_10_method_26_code 7 = .ok (.iload_n 1, 1)) ∧ (decode prog_10_method_26_code 8 = .ok (.ishr, 1)) ∧ (decode prog_10_method_26_code 9 = .ok (.iconst 1, 1)) ∧ (decode prog_10_method_26_code 10 = .ok (.iand, 1)) ∧ (decode prog_10_method_26_code 11 = .ok (.iconst 1, 1)) ∧ (decode prog_10_method_26_code 12 = .ok (.if_icmp .ne 7, 3)) ∧ (decode prog_10_method_26_code 15 = .ok (.iconst 1, 1)) ∧ (decode prog_10_method_26_code 16 = .ok (.goto 4, 3)) ∧ (decode prog_10_method_26_code 19 = .ok (.iconst 0, 1)) ∧ (decode prog_10_method_26_code 20 = .ok (.ireturn, 1)) := by
  have h : List.drop 0 prog_10_method_26_code.data.toList = 0x2a :: _ := rfl
  refine ⟨zq_k_n 42 h rfl (zq_o_42 _), ?_⟩
  replace h := zq_nx1 (q := 1) h rfl
  refine ⟨zq_k_u2 180 (fun z => .getfield z) 7 h rfl (zq_o_180 _) (by decide +kernel), ?_⟩
  replace h := zq_nx3 (q := 4) h rfl
  refine ⟨zq_k_s1 16 (fun z => .bipush z) 10 h rfl (zq_o_16 _) (by decide +kernel), ?_⟩
  replace h := zq_nx2 (q := 6) h rfl
  refine ⟨zq_k_n 46 h rfl (zq_o_46 _), ?_⟩
  replace h := zq_nx1 (q := 7) h rfl
  refine ⟨zq_k_n 27 h rfl (zq_o_27 _), ?_⟩
  replace h := zq_nx1 (q := 8) h rfl
  refine ⟨zq_k_n 122 h rfl (zq_o_122 _), ?_⟩
  replace h := zq_nx1 (q := 9) h rfl
  refine ⟨zq_k_n 4 h rfl (zq_o_4 _), ?_⟩
  replace h := zq_nx1 (q := 10) h rfl
  refine ⟨zq_k_n 126 h rfl (zq_o_126 _), ?_⟩
  replace h := zq_nx1 (q := 11) h rfl
  refine ⟨zq_k_n 4 h rfl (zq_o_4 _), ?_⟩
  replace h := zq_nx1 (q := 12) h rfl
  refine ⟨zq_k_s2 160 (fun z => .if_icmp .ne z) 7 h rfl (zq_o_160 _) (by decide +kernel), ?_⟩
  replace h := zq_nx3 (q := 15) h rfl
  refine ⟨zq_k_n 4 h rfl (zq_o_4 _), ?_⟩
  replace h := zq_nx1 (q := 16) h rfl
  refine ⟨zq_k_s2 167 (fun z => .goto z) 4 h rfl (zq_o_167 _) (by decide +kernel), ?_⟩
  replace h := zq_nx3 (q := 19) h rfl
  refine ⟨zq_k_n 3 h rfl (zq_o_3 _), ?_⟩
  replace h := zq_nx1 (q := 20) h rfl
  exact zq_k_n 172 h rfl (zq_o_172 _)
def f_M_doesStand_0  (a0 : Nat) (a1 : Int32) (h : mH) : Option (Int32 × mH) :=
  bd1 (gR h a0 8 0) fun x1 =>
  bd1 (aI h 0 x1 (10 : Int32)) fun x3 =>
  if ((x3 >>> (a1 &&& 31)) &&& (1 : Int32)) = (1 : Int32) then
    some ((1 : Int32), h)
  else
    some ((0 : Int32), h)
set_option maxRecDepth 20000 in
theorem t_M_doesStand_0 {sc : Nat × (Nat → Int32)}  (a0 : Nat) (a1 : Int32) (h : mH) (r : Int32) (h' : mH) (hf : f_M_doesStand_0  a0 a1 h = some (r, h')) : G sc y_M_doesStand prog_10_method_26_code 2 (some .boolean) 0 0 0 [(0, .ref a0), (1, .int a1)] [] h (some (.int r)) h' := by
  unfold f_M_doesStand_0 at hf
  refine g_aload_n (pc := 0) 0 dd_M_doesStand_0.1 rfl rfl ?_
  obtain ⟨x1, e2, hf⟩ := bd1_e hf
  refine g_get (pc := 1) (ci := 8) (kk := 0) dd_M_doesStand_0.2.1 rfl in_M (by decide) wd_938 (gR_spec e2) ?_
  refine g_bipush (pc := 4) (10 : Int32) dd_M_doesStand_0.2.2.1 (by decide) ?_
  obtain ⟨x3, e4, hf⟩ := bd1_e hf
  refine g_iald (pc := 6) dd_M_doesStand_0.2.2.2.1 e4 ?_
  refine g_iload_n (pc := 7) 1 dd_M_doesStand_0.2.2.2.2.1 rfl rfl ?_
  refine g_ishr (pc := 8) dd_M_doesStand_0.2.2.2.2.2.1 ?_
  refine g_iconst (pc := 9) (1 : Int32) dd_M_doesStand_0.2.2.2.2.2.2.1 (by decide) ?_
  refine g_iand (pc := 10) dd_M_doesStand_0.2.2.2.2.2.2.2.1 ?_
  refine g_iconst (pc := 11) (1 : Int32) dd_M_doesStand_0.2.2.2.2.2.2.2.2.1 (by decide) ?_
  refine g_icmpne (pc := 12) 19 dd_M_doesStand_0.2.2.2.2.2.2.2.2.2.1 (by decide) (fun c5 => ?_) (fun c5 => ?_)
  · replace hf := (if_neg c5).symm.trans hf
    refine g_iconst (pc := 19) (0 : Int32) dd_M_doesStand_0.2.2.2.2.2.2.2.2.2.2.2.2.1 (by decide) ?_
    obtain ⟨rfl, rfl⟩ := ret2 hf
    exact g_zret (pc := 20) rfl rfl dd_M_doesStand_0.2.2.2.2.2.2.2.2.2.2.2.2.2
  · replace hf := (if_pos c5).symm.trans hf
    refine g_iconst (pc := 15) (1 : Int32) dd_M_doesStand_0.2.2.2.2.2.2.2.2.2.2.1 (by decide) ?_
    refine g_goto (pc := 16) 20 dd_M_doesStand_0.2.2.2.2.2.2.2.2.2.2.2.1 (by decide) ?_
    obtain ⟨rfl, rfl⟩ := ret2 hf
    exact g_zret (pc := 20) rfl rfl dd_M_doesStand_0.2.2.2.2.2.2.2.2.2.2.2.2.2
def f_M_doesStand (a0 : Nat) (a1 : Int32) (h : mH) : Option (Int32 × mH) := f_M_doesStand_0 a0 a1 h
theorem c_M_doesStand {sc : Nat × (Nat → Int32)} {a0 : Nat} {a1 : Int32} {h : mH} {r : Int32} {h' : mH} (hf : f_M_doesStand a0 a1 h = some (r, h')) : MM sc y_M_doesStand prog_10_method_26_code 2 (some .boolean) 0 0 [.ref a0, .int a1] h (some (.int r)) h' :=
  mm_of_G si_pn_M (Nat.le_of_ble_eq_true rfl) (t_M_doesStand_0 _ _ _ _ _ hf)
/-! M brokenBy (II)I -/
set_option maxRecDepth 100000 in
theorem dd_M_brokenBy_0 : (decode prog_10_method_27_code 0 = .ok (.aload_n 0, 1)) ∧ (decode prog_10_method_27_code 1 = .ok (.getfield 7, 3)) ∧ (decode prog_10_method_27_code 4 = .ok (.bipush 24, 2)) ∧ (decode prog_10_method_27_code 6 = .ok (.iconst 5, 1)) ∧ (decode prog_10_method_27_code 7 = .ok (.iload_n 1, 1)) ∧ (decode prog_10_method_27_code 8 = .ok (.imul, 1)) ∧ (decode prog_10_method_27_code 9 = .ok (.iadd, 1)) ∧ (decode prog_10_method_27_code 10 = .ok (.iload_n 2, 1)) ∧ (decode prog_10_method_27_code 11 = .ok (.iadd, 1)) ∧ (decode prog_10_method_27_code 12 = .ok (.iaload, 1)) ∧ (decode prog_10_method_27_code 13 = .ok (.ireturn, 1)) := by
  have h : List.drop 0 prog_10_method_27_code.data.toList = 0x2a :: _ := rfl
  refine ⟨zq_k_n 42 h rfl (zq_o_42 _), ?_⟩
  replace h := zq_nx1 (q := 1) h rfl
  refine ⟨zq_k_u2 180 (fun z => .getfield z) 7 h rfl (zq_o_180 _) (by decide +kernel), ?_⟩
  replace h := zq_nx3 (q := 4) h rfl
  refine ⟨zq_k_s1 16 (fun z => .bipush z) 24 h rfl (zq_o_16 _) (by decide +kernel), ?_⟩
  replace h := zq_nx2 (q := 6) h rfl
  refine ⟨zq_k_n 8 h rfl (zq_o_8 _), ?_⟩
  replace h := zq_nx1 (q := 7) h rfl
  refine ⟨zq_k_n 27 h rfl (zq_o_27 _), ?_⟩
  replace h := zq_nx1 (q := 8) h rfl
  refine ⟨zq_k_n 104 h rfl (zq_o_104 _), ?_⟩
  replace h := zq_nx1 (q := 9) h rfl
  refine ⟨zq_k_n 96 h rfl (zq_o_96 _), ?_⟩
  replace h := zq_nx1 (q := 10) h rfl
  refine ⟨zq_k_n 28 h rfl (zq_o_28 _), ?_⟩
  replace h := zq_nx1 (q := 11) h rfl
  refine ⟨zq_k_n 96 h rfl (zq_o_96 _), ?_⟩
  replace h := zq_nx1 (q := 12) h rfl
  refine ⟨zq_k_n 46 h rfl (zq_o_46 _), ?_⟩
  replace h := zq_nx1 (q := 13) h rfl
  exact zq_k_n 172 h rfl (zq_o_172 _)
def f_M_brokenBy_0  (a0 : Nat) (a1 : Int32) (a2 : Int32) (h : mH) : Option (Int32 × mH) :=
  bd1 (gR h a0 8 0) fun x1 =>
  bd1 (aI h 0 x1 (((24 : Int32) + ((5 : Int32) * a1)) + a2)) fun x3 =>
  some (x3, h)
set_option maxRecDepth 20000 in
theorem t_M_brokenBy_0 {sc : Nat × (Nat → Int32)}  (a0 : Nat) (a1 : Int32) (a2 : Int32) (h : mH) (r : Int32) (h' : mH) (hf : f_M_brokenBy_0  a0 a1 a2 h = some (r, h')) : G sc y_M_brokenBy prog_10_method_27_code 3 (some .int) 0 0 0 [(0, .ref a0), (1, .int a1), (2, .int a2)] [] h (some (.int r)) h' := by
  unfold f_M_brokenBy_0 at hf
  refine g_aload_n (pc := 0) 0 dd_M_brokenBy_0.1 rfl rfl ?_
  obtain ⟨x1, e2, hf⟩ := bd1_e hf
  refine g_get (pc := 1) (ci := 8) (kk := 0) dd_M_brokenBy_0.2.1 rfl in_M (by decide) wd_938 (gR_spec e2) ?_
  refine g_bipush (pc := 4) (24 : Int32) dd_M_brokenBy_0.2.2.1 (by decide) ?_
  refine g_iconst (pc := 6) (5 : Int32) dd_M_brokenBy_0.2.2.2.1 (by decide) ?_
  refine g_iload_n (pc := 7) 1 dd_M_brokenBy_0.2.2.2.2.1 rfl rfl ?_
  refine g_imul (pc := 8) dd_M_brokenBy_0.2.2.2.2.2.1 ?_
  refine g_iadd (pc := 9) dd_M_brokenBy_0.2.2.2.2.2.2.1 ?_
  refine g_iload_n (pc := 10) 2 dd_M_brokenBy_0.2.2.2.2.2.2.2.1 rfl rfl ?_
  refine g_iadd (pc := 11) dd_M_brokenBy_0.2.2.2.2.2.2.2.2.1 ?_
  obtain ⟨x3, e4, hf⟩ := bd1_e hf
  refine g_iald (pc := 12) dd_M_brokenBy_0.2.2.2.2.2.2.2.2.2.1 e4 ?_
  obtain ⟨rfl, rfl⟩ := ret2 hf
  exact g_iret (pc := 13) rfl dd_M_brokenBy_0.2.2.2.2.2.2.2.2.2.2
def f_M_brokenBy (a0 : Nat) (a1 : Int32) (a2 : Int32) (h : mH) : Option (Int32 × mH) := f_M_brokenBy_0 a0 a1 a2 h
theorem c_M_brokenBy {sc : Nat × (Nat → Int32)} {a0 : Nat} {a1 : Int32} {a2 : Int32} {h : mH} {r : Int32} {h' : mH} (hf : f_M_brokenBy a0 a1 a2 h = some (r, h')) : MM sc y_M_brokenBy prog_10_method_27_code 3 (some .int) 0 0 [.ref a0, .int a1, .int a2] h (some (.int r)) h' :=
  mm_of_G si_pn_M (Nat.le_of_ble_eq_true rfl) (t_M_brokenBy_0 _ _ _ _ _ _ hf)
/-! M needOf (I)I -/
set_option maxRecDepth 100000 in
theorem dd_M_needOf_0 : (decode prog_10_method_29_code 0 = .ok (.aload_n 0, 1)) ∧ (decode prog_10_method_29_code 1 = .ok (.iload_n 1, 1)) ∧ (decode prog_10_method_29_code 2 = .ok (.invokevirtual 191, 3)) ∧ (decode prog_10_method_29_code 5 = .ok (.ifCond .eq 14, 3)) ∧ (decode prog_10_method_29_code 8 = .ok (.aload_n 0, 1)) ∧ (decode prog_10_method_29_code 9 = .ok (.getfield 7, 3)) ∧ (decode prog_10_method_29_code 12 = .ok (.iconst 0, 1)) ∧ (decode prog_10_method_29_code 13 = .ok (.iload_n 1, 1)) ∧ (decode prog_10_method_29_code 14 = .ok (.iadd, 1)) ∧ (decode prog_10_method_29_code 15 = .ok (.iaload, 1)) ∧ (decode prog_10_method_29_code 16 = .ok (.goto 4, 3)) ∧ (decode prog_10_method_29_code 19 = .ok (.iconst 0, 1)) ∧ (decode prog_10_method_29_code 20 = .ok (.istore_n 2, 1)) ∧ (decode prog_10_method_29_code 21 = .ok (.iconst 0, 1)) ∧ (decode prog_10_method_29_code 22 = .ok (.istore_n 3, 1)) ∧ (decode prog_10_method_29_code 23 = .ok (.iload_n 3, 1)) ∧ (decode prog_10_method_29_code 24 = .ok (.aload_n 0, 1)) ∧ (decode prog_10_method_29_code 25 = .ok (.getfield 109, 3)) ∧ (decode prog_10_method_29_code 28 = .ok (.if_icmp .ge 18, 3)) ∧ (decode prog_10_method_29_code 31 = .ok (.iload_n 2, 1)) ∧ (decode prog_10_method_29_code 32 = .ok (.aload_n 0, 1)) ∧ (decode prog_10_method_29_code 33 = .ok (.iload_n 3, 1)) ∧ (decode prog_10_method_29_code 34 = .ok (.iload_n 1, 1)) ∧ (decode prog_10_method_29_code 35 = .ok (.invokevirtual 188, 3)) := by
  have h : List.drop 0 prog_10_method_29_code.data.toList = 0x2a :: _ := rfl
  refine ⟨zq_k_n 42 h rfl (zq_o_42 _), ?_⟩
  replace h := zq_nx1 (q := 1) h rfl
  refine ⟨zq_k_n 27 h rfl (zq_o_27 _), ?_⟩
  replace h := zq_nx1 (q := 2) h rfl
  refine ⟨zq_k_u2 182 (fun z => .invokevirtual z) 191 h rfl (zq_o_182 _) (by decide +kernel), ?_⟩
  replace h := zq_nx3 (q := 5) h rfl
  refine ⟨zq_k_s2 153 (fun z => .ifCond .eq z) 14 h rfl (zq_o_153 _) (by decide +kernel), ?_⟩
  replace h := zq_nx3 (q := 8) h rfl
  refine ⟨zq_k_n 42 h rfl (zq_o_42 _), ?_⟩
  replace h := zq_nx1 (q := 9) h rfl
  refine ⟨zq_k_u2 180 (fun z => .getfield z) 7 h rfl (zq_o_180 _) (by decide +kernel), ?_⟩
  replace h := zq_nx3 (q := 12) h rfl
  refine ⟨zq_k_n 3 h rfl (zq_o_3 _), ?_⟩
  replace h := zq_nx1 (q := 13) h rfl
  refine ⟨zq_k_n 27 h rfl (zq_o_27 _), ?_⟩
  replace h := zq_nx1 (q := 14) h rfl
  refine ⟨zq_k_n 96 h rfl (zq_o_96 _), ?_⟩
  replace h := zq_nx1 (q := 15) h rfl
  refine ⟨zq_k_n 46 h rfl (zq_o_46 _), ?_⟩
  replace h := zq_nx1 (q := 16) h rfl
  refine ⟨zq_k_s2 167 (fun z => .goto z) 4 h rfl (zq_o_167 _) (by decide +kernel), ?_⟩
  replace h := zq_nx3 (q := 19) h rfl
  refine ⟨zq_k_n 3 h rfl (zq_o_3 _), ?_⟩
  replace h := zq_nx1 (q := 20) h rfl
  refine ⟨zq_k_n 61 h rfl (zq_o_61 _), ?_⟩
  replace h := zq_nx1 (q := 21) h rfl
  refine ⟨zq_k_n 3 h rfl (zq_o_3 _), ?_⟩
  replace h := zq_nx1 (q := 22) h rfl
  refine ⟨zq_k_n 62 h rfl (zq_o_62 _), ?_⟩
  replace h := zq_nx1 (q := 23) h rfl
  refine ⟨zq_k_n 29 h rfl (zq_o_29 _), ?_⟩
  replace h := zq_nx1 (q := 24) h rfl
  refine ⟨zq_k_n 42 h rfl (zq_o_42 _), ?_⟩
  replace h := zq_nx1 (q := 25) h rfl
  refine ⟨zq_k_u2 180 (fun z => .getfield z) 109 h rfl (zq_o_180 _) (by decide +kernel), ?_⟩
  replace h := zq_nx3 (q := 28) h rfl
  refine ⟨zq_k_s2 162 (fun z => .if_icmp .ge z) 18 h rfl (zq_o_162 _) (by decide +kernel), ?_⟩
  replace h := zq_nx3 (q := 31) h rfl
  refine ⟨zq_k_n 28 h rfl (zq_o_28 _), ?_⟩
  replace h := zq_nx1 (q := 32) h rfl
  refine ⟨zq_k_n 42 h rfl (zq_o_42 _), ?_⟩
  replace h := zq_nx1 (q := 33) h rfl
  refine ⟨zq_k_n 29 h rfl (zq_o_29 _), ?_⟩
  replace h := zq_nx1 (q := 34) h rfl
  refine ⟨zq_k_n 27 h rfl (zq_o_27 _), ?_⟩
  replace h := zq_nx1 (q := 35) h rfl
  exact zq_k_u2 182 (fun z => .invokevirtual z) 188 h rfl (zq_o_182 _) (by decide +kernel)
set_option maxRecDepth 100000 in
theorem dd_M_needOf_38 : (decode prog_10_method_29_code 38 = .ok (.isub, 1)) ∧ (decode prog_10_method_29_code 39 = .ok (.istore_n 2, 1)) ∧ (decode prog_10_method_29_code 40 = .ok (.iinc 3 1, 3)) ∧ (decode prog_10_method_29_code 43 = .ok (.goto (-20), 3)) ∧ (decode prog_10_method_29_code 46 = .ok (.iload_n 2, 1)) ∧ (decode prog_10_method_29_code 47 = .ok (.ifCond .ge 7, 3)) ∧ (decode prog_10_method_29_code 50 = .ok (.iconst 0, 1)) ∧ (decode prog_10_method_29_code 51 = .ok (.goto 4, 3)) ∧ (decode prog_10_method_29_code 54 = .ok (.iload_n 2, 1)) ∧ (decode prog_10_method_29_code 55 = .ok (.ireturn, 1)) := by
  have h : List.drop 38 prog_10_method_29_code.data.toList = 0x64 :: _ := rfl
  refine ⟨zq_k_n 100 h rfl (zq_o_100 _), ?_⟩
  replace h := zq_nx1 (q := 39) h rfl
  refine ⟨zq_k_n 61 h rfl (zq_o_61 _), ?_⟩
  replace h := zq_nx1 (q := 40) h rfl
  refine ⟨zq_k_iinc 3 1 h rfl (zq_o_132 _) (by decide +kernel) (by decide +kernel), ?_⟩
  replace h := zq_nx3 (q := 43) h rfl
  refine ⟨zq_k_s2 167 (fun z => .goto z) (-20) h rfl (zq_o_167 _) (by decide +kernel), ?_⟩
  replace h := zq_nx3 (q := 46) h rfl
  refine ⟨zq_k_n 28 h rfl (zq_o_28 _), ?_⟩
  replace h := zq_nx1 (q := 47) h rfl
  refine ⟨zq_k_s2 156 (fun z => .ifCond .ge z) 7 h rfl (zq_o_156 _) (by decide +kernel), ?_⟩
  replace h := zq_nx3 (q := 50) h rfl
  refine ⟨zq_k_n 3 h rfl (zq_o_3 _), ?_⟩
  replace h := zq_nx1 (q := 51) h rfl
  refine ⟨zq_k_s2 167 (fun z => .goto z) 4 h rfl (zq_o_167 _) (by decide +kernel), ?_⟩
  replace h := zq_nx3 (q := 54) h rfl
  refine ⟨zq_k_n 28 h rfl (zq_o_28 _), ?_⟩
  replace h := zq_nx1 (q := 55) h rfl
  exact zq_k_n 172 h rfl (zq_o_172 _)
def f_M_needOf_23b (rec23 : Nat → Int32 → Int32 → Int32 → mH → Option (Int32 × mH)) (b0 : Nat) (b1 : Int32) (b2 : Int32) (b3 : Int32) (h : mH) : Option (Int32 × mH) :=
  bd1 (gI h b0 8 3) fun x11 =>
  if x11 ≤ b3 then
    if 0 ≤ b2 then
      some (b2, h)
    else
      some ((0 : Int32), h)
  else
    bd1 (kC h b0 8) fun _ =>
    bd2 (f_M_brokenBy b0 b3 b1 h) fun x18 h16 =>
    rec23 b0 b1 (b2 - x18) (b3 + (1 : Int32)) h16
set_option maxRecDepth 20000 in
theorem t_M_needOf_23b {sc : Nat × (Nat → Int32)} (rec23 : Nat → Int32 → Int32 → Int32 → mH → Option (Int32 × mH)) (hrec23 : ∀ (b0 : Nat) (b1 : Int32) (b2 : Int32) (b3 : Int32) (h : mH) (r : Int32) (h' : mH), rec23 b0 b1 b2 b3 h = some (r, h') → G sc y_M_needOf prog_10_method_29_code 4 (some .int) 1 22 23 [(0, .ref b0), (1, .int b1), (2, .int b2), (3, .int b3)] [] h (some (.int r)) h') (b0 : Nat) (b1 : Int32) (b2 : Int32) (b3 : Int32) (h : mH) (r : Int32) (h' : mH) (hf : f_M_needOf_23b rec23 b0 b1 b2 b3 h = some (r, h')) : G sc y_M_needOf prog_10_method_29_code 4 (some .int) 1 22 23 [(0, .ref b0), (1, .int b1), (2, .int b2), (3, .int b3)] [] h (some (.int r)) h' := by
  unfold f_M_needOf_23b at hf
  refine g_iload_n (pc := 23) 3 dd_M_needOf_0.2.2.2.2.2.2.2.2.2.2.2.2.2.2.2.1 rfl rfl ?_
  refine g_aload_n (pc := 24) 0 dd_M_needOf_0.2.2.2.2.2.2.2.2.2.2.2.2.2.2.2.2.1 rfl rfl ?_
  obtain ⟨x11, e12, hf⟩ := bd1_e hf
  refine g_get (pc := 25) (ci := 8) (kk := 3) dd_M_needOf_0.2.2.2.2.2.2.2.2.2.2.2.2.2.2.2.2.2.1 rfl in_M (by decide) wd_941 (gI_spec e12) ?_
  refine g_icmpge (pc := 28) 46 dd_M_needOf_0.2.2.2.2.2.2.2.2.2.2.2.2.2.2.2.2.2.2.1 (by decide) (fun c19 => ?_) (fun c19 => ?_)
  · replace hf := (if_pos c19).symm.trans hf
    refine g_iload_n (pc := 46) 2 dd_M_needOf_38.2.2.2.2.1 rfl rfl ?_
    refine g_ifge (pc := 47) 54 dd_M_needOf_38.2.2.2.2.2.1 (by decide) (fun c13 => ?_) (fun c13 => ?_)
    · replace hf := (if_pos c13).symm.trans hf
      refine g_iload_n (pc := 54) 2 dd_M_needOf_38.2.2.2.2.2.2.2.2.1 rfl rfl ?_
      obtain ⟨rfl, rfl⟩ := ret2 hf
      exact g_iret (pc := 55) rfl dd_M_needOf_38.2.2.2.2.2.2.2.2.2
    · replace hf := (if_neg c13).symm.trans hf
      refine g_iconst (pc := 50) (0 : Int32) dd_M_needOf_38.2.2.2.2.2.2.1 (by decide) ?_
      refine g_goto (pc := 51) 55 dd_M_needOf_38.2.2.2.2.2.2.2.1 (by decide) ?_
      obtain ⟨rfl, rfl⟩ := ret2 hf
      exact g_iret (pc := 55) rfl dd_M_needOf_38.2.2.2.2.2.2.2.2.2
  · replace hf := (if_neg c19).symm.trans hf
    refine g_iload_n (pc := 31) 2 dd_M_needOf_0.2.2.2.2.2.2.2.2.2.2.2.2.2.2.2.2.2.2.2.1 rfl rfl ?_
    refine g_aload_n (pc := 32) 0 dd_M_needOf_0.2.2.2.2.2.2.2.2.2.2.2.2.2.2.2.2.2.2.2.2.1 rfl rfl ?_
    refine g_iload_n (pc := 33) 3 dd_M_needOf_0.2.2.2.2.2.2.2.2.2.2.2.2.2.2.2.2.2.2.2.2.2.1 rfl rfl ?_
    refine g_iload_n (pc := 34) 1 dd_M_needOf_0.2.2.2.2.2.2.2.2.2.2.2.2.2.2.2.2.2.2.2.2.2.2.1 rfl rfl ?_
    obtain ⟨u15, e14, hf⟩ := bd1_e hf
    obtain ⟨x18, h16, e17, hf⟩ := bd2_e hf
    refine g_callV (pc := 35) (ci := 8) [.int b3, .int b1] (site_of si_M_brokenBy (by decide) (by decide)) wd_1148 wd_1150 wp_47 dd_M_needOf_0.2.2.2.2.2.2.2.2.2.2.2.2.2.2.2.2.2.2.2.2.2.2.2 rfl e14 (Nat.le_of_ble_eq_true rfl) (fun z => absurd z si_na_M_brokenBy) (fun z => absurd z si_na_M_brokenBy) (fun z => absurd z si_na_M_brokenBy) (c_M_brokenBy e17) rfl ?_
    refine g_st [.int x18, .int b2] rfl ?_
    refine g_isub (pc := 38) dd_M_needOf_38.1 ?_
    refine g_istore_n (pc := 39) [(2, .int (b2 - x18)), (0, .ref b0), (1, .int b1), (3, .int b3)] dd_M_needOf_38.2.1 rfl (Nat.le_of_ble_eq_true rfl) rfl ?_
    refine g_iinc (pc := 40) 3 (b3 + (1 : Int32)) [(3, .int (b3 + (1 : Int32))), (2, .int (b2 - x18)), (0, .ref b0), (1, .int b1)] dd_M_needOf_38.2.2.1 rfl rfl (Nat.le_of_ble_eq_true rfl) rfl ?_
    refine g_goto (pc := 43) 23 dd_M_needOf_38.2.2.2.1 (by decide) ?_
    refine g_lv [2, 3, 1, 0] rfl ?_
    exact hrec23 _ _ _ _ _ _ _  hf
def f_M_needOf_23  : Nat → Nat → Int32 → Int32 → Int32 → mH → Option (Int32 × mH)
  | 0 => fun _ _ _ _ _ => none
  | n + 1 => f_M_needOf_23b  (f_M_needOf_23  n)
theorem t_M_needOf_23 {sc : Nat × (Nat → Int32)}  : ∀ (n : Nat) (b0 : Nat) (b1 : Int32) (b2 : Int32) (b3 : Int32) (h : mH) (r : Int32) (h' : mH) (hf : f_M_needOf_23  n b0 b1 b2 b3 h = some (r, h')), G sc y_M_needOf prog_10_method_29_code 4 (some .int) 1 22 23 [(0, .ref b0), (1, .int b1), (2, .int b2), (3, .int b3)] [] h (some (.int r)) h'
  | 0, _, _, _, _, _, _, _, hf => by cases hf
  | n + 1, _, _, _, _, _, _, _, hf => t_M_needOf_23b  (f_M_needOf_23  n) (t_M_needOf_23  n) _ _ _ _ _ _ _ hf
def f_M_needOf_20  (b0 : Nat) (b1 : Int32) (s0 : Int32) (h : mH) : Option (Int32 × mH) :=
  f_M_needOf_23  FU b0 b1 s0 (0 : Int32) h
set_option maxRecDepth 20000 in
theorem t_M_needOf_20 {sc : Nat × (Nat → Int32)}  (b0 : Nat) (b1 : Int32) (s0 : Int32) (h : mH) (r : Int32) (h' : mH) (hf : f_M_needOf_20  b0 b1 s0 h = some (r, h')) : G sc y_M_needOf prog_10_method_29_code 4 (some .int) 1 22 20 [(0, .ref b0), (1, .int b1)] [.int s0] h (some (.int r)) h' := by
  unfold f_M_needOf_20 at hf
  refine g_istore_n (pc := 20) [(2, .int s0), (0, .ref b0), (1, .int b1)] dd_M_needOf_0.2.2.2.2.2.2.2.2.2.2.2.2.1 rfl (Nat.le_of_ble_eq_true rfl) rfl ?_
  refine g_iconst (pc := 21) (0 : Int32) dd_M_needOf_0.2.2.2.2.2.2.2.2.2.2.2.2.2.1 (by decide) ?_
  refine g_istore_n (pc := 22) [(3, .int (0 : Int32)), (2, .int s0), (0, .ref b0), (1, .int b1)] dd_M_needOf_0.2.2.2.2.2.2.2.2.2.2.2.2.2.2.1 rfl (Nat.le_of_ble_eq_true rfl) rfl ?_
  refine g_lv [2, 3, 1, 0] rfl ?_
  exact t_M_needOf_23  FU _ _ _ _ _ _ _  hf
def f_M_needOf_0  (a0 : Nat) (a1 : Int32) (h : mH) : Option (Int32 × mH) :=
  bd1 (kC h a0 8) fun _ =>
  bd2 (f_M_doesStand a0 a1 h) fun x5 h3 =>
  if x5 = 0 then
    f_M_needOf_20  a0 a1 (0 : Int32) h3
  else
    bd1 (gR h3 a0 8 0) fun x6 =>
    bd1 (aI h3 0 x6 ((0 : Int32) + a1)) fun x8 =>
    f_M_needOf_20  a0 a1 x8 h3
set_option maxRecDepth 20000 in
theorem t_M_needOf_0 {sc : Nat × (Nat → Int32)}  (a0 : Nat) (a1 : Int32) (h : mH) (r : Int32) (h' : mH) (hf : f_M_needOf_0  a0 a1 h = some (r, h')) : G sc y_M_needOf prog_10_method_29_code 4 (some .int) 1 22 0 [(0, .ref a0), (1, .int a1)] [] h (some (.int r)) h' := by
  unfold f_M_needOf_0 at hf
  refine g_aload_n (pc := 0) 0 dd_M_needOf_0.1 rfl rfl ?_
  refine g_iload_n (pc := 1) 1 dd_M_needOf_0.2.1 rfl rfl ?_
  obtain ⟨u2, e1, hf⟩ := bd1_e hf
  obtain ⟨x5, h3, e4, hf⟩ := bd2_e hf
  refine g_callV (pc := 2) (ci := 8) [.int a1] (site_of si_M_doesStand (by decide) (by decide)) wd_1144 wd_1146 wp_46 dd_M_needOf_0.2.2.1 rfl e1 (Nat.le_of_ble_eq_true rfl) (fun z => absurd z si_na_M_doesStand) (fun z => absurd z si_na_M_doesStand) (fun z => absurd z si_na_M_doesStand) (c_M_doesStand e4) rfl ?_
  refine g_st [.int x5] rfl ?_
  refine g_ifeq (pc := 5) 19 dd_M_needOf_0.2.2.2.1 (by decide) (fun c10 => ?_) (fun c10 => ?_)
  · replace hf := (if_pos c10).symm.trans hf
    refine g_iconst (pc := 19) (0 : Int32) dd_M_needOf_0.2.2.2.2.2.2.2.2.2.2.2.1 (by decide) ?_
    refine g_lv [0, 1] rfl ?_
    exact t_M_needOf_20  _ _ _ _ _ _  hf
  · replace hf := (if_neg c10).symm.trans hf
    refine g_aload_n (pc := 8) 0 dd_M_needOf_0.2.2.2.2.1 rfl rfl ?_
    obtain ⟨x6, e7, hf⟩ := bd1_e hf
    refine g_get (pc := 9) (ci := 8) (kk := 0) dd_M_needOf_0.2.2.2.2.2.1 rfl in_M (by decide) wd_938 (gR_spec e7) ?_
    refine g_iconst (pc := 12) (0 : Int32) dd_M_needOf_0.2.2.2.2.2.2.1 (by decide) ?_
    refine g_iload_n (pc := 13) 1 dd_M_needOf_0.2.2.2.2.2.2.2.1 rfl rfl ?_
    refine g_iadd (pc := 14) dd_M_needOf_0.2.2.2.2.2.2.2.2.1 ?_
    obtain ⟨x8, e9, hf⟩ := bd1_e hf
    refine g_iald (pc := 15) dd_M_needOf_0.2.2.2.2.2.2.2.2.2.1 e9 ?_
    refine g_goto (pc := 16) 20 dd_M_needOf_0.2.2.2.2.2.2.2.2.2.2.1 (by decide) ?_
    refine g_lv [0, 1] rfl ?_
    exact t_M_needOf_20  _ _ _ _ _ _  hf
def f_M_needOf (a0 : Nat) (a1 : Int32) (h : mH) : Option (Int32 × mH) := f_M_needOf_0 a0 a1 h
theorem c_M_needOf {sc : Nat × (Nat → Int32)} {a0 : Nat} {a1 : Int32} {h : mH} {r : Int32} {h' : mH} (hf : f_M_needOf a0 a1 h = some (r, h')) : MM sc y_M_needOf prog_10_method_29_code 4 (some .int) 1 22 [.ref a0, .int a1] h (some (.int r)) h' :=
  mm_of_G si_pn_M (Nat.le_of_ble_eq_true rfl) (t_M_needOf_0 _ _ _ _ _ hf)
/-! M chainOf (I)I -/
set_option maxRecDepth 100000 in
theorem dd_M_chainOf_0 : (decode prog_10_method_30_code 0 = .ok (.iconst 0, 1)) ∧ (decode prog_10_method_30_code 1 = .ok (.istore_n 2, 1)) ∧ (decode prog_10_method_30_code 2 = .ok (.iload_n 1, 1)) ∧ (decode prog_10_method_30_code 3 = .ok (.istore_n 3, 1)) ∧ (decode prog_10_method_30_code 4 = .ok (.iload_n 3, 1)) ∧ (decode prog_10_method_30_code 5 = .ok (.bipush (-4), 2)) ∧ (decode prog_10_method_30_code 7 = .ok (.if_icmp .eq 29, 3)) ∧ (decode prog_10_method_30_code 10 = .ok (.iload_n 2, 1)) ∧ (decode prog_10_method_30_code 11 = .ok (.iload_n 3, 1)) ∧ (decode prog_10_method_30_code 12 = .ok (.ishr, 1)) ∧ (decode prog_10_method_30_code 13 = .ok (.iconst 1, 1)) ∧ (decode prog_10_method_30_code 14 = .ok (.iand, 1)) ∧ (decode prog_10_method_30_code 15 = .ok (.ifCond .ne 21, 3)) ∧ (decode prog_10_method_30_code 18 = .ok (.iload_n 2, 1)) ∧ (decode prog_10_method_30_code 19 = .ok (.iconst 1, 1)) ∧ (decode prog_10_method_30_code 20 = .ok (.iload_n 3, 1)) ∧ (decode prog_10_method_30_code 21 = .ok (.ishl, 1)) ∧ (decode prog_10_method_30_code 22 = .ok (.ior, 1)) ∧ (decode prog_10_method_30_code 23 = .ok (.istore_n 2, 1)) ∧ (decode prog_10_method_30_code 24 = .ok (.aload_n 0, 1)) ∧ (decode prog_10_method_30_code 25 = .ok (.getfield 7, 3)) ∧ (decode prog_10_method_30_code 28 = .ok (.iconst 5, 1)) ∧ (decode prog_10_method_30_code 29 = .ok (.iload_n 3, 1)) ∧ (decode prog_10_method_30_code 30 = .ok (.iadd, 1)) := by
  have h : List.drop 0 prog_10_method_30_code.data.toList = 0x03 :: _ := rfl
  refine ⟨zq_k_n 3 h rfl (zq_o_3 _), ?_⟩
  replace h := zq_nx1 (q := 1) h rfl
  refine ⟨zq_k_n 61 h rfl (zq_o_61 _), ?_⟩
  replace h := zq_nx1 (q := 2) h rfl
  refine ⟨zq_k_n 27 h rfl (zq_o_27 _), ?_⟩
  replace h := zq_nx1 (q := 3) h rfl
  refine ⟨zq_k_n 62 h rfl (zq_o_62 _), ?_⟩
  replace h := zq_nx1 (q := 4) h rfl
  refine ⟨zq_k_n 29 h rfl (zq_o_29 _), ?_⟩
  replace h := zq_nx1 (q := 5) h rfl
  refine ⟨zq_k_s1 16 (fun z => .bipush z) (-4) h rfl (zq_o_16 _) (by decide +kernel), ?_⟩
  replace h := zq_nx2 (q := 7) h rfl
  refine ⟨zq_k_s2 159 (fun z => .if_icmp .eq z) 29 h rfl (zq_o_159 _) (by decide +kernel), ?_⟩
  replace h := zq_nx3 (q := 10) h rfl
  refine ⟨zq_k_n 28 h rfl (zq_o_28 _), ?_⟩
  replace h := zq_nx1 (q := 11) h rfl
  refine ⟨zq_k_n 29 h rfl (zq_o_29 _), ?_⟩
  replace h := zq_nx1 (q := 12) h rfl
  refine ⟨zq_k_n 122 h rfl (zq_o_122 _), ?_⟩
  replace h := zq_nx1 (q := 13) h rfl
  refine ⟨zq_k_n 4 h rfl (zq_o_4 _), ?_⟩
  replace h := zq_nx1 (q := 14) h rfl
  refine ⟨zq_k_n 126 h rfl (zq_o_126 _), ?_⟩
  replace h := zq_nx1 (q := 15) h rfl
  refine ⟨zq_k_s2 154 (fun z => .ifCond .ne z) 21 h rfl (zq_o_154 _) (by decide +kernel), ?_⟩
  replace h := zq_nx3 (q := 18) h rfl
  refine ⟨zq_k_n 28 h rfl (zq_o_28 _), ?_⟩
  replace h := zq_nx1 (q := 19) h rfl
  refine ⟨zq_k_n 4 h rfl (zq_o_4 _), ?_⟩
  replace h := zq_nx1 (q := 20) h rfl
  refine ⟨zq_k_n 29 h rfl (zq_o_29 _), ?_⟩
  replace h := zq_nx1 (q := 21) h rfl
  refine ⟨zq_k_n 120 h rfl (zq_o_120 _), ?_⟩
  replace h := zq_nx1 (q := 22) h rfl
  refine ⟨zq_k_n 128 h rfl (zq_o_128 _), ?_⟩
  replace h := zq_nx1 (q := 23) h rfl
  refine ⟨zq_k_n 61 h rfl (zq_o_61 _), ?_⟩
  replace h := zq_nx1 (q := 24) h rfl
  refine ⟨zq_k_n 42 h rfl (zq_o_42 _), ?_⟩
  replace h := zq_nx1 (q := 25) h rfl
  refine ⟨zq_k_u2 180 (fun z => .getfield z) 7 h rfl (zq_o_180 _) (by decide +kernel), ?_⟩
  replace h := zq_nx3 (q := 28) h rfl
  refine ⟨zq_k_n 8 h rfl (zq_o_8 _), ?_⟩
  replace h := zq_nx1 (q := 29) h rfl
  refine ⟨zq_k_n 29 h rfl (zq_o_29 _), ?_⟩
  replace h := zq_nx1 (q := 30) h rfl
  exact zq_k_n 96 h rfl (zq_o_96 _)
set_option maxRecDepth 100000 in
theorem dd_M_chainOf_31 : (decode prog_10_method_30_code 31 = .ok (.iaload, 1)) ∧ (decode prog_10_method_30_code 32 = .ok (.istore_n 3, 1)) ∧ (decode prog_10_method_30_code 33 = .ok (.goto (-29), 3)) ∧ (decode prog_10_method_30_code 36 = .ok (.iload_n 2, 1)) ∧ (decode prog_10_method_30_code 37 = .ok (.ireturn, 1)) := by
  have h : List.drop 31 prog_10_method_30_code.data.toList = 0x2e :: _ := rfl
  refine ⟨zq_k_n 46 h rfl (zq_o_46 _), ?_⟩
  replace h := zq_nx1 (q := 32) h rfl
  refine ⟨zq_k_n 62 h rfl (zq_o_62 _), ?_⟩
  replace h := zq_nx1 (q := 33) h rfl
  refine ⟨zq_k_s2 167 (fun z => .goto z) (-29) h rfl (zq_o_167 _) (by decide +kernel), ?_⟩
  replace h := zq_nx3 (q := 36) h rfl
  refine ⟨zq_k_n 28 h rfl (zq_o_28 _), ?_⟩
  replace h := zq_nx1 (q := 37) h rfl
  exact zq_k_n 172 h rfl (zq_o_172 _)
def f_M_chainOf_36  (b2 : Int32) (h : mH) : Option (Int32 × mH) :=
  some (b2, h)
set_option maxRecDepth 20000 in
theorem t_M_chainOf_36 {sc : Nat × (Nat → Int32)}  (b2 : Int32) (h : mH) (r : Int32) (h' : mH) (hf : f_M_chainOf_36  b2 h = some (r, h')) : G sc y_M_chainOf prog_10_method_30_code 4 (some .int) 0 0 36 [(2, .int b2)] [] h (some (.int r)) h' := by
  unfold f_M_chainOf_36 at hf
  refine g_iload_n (pc := 36) 0 dd_M_chainOf_31.2.2.2.1 rfl rfl ?_
  obtain ⟨rfl, rfl⟩ := ret2 hf
  exact g_iret (pc := 37) rfl dd_M_chainOf_31.2.2.2.2
def f_M_chainOf_4b (rec4 : Nat → Int32 → Int32 → mH → Option (Int32 × mH)) (b0 : Nat) (b2 : Int32) (b3 : Int32) (h : mH) : Option (Int32 × mH) :=
  if b3 = ((-4) : Int32) then
    f_M_chainOf_36  b2 h
  else
    if ((b2 >>> (b3 &&& 31)) &&& (1 : Int32)) = 0 then
      bd1 (gR h b0 8 0) fun x1 =>
      bd1 (aI h 0 x1 ((5 : Int32) + b3)) fun x3 =>
      rec4 b0 (b2 ||| ((1 : Int32) <<< (b3 &&& 31))) x3 h
    else
      f_M_chainOf_36  b2 h
set_option maxRecDepth 20000 in
theorem t_M_chainOf_4b {sc : Nat × (Nat → Int32)} (rec4 : Nat → Int32 → Int32 → mH → Option (Int32 × mH)) (hrec4 : ∀ (b0 : Nat) (b2 : Int32) (b3 : Int32) (h : mH) (r : Int32) (h' : mH), rec4 b0 b2 b3 h = some (r, h') → G sc y_M_chainOf prog_10_method_30_code 4 (some .int) 0 0 4 [(0, .ref b0), (2, .int b2), (3, .int b3)] [] h (some (.int r)) h') (b0 : Nat) (b2 : Int32) (b3 : Int32) (h : mH) (r : Int32) (h' : mH) (hf : f_M_chainOf_4b rec4 b0 b2 b3 h = some (r, h')) : G sc y_M_chainOf prog_10_method_30_code 4 (some .int) 0 0 4 [(0, .ref b0), (2, .int b2), (3, .int b3)] [] h (some (.int r)) h' := by
  unfold f_M_chainOf_4b at hf
  refine g_iload_n (pc := 4) 2 dd_M_chainOf_0.2.2.2.2.1 rfl rfl ?_
  refine g_bipush (pc := 5) ((-4) : Int32) dd_M_chainOf_0.2.2.2.2.2.1 (by decide) ?_
  refine g_icmpeq (pc := 7) 36 dd_M_chainOf_0.2.2.2.2.2.2.1 (by decide) (fun c6 => ?_) (fun c6 => ?_)
  · replace hf := (if_pos c6).symm.trans hf
    refine g_lv [1] rfl ?_
    exact t_M_chainOf_36  _ _ _ _  hf
  · replace hf := (if_neg c6).symm.trans hf
    refine g_iload_n (pc := 10) 1 dd_M_chainOf_0.2.2.2.2.2.2.2.1 rfl rfl ?_
    refine g_iload_n (pc := 11) 2 dd_M_chainOf_0.2.2.2.2.2.2.2.2.1 rfl rfl ?_
    refine g_ishr (pc := 12) dd_M_chainOf_0.2.2.2.2.2.2.2.2.2.1 ?_
    refine g_iconst (pc := 13) (1 : Int32) dd_M_chainOf_0.2.2.2.2.2.2.2.2.2.2.1 (by decide) ?_
    refine g_iand (pc := 14) dd_M_chainOf_0.2.2.2.2.2.2.2.2.2.2.2.1 ?_
    refine g_ifne (pc := 15) 36 dd_M_chainOf_0.2.2.2.2.2.2.2.2.2.2.2.2.1 (by decide) (fun c5 => ?_) (fun c5 => ?_)
    · replace hf := (if_neg c5).symm.trans hf
      refine g_lv [1] rfl ?_
      exact t_M_chainOf_36  _ _ _ _  hf
    · replace hf := (if_pos c5).symm.trans hf
      refine g_iload_n (pc := 18) 1 dd_M_chainOf_0.2.2.2.2.2.2.2.2.2.2.2.2.2.1 rfl rfl ?_
      refine g_iconst (pc := 19) (1 : Int32) dd_M_chainOf_0.2.2.2.2.2.2.2.2.2.2.2.2.2.2.1 (by decide) ?_
      refine g_iload_n (pc := 20) 2 dd_M_chainOf_0.2.2.2.2.2.2.2.2.2.2.2.2.2.2.2.1 rfl rfl ?_
      refine g_ishl (pc := 21) dd_M_chainOf_0.2.2.2.2.2.2.2.2.2.2.2.2.2.2.2.2.1 ?_
      refine g_ior (pc := 22) dd_M_chainOf_0.2.2.2.2.2.2.2.2.2.2.2.2.2.2.2.2.2.1 ?_
      refine g_istore_n (pc := 23) [(2, .int (b2 ||| ((1 : Int32) <<< (b3 &&& 31)))), (0, .ref b0), (3, .int b3)] dd_M_chainOf_0.2.2.2.2.2.2.2.2.2.2.2.2.2.2.2.2.2.2.1 rfl (Nat.le_of_ble_eq_true rfl) rfl ?_
      refine g_aload_n (pc := 24) 1 dd_M_chainOf_0.2.2.2.2.2.2.2.2.2.2.2.2.2.2.2.2.2.2.2.1 rfl rfl ?_
      obtain ⟨x1, e2, hf⟩ := bd1_e hf
      refine g_get (pc := 25) (ci := 8) (kk := 0) dd_M_chainOf_0.2.2.2.2.2.2.2.2.2.2.2.2.2.2.2.2.2.2.2.2.1 rfl in_M (by decide) wd_938 (gR_spec e2) ?_
      refine g_iconst (pc := 28) (5 : Int32) dd_M_chainOf_0.2.2.2.2.2.2.2.2.2.2.2.2.2.2.2.2.2.2.2.2.2.1 (by decide) ?_
      refine g_iload_n (pc := 29) 2 dd_M_chainOf_0.2.2.2.2.2.2.2.2.2.2.2.2.2.2.2.2.2.2.2.2.2.2.1 rfl rfl ?_
      refine g_iadd (pc := 30) dd_M_chainOf_0.2.2.2.2.2.2.2.2.2.2.2.2.2.2.2.2.2.2.2.2.2.2.2 ?_
      obtain ⟨x3, e4, hf⟩ := bd1_e hf
      refine g_iald (pc := 31) dd_M_chainOf_31.1 e4 ?_
      refine g_istore_n (pc := 32) [(3, .int x3), (2, .int (b2 ||| ((1 : Int32) <<< (b3 &&& 31)))), (0, .ref b0)] dd_M_chainOf_31.2.1 rfl (Nat.le_of_ble_eq_true rfl) rfl ?_
      refine g_goto (pc := 33) 4 dd_M_chainOf_31.2.2.1 (by decide) ?_
      refine g_lv [2, 1, 0] rfl ?_
      exact hrec4 _ _ _ _ _ _  hf
def f_M_chainOf_4  : Nat → Nat → Int32 → Int32 → mH → Option (Int32 × mH)
  | 0 => fun _ _ _ _ => none
  | n + 1 => f_M_chainOf_4b  (f_M_chainOf_4  n)
theorem t_M_chainOf_4 {sc : Nat × (Nat → Int32)}  : ∀ (n : Nat) (b0 : Nat) (b2 : Int32) (b3 : Int32) (h : mH) (r : Int32) (h' : mH) (hf : f_M_chainOf_4  n b0 b2 b3 h = some (r, h')), G sc y_M_chainOf prog_10_method_30_code 4 (some .int) 0 0 4 [(0, .ref b0), (2, .int b2), (3, .int b3)] [] h (some (.int r)) h'
  | 0, _, _, _, _, _, _, hf => by cases hf
  | n + 1, _, _, _, _, _, _, hf => t_M_chainOf_4b  (f_M_chainOf_4  n) (t_M_chainOf_4  n) _ _ _ _ _ _ hf
def f_M_chainOf_0  (a0 : Nat) (a1 : Int32) (h : mH) : Option (Int32 × mH) :=
  f_M_chainOf_4  FU a0 (0 : Int32) a1 h
set_option maxRecDepth 20000 in
theorem t_M_chainOf_0 {sc : Nat × (Nat → Int32)}  (a0 : Nat) (a1 : Int32) (h : mH) (r : Int32) (h' : mH) (hf : f_M_chainOf_0  a0 a1 h = some (r, h')) : G sc y_M_chainOf prog_10_method_30_code 4 (some .int) 0 0 0 [(0, .ref a0), (1, .int a1)] [] h (some (.int r)) h' := by
  unfold f_M_chainOf_0 at hf
  refine g_iconst (pc := 0) (0 : Int32) dd_M_chainOf_0.1 (by decide) ?_
  refine g_istore_n (pc := 1) [(2, .int (0 : Int32)), (0, .ref a0), (1, .int a1)] dd_M_chainOf_0.2.1 rfl (Nat.le_of_ble_eq_true rfl) rfl ?_
  refine g_iload_n (pc := 2) 2 dd_M_chainOf_0.2.2.1 rfl rfl ?_
  refine g_istore_n (pc := 3) [(3, .int a1), (2, .int (0 : Int32)), (0, .ref a0), (1, .int a1)] dd_M_chainOf_0.2.2.2.1 rfl (Nat.le_of_ble_eq_true rfl) rfl ?_
  refine g_lv [2, 1, 0] rfl ?_
  exact t_M_chainOf_4  FU _ _ _ _ _ _  hf
def f_M_chainOf (a0 : Nat) (a1 : Int32) (h : mH) : Option (Int32 × mH) := f_M_chainOf_0 a0 a1 h
theorem c_M_chainOf {sc : Nat × (Nat → Int32)} {a0 : Nat} {a1 : Int32} {h : mH} {r : Int32} {h' : mH} (hf : f_M_chainOf a0 a1 h = some (r, h')) : MM sc y_M_chainOf prog_10_method_30_code 4 (some .int) 0 0 [.ref a0, .int a1] h (some (.int r)) h' :=
  mm_of_G si_pn_M (Nat.le_of_ble_eq_true rfl) (t_M_chainOf_0 _ _ _ _ _ hf)
/-! M law (II)I -/
set_option maxRecDepth 100000 in
theorem dd_M_law_0 : (decode prog_10_method_36_code 0 = .ok (.aload_n 0, 1)) ∧ (decode prog_10_method_36_code 1 = .ok (.iload_n 1, 1)) ∧ (decode prog_10_method_36_code 2 = .ok (.invokevirtual 210, 3)) ∧ (decode prog_10_method_36_code 5 = .ok (.ifCond .ne 5, 3)) ∧ (decode prog_10_method_36_code 8 = .ok (.iconst (-1), 1)) ∧ (decode prog_10_method_36_code 9 = .ok (.ireturn, 1)) ∧ (decode prog_10_method_36_code 10 = .ok (.iload_n 2, 1)) ∧ (decode prog_10_method_36_code 11 = .ok (.tableswitch 92 0 6 #[41, 50, 57, 64, 71, 80, 86], 41)) ∧ (decode prog_10_method_36_code 52 = .ok (.aload_n 0, 1)) ∧ (decode prog_10_method_36_code 53 = .ok (.getfield 7, 3)) ∧ (decode prog_10_method_36_code 56 = .ok (.iconst 0, 1)) ∧ (decode prog_10_method_36_code 57 = .ok (.iload_n 1, 1)) ∧ (decode prog_10_method_36_code 58 = .ok (.iadd, 1)) ∧ (decode prog_10_method_36_code 59 = .ok (.iaload, 1)) ∧ (decode prog_10_method_36_code 60 = .ok (.ireturn, 1)) ∧ (decode prog_10_method_36_code 61 = .ok (.aload_n 0, 1)) ∧ (decode prog_10_method_36_code 62 = .ok (.getfield 17, 3)) ∧ (decode prog_10_method_36_code 65 = .ok (.iload_n 1, 1)) ∧ (decode prog_10_method_36_code 66 = .ok (.iaload, 1)) ∧ (decode prog_10_method_36_code 67 = .ok (.ireturn, 1)) ∧ (decode prog_10_method_36_code 68 = .ok (.aload_n 0, 1)) ∧ (decode prog_10_method_36_code 69 = .ok (.getfield 20, 3)) ∧ (decode prog_10_method_36_code 72 = .ok (.iload_n 1, 1)) ∧ (decode prog_10_method_36_code 73 = .ok (.iaload, 1)) := by
  have h : List.drop 0 prog_10_method_36_code.data.toList = 0x2a :: _ := rfl
  refine ⟨zq_k_n 42 h rfl (zq_o_42 _), ?_⟩
  replace h := zq_nx1 (q := 1) h rfl
  refine ⟨zq_k_n 27 h rfl (zq_o_27 _), ?_⟩
  replace h := zq_nx1 (q := 2) h rfl
  refine ⟨zq_k_u2 182 (fun z => .invokevirtual z) 210 h rfl (zq_o_182 _) (by decide +kernel), ?_⟩
  replace h := zq_nx3 (q := 5) h rfl
  refine ⟨zq_k_s2 154 (fun z => .ifCond .ne z) 5 h rfl (zq_o_154 _) (by decide +kernel), ?_⟩
  replace h := zq_nx3 (q := 8) h rfl
  refine ⟨zq_k_n 2 h rfl (zq_o_2 _), ?_⟩
  replace h := zq_nx1 (q := 9) h rfl
  refine ⟨zq_k_n 172 h rfl (zq_o_172 _), ?_⟩
  replace h := zq_nx1 (q := 10) h rfl
  refine ⟨zq_k_n 28 h rfl (zq_o_28 _), ?_⟩
  replace h := zq_nx1 (q := 11) h rfl
  refine ⟨by decide +kernel, ?_⟩
  have h : List.drop 52 prog_10_method_36_code.data.toList = 0x2a :: _ := rfl
  refine ⟨zq_k_n 42 h rfl (zq_o_42 _), ?_⟩
  replace h := zq_nx1 (q := 53) h rfl
  refine ⟨zq_k_u2 180 (fun z => .getfield z) 7 h rfl (zq_o_180 _) (by decide +kernel), ?_⟩
  replace h := zq_nx3 (q := 56) h rfl
  refine ⟨zq_k_n 3 h rfl (zq_o_3 _), ?_⟩
  replace h := zq_nx1 (q := 57) h rfl
  refine ⟨zq_k_n 27 h rfl (zq_o_27 _), ?_⟩
  replace h := zq_nx1 (q := 58) h rfl
  refine ⟨zq_k_n 96 h rfl (zq_o_96 _), ?_⟩
  replace h := zq_nx1 (q := 59) h rfl
  refine ⟨zq_k_n 46 h rfl (zq_o_46 _), ?_⟩
  replace h := zq_nx1 (q := 60) h rfl
  refine ⟨zq_k_n 172 h rfl (zq_o_172 _), ?_⟩
  replace h := zq_nx1 (q := 61) h rfl
  refine ⟨zq_k_n 42 h rfl (zq_o_42 _), ?_⟩
  replace h := zq_nx1 (q := 62) h rfl
  refine ⟨zq_k_u2 180 (fun z => .getfield z) 17 h rfl (zq_o_180 _) (by decide +kernel), ?_⟩
  replace h := zq_nx3 (q := 65) h rfl
  refine ⟨zq_k_n 27 h rfl (zq_o_27 _), ?_⟩
  replace h := zq_nx1 (q := 66) h rfl
  refine ⟨zq_k_n 46 h rfl (zq_o_46 _), ?_⟩
  replace h := zq_nx1 (q := 67) h rfl
  refine ⟨zq_k_n 172 h rfl (zq_o_172 _), ?_⟩
  replace h := zq_nx1 (q := 68) h rfl
  refine ⟨zq_k_n 42 h rfl (zq_o_42 _), ?_⟩
  replace h := zq_nx1 (q := 69) h rfl
  refine ⟨zq_k_u2 180 (fun z => .getfield z) 20 h rfl (zq_o_180 _) (by decide +kernel), ?_⟩
  replace h := zq_nx3 (q := 72) h rfl
  refine ⟨zq_k_n 27 h rfl (zq_o_27 _), ?_⟩
  replace h := zq_nx1 (q := 73) h rfl
  exact zq_k_n 46 h rfl (zq_o_46 _)
set_option maxRecDepth 100000 in
theorem dd_M_law_74 : (decode prog_10_method_36_code 74 = .ok (.ireturn, 1)) ∧ (decode prog_10_method_36_code 75 = .ok (.aload_n 0, 1)) ∧ (decode prog_10_method_36_code 76 = .ok (.getfield 23, 3)) ∧ (decode prog_10_method_36_code 79 = .ok (.iload_n 1, 1)) ∧ (decode prog_10_method_36_code 80 = .ok (.iaload, 1)) ∧ (decode prog_10_method_36_code 81 = .ok (.ireturn, 1)) ∧ (decode prog_10_method_36_code 82 = .ok (.aload_n 0, 1)) ∧ (decode prog_10_method_36_code 83 = .ok (.getfield 7, 3)) ∧ (decode prog_10_method_36_code 86 = .ok (.iconst 5, 1)) ∧ (decode prog_10_method_36_code 87 = .ok (.iload_n 1, 1)) ∧ (decode prog_10_method_36_code 88 = .ok (.iadd, 1)) ∧ (decode prog_10_method_36_code 89 = .ok (.iaload, 1)) ∧ (decode prog_10_method_36_code 90 = .ok (.ireturn, 1)) ∧ (decode prog_10_method_36_code 91 = .ok (.aload_n 0, 1)) ∧ (decode prog_10_method_36_code 92 = .ok (.iload_n 1, 1)) ∧ (decode prog_10_method_36_code 93 = .ok (.invokevirtual 204, 3)) ∧ (decode prog_10_method_36_code 96 = .ok (.ireturn, 1)) ∧ (decode prog_10_method_36_code 97 = .ok (.aload_n 0, 1)) ∧ (decode prog_10_method_36_code 98 = .ok (.iload_n 1, 1)) ∧ (decode prog_10_method_36_code 99 = .ok (.invokevirtual 207, 3)) ∧ (decode prog_10_method_36_code 102 = .ok (.ireturn, 1)) ∧ (decode prog_10_method_36_code 103 = .ok (.iconst (-1), 1)) ∧ (decode prog_10_method_36_code 104 = .ok (.ireturn, 1)) := by
  have h : List.drop 74 prog_10_method_36_code.data.toList = 0xac :: _ := rfl
  refine ⟨zq_k_n 172 h rfl (zq_o_172 _), ?_⟩
  replace h := zq_nx1 (q := 75) h rfl
  refine ⟨zq_k_n 42 h rfl (zq_o_42 _), ?_⟩
  replace h := zq_nx1 (q := 76) h rfl
  refine ⟨zq_k_u2 180 (fun z => .getfield z) 23 h rfl (zq_o_180 _) (by decide +kernel), ?_⟩
  replace h := zq_nx3 (q := 79) h rfl
  refine ⟨zq_k_n 27 h rfl (zq_o_27 _), ?_⟩
  replace h := zq_nx1 (q := 80) h rfl
  refine ⟨zq_k_n 46 h rfl (zq_o_46 _), ?_⟩
  replace h := zq_nx1 (q := 81) h rfl
  refine ⟨zq_k_n 172 h rfl (zq_o_172 _), ?_⟩
  replace h := zq_nx1 (q := 82) h rfl
  refine ⟨zq_k_n 42 h rfl (zq_o_42 _), ?_⟩
  replace h := zq_nx1 (q := 83) h rfl
  refine ⟨zq_k_u2 180 (fun z => .getfield z) 7 h rfl (zq_o_180 _) (by decide +kernel), ?_⟩
  replace h := zq_nx3 (q := 86) h rfl
  refine ⟨zq_k_n 8 h rfl (zq_o_8 _), ?_⟩
  replace h := zq_nx1 (q := 87) h rfl
  refine ⟨zq_k_n 27 h rfl (zq_o_27 _), ?_⟩
  replace h := zq_nx1 (q := 88) h rfl
  refine ⟨zq_k_n 96 h rfl (zq_o_96 _), ?_⟩
  replace h := zq_nx1 (q := 89) h rfl
  refine ⟨zq_k_n 46 h rfl (zq_o_46 _), ?_⟩
  replace h := zq_nx1 (q := 90) h rfl
  refine ⟨zq_k_n 172 h rfl (zq_o_172 _), ?_⟩
  replace h := zq_nx1 (q := 91) h rfl
  refine ⟨zq_k_n 42 h rfl (zq_o_42 _), ?_⟩
  replace h := zq_nx1 (q := 92) h rfl
  refine ⟨zq_k_n 27 h rfl (zq_o_27 _), ?_⟩
  replace h := zq_nx1 (q := 93) h rfl
  refine ⟨zq_k_u2 182 (fun z => .invokevirtual z) 204 h rfl (zq_o_182 _) (by decide +kernel), ?_⟩
  replace h := zq_nx3 (q := 96) h rfl
  refine ⟨zq_k_n 172 h rfl (zq_o_172 _), ?_⟩
  replace h := zq_nx1 (q := 97) h rfl
  refine ⟨zq_k_n 42 h rfl (zq_o_42 _), ?_⟩
  replace h := zq_nx1 (q := 98) h rfl
  refine ⟨zq_k_n 27 h rfl (zq_o_27 _), ?_⟩
  replace h := zq_nx1 (q := 99) h rfl
  refine ⟨zq_k_u2 182 (fun z => .invokevirtual z) 207 h rfl (zq_o_182 _) (by decide +kernel), ?_⟩
  replace h := zq_nx3 (q := 102) h rfl
  refine ⟨zq_k_n 172 h rfl (zq_o_172 _), ?_⟩
  replace h := zq_nx1 (q := 103) h rfl
  refine ⟨zq_k_n 2 h rfl (zq_o_2 _), ?_⟩
  replace h := zq_nx1 (q := 104) h rfl
  exact zq_k_n 172 h rfl (zq_o_172 _)
def f_M_law_0  (a0 : Nat) (a1 : Int32) (a2 : Int32) (h : mH) : Option (Int32 × mH) :=
  bd1 (kC h a0 8) fun _ =>
  bd2 (f_M_isLaw a0 a1 h) fun x5 h3 =>
  if x5 = 0 then
    some (((-1) : Int32), h3)
  else
    if a2 = (0 : Int32) then
      bd1 (gR h3 a0 8 0) fun x7 =>
      bd1 (aI h3 0 x7 ((0 : Int32) + a1)) fun x9 =>
      some (x9, h3)
    else
    if a2 = (1 : Int32) then
      bd1 (gR h3 a0 8 4) fun x12 =>
      bd1 (aI h3 0 x12 a1) fun x14 =>
      some (x14, h3)
    else
    if a2 = (2 : Int32) then
      bd1 (gR h3 a0 8 5) fun x17 =>
      bd1 (aI h3 0 x17 a1) fun x19 =>
      some (x19, h3)
    else
    if a2 = (3 : Int32) then
      bd1 (gR h3 a0 8 6) fun x22 =>
      bd1 (aI h3 0 x22 a1) fun x24 =>
      some (x24, h3)
    else
    if a2 = (4 : Int32) then
      bd1 (gR h3 a0 8 0) fun x27 =>
      bd1 (aI h3 0 x27 ((5 : Int32) + a1)) fun x29 =>
      some (x29, h3)
    else
    if a2 = (5 : Int32) then
      bd1 (kC h3 a0 8) fun _ =>
      bd2 (f_M_needOf a0 a1 h3) fun x36 h34 =>
      some (x36, h34)
    else
    if a2 = (6 : Int32) then
      bd1 (kC h3 a0 8) fun _ =>
      bd2 (f_M_chainOf a0 a1 h3) fun x42 h40 =>
      some (x42, h40)
    else
    some (((-1) : Int32), h3)
set_option maxRecDepth 20000 in
theorem t_M_law_0 {sc : Nat × (Nat → Int32)}  (a0 : Nat) (a1 : Int32) (a2 : Int32) (h : mH) (r : Int32) (h' : mH) (hf : f_M_law_0  a0 a1 a2 h = some (r, h')) : G sc y_M_law prog_10_method_36_code 3 (some .int) 2 46 0 [(0, .ref a0), (1, .int a1), (2, .int a2)] [] h (some (.int r)) h' := by
  unfold f_M_law_0 at hf
  refine g_aload_n (pc := 0) 0 dd_M_law_0.1 rfl rfl ?_
  refine g_iload_n (pc := 1) 1 dd_M_law_0.2.1 rfl rfl ?_
  obtain ⟨u2, e1, hf⟩ := bd1_e hf
  obtain ⟨x5, h3, e4, hf⟩ := bd2_e hf
  refine g_callV (pc := 2) (ci := 8) [.int a1] (site_of si_M_isLaw (by decide) (by decide)) wd_1136 wd_1138 wp_44 dd_M_law_0.2.2.1 rfl e1 (Nat.le_of_ble_eq_true rfl) (fun z => absurd z si_na_M_isLaw) (fun z => absurd z si_na_M_isLaw) (fun z => absurd z si_na_M_isLaw) (c_M_isLaw e4) rfl ?_
  refine g_st [.int x5] rfl ?_
  refine g_ifne (pc := 5) 10 dd_M_law_0.2.2.2.1 (by decide) (fun c43 => ?_) (fun c43 => ?_)
  · replace hf := (if_neg c43).symm.trans hf
    refine g_iload_n (pc := 10) 2 dd_M_law_0.2.2.2.2.2.2.1 rfl rfl ?_
    by_cases c6 : a2 = (0 : Int32)
    · replace hf := (if_pos c6).symm.trans hf
      refine g_tabIn (pc := 11) 52 (0 : Int32) dd_M_law_0.2.2.2.2.2.2.2.1 c6 (by decide) (by decide) rfl (by decide) ?_
      refine g_aload_n (pc := 52) 0 dd_M_law_0.2.2.2.2.2.2.2.2.1 rfl rfl ?_
      obtain ⟨x7, e8, hf⟩ := bd1_e hf
      refine g_get (pc := 53) (ci := 8) (kk := 0) dd_M_law_0.2.2.2.2.2.2.2.2.2.1 rfl in_M (by decide) wd_938 (gR_spec e8) ?_
      refine g_iconst (pc := 56) (0 : Int32) dd_M_law_0.2.2.2.2.2.2.2.2.2.2.1 (by decide) ?_
      refine g_iload_n (pc := 57) 1 dd_M_law_0.2.2.2.2.2.2.2.2.2.2.2.1 rfl rfl ?_
      refine g_iadd (pc := 58) dd_M_law_0.2.2.2.2.2.2.2.2.2.2.2.2.1 ?_
      obtain ⟨x9, e10, hf⟩ := bd1_e hf
      refine g_iald (pc := 59) dd_M_law_0.2.2.2.2.2.2.2.2.2.2.2.2.2.1 e10 ?_
      obtain ⟨rfl, rfl⟩ := ret2 hf
      exact g_iret (pc := 60) rfl dd_M_law_0.2.2.2.2.2.2.2.2.2.2.2.2.2.2.1
    replace hf := (if_neg c6).symm.trans hf
    by_cases c11 : a2 = (1 : Int32)
    · replace hf := (if_pos c11).symm.trans hf
      refine g_tabIn (pc := 11) 61 (1 : Int32) dd_M_law_0.2.2.2.2.2.2.2.1 c11 (by decide) (by decide) rfl (by decide) ?_
      refine g_aload_n (pc := 61) 0 dd_M_law_0.2.2.2.2.2.2.2.2.2.2.2.2.2.2.2.1 rfl rfl ?_
      obtain ⟨x12, e13, hf⟩ := bd1_e hf
      refine g_get (pc := 62) (ci := 8) (kk := 4) dd_M_law_0.2.2.2.2.2.2.2.2.2.2.2.2.2.2.2.2.1 rfl in_M (by decide) wd_942 (gR_spec e13) ?_
      refine g_iload_n (pc := 65) 1 dd_M_law_0.2.2.2.2.2.2.2.2.2.2.2.2.2.2.2.2.2.1 rfl rfl ?_
      obtain ⟨x14, e15, hf⟩ := bd1_e hf
      refine g_iald (pc := 66) dd_M_law_0.2.2.2.2.2.2.2.2.2.2.2.2.2.2.2.2.2.2.1 e15 ?_
      obtain ⟨rfl, rfl⟩ := ret2 hf
      exact g_iret (pc := 67) rfl dd_M_law_0.2.2.2.2.2.2.2.2.2.2.2.2.2.2.2.2.2.2.2.1
    replace hf := (if_neg c11).symm.trans hf
    by_cases c16 : a2 = (2 : Int32)
    · replace hf := (if_pos c16).symm.trans hf
      refine g_tabIn (pc := 11) 68 (2 : Int32) dd_M_law_0.2.2.2.2.2.2.2.1 c16 (by decide) (by decide) rfl (by decide) ?_
      refine g_aload_n (pc := 68) 0 dd_M_law_0.2.2.2.2.2.2.2.2.2.2.2.2.2.2.2.2.2.2.2.2.1 rfl rfl ?_
      obtain ⟨x17, e18, hf⟩ := bd1_e hf
      refine g_get (pc := 69) (ci := 8) (kk := 5) dd_M_law_0.2.2.2.2.2.2.2.2.2.2.2.2.2.2.2.2.2.2.2.2.2.1 rfl in_M (by decide) wd_943 (gR_spec e18) ?_
      refine g_iload_n (pc := 72) 1 dd_M_law_0.2.2.2.2.2.2.2.2.2.2.2.2.2.2.2.2.2.2.2.2.2.2.1 rfl rfl ?_
      obtain ⟨x19, e20, hf⟩ := bd1_e hf
      refine g_iald (pc := 73) dd_M_law_0.2.2.2.2.2.2.2.2.2.2.2.2.2.2.2.2.2.2.2.2.2.2.2 e20 ?_
      obtain ⟨rfl, rfl⟩ := ret2 hf
      exact g_iret (pc := 74) rfl dd_M_law_74.1
    replace hf := (if_neg c16).symm.trans hf
    by_cases c21 : a2 = (3 : Int32)
    · replace hf := (if_pos c21).symm.trans hf
      refine g_tabIn (pc := 11) 75 (3 : Int32) dd_M_law_0.2.2.2.2.2.2.2.1 c21 (by decide) (by decide) rfl (by decide) ?_
      refine g_aload_n (pc := 75) 0 dd_M_law_74.2.1 rfl rfl ?_
      obtain ⟨x22, e23, hf⟩ := bd1_e hf
      refine g_get (pc := 76) (ci := 8) (kk := 6) dd_M_law_74.2.2.1 rfl in_M (by decide) wd_944 (gR_spec e23) ?_
      refine g_iload_n (pc := 79) 1 dd_M_law_74.2.2.2.1 rfl rfl ?_
      obtain ⟨x24, e25, hf⟩ := bd1_e hf
      refine g_iald (pc := 80) dd_M_law_74.2.2.2.2.1 e25 ?_
      obtain ⟨rfl, rfl⟩ := ret2 hf
      exact g_iret (pc := 81) rfl dd_M_law_74.2.2.2.2.2.1
    replace hf := (if_neg c21).symm.trans hf
    by_cases c26 : a2 = (4 : Int32)
    · replace hf := (if_pos c26).symm.trans hf
      refine g_tabIn (pc := 11) 82 (4 : Int32) dd_M_law_0.2.2.2.2.2.2.2.1 c26 (by decide) (by decide) rfl (by decide) ?_
      refine g_aload_n (pc := 82) 0 dd_M_law_74.2.2.2.2.2.2.1 rfl rfl ?_
      obtain ⟨x27, e28, hf⟩ := bd1_e hf
      refine g_get (pc := 83) (ci := 8) (kk := 0) dd_M_law_74.2.2.2.2.2.2.2.1 rfl in_M (by decide) wd_938 (gR_spec e28) ?_
      refine g_iconst (pc := 86) (5 : Int32) dd_M_law_74.2.2.2.2.2.2.2.2.1 (by decide) ?_
      refine g_iload_n (pc := 87) 1 dd_M_law_74.2.2.2.2.2.2.2.2.2.1 rfl rfl ?_
      refine g_iadd (pc := 88) dd_M_law_74.2.2.2.2.2.2.2.2.2.2.1 ?_
      obtain ⟨x29, e30, hf⟩ := bd1_e hf
      refine g_iald (pc := 89) dd_M_law_74.2.2.2.2.2.2.2.2.2.2.2.1 e30 ?_
      obtain ⟨rfl, rfl⟩ := ret2 hf
      exact g_iret (pc := 90) rfl dd_M_law_74.2.2.2.2.2.2.2.2.2.2.2.2.1
    replace hf := (if_neg c26).symm.trans hf
    by_cases c31 : a2 = (5 : Int32)
    · replace hf := (if_pos c31).symm.trans hf
      refine g_tabIn (pc := 11) 91 (5 : Int32) dd_M_law_0.2.2.2.2.2.2.2.1 c31 (by decide) (by decide) rfl (by decide) ?_
      refine g_aload_n (pc := 91) 0 dd_M_law_74.2.2.2.2.2.2.2.2.2.2.2.2.2.1 rfl rfl ?_
      refine g_iload_n (pc := 92) 1 dd_M_law_74.2.2.2.2.2.2.2.2.2.2.2.2.2.2.1 rfl rfl ?_
      obtain ⟨u33, e32, hf⟩ := bd1_e hf
      obtain ⟨x36, h34, e35, hf⟩ := bd2_e hf
      refine g_callV (pc := 93) (ci := 8) [.int a1] (site_of si_M_needOf (by decide) (by decide)) wd_1140 wd_1142 wp_45 dd_M_law_74.2.2.2.2.2.2.2.2.2.2.2.2.2.2.2.1 rfl e32 (Nat.le_of_ble_eq_true rfl) (fun z => absurd z si_na_M_needOf) (fun z => absurd z si_na_M_needOf) (fun z => absurd z si_na_M_needOf) (c_M_needOf e35) rfl ?_
      refine g_st [.int x36] rfl ?_
      obtain ⟨rfl, rfl⟩ := ret2 hf
      exact g_iret (pc := 96) rfl dd_M_law_74.2.2.2.2.2.2.2.2.2.2.2.2.2.2.2.2.1
    replace hf := (if_neg c31).symm.trans hf
    by_cases c37 : a2 = (6 : Int32)
    · replace hf := (if_pos c37).symm.trans hf
      refine g_tabIn (pc := 11) 97 (6 : Int32) dd_M_law_0.2.2.2.2.2.2.2.1 c37 (by decide) (by decide) rfl (by decide) ?_
      refine g_aload_n (pc := 97) 0 dd_M_law_74.2.2.2.2.2.2.2.2.2.2.2.2.2.2.2.2.2.1 rfl rfl ?_
      refine g_iload_n (pc := 98) 1 dd_M_law_74.2.2.2.2.2.2.2.2.2.2.2.2.2.2.2.2.2.2.1 rfl rfl ?_
      obtain ⟨u39, e38, hf⟩ := bd1_e hf
      obtain ⟨x42, h40, e41, hf⟩ := bd2_e hf
      refine g_callV (pc := 99) (ci := 8) [.int a1] (site_of si_M_chainOf (by decide) (by decide)) wd_1152 wd_1154 wp_48 dd_M_law_74.2.2.2.2.2.2.2.2.2.2.2.2.2.2.2.2.2.2.2.1 rfl e38 (Nat.le_of_ble_eq_true rfl) (fun z => absurd z si_na_M_chainOf) (fun z => absurd z si_na_M_chainOf) (fun z => absurd z si_na_M_chainOf) (c_M_chainOf e41) rfl ?_
      refine g_st [.int x42] rfl ?_
      obtain ⟨rfl, rfl⟩ := ret2 hf
      exact g_iret (pc := 102) rfl dd_M_law_74.2.2.2.2.2.2.2.2.2.2.2.2.2.2.2.2.2.2.2.2.1
    replace hf := (if_neg c37).symm.trans hf
    refine g_tabOut (pc := 11) 103 7 dd_M_law_0.2.2.2.2.2.2.2.1 (by decide) (fun i hi => ?_) (by decide) ?_
    · rcases (show i = 0 ∨ i = 1 ∨ i = 2 ∨ i = 3 ∨ i = 4 ∨ i = 5 ∨ i = 6 by omega) with rfl | rfl | rfl | rfl | rfl | rfl | rfl
      · exact c6
      · exact c11
      · exact c16
      · exact c21
      · exact c26
      · exact c31
      · exact c37
    refine g_iconst (pc := 103) ((-1) : Int32) dd_M_law_74.2.2.2.2.2.2.2.2.2.2.2.2.2.2.2.2.2.2.2.2.2.1 (by decide) ?_
    obtain ⟨rfl, rfl⟩ := ret2 hf
    exact g_iret (pc := 104) rfl dd_M_law_74.2.2.2.2.2.2.2.2.2.2.2.2.2.2.2.2.2.2.2.2.2.2
  · replace hf := (if_pos c43).symm.trans hf
    refine g_iconst (pc := 8) ((-1) : Int32) dd_M_law_0.2.2.2.2.1 (by decide) ?_
    obtain ⟨rfl, rfl⟩ := ret2 hf
    exact g_iret (pc := 9) rfl dd_M_law_0.2.2.2.2.2.1
def f_M_law (a0 : Nat) (a1 : Int32) (a2 : Int32) (h : mH) : Option (Int32 × mH) := f_M_law_0 a0 a1 a2 h
theorem c_M_law {sc : Nat × (Nat → Int32)} {a0 : Nat} {a1 : Int32} {a2 : Int32} {h : mH} {r : Int32} {h' : mH} (hf : f_M_law a0 a1 a2 h = some (r, h')) : MM sc y_M_law prog_10_method_36_code 3 (some .int) 2 46 [.ref a0, .int a1, .int a2] h (some (.int r)) h' :=
  mm_of_G si_pn_M (Nat.le_of_ble_eq_true rfl) (t_M_law_0 _ _ _ _ _ _ hf)
/-! M isOne (I)Z -/
set_option maxRecDepth 100000 in
theorem dd_M_isOne_0 : (decode prog_10_method_24_code 0 = .ok (.iload_n 1, 1)) ∧ (decode prog_10_method_24_code 1 = .ok (.i2l, 1)) ∧ (decode prog_10_method_24_code 2 = .ok (.lconst 0, 1)) ∧ (decode prog_10_method_24_code 3 = .ok (.aload_n 0, 1)) ∧ (decode prog_10_method_24_code 4 = .ok (.getfield 109, 3)) ∧ (decode prog_10_method_24_code 7 = .ok (.iconst 1, 1)) ∧ (decode prog_10_method_24_code 8 = .ok (.isub, 1)) ∧ (decode prog_10_method_24_code 9 = .ok (.i2l, 1)) ∧ (decode prog_10_method_24_code 10 = .ok (.invokestatic 114, 3)) ∧ (decode prog_10_method_24_code 13 = .ok (.ireturn, 1)) := by
  have h : List.drop 0 prog_10_method_24_code.data.toList = 0x1b :: _ := rfl
  refine ⟨zq_k_n 27 h rfl (zq_o_27 _), ?_⟩
  replace h := zq_nx1 (q := 1) h rfl
  refine ⟨zq_k_n 133 h rfl (zq_o_133 _), ?_⟩
  replace h := zq_nx1 (q := 2) h rfl
  refine ⟨zq_k_n 9 h rfl (zq_o_9 _), ?_⟩
  replace h := zq_nx1 (q := 3) h rfl
  refine ⟨zq_k_n 42 h rfl (zq_o_42 _), ?_⟩
  replace h := zq_nx1 (q := 4) h rfl
  refine ⟨zq_k_u2 180 (fun z => .getfield z) 109 h rfl (zq_o_180 _) (by decide +kernel), ?_⟩
  replace h := zq_nx3 (q := 7) h rfl
  refine ⟨zq_k_n 4 h rfl (zq_o_4 _), ?_⟩
  replace h := zq_nx1 (q := 8) h rfl
  refine ⟨zq_k_n 100 h rfl (zq_o_100 _), ?_⟩
  replace h := zq_nx1 (q := 9) h rfl
  refine ⟨zq_k_n 133 h rfl (zq_o_133 _), ?_⟩
  replace h := zq_nx1 (q := 10) h rfl
  refine ⟨zq_k_u2 184 (fun z => .invokestatic z) 114 h rfl (zq_o_184 _) (by decide +kernel), ?_⟩
  replace h := zq_nx3 (q := 13) h rfl
  exact zq_k_n 172 h rfl (zq_o_172 _)
def f_M_isOne_0  (a0 : Nat) (a1 : Int32) (h : mH) : Option (Int32 × mH) :=
  bd1 (gI h a0 8 3) fun x1 =>
  bd2 (f_M_in a1.toInt64 (0 : Int64) ((x1 - (1 : Int32)).toInt64) h) fun x5 h3 =>
  if x5 = 0 ∨ x5 = 1 then some (x5, h3) else none
set_option maxRecDepth 20000 in
theorem t_M_isOne_0 {sc : Nat × (Nat → Int32)}  (a0 : Nat) (a1 : Int32) (h : mH) (r : Int32) (h' : mH) (hf : f_M_isOne_0  a0 a1 h = some (r, h')) : G sc y_M_isOne prog_10_method_24_code 2 (some .boolean) 1 25 0 [(0, .ref a0), (1, .int a1)] [] h (some (.int r)) h' := by
  unfold f_M_isOne_0 at hf
  refine g_iload_n (pc := 0) 1 dd_M_isOne_0.1 rfl rfl ?_
  refine g_i2l (pc := 1) dd_M_isOne_0.2.1 ?_
  refine g_lconst (pc := 2) (0 : Int64) dd_M_isOne_0.2.2.1 (by decide) ?_
  refine g_aload_n (pc := 3) 0 dd_M_isOne_0.2.2.2.1 rfl rfl ?_
  obtain ⟨x1, e2, hf⟩ := bd1_e hf
  refine g_get (pc := 4) (ci := 8) (kk := 3) dd_M_isOne_0.2.2.2.2.1 rfl in_M (by decide) wd_941 (gI_spec e2) ?_
  refine g_iconst (pc := 7) (1 : Int32) dd_M_isOne_0.2.2.2.2.2.1 (by decide) ?_
  refine g_isub (pc := 8) dd_M_isOne_0.2.2.2.2.2.2.1 ?_
  refine g_i2l (pc := 9) dd_M_isOne_0.2.2.2.2.2.2.2.1 ?_
  obtain ⟨x5, h3, e4, hf⟩ := bd2_e hf
  refine g_callS (pc := 10) [.long a1.toInt64, .long (0 : Int64), .long ((x1 - (1 : Int32)).toInt64)] (site_of si_M_in (by decide) (by decide)) wd_1061 wd_1062 dd_M_isOne_0.2.2.2.2.2.2.2.2.1 (Nat.le_of_ble_eq_true rfl) (fun z => absurd z si_na_M_in) (fun z => absurd z si_na_M_in) (fun z => absurd z si_na_M_in) (c_M_in e4) rfl ?_
  refine g_st [.int x5] rfl ?_
  by_cases c6 : x5 = 0 ∨ x5 = 1
  · replace hf := (if_pos c6).symm.trans hf
    obtain ⟨rfl, rfl⟩ := ret2 hf
    exact g_zret (pc := 13) rfl (nar_z c6) dd_M_isOne_0.2.2.2.2.2.2.2.2.2
  · exact absurd ((if_neg c6).symm.trans hf) (by simp)
def f_M_isOne (a0 : Nat) (a1 : Int32) (h : mH) : Option (Int32 × mH) := f_M_isOne_0 a0 a1 h
theorem c_M_isOne {sc : Nat × (Nat → Int32)} {a0 : Nat} {a1 : Int32} {h : mH} {r : Int32} {h' : mH} (hf : f_M_isOne a0 a1 h = some (r, h')) : MM sc y_M_isOne prog_10_method_24_code 2 (some .boolean) 1 25 [.ref a0, .int a1] h (some (.int r)) h' :=
  mm_of_G si_pn_M (Nat.le_of_ble_eq_true rfl) (t_M_isOne_0 _ _ _ _ _ hf)
/-! M roomOf (II)I -/
set_option maxRecDepth 100000 in
theorem dd_M_roomOf_0 : (decode prog_10_method_31_code 0 = .ok (.aload_n 0, 1)) ∧ (decode prog_10_method_31_code 1 = .ok (.iload_n 2, 1)) ∧ (decode prog_10_method_31_code 2 = .ok (.invokevirtual 191, 3)) ∧ (decode prog_10_method_31_code 5 = .ok (.ifCond .eq 23, 3)) ∧ (decode prog_10_method_31_code 8 = .ok (.aload_n 0, 1)) ∧ (decode prog_10_method_31_code 9 = .ok (.getfield 7, 3)) ∧ (decode prog_10_method_31_code 12 = .ok (.bipush 18, 2)) ∧ (decode prog_10_method_31_code 14 = .ok (.iload_n 1, 1)) ∧ (decode prog_10_method_31_code 15 = .ok (.iadd, 1)) ∧ (decode prog_10_method_31_code 16 = .ok (.iaload, 1)) ∧ (decode prog_10_method_31_code 17 = .ok (.iload_n 2, 1)) ∧ (decode prog_10_method_31_code 18 = .ok (.ishr, 1)) ∧ (decode prog_10_method_31_code 19 = .ok (.iconst 1, 1)) ∧ (decode prog_10_method_31_code 20 = .ok (.iand, 1)) ∧ (decode prog_10_method_31_code 21 = .ok (.ifCond .ne 7, 3)) ∧ (decode prog_10_method_31_code 24 = .ok (.iconst 1, 1)) ∧ (decode prog_10_method_31_code 25 = .ok (.goto 4, 3)) ∧ (decode prog_10_method_31_code 28 = .ok (.iconst 0, 1)) ∧ (decode prog_10_method_31_code 29 = .ok (.istore_n 3, 1)) ∧ (decode prog_10_method_31_code 30 = .ok (.iload_n 3, 1)) ∧ (decode prog_10_method_31_code 31 = .ok (.ifCond .eq 19, 3)) ∧ (decode prog_10_method_31_code 34 = .ok (.aload_n 0, 1)) ∧ (decode prog_10_method_31_code 35 = .ok (.getfield 17, 3)) ∧ (decode prog_10_method_31_code 38 = .ok (.iload_n 2, 1)) := by
  have h : List.drop 0 prog_10_method_31_code.data.toList = 0x2a :: _ := rfl
  refine ⟨zq_k_n 42 h rfl (zq_o_42 _), ?_⟩
  replace h := zq_nx1 (q := 1) h rfl
  refine ⟨zq_k_n 28 h rfl (zq_o_28 _), ?_⟩
  replace h := zq_nx1 (q := 2) h rfl
  refine ⟨zq_k_u2 182 (fun z => .invokevirtual z) 191 h rfl (zq_o_182 _) (by decide +kernel), ?_⟩
  replace h := zq_nx3 (q := 5) h rfl
  refine ⟨zq_k_s2 153 (fun z => .ifCond .eq z) 23 h rfl (zq_o_153 _) (by decide +kernel), ?_⟩
  replace h := zq_nx3 (q := 8) h rfl
  refine ⟨zq_k_n 42 h rfl (zq_o_42 _), ?_⟩
  replace h := zq_nx1 (q := 9) h rfl
  refine ⟨zq_k_u2 180 (fun z => .getfield z) 7 h rfl (zq_o_180 _) (by decide +kernel), ?_⟩
  replace h := zq_nx3 (q := 12) h rfl
  refine ⟨zq_k_s1 16 (fun z => .bipush z) 18 h rfl (zq_o_16 _) (by decide +kernel), ?_⟩
  replace h := zq_nx2 (q := 14) h rfl
  refine ⟨zq_k_n 27 h rfl (zq_o_27 _), ?_⟩
  replace h := zq_nx1 (q := 15) h rfl
  refine ⟨zq_k_n 96 h rfl (zq_o_96 _), ?_⟩
  replace h := zq_nx1 (q := 16) h rfl
  refine ⟨zq_k_n 46 h rfl (zq_o_46 _), ?_⟩
  replace h := zq_nx1 (q := 17) h rfl
  refine ⟨zq_k_n 28 h rfl (zq_o_28 _), ?_⟩
  replace h := zq_nx1 (q := 18) h rfl
  refine ⟨zq_k_n 122 h rfl (zq_o_122 _), ?_⟩
  replace h := zq_nx1 (q := 19) h rfl
  refine ⟨zq_k_n 4 h rfl (zq_o_4 _), ?_⟩
  replace h := zq_nx1 (q := 20) h rfl
  refine ⟨zq_k_n 126 h rfl (zq_o_126 _), ?_⟩
  replace h := zq_nx1 (q := 21) h rfl
  refine ⟨zq_k_s2 154 (fun z => .ifCond .ne z) 7 h rfl (zq_o_154 _) (by decide +kernel), ?_⟩
  replace h := zq_nx3 (q := 24) h rfl
  refine ⟨zq_k_n 4 h rfl (zq_o_4 _), ?_⟩
  replace h := zq_nx1 (q := 25) h rfl
  refine ⟨zq_k_s2 167 (fun z => .goto z) 4 h rfl (zq_o_167 _) (by decide +kernel), ?_⟩
  replace h := zq_nx3 (q := 28) h rfl
  refine ⟨zq_k_n 3 h rfl (zq_o_3 _), ?_⟩
  replace h := zq_nx1 (q := 29) h rfl
  refine ⟨zq_k_n 62 h rfl (zq_o_62 _), ?_⟩
  replace h := zq_nx1 (q := 30) h rfl
  refine ⟨zq_k_n 29 h rfl (zq_o_29 _), ?_⟩
  replace h := zq_nx1 (q := 31) h rfl
  refine ⟨zq_k_s2 153 (fun z => .ifCond .eq z) 19 h rfl (zq_o_153 _) (by decide +kernel), ?_⟩
  replace h := zq_nx3 (q := 34) h rfl
  refine ⟨zq_k_n 42 h rfl (zq_o_42 _), ?_⟩
  replace h := zq_nx1 (q := 35) h rfl
  refine ⟨zq_k_u2 180 (fun z => .getfield z) 17 h rfl (zq_o_180 _) (by decide +kernel), ?_⟩
  replace h := zq_nx3 (q := 38) h rfl
  exact zq_k_n 28 h rfl (zq_o_28 _)
set_option maxRecDepth 100000 in
theorem dd_M_roomOf_39 : (decode prog_10_method_31_code 39 = .ok (.iaload, 1)) ∧ (decode prog_10_method_31_code 40 = .ok (.aload_n 0, 1)) ∧ (decode prog_10_method_31_code 41 = .ok (.iload_n 1, 1)) ∧ (decode prog_10_method_31_code 42 = .ok (.iload_n 2, 1)) ∧ (decode prog_10_method_31_code 43 = .ok (.invokevirtual 188, 3)) ∧ (decode prog_10_method_31_code 46 = .ok (.isub, 1)) ∧ (decode prog_10_method_31_code 47 = .ok (.goto 4, 3)) ∧ (decode prog_10_method_31_code 50 = .ok (.iconst 0, 1)) ∧ (decode prog_10_method_31_code 51 = .ok (.istore 4, 2)) ∧ (decode prog_10_method_31_code 53 = .ok (.iload 4, 2)) ∧ (decode prog_10_method_31_code 55 = .ok (.ifCond .ge 7, 3)) ∧ (decode prog_10_method_31_code 58 = .ok (.iconst 0, 1)) ∧ (decode prog_10_method_31_code 59 = .ok (.goto 5, 3)) ∧ (decode prog_10_method_31_code 62 = .ok (.iload 4, 2)) ∧ (decode prog_10_method_31_code 64 = .ok (.ireturn, 1)) := by
  have h : List.drop 39 prog_10_method_31_code.data.toList = 0x2e :: _ := rfl
  refine ⟨zq_k_n 46 h rfl (zq_o_46 _), ?_⟩
  replace h := zq_nx1 (q := 40) h rfl
  refine ⟨zq_k_n 42 h rfl (zq_o_42 _), ?_⟩
  replace h := zq_nx1 (q := 41) h rfl
  refine ⟨zq_k_n 27 h rfl (zq_o_27 _), ?_⟩
  replace h := zq_nx1 (q := 42) h rfl
  refine ⟨zq_k_n 28 h rfl (zq_o_28 _), ?_⟩
  replace h := zq_nx1 (q := 43) h rfl
  refine ⟨zq_k_u2 182 (fun z => .invokevirtual z) 188 h rfl (zq_o_182 _) (by decide +kernel), ?_⟩
  replace h := zq_nx3 (q := 46) h rfl
  refine ⟨zq_k_n 100 h rfl (zq_o_100 _), ?_⟩
  replace h := zq_nx1 (q := 47) h rfl
  refine ⟨zq_k_s2 167 (fun z => .goto z) 4 h rfl (zq_o_167 _) (by decide +kernel), ?_⟩
  replace h := zq_nx3 (q := 50) h rfl
  refine ⟨zq_k_n 3 h rfl (zq_o_3 _), ?_⟩
  replace h := zq_nx1 (q := 51) h rfl
  refine ⟨zq_k_u1 54 (fun z => .istore z) 4 h rfl (zq_o_54 _) (by decide +kernel), ?_⟩
  replace h := zq_nx2 (q := 53) h rfl
  refine ⟨zq_k_u1 21 (fun z => .iload z) 4 h rfl (zq_o_21 _) (by decide +kernel), ?_⟩
  replace h := zq_nx2 (q := 55) h rfl
  refine ⟨zq_k_s2 156 (fun z => .ifCond .ge z) 7 h rfl (zq_o_156 _) (by decide +kernel), ?_⟩
  replace h := zq_nx3 (q := 58) h rfl
  refine ⟨zq_k_n 3 h rfl (zq_o_3 _), ?_⟩
  replace h := zq_nx1 (q := 59) h rfl
  refine ⟨zq_k_s2 167 (fun z => .goto z) 5 h rfl (zq_o_167 _) (by decide +kernel), ?_⟩
  replace h := zq_nx3 (q := 62) h rfl
  refine ⟨zq_k_u1 21 (fun z => .iload z) 4 h rfl (zq_o_21 _) (by decide +kernel), ?_⟩
  replace h := zq_nx2 (q := 64) h rfl
  exact zq_k_n 172 h rfl (zq_o_172 _)
def f_M_roomOf_51  (s0 : Int32) (h : mH) : Option (Int32 × mH) :=
  if 0 ≤ s0 then
    some (s0, h)
  else
    some ((0 : Int32), h)
set_option maxRecDepth 20000 in
theorem t_M_roomOf_51 {sc : Nat × (Nat → Int32)}  (s0 : Int32) (h : mH) (r : Int32) (h' : mH) (hf : f_M_roomOf_51  s0 h = some (r, h')) : G sc y_M_roomOf prog_10_method_31_code 5 (some .int) 1 22 51 [] [.int s0] h (some (.int r)) h' := by
  unfold f_M_roomOf_51 at hf
  refine g_istore (pc := 51) [(4, .int s0)] dd_M_roomOf_39.2.2.2.2.2.2.2.2.1 (Nat.le_of_ble_eq_true rfl) rfl ?_
  refine g_iload (pc := 53) 0 dd_M_roomOf_39.2.2.2.2.2.2.2.2.2.1 rfl ?_
  refine g_ifge (pc := 55) 62 dd_M_roomOf_39.2.2.2.2.2.2.2.2.2.2.1 (by decide) (fun c22 => ?_) (fun c22 => ?_)
  · replace hf := (if_pos c22).symm.trans hf
    refine g_iload (pc := 62) 0 dd_M_roomOf_39.2.2.2.2.2.2.2.2.2.2.2.2.2.1 rfl ?_
    obtain ⟨rfl, rfl⟩ := ret2 hf
    exact g_iret (pc := 64) rfl dd_M_roomOf_39.2.2.2.2.2.2.2.2.2.2.2.2.2.2
  · replace hf := (if_neg c22).symm.trans hf
    refine g_iconst (pc := 58) (0 : Int32) dd_M_roomOf_39.2.2.2.2.2.2.2.2.2.2.2.1 (by decide) ?_
    refine g_goto (pc := 59) 64 dd_M_roomOf_39.2.2.2.2.2.2.2.2.2.2.2.2.1 (by decide) ?_
    obtain ⟨rfl, rfl⟩ := ret2 hf
    exact g_iret (pc := 64) rfl dd_M_roomOf_39.2.2.2.2.2.2.2.2.2.2.2.2.2.2
def f_M_roomOf_29  (b0 : Nat) (b1 : Int32) (b2 : Int32) (s0 : Int32) (h : mH) : Option (Int32 × mH) :=
  if s0 = 0 then
    f_M_roomOf_51  (0 : Int32) h
  else
    bd1 (gR h b0 8 4) fun x12 =>
    bd1 (aI h 0 x12 b2) fun x14 =>
    bd1 (kC h b0 8) fun _ =>
    bd2 (f_M_brokenBy b0 b1 b2 h) fun x20 h18 =>
    f_M_roomOf_51  (x14 - x20) h18
set_option maxRecDepth 20000 in
theorem t_M_roomOf_29 {sc : Nat × (Nat → Int32)}  (b0 : Nat) (b1 : Int32) (b2 : Int32) (s0 : Int32) (h : mH) (r : Int32) (h' : mH) (hf : f_M_roomOf_29  b0 b1 b2 s0 h = some (r, h')) : G sc y_M_roomOf prog_10_method_31_code 5 (some .int) 1 22 29 [(0, .ref b0), (1, .int b1), (2, .int b2)] [.int s0] h (some (.int r)) h' := by
  unfold f_M_roomOf_29 at hf
  refine g_istore_n (pc := 29) [(3, .int s0), (0, .ref b0), (1, .int b1), (2, .int b2)] dd_M_roomOf_0.2.2.2.2.2.2.2.2.2.2.2.2.2.2.2.2.2.2.1 rfl (Nat.le_of_ble_eq_true rfl) rfl ?_
  refine g_iload_n (pc := 30) 0 dd_M_roomOf_0.2.2.2.2.2.2.2.2.2.2.2.2.2.2.2.2.2.2.2.1 rfl rfl ?_
  refine g_ifeq (pc := 31) 50 dd_M_roomOf_0.2.2.2.2.2.2.2.2.2.2.2.2.2.2.2.2.2.2.2.2.1 (by decide) (fun c21 => ?_) (fun c21 => ?_)
  · replace hf := (if_pos c21).symm.trans hf
    refine g_iconst (pc := 50) (0 : Int32) dd_M_roomOf_39.2.2.2.2.2.2.2.1 (by decide) ?_
    refine g_lv [] rfl ?_
    exact t_M_roomOf_51  _ _ _ _  hf
  · replace hf := (if_neg c21).symm.trans hf
    refine g_aload_n (pc := 34) 1 dd_M_roomOf_0.2.2.2.2.2.2.2.2.2.2.2.2.2.2.2.2.2.2.2.2.2.1 rfl rfl ?_
    obtain ⟨x12, e13, hf⟩ := bd1_e hf
    refine g_get (pc := 35) (ci := 8) (kk := 4) dd_M_roomOf_0.2.2.2.2.2.2.2.2.2.2.2.2.2.2.2.2.2.2.2.2.2.2.1 rfl in_M (by decide) wd_942 (gR_spec e13) ?_
    refine g_iload_n (pc := 38) 3 dd_M_roomOf_0.2.2.2.2.2.2.2.2.2.2.2.2.2.2.2.2.2.2.2.2.2.2.2 rfl rfl ?_
    obtain ⟨x14, e15, hf⟩ := bd1_e hf
    refine g_iald (pc := 39) dd_M_roomOf_39.1 e15 ?_
    refine g_aload_n (pc := 40) 1 dd_M_roomOf_39.2.1 rfl rfl ?_
    refine g_iload_n (pc := 41) 2 dd_M_roomOf_39.2.2.1 rfl rfl ?_
    refine g_iload_n (pc := 42) 3 dd_M_roomOf_39.2.2.2.1 rfl rfl ?_
    obtain ⟨u17, e16, hf⟩ := bd1_e hf
    obtain ⟨x20, h18, e19, hf⟩ := bd2_e hf
    refine g_callV (pc := 43) (ci := 8) [.int b1, .int b2] (site_of si_M_brokenBy (by decide) (by decide)) wd_1148 wd_1150 wp_47 dd_M_roomOf_39.2.2.2.2.1 rfl e16 (Nat.le_of_ble_eq_true rfl) (fun z => absurd z si_na_M_brokenBy) (fun z => absurd z si_na_M_brokenBy) (fun z => absurd z si_na_M_brokenBy) (c_M_brokenBy e19) rfl ?_
    refine g_st [.int x20, .int x14] rfl ?_
    refine g_isub (pc := 46) dd_M_roomOf_39.2.2.2.2.2.1 ?_
    refine g_goto (pc := 47) 51 dd_M_roomOf_39.2.2.2.2.2.2.1 (by decide) ?_
    refine g_lv [] rfl ?_
    exact t_M_roomOf_51  _ _ _ _  hf
def f_M_roomOf_28  (b0 : Nat) (b1 : Int32) (b2 : Int32) (h : mH) : Option (Int32 × mH) :=
  f_M_roomOf_29  b0 b1 b2 (0 : Int32) h
set_option maxRecDepth 20000 in
theorem t_M_roomOf_28 {sc : Nat × (Nat → Int32)}  (b0 : Nat) (b1 : Int32) (b2 : Int32) (h : mH) (r : Int32) (h' : mH) (hf : f_M_roomOf_28  b0 b1 b2 h = some (r, h')) : G sc y_M_roomOf prog_10_method_31_code 5 (some .int) 1 22 28 [(0, .ref b0), (1, .int b1), (2, .int b2)] [] h (some (.int r)) h' := by
  unfold f_M_roomOf_28 at hf
  refine g_iconst (pc := 28) (0 : Int32) dd_M_roomOf_0.2.2.2.2.2.2.2.2.2.2.2.2.2.2.2.2.2.1 (by decide) ?_
  refine g_lv [0, 1, 2] rfl ?_
  exact t_M_roomOf_29  _ _ _ _ _ _ _  hf
def f_M_roomOf_0  (a0 : Nat) (a1 : Int32) (a2 : Int32) (h : mH) : Option (Int32 × mH) :=
  bd1 (kC h a0 8) fun _ =>
  bd2 (f_M_doesStand a0 a2 h) fun x5 h3 =>
  if x5 = 0 then
    f_M_roomOf_28  a0 a1 a2 h3
  else
    bd1 (gR h3 a0 8 0) fun x6 =>
    bd1 (aI h3 0 x6 ((18 : Int32) + a1)) fun x8 =>
    if ((x8 >>> (a2 &&& 31)) &&& (1 : Int32)) = 0 then
      f_M_roomOf_29  a0 a1 a2 (1 : Int32) h3
    else
      f_M_roomOf_28  a0 a1 a2 h3
set_option maxRecDepth 20000 in
theorem t_M_roomOf_0 {sc : Nat × (Nat → Int32)}  (a0 : Nat) (a1 : Int32) (a2 : Int32) (h : mH) (r : Int32) (h' : mH) (hf : f_M_roomOf_0  a0 a1 a2 h = some (r, h')) : G sc y_M_roomOf prog_10_method_31_code 5 (some .int) 1 22 0 [(0, .ref a0), (1, .int a1), (2, .int a2)] [] h (some (.int r)) h' := by
  unfold f_M_roomOf_0 at hf
  refine g_aload_n (pc := 0) 0 dd_M_roomOf_0.1 rfl rfl ?_
  refine g_iload_n (pc := 1) 2 dd_M_roomOf_0.2.1 rfl rfl ?_
  obtain ⟨u2, e1, hf⟩ := bd1_e hf
  obtain ⟨x5, h3, e4, hf⟩ := bd2_e hf
  refine g_callV (pc := 2) (ci := 8) [.int a2] (site_of si_M_doesStand (by decide) (by decide)) wd_1144 wd_1146 wp_46 dd_M_roomOf_0.2.2.1 rfl e1 (Nat.le_of_ble_eq_true rfl) (fun z => absurd z si_na_M_doesStand) (fun z => absurd z si_na_M_doesStand) (fun z => absurd z si_na_M_doesStand) (c_M_doesStand e4) rfl ?_
  refine g_st [.int x5] rfl ?_
  refine g_ifeq (pc := 5) 28 dd_M_roomOf_0.2.2.2.1 (by decide) (fun c11 => ?_) (fun c11 => ?_)
  · replace hf := (if_pos c11).symm.trans hf
    refine g_lv [0, 1, 2] rfl ?_
    exact t_M_roomOf_28  _ _ _ _ _ _  hf
  · replace hf := (if_neg c11).symm.trans hf
    refine g_aload_n (pc := 8) 0 dd_M_roomOf_0.2.2.2.2.1 rfl rfl ?_
    obtain ⟨x6, e7, hf⟩ := bd1_e hf
    refine g_get (pc := 9) (ci := 8) (kk := 0) dd_M_roomOf_0.2.2.2.2.2.1 rfl in_M (by decide) wd_938 (gR_spec e7) ?_
    refine g_bipush (pc := 12) (18 : Int32) dd_M_roomOf_0.2.2.2.2.2.2.1 (by decide) ?_
    refine g_iload_n (pc := 14) 1 dd_M_roomOf_0.2.2.2.2.2.2.2.1 rfl rfl ?_
    refine g_iadd (pc := 15) dd_M_roomOf_0.2.2.2.2.2.2.2.2.1 ?_
    obtain ⟨x8, e9, hf⟩ := bd1_e hf
    refine g_iald (pc := 16) dd_M_roomOf_0.2.2.2.2.2.2.2.2.2.1 e9 ?_
    refine g_iload_n (pc := 17) 2 dd_M_roomOf_0.2.2.2.2.2.2.2.2.2.2.1 rfl rfl ?_
    refine g_ishr (pc := 18) dd_M_roomOf_0.2.2.2.2.2.2.2.2.2.2.2.1 ?_
    refine g_iconst (pc := 19) (1 : Int32) dd_M_roomOf_0.2.2.2.2.2.2.2.2.2.2.2.2.1 (by decide) ?_
    refine g_iand (pc := 20) dd_M_roomOf_0.2.2.2.2.2.2.2.2.2.2.2.2.2.1 ?_
    refine g_ifne (pc := 21) 28 dd_M_roomOf_0.2.2.2.2.2.2.2.2.2.2.2.2.2.2.1 (by decide) (fun c10 => ?_) (fun c10 => ?_)
    · replace hf := (if_neg c10).symm.trans hf
      refine g_lv [0, 1, 2] rfl ?_
      exact t_M_roomOf_28  _ _ _ _ _ _  hf
    · replace hf := (if_pos c10).symm.trans hf
      refine g_iconst (pc := 24) (1 : Int32) dd_M_roomOf_0.2.2.2.2.2.2.2.2.2.2.2.2.2.2.2.1 (by decide) ?_
      refine g_goto (pc := 25) 29 dd_M_roomOf_0.2.2.2.2.2.2.2.2.2.2.2.2.2.2.2.2.1 (by decide) ?_
      refine g_lv [0, 1, 2] rfl ?_
      exact t_M_roomOf_29  _ _ _ _ _ _ _  hf
def f_M_roomOf (a0 : Nat) (a1 : Int32) (a2 : Int32) (h : mH) : Option (Int32 × mH) := f_M_roomOf_0 a0 a1 a2 h
theorem c_M_roomOf {sc : Nat × (Nat → Int32)} {a0 : Nat} {a1 : Int32} {a2 : Int32} {h : mH} {r : Int32} {h' : mH} (hf : f_M_roomOf a0 a1 a2 h = some (r, h')) : MM sc y_M_roomOf prog_10_method_31_code 5 (some .int) 1 22 [.ref a0, .int a1, .int a2] h (some (.int r)) h' :=
  mm_of_G si_pn_M (Nat.le_of_ble_eq_true rfl) (t_M_roomOf_0 _ _ _ _ _ _ hf)
/-! M allBy (I)I -/
set_option maxRecDepth 100000 in
theorem dd_M_allBy_0 : (decode prog_10_method_28_code 0 = .ok (.iconst 0, 1)) ∧ (decode prog_10_method_28_code 1 = .ok (.istore_n 2, 1)) ∧ (decode prog_10_method_28_code 2 = .ok (.iconst 0, 1)) ∧ (decode prog_10_method_28_code 3 = .ok (.istore_n 3, 1)) ∧ (decode prog_10_method_28_code 4 = .ok (.iload_n 3, 1)) ∧ (decode prog_10_method_28_code 5 = .ok (.aload_n 0, 1)) ∧ (decode prog_10_method_28_code 6 = .ok (.getfield 106, 3)) ∧ (decode prog_10_method_28_code 9 = .ok (.if_icmp .ge 18, 3)) ∧ (decode prog_10_method_28_code 12 = .ok (.iload_n 2, 1)) ∧ (decode prog_10_method_28_code 13 = .ok (.aload_n 0, 1)) ∧ (decode prog_10_method_28_code 14 = .ok (.iload_n 1, 1)) ∧ (decode prog_10_method_28_code 15 = .ok (.iload_n 3, 1)) ∧ (decode prog_10_method_28_code 16 = .ok (.invokevirtual 188, 3)) ∧ (decode prog_10_method_28_code 19 = .ok (.iadd, 1)) ∧ (decode prog_10_method_28_code 20 = .ok (.istore_n 2, 1)) ∧ (decode prog_10_method_28_code 21 = .ok (.iinc 3 1, 3)) ∧ (decode prog_10_method_28_code 24 = .ok (.goto (-20), 3)) ∧ (decode prog_10_method_28_code 27 = .ok (.iload_n 2, 1)) ∧ (decode prog_10_method_28_code 28 = .ok (.ireturn, 1)) := by
  have h : List.drop 0 prog_10_method_28_code.data.toList = 0x03 :: _ := rfl
  refine ⟨zq_k_n 3 h rfl (zq_o_3 _), ?_⟩
  replace h := zq_nx1 (q := 1) h rfl
  refine ⟨zq_k_n 61 h rfl (zq_o_61 _), ?_⟩
  replace h := zq_nx1 (q := 2) h rfl
  refine ⟨zq_k_n 3 h rfl (zq_o_3 _), ?_⟩
  replace h := zq_nx1 (q := 3) h rfl
  refine ⟨zq_k_n 62 h rfl (zq_o_62 _), ?_⟩
  replace h := zq_nx1 (q := 4) h rfl
  refine ⟨zq_k_n 29 h rfl (zq_o_29 _), ?_⟩
  replace h := zq_nx1 (q := 5) h rfl
  refine ⟨zq_k_n 42 h rfl (zq_o_42 _), ?_⟩
  replace h := zq_nx1 (q := 6) h rfl
  refine ⟨zq_k_u2 180 (fun z => .getfield z) 106 h rfl (zq_o_180 _) (by decide +kernel), ?_⟩
  replace h := zq_nx3 (q := 9) h rfl
  refine ⟨zq_k_s2 162 (fun z => .if_icmp .ge z) 18 h rfl (zq_o_162 _) (by decide +kernel), ?_⟩
  replace h := zq_nx3 (q := 12) h rfl
  refine ⟨zq_k_n 28 h rfl (zq_o_28 _), ?_⟩
  replace h := zq_nx1 (q := 13) h rfl
  refine ⟨zq_k_n 42 h rfl (zq_o_42 _), ?_⟩
  replace h := zq_nx1 (q := 14) h rfl
  refine ⟨zq_k_n 27 h rfl (zq_o_27 _), ?_⟩
  replace h := zq_nx1 (q := 15) h rfl
  refine ⟨zq_k_n 29 h rfl (zq_o_29 _), ?_⟩
  replace h := zq_nx1 (q := 16) h rfl
  refine ⟨zq_k_u2 182 (fun z => .invokevirtual z) 188 h rfl (zq_o_182 _) (by decide +kernel), ?_⟩
  replace h := zq_nx3 (q := 19) h rfl
  refine ⟨zq_k_n 96 h rfl (zq_o_96 _), ?_⟩
  replace h := zq_nx1 (q := 20) h rfl
  refine ⟨zq_k_n 61 h rfl (zq_o_61 _), ?_⟩
  replace h := zq_nx1 (q := 21) h rfl
  refine ⟨zq_k_iinc 3 1 h rfl (zq_o_132 _) (by decide +kernel) (by decide +kernel), ?_⟩
  replace h := zq_nx3 (q := 24) h rfl
  refine ⟨zq_k_s2 167 (fun z => .goto z) (-20) h rfl (zq_o_167 _) (by decide +kernel), ?_⟩
  replace h := zq_nx3 (q := 27) h rfl
  refine ⟨zq_k_n 28 h rfl (zq_o_28 _), ?_⟩
  replace h := zq_nx1 (q := 28) h rfl
  exact zq_k_n 172 h rfl (zq_o_172 _)
def f_M_allBy_4b (rec4 : Nat → Int32 → Int32 → Int32 → mH → Option (Int32 × mH)) (b0 : Nat) (b1 : Int32) (b2 : Int32) (b3 : Int32) (h : mH) : Option (Int32 × mH) :=
  bd1 (gI h b0 8 2) fun x1 =>
  if x1 ≤ b3 then
    some (b2, h)
  else
    bd1 (kC h b0 8) fun _ =>
    bd2 (f_M_brokenBy b0 b1 b3 h) fun x7 h5 =>
    rec4 b0 b1 (b2 + x7) (b3 + (1 : Int32)) h5
set_option maxRecDepth 20000 in
theorem t_M_allBy_4b {sc : Nat × (Nat → Int32)} (rec4 : Nat → Int32 → Int32 → Int32 → mH → Option (Int32 × mH)) (hrec4 : ∀ (b0 : Nat) (b1 : Int32) (b2 : Int32) (b3 : Int32) (h : mH) (r : Int32) (h' : mH), rec4 b0 b1 b2 b3 h = some (r, h') → G sc y_M_allBy prog_10_method_28_code 4 (some .int) 1 22 4 [(0, .ref b0), (1, .int b1), (2, .int b2), (3, .int b3)] [] h (some (.int r)) h') (b0 : Nat) (b1 : Int32) (b2 : Int32) (b3 : Int32) (h : mH) (r : Int32) (h' : mH) (hf : f_M_allBy_4b rec4 b0 b1 b2 b3 h = some (r, h')) : G sc y_M_allBy prog_10_method_28_code 4 (some .int) 1 22 4 [(0, .ref b0), (1, .int b1), (2, .int b2), (3, .int b3)] [] h (some (.int r)) h' := by
  unfold f_M_allBy_4b at hf
  refine g_iload_n (pc := 4) 3 dd_M_allBy_0.2.2.2.2.1 rfl rfl ?_
  refine g_aload_n (pc := 5) 0 dd_M_allBy_0.2.2.2.2.2.1 rfl rfl ?_
  obtain ⟨x1, e2, hf⟩ := bd1_e hf
  refine g_get (pc := 6) (ci := 8) (kk := 2) dd_M_allBy_0.2.2.2.2.2.2.1 rfl in_M (by decide) wd_940 (gI_spec e2) ?_
  refine g_icmpge (pc := 9) 27 dd_M_allBy_0.2.2.2.2.2.2.2.1 (by decide) (fun c8 => ?_) (fun c8 => ?_)
  · replace hf := (if_pos c8).symm.trans hf
    refine g_iload_n (pc := 27) 2 dd_M_allBy_0.2.2.2.2.2.2.2.2.2.2.2.2.2.2.2.2.2.1 rfl rfl ?_
    obtain ⟨rfl, rfl⟩ := ret2 hf
    exact g_iret (pc := 28) rfl dd_M_allBy_0.2.2.2.2.2.2.2.2.2.2.2.2.2.2.2.2.2.2
  · replace hf := (if_neg c8).symm.trans hf
    refine g_iload_n (pc := 12) 2 dd_M_allBy_0.2.2.2.2.2.2.2.2.1 rfl rfl ?_
    refine g_aload_n (pc := 13) 0 dd_M_allBy_0.2.2.2.2.2.2.2.2.2.1 rfl rfl ?_
    refine g_iload_n (pc := 14) 1 dd_M_allBy_0.2.2.2.2.2.2.2.2.2.2.1 rfl rfl ?_
    refine g_iload_n (pc := 15) 3 dd_M_allBy_0.2.2.2.2.2.2.2.2.2.2.2.1 rfl rfl ?_
    obtain ⟨u4, e3, hf⟩ := bd1_e hf
    obtain ⟨x7, h5, e6, hf⟩ := bd2_e hf
    refine g_callV (pc := 16) (ci := 8) [.int b1, .int b3] (site_of si_M_brokenBy (by decide) (by decide)) wd_1148 wd_1150 wp_47 dd_M_allBy_0.2.2.2.2.2.2.2.2.2.2.2.2.1 rfl e3 (Nat.le_of_ble_eq_true rfl) (fun z => absurd z si_na_M_brokenBy) (fun z => absurd z si_na_M_brokenBy) (fun z => absurd z si_na_M_brokenBy) (c_M_brokenBy e6) rfl ?_
    refine g_st [.int x7, .int b2] rfl ?_
    refine g_iadd (pc := 19) dd_M_allBy_0.2.2.2.2.2.2.2.2.2.2.2.2.2.1 ?_
    refine g_istore_n (pc := 20) [(2, .int (b2 + x7)), (0, .ref b0), (1, .int b1), (3, .int b3)] dd_M_allBy_0.2.2.2.2.2.2.2.2.2.2.2.2.2.2.1 rfl (Nat.le_of_ble_eq_true rfl) rfl ?_
    refine g_iinc (pc := 21) 3 (b3 + (1 : Int32)) [(3, .int (b3 + (1 : Int32))), (2, .int (b2 + x7)), (0, .ref b0), (1, .int b1)] dd_M_allBy_0.2.2.2.2.2.2.2.2.2.2.2.2.2.2.2.1 rfl rfl (Nat.le_of_ble_eq_true rfl) rfl ?_
    refine g_goto (pc := 24) 4 dd_M_allBy_0.2.2.2.2.2.2.2.2.2.2.2.2.2.2.2.2.1 (by decide) ?_
    refine g_lv [2, 3, 1, 0] rfl ?_
    exact hrec4 _ _ _ _ _ _ _  hf
def f_M_allBy_4  : Nat → Nat → Int32 → Int32 → Int32 → mH → Option (Int32 × mH)
  | 0 => fun _ _ _ _ _ => none
  | n + 1 => f_M_allBy_4b  (f_M_allBy_4  n)
theorem t_M_allBy_4 {sc : Nat × (Nat → Int32)}  : ∀ (n : Nat) (b0 : Nat) (b1 : Int32) (b2 : Int32) (b3 : Int32) (h : mH) (r : Int32) (h' : mH) (hf : f_M_allBy_4  n b0 b1 b2 b3 h = some (r, h')), G sc y_M_allBy prog_10_method_28_code 4 (some .int) 1 22 4 [(0, .ref b0), (1, .int b1), (2, .int b2), (3, .int b3)] [] h (some (.int r)) h'
  | 0, _, _, _, _, _, _, _, hf => by cases hf
  | n + 1, _, _, _, _, _, _, _, hf => t_M_allBy_4b  (f_M_allBy_4  n) (t_M_allBy_4  n) _ _ _ _ _ _ _ hf
def f_M_allBy_0  (a0 : Nat) (a1 : Int32) (h : mH) : Option (Int32 × mH) :=
  f_M_allBy_4  FU a0 a1 (0 : Int32) (0 : Int32) h
set_option maxRecDepth 20000 in
theorem t_M_allBy_0 {sc : Nat × (Nat → Int32)}  (a0 : Nat) (a1 : Int32) (h : mH) (r : Int32) (h' : mH) (hf : f_M_allBy_0  a0 a1 h = some (r, h')) : G sc y_M_allBy prog_10_method_28_code 4 (some .int) 1 22 0 [(0, .ref a0), (1, .int a1)] [] h (some (.int r)) h' := by
  unfold f_M_allBy_0 at hf
  refine g_iconst (pc := 0) (0 : Int32) dd_M_allBy_0.1 (by decide) ?_
  refine g_istore_n (pc := 1) [(2, .int (0 : Int32)), (0, .ref a0), (1, .int a1)] dd_M_allBy_0.2.1 rfl (Nat.le_of_ble_eq_true rfl) rfl ?_
  refine g_iconst (pc := 2) (0 : Int32) dd_M_allBy_0.2.2.1 (by decide) ?_
  refine g_istore_n (pc := 3) [(3, .int (0 : Int32)), (2, .int (0 : Int32)), (0, .ref a0), (1, .int a1)] dd_M_allBy_0.2.2.2.1 rfl (Nat.le_of_ble_eq_true rfl) rfl ?_
  refine g_lv [2, 3, 1, 0] rfl ?_
  exact t_M_allBy_4  FU _ _ _ _ _ _ _  hf
def f_M_allBy (a0 : Nat) (a1 : Int32) (h : mH) : Option (Int32 × mH) := f_M_allBy_0 a0 a1 h
theorem c_M_allBy {sc : Nat × (Nat → Int32)} {a0 : Nat} {a1 : Int32} {h : mH} {r : Int32} {h' : mH} (hf : f_M_allBy a0 a1 h = some (r, h')) : MM sc y_M_allBy prog_10_method_28_code 4 (some .int) 1 22 [.ref a0, .int a1] h (some (.int r)) h' :=
  mm_of_G si_pn_M (Nat.le_of_ble_eq_true rfl) (t_M_allBy_0 _ _ _ _ _ hf)
/-! M timeLeft (I)I -/
set_option maxRecDepth 100000 in
theorem dd_M_timeLeft_0 : (decode prog_10_method_32_code 0 = .ok (.aload_n 0, 1)) ∧ (decode prog_10_method_32_code 1 = .ok (.getfield 7, 3)) ∧ (decode prog_10_method_32_code 4 = .ok (.bipush 12, 2)) ∧ (decode prog_10_method_32_code 6 = .ok (.iload_n 1, 1)) ∧ (decode prog_10_method_32_code 7 = .ok (.iadd, 1)) ∧ (decode prog_10_method_32_code 8 = .ok (.iaload, 1)) ∧ (decode prog_10_method_32_code 9 = .ok (.aload_n 0, 1)) ∧ (decode prog_10_method_32_code 10 = .ok (.iload_n 1, 1)) ∧ (decode prog_10_method_32_code 11 = .ok (.invokevirtual 195, 3)) ∧ (decode prog_10_method_32_code 14 = .ok (.isub, 1)) ∧ (decode prog_10_method_32_code 15 = .ok (.istore_n 2, 1)) ∧ (decode prog_10_method_32_code 16 = .ok (.iload_n 2, 1)) ∧ (decode prog_10_method_32_code 17 = .ok (.ifCond .ge 7, 3)) ∧ (decode prog_10_method_32_code 20 = .ok (.iconst 0, 1)) ∧ (decode prog_10_method_32_code 21 = .ok (.goto 4, 3)) ∧ (decode prog_10_method_32_code 24 = .ok (.iload_n 2, 1)) ∧ (decode prog_10_method_32_code 25 = .ok (.ireturn, 1)) := by
  have h : List.drop 0 prog_10_method_32_code.data.toList = 0x2a :: _ := rfl
  refine ⟨zq_k_n 42 h rfl (zq_o_42 _), ?_⟩
  replace h := zq_nx1 (q := 1) h rfl
  refine ⟨zq_k_u2 180 (fun z => .getfield z) 7 h rfl (zq_o_180 _) (by decide +kernel), ?_⟩
  replace h := zq_nx3 (q := 4) h rfl
  refine ⟨zq_k_s1 16 (fun z => .bipush z) 12 h rfl (zq_o_16 _) (by decide +kernel), ?_⟩
  replace h := zq_nx2 (q := 6) h rfl
  refine ⟨zq_k_n 27 h rfl (zq_o_27 _), ?_⟩
  replace h := zq_nx1 (q := 7) h rfl
  refine ⟨zq_k_n 96 h rfl (zq_o_96 _), ?_⟩
  replace h := zq_nx1 (q := 8) h rfl
  refine ⟨zq_k_n 46 h rfl (zq_o_46 _), ?_⟩
  replace h := zq_nx1 (q := 9) h rfl
  refine ⟨zq_k_n 42 h rfl (zq_o_42 _), ?_⟩
  replace h := zq_nx1 (q := 10) h rfl
  refine ⟨zq_k_n 27 h rfl (zq_o_27 _), ?_⟩
  replace h := zq_nx1 (q := 11) h rfl
  refine ⟨zq_k_u2 182 (fun z => .invokevirtual z) 195 h rfl (zq_o_182 _) (by decide +kernel), ?_⟩
  replace h := zq_nx3 (q := 14) h rfl
  refine ⟨zq_k_n 100 h rfl (zq_o_100 _), ?_⟩
  replace h := zq_nx1 (q := 15) h rfl
  refine ⟨zq_k_n 61 h rfl (zq_o_61 _), ?_⟩
  replace h := zq_nx1 (q := 16) h rfl
  refine ⟨zq_k_n 28 h rfl (zq_o_28 _), ?_⟩
  replace h := zq_nx1 (q := 17) h rfl
  refine ⟨zq_k_s2 156 (fun z => .ifCond .ge z) 7 h rfl (zq_o_156 _) (by decide +kernel), ?_⟩
  replace h := zq_nx3 (q := 20) h rfl
  refine ⟨zq_k_n 3 h rfl (zq_o_3 _), ?_⟩
  replace h := zq_nx1 (q := 21) h rfl
  refine ⟨zq_k_s2 167 (fun z => .goto z) 4 h rfl (zq_o_167 _) (by decide +kernel), ?_⟩
  replace h := zq_nx3 (q := 24) h rfl
  refine ⟨zq_k_n 28 h rfl (zq_o_28 _), ?_⟩
  replace h := zq_nx1 (q := 25) h rfl
  exact zq_k_n 172 h rfl (zq_o_172 _)
def f_M_timeLeft_0  (a0 : Nat) (a1 : Int32) (h : mH) : Option (Int32 × mH) :=
  bd1 (gR h a0 8 0) fun x1 =>
  bd1 (aI h 0 x1 ((12 : Int32) + a1)) fun x3 =>
  bd1 (kC h a0 8) fun _ =>
  bd2 (f_M_allBy a0 a1 h) fun x9 h7 =>
  if 0 ≤ (x3 - x9) then
    some (x3 - x9, h7)
  else
    some ((0 : Int32), h7)
set_option maxRecDepth 20000 in
theorem t_M_timeLeft_0 {sc : Nat × (Nat → Int32)}  (a0 : Nat) (a1 : Int32) (h : mH) (r : Int32) (h' : mH) (hf : f_M_timeLeft_0  a0 a1 h = some (r, h')) : G sc y_M_timeLeft prog_10_method_32_code 3 (some .int) 2 45 0 [(0, .ref a0), (1, .int a1)] [] h (some (.int r)) h' := by
  unfold f_M_timeLeft_0 at hf
  refine g_aload_n (pc := 0) 0 dd_M_timeLeft_0.1 rfl rfl ?_
  obtain ⟨x1, e2, hf⟩ := bd1_e hf
  refine g_get (pc := 1) (ci := 8) (kk := 0) dd_M_timeLeft_0.2.1 rfl in_M (by decide) wd_938 (gR_spec e2) ?_
  refine g_bipush (pc := 4) (12 : Int32) dd_M_timeLeft_0.2.2.1 (by decide) ?_
  refine g_iload_n (pc := 6) 1 dd_M_timeLeft_0.2.2.2.1 rfl rfl ?_
  refine g_iadd (pc := 7) dd_M_timeLeft_0.2.2.2.2.1 ?_
  obtain ⟨x3, e4, hf⟩ := bd1_e hf
  refine g_iald (pc := 8) dd_M_timeLeft_0.2.2.2.2.2.1 e4 ?_
  refine g_aload_n (pc := 9) 0 dd_M_timeLeft_0.2.2.2.2.2.2.1 rfl rfl ?_
  refine g_iload_n (pc := 10) 1 dd_M_timeLeft_0.2.2.2.2.2.2.2.1 rfl rfl ?_
  obtain ⟨u6, e5, hf⟩ := bd1_e hf
  obtain ⟨x9, h7, e8, hf⟩ := bd2_e hf
  refine g_callV (pc := 11) (ci := 8) [.int a1] (site_of si_M_allBy (by decide) (by decide)) wd_1176 wd_1178 wp_53 dd_M_timeLeft_0.2.2.2.2.2.2.2.2.1 rfl e5 (Nat.le_of_ble_eq_true rfl) (fun z => absurd z si_na_M_allBy) (fun z => absurd z si_na_M_allBy) (fun z => absurd z si_na_M_allBy) (c_M_allBy e8) rfl ?_
  refine g_st [.int x9, .int x3] rfl ?_
  refine g_isub (pc := 14) dd_M_timeLeft_0.2.2.2.2.2.2.2.2.2.1 ?_
  refine g_istore_n (pc := 15) [(2, .int (x3 - x9)), (0, .ref a0), (1, .int a1)] dd_M_timeLeft_0.2.2.2.2.2.2.2.2.2.2.1 rfl (Nat.le_of_ble_eq_true rfl) rfl ?_
  refine g_iload_n (pc := 16) 0 dd_M_timeLeft_0.2.2.2.2.2.2.2.2.2.2.2.1 rfl rfl ?_
  refine g_ifge (pc := 17) 24 dd_M_timeLeft_0.2.2.2.2.2.2.2.2.2.2.2.2.1 (by decide) (fun c10 => ?_) (fun c10 => ?_)
  · replace hf := (if_pos c10).symm.trans hf
    refine g_iload_n (pc := 24) 0 dd_M_timeLeft_0.2.2.2.2.2.2.2.2.2.2.2.2.2.2.2.1 rfl rfl ?_
    obtain ⟨rfl, rfl⟩ := ret2 hf
    exact g_iret (pc := 25) rfl dd_M_timeLeft_0.2.2.2.2.2.2.2.2.2.2.2.2.2.2.2.2
  · replace hf := (if_neg c10).symm.trans hf
    refine g_iconst (pc := 20) (0 : Int32) dd_M_timeLeft_0.2.2.2.2.2.2.2.2.2.2.2.2.2.1 (by decide) ?_
    refine g_goto (pc := 21) 25 dd_M_timeLeft_0.2.2.2.2.2.2.2.2.2.2.2.2.2.2.1 (by decide) ?_
    obtain ⟨rfl, rfl⟩ := ret2 hf
    exact g_iret (pc := 25) rfl dd_M_timeLeft_0.2.2.2.2.2.2.2.2.2.2.2.2.2.2.2.2
def f_M_timeLeft (a0 : Nat) (a1 : Int32) (h : mH) : Option (Int32 × mH) := f_M_timeLeft_0 a0 a1 h
theorem c_M_timeLeft {sc : Nat × (Nat → Int32)} {a0 : Nat} {a1 : Int32} {h : mH} {r : Int32} {h' : mH} (hf : f_M_timeLeft a0 a1 h = some (r, h')) : MM sc y_M_timeLeft prog_10_method_32_code 3 (some .int) 2 45 [.ref a0, .int a1] h (some (.int r)) h' :=
  mm_of_G si_pn_M (Nat.le_of_ble_eq_true rfl) (t_M_timeLeft_0 _ _ _ _ _ hf)
/-! M canBreak (II)Z -/
set_option maxRecDepth 100000 in
theorem dd_M_canBreak_0 : (decode prog_10_method_33_code 0 = .ok (.aload_n 0, 1)) ∧ (decode prog_10_method_33_code 1 = .ok (.iload_n 1, 1)) ∧ (decode prog_10_method_33_code 2 = .ok (.iload_n 2, 1)) ∧ (decode prog_10_method_33_code 3 = .ok (.invokevirtual 198, 3)) ∧ (decode prog_10_method_33_code 6 = .ok (.ifCond .le 15, 3)) ∧ (decode prog_10_method_33_code 9 = .ok (.aload_n 0, 1)) ∧ (decode prog_10_method_33_code 10 = .ok (.iload_n 1, 1)) ∧ (decode prog_10_method_33_code 11 = .ok (.invokevirtual 201, 3)) ∧ (decode prog_10_method_33_code 14 = .ok (.ifCond .le 7, 3)) ∧ (decode prog_10_method_33_code 17 = .ok (.iconst 1, 1)) ∧ (decode prog_10_method_33_code 18 = .ok (.goto 4, 3)) ∧ (decode prog_10_method_33_code 21 = .ok (.iconst 0, 1)) ∧ (decode prog_10_method_33_code 22 = .ok (.ireturn, 1)) := by
  have h : List.drop 0 prog_10_method_33_code.data.toList = 0x2a :: _ := rfl
  refine ⟨zq_k_n 42 h rfl (zq_o_42 _), ?_⟩
  replace h := zq_nx1 (q := 1) h rfl
  refine ⟨zq_k_n 27 h rfl (zq_o_27 _), ?_⟩
  replace h := zq_nx1 (q := 2) h rfl
  refine ⟨zq_k_n 28 h rfl (zq_o_28 _), ?_⟩
  replace h := zq_nx1 (q := 3) h rfl
  refine ⟨zq_k_u2 182 (fun z => .invokevirtual z) 198 h rfl (zq_o_182 _) (by decide +kernel), ?_⟩
  replace h := zq_nx3 (q := 6) h rfl
  refine ⟨zq_k_s2 158 (fun z => .ifCond .le z) 15 h rfl (zq_o_158 _) (by decide +kernel), ?_⟩
  replace h := zq_nx3 (q := 9) h rfl
  refine ⟨zq_k_n 42 h rfl (zq_o_42 _), ?_⟩
  replace h := zq_nx1 (q := 10) h rfl
  refine ⟨zq_k_n 27 h rfl (zq_o_27 _), ?_⟩
  replace h := zq_nx1 (q := 11) h rfl
  refine ⟨zq_k_u2 182 (fun z => .invokevirtual z) 201 h rfl (zq_o_182 _) (by decide +kernel), ?_⟩
  replace h := zq_nx3 (q := 14) h rfl
  refine ⟨zq_k_s2 158 (fun z => .ifCond .le z) 7 h rfl (zq_o_158 _) (by decide +kernel), ?_⟩
  replace h := zq_nx3 (q := 17) h rfl
  refine ⟨zq_k_n 4 h rfl (zq_o_4 _), ?_⟩
  replace h := zq_nx1 (q := 18) h rfl
  refine ⟨zq_k_s2 167 (fun z => .goto z) 4 h rfl (zq_o_167 _) (by decide +kernel), ?_⟩
  replace h := zq_nx3 (q := 21) h rfl
  refine ⟨zq_k_n 3 h rfl (zq_o_3 _), ?_⟩
  replace h := zq_nx1 (q := 22) h rfl
  exact zq_k_n 172 h rfl (zq_o_172 _)
def f_M_canBreak_21   (h : mH) : Option (Int32 × mH) :=
  some ((0 : Int32), h)
set_option maxRecDepth 20000 in
theorem t_M_canBreak_21 {sc : Nat × (Nat → Int32)}   (h : mH) (r : Int32) (h' : mH) (hf : f_M_canBreak_21   h = some (r, h')) : G sc y_M_canBreak prog_10_method_33_code 3 (some .boolean) 3 67 21 [] [] h (some (.int r)) h' := by
  unfold f_M_canBreak_21 at hf
  refine g_iconst (pc := 21) (0 : Int32) dd_M_canBreak_0.2.2.2.2.2.2.2.2.2.2.2.1 (by decide) ?_
  obtain ⟨rfl, rfl⟩ := ret2 hf
  exact g_zret (pc := 22) rfl rfl dd_M_canBreak_0.2.2.2.2.2.2.2.2.2.2.2.2
def f_M_canBreak_0  (a0 : Nat) (a1 : Int32) (a2 : Int32) (h : mH) : Option (Int32 × mH) :=
  bd1 (kC h a0 8) fun _ =>
  bd2 (f_M_roomOf a0 a1 a2 h) fun x5 h3 =>
  if x5 ≤ 0 then
    f_M_canBreak_21  h3
  else
    bd1 (kC h3 a0 8) fun _ =>
    bd2 (f_M_timeLeft a0 a1 h3) fun x10 h8 =>
    if x10 ≤ 0 then
      f_M_canBreak_21  h8
    else
      some ((1 : Int32), h8)
set_option maxRecDepth 20000 in
theorem t_M_canBreak_0 {sc : Nat × (Nat → Int32)}  (a0 : Nat) (a1 : Int32) (a2 : Int32) (h : mH) (r : Int32) (h' : mH) (hf : f_M_canBreak_0  a0 a1 a2 h = some (r, h')) : G sc y_M_canBreak prog_10_method_33_code 3 (some .boolean) 3 67 0 [(0, .ref a0), (1, .int a1), (2, .int a2)] [] h (some (.int r)) h' := by
  unfold f_M_canBreak_0 at hf
  refine g_aload_n (pc := 0) 0 dd_M_canBreak_0.1 rfl rfl ?_
  refine g_iload_n (pc := 1) 1 dd_M_canBreak_0.2.1 rfl rfl ?_
  refine g_iload_n (pc := 2) 2 dd_M_canBreak_0.2.2.1 rfl rfl ?_
  obtain ⟨u2, e1, hf⟩ := bd1_e hf
  obtain ⟨x5, h3, e4, hf⟩ := bd2_e hf
  refine g_callV (pc := 3) (ci := 8) [.int a1, .int a2] (site_of si_M_roomOf (by decide) (by decide)) wd_1168 wd_1170 wp_51 dd_M_canBreak_0.2.2.2.1 rfl e1 (Nat.le_of_ble_eq_true rfl) (fun z => absurd z si_na_M_roomOf) (fun z => absurd z si_na_M_roomOf) (fun z => absurd z si_na_M_roomOf) (c_M_roomOf e4) rfl ?_
  refine g_st [.int x5] rfl ?_
  refine g_ifle (pc := 6) 21 dd_M_canBreak_0.2.2.2.2.1 (by decide) (fun c12 => ?_) (fun c12 => ?_)
  · replace hf := (if_pos c12).symm.trans hf
    refine g_lv [] rfl ?_
    exact t_M_canBreak_21  _ _ _  hf
  · replace hf := (if_neg c12).symm.trans hf
    refine g_aload_n (pc := 9) 0 dd_M_canBreak_0.2.2.2.2.2.1 rfl rfl ?_
    refine g_iload_n (pc := 10) 1 dd_M_canBreak_0.2.2.2.2.2.2.1 rfl rfl ?_
    obtain ⟨u7, e6, hf⟩ := bd1_e hf
    obtain ⟨x10, h8, e9, hf⟩ := bd2_e hf
    refine g_callV (pc := 11) (ci := 8) [.int a1] (site_of si_M_timeLeft (by decide) (by decide)) wd_1172 wd_1174 wp_52 dd_M_canBreak_0.2.2.2.2.2.2.2.1 rfl e6 (Nat.le_of_ble_eq_true rfl) (fun z => absurd z si_na_M_timeLeft) (fun z => absurd z si_na_M_timeLeft) (fun z => absurd z si_na_M_timeLeft) (c_M_timeLeft e9) rfl ?_
    refine g_st [.int x10] rfl ?_
    refine g_ifle (pc := 14) 21 dd_M_canBreak_0.2.2.2.2.2.2.2.2.1 (by decide) (fun c11 => ?_) (fun c11 => ?_)
    · replace hf := (if_pos c11).symm.trans hf
      refine g_lv [] rfl ?_
      exact t_M_canBreak_21  _ _ _  hf
    · replace hf := (if_neg c11).symm.trans hf
      refine g_iconst (pc := 17) (1 : Int32) dd_M_canBreak_0.2.2.2.2.2.2.2.2.2.1 (by decide) ?_
      refine g_goto (pc := 18) 22 dd_M_canBreak_0.2.2.2.2.2.2.2.2.2.2.1 (by decide) ?_
      obtain ⟨rfl, rfl⟩ := ret2 hf
      exact g_zret (pc := 22) rfl rfl dd_M_canBreak_0.2.2.2.2.2.2.2.2.2.2.2.2
def f_M_canBreak (a0 : Nat) (a1 : Int32) (a2 : Int32) (h : mH) : Option (Int32 × mH) := f_M_canBreak_0 a0 a1 a2 h
theorem c_M_canBreak {sc : Nat × (Nat → Int32)} {a0 : Nat} {a1 : Int32} {a2 : Int32} {h : mH} {r : Int32} {h' : mH} (hf : f_M_canBreak a0 a1 a2 h = some (r, h')) : MM sc y_M_canBreak prog_10_method_33_code 3 (some .boolean) 3 67 [.ref a0, .int a1, .int a2] h (some (.int r)) h' :=
  mm_of_G si_pn_M (Nat.le_of_ble_eq_true rfl) (t_M_canBreak_0 _ _ _ _ _ _ hf)
/-! M flag (Z)I -/
set_option maxRecDepth 100000 in
theorem dd_M_flag_0 : (decode prog_10_method_4_code 0 = .ok (.iload_n 0, 1)) ∧ (decode prog_10_method_4_code 1 = .ok (.ifCond .eq 7, 3)) ∧ (decode prog_10_method_4_code 4 = .ok (.iconst 1, 1)) ∧ (decode prog_10_method_4_code 5 = .ok (.goto 4, 3)) ∧ (decode prog_10_method_4_code 8 = .ok (.iconst 0, 1)) ∧ (decode prog_10_method_4_code 9 = .ok (.ireturn, 1)) := by
  have h : List.drop 0 prog_10_method_4_code.data.toList = 0x1a :: _ := rfl
  refine ⟨zq_k_n 26 h rfl (zq_o_26 _), ?_⟩
  replace h := zq_nx1 (q := 1) h rfl
  refine ⟨zq_k_s2 153 (fun z => .ifCond .eq z) 7 h rfl (zq_o_153 _) (by decide +kernel), ?_⟩
  replace h := zq_nx3 (q := 4) h rfl
  refine ⟨zq_k_n 4 h rfl (zq_o_4 _), ?_⟩
  replace h := zq_nx1 (q := 5) h rfl
  refine ⟨zq_k_s2 167 (fun z => .goto z) 4 h rfl (zq_o_167 _) (by decide +kernel), ?_⟩
  replace h := zq_nx3 (q := 8) h rfl
  refine ⟨zq_k_n 3 h rfl (zq_o_3 _), ?_⟩
  replace h := zq_nx1 (q := 9) h rfl
  exact zq_k_n 172 h rfl (zq_o_172 _)
def f_M_flag_0  (a0 : Int32) (h : mH) : Option (Int32 × mH) :=
  if a0 = 0 then
    some ((0 : Int32), h)
  else
    some ((1 : Int32), h)
set_option maxRecDepth 20000 in
theorem t_M_flag_0 {sc : Nat × (Nat → Int32)}  (a0 : Int32) (h : mH) (r : Int32) (h' : mH) (hf : f_M_flag_0  a0 h = some (r, h')) : G sc y_M_flag prog_10_method_4_code 1 (some .int) 0 0 0 [(0, .int a0)] [] h (some (.int r)) h' := by
  unfold f_M_flag_0 at hf
  refine g_iload_n (pc := 0) 0 dd_M_flag_0.1 rfl rfl ?_
  refine g_ifeq (pc := 1) 8 dd_M_flag_0.2.1 (by decide) (fun c1 => ?_) (fun c1 => ?_)
  · replace hf := (if_pos c1).symm.trans hf
    refine g_iconst (pc := 8) (0 : Int32) dd_M_flag_0.2.2.2.2.1 (by decide) ?_
    obtain ⟨rfl, rfl⟩ := ret2 hf
    exact g_iret (pc := 9) rfl dd_M_flag_0.2.2.2.2.2
  · replace hf := (if_neg c1).symm.trans hf
    refine g_iconst (pc := 4) (1 : Int32) dd_M_flag_0.2.2.1 (by decide) ?_
    refine g_goto (pc := 5) 9 dd_M_flag_0.2.2.2.1 (by decide) ?_
    obtain ⟨rfl, rfl⟩ := ret2 hf
    exact g_iret (pc := 9) rfl dd_M_flag_0.2.2.2.2.2
def f_M_flag (a0 : Int32) (h : mH) : Option (Int32 × mH) := f_M_flag_0 a0 h
theorem c_M_flag {sc : Nat × (Nat → Int32)} {a0 : Int32} {h : mH} {r : Int32} {h' : mH} (hf : f_M_flag a0 h = some (r, h')) : MM sc y_M_flag prog_10_method_4_code 1 (some .int) 0 0 [.int a0] h (some (.int r)) h' :=
  mm_of_G si_pn_M (Nat.le_of_ble_eq_true rfl) (t_M_flag_0 _ _ _ _ hf)
/-! M one (II)I -/
set_option maxRecDepth 100000 in
theorem dd_M_one_0 : (decode prog_10_method_37_code 0 = .ok (.aload_n 0, 1)) ∧ (decode prog_10_method_37_code 1 = .ok (.iload_n 1, 1)) ∧ (decode prog_10_method_37_code 2 = .ok (.invokevirtual 213, 3)) ∧ (decode prog_10_method_37_code 5 = .ok (.ifCond .ne 5, 3)) ∧ (decode prog_10_method_37_code 8 = .ok (.iconst (-1), 1)) ∧ (decode prog_10_method_37_code 9 = .ok (.ireturn, 1)) ∧ (decode prog_10_method_37_code 10 = .ok (.iconst 0, 1)) ∧ (decode prog_10_method_37_code 11 = .ok (.istore_n 3, 1)) ∧ (decode prog_10_method_37_code 12 = .ok (.iconst 0, 1)) ∧ (decode prog_10_method_37_code 13 = .ok (.istore 4, 2)) ∧ (decode prog_10_method_37_code 15 = .ok (.iload 4, 2)) ∧ (decode prog_10_method_37_code 17 = .ok (.aload_n 0, 1)) ∧ (decode prog_10_method_37_code 18 = .ok (.getfield 106, 3)) ∧ (decode prog_10_method_37_code 21 = .ok (.if_icmp .ge 25, 3)) ∧ (decode prog_10_method_37_code 24 = .ok (.iload_n 3, 1)) ∧ (decode prog_10_method_37_code 25 = .ok (.aload_n 0, 1)) ∧ (decode prog_10_method_37_code 26 = .ok (.iload_n 1, 1)) ∧ (decode prog_10_method_37_code 27 = .ok (.iload 4, 2)) ∧ (decode prog_10_method_37_code 29 = .ok (.invokevirtual 216, 3)) ∧ (decode prog_10_method_37_code 32 = .ok (.invokestatic 220, 3)) ∧ (decode prog_10_method_37_code 35 = .ok (.iload 4, 2)) ∧ (decode prog_10_method_37_code 37 = .ok (.ishl, 1)) ∧ (decode prog_10_method_37_code 38 = .ok (.ior, 1)) ∧ (decode prog_10_method_37_code 39 = .ok (.istore_n 3, 1)) := by
  have h : List.drop 0 prog_10_method_37_code.data.toList = 0x2a :: _ := rfl
  refine ⟨zq_k_n 42 h rfl (zq_o_42 _), ?_⟩
  replace h := zq_nx1 (q := 1) h rfl
  refine ⟨zq_k_n 27 h rfl (zq_o_27 _), ?_⟩
  replace h := zq_nx1 (q := 2) h rfl
  refine ⟨zq_k_u2 182 (fun z => .invokevirtual z) 213 h rfl (zq_o_182 _) (by decide +kernel), ?_⟩
  replace h := zq_nx3 (q := 5) h rfl
  refine ⟨zq_k_s2 154 (fun z => .ifCond .ne z) 5 h rfl (zq_o_154 _) (by decide +kernel), ?_⟩
  replace h := zq_nx3 (q := 8) h rfl
  refine ⟨zq_k_n 2 h rfl (zq_o_2 _), ?_⟩
  replace h := zq_nx1 (q := 9) h rfl
  refine ⟨zq_k_n 172 h rfl (zq_o_172 _), ?_⟩
  replace h := zq_nx1 (q := 10) h rfl
  refine ⟨zq_k_n 3 h rfl (zq_o_3 _), ?_⟩
  replace h := zq_nx1 (q := 11) h rfl
  refine ⟨zq_k_n 62 h rfl (zq_o_62 _), ?_⟩
  replace h := zq_nx1 (q := 12) h rfl
  refine ⟨zq_k_n 3 h rfl (zq_o_3 _), ?_⟩
  replace h := zq_nx1 (q := 13) h rfl
  refine ⟨zq_k_u1 54 (fun z => .istore z) 4 h rfl (zq_o_54 _) (by decide +kernel), ?_⟩
  replace h := zq_nx2 (q := 15) h rfl
  refine ⟨zq_k_u1 21 (fun z => .iload z) 4 h rfl (zq_o_21 _) (by decide +kernel), ?_⟩
  replace h := zq_nx2 (q := 17) h rfl
  refine ⟨zq_k_n 42 h rfl (zq_o_42 _), ?_⟩
  replace h := zq_nx1 (q := 18) h rfl
  refine ⟨zq_k_u2 180 (fun z => .getfield z) 106 h rfl (zq_o_180 _) (by decide +kernel), ?_⟩
  replace h := zq_nx3 (q := 21) h rfl
  refine ⟨zq_k_s2 162 (fun z => .if_icmp .ge z) 25 h rfl (zq_o_162 _) (by decide +kernel), ?_⟩
  replace h := zq_nx3 (q := 24) h rfl
  refine ⟨zq_k_n 29 h rfl (zq_o_29 _), ?_⟩
  replace h := zq_nx1 (q := 25) h rfl
  refine ⟨zq_k_n 42 h rfl (zq_o_42 _), ?_⟩
  replace h := zq_nx1 (q := 26) h rfl
  refine ⟨zq_k_n 27 h rfl (zq_o_27 _), ?_⟩
  replace h := zq_nx1 (q := 27) h rfl
  refine ⟨zq_k_u1 21 (fun z => .iload z) 4 h rfl (zq_o_21 _) (by decide +kernel), ?_⟩
  replace h := zq_nx2 (q := 29) h rfl
  refine ⟨zq_k_u2 182 (fun z => .invokevirtual z) 216 h rfl (zq_o_182 _) (by decide +kernel), ?_⟩
  replace h := zq_nx3 (q := 32) h rfl
  refine ⟨zq_k_u2 184 (fun z => .invokestatic z) 220 h rfl (zq_o_184 _) (by decide +kernel), ?_⟩
  replace h := zq_nx3 (q := 35) h rfl
  refine ⟨zq_k_u1 21 (fun z => .iload z) 4 h rfl (zq_o_21 _) (by decide +kernel), ?_⟩
  replace h := zq_nx2 (q := 37) h rfl
  refine ⟨zq_k_n 120 h rfl (zq_o_120 _), ?_⟩
  replace h := zq_nx1 (q := 38) h rfl
  refine ⟨zq_k_n 128 h rfl (zq_o_128 _), ?_⟩
  replace h := zq_nx1 (q := 39) h rfl
  exact zq_k_n 62 h rfl (zq_o_62 _)
set_option maxRecDepth 100000 in
theorem dd_M_one_40 : (decode prog_10_method_37_code 40 = .ok (.iinc 4 1, 3)) ∧ (decode prog_10_method_37_code 43 = .ok (.goto (-28), 3)) ∧ (decode prog_10_method_37_code 46 = .ok (.iload_n 2, 1)) ∧ (decode prog_10_method_37_code 47 = .ok (.tableswitch 107 0 7 #[45, 55, 62, 69, 79, 89, 99, 105], 45)) ∧ (decode prog_10_method_37_code 92 = .ok (.aload_n 0, 1)) ∧ (decode prog_10_method_37_code 93 = .ok (.getfield 7, 3)) ∧ (decode prog_10_method_37_code 96 = .ok (.bipush 12, 2)) ∧ (decode prog_10_method_37_code 98 = .ok (.iload_n 1, 1)) ∧ (decode prog_10_method_37_code 99 = .ok (.iadd, 1)) ∧ (decode prog_10_method_37_code 100 = .ok (.iaload, 1)) ∧ (decode prog_10_method_37_code 101 = .ok (.ireturn, 1)) ∧ (decode prog_10_method_37_code 102 = .ok (.aload_n 0, 1)) ∧ (decode prog_10_method_37_code 103 = .ok (.getfield 26, 3)) ∧ (decode prog_10_method_37_code 106 = .ok (.iload_n 1, 1)) ∧ (decode prog_10_method_37_code 107 = .ok (.iaload, 1)) ∧ (decode prog_10_method_37_code 108 = .ok (.ireturn, 1)) ∧ (decode prog_10_method_37_code 109 = .ok (.aload_n 0, 1)) ∧ (decode prog_10_method_37_code 110 = .ok (.getfield 29, 3)) ∧ (decode prog_10_method_37_code 113 = .ok (.iload_n 1, 1)) ∧ (decode prog_10_method_37_code 114 = .ok (.iaload, 1)) ∧ (decode prog_10_method_37_code 115 = .ok (.ireturn, 1)) ∧ (decode prog_10_method_37_code 116 = .ok (.aload_n 0, 1)) ∧ (decode prog_10_method_37_code 117 = .ok (.getfield 7, 3)) ∧ (decode prog_10_method_37_code 120 = .ok (.bipush 15, 2)) := by
  have h : List.drop 40 prog_10_method_37_code.data.toList = 0x84 :: _ := rfl
  refine ⟨zq_k_iinc 4 1 h rfl (zq_o_132 _) (by decide +kernel) (by decide +kernel), ?_⟩
  replace h := zq_nx3 (q := 43) h rfl
  refine ⟨zq_k_s2 167 (fun z => .goto z) (-28) h rfl (zq_o_167 _) (by decide +kernel), ?_⟩
  replace h := zq_nx3 (q := 46) h rfl
  refine ⟨zq_k_n 28 h rfl (zq_o_28 _), ?_⟩
  replace h := zq_nx1 (q := 47) h rfl
  refine ⟨by decide +kernel, ?_⟩
  have h : List.drop 92 prog_10_method_37_code.data.toList = 0x2a :: _ := rfl
  refine ⟨zq_k_n 42 h rfl (zq_o_42 _), ?_⟩
  replace h := zq_nx1 (q := 93) h rfl
  refine ⟨zq_k_u2 180 (fun z => .getfield z) 7 h rfl (zq_o_180 _) (by decide +kernel), ?_⟩
  replace h := zq_nx3 (q := 96) h rfl
  refine ⟨zq_k_s1 16 (fun z => .bipush z) 12 h rfl (zq_o_16 _) (by decide +kernel), ?_⟩
  replace h := zq_nx2 (q := 98) h rfl
  refine ⟨zq_k_n 27 h rfl (zq_o_27 _), ?_⟩
  replace h := zq_nx1 (q := 99) h rfl
  refine ⟨zq_k_n 96 h rfl (zq_o_96 _), ?_⟩
  replace h := zq_nx1 (q := 100) h rfl
  refine ⟨zq_k_n 46 h rfl (zq_o_46 _), ?_⟩
  replace h := zq_nx1 (q := 101) h rfl
  refine ⟨zq_k_n 172 h rfl (zq_o_172 _), ?_⟩
  replace h := zq_nx1 (q := 102) h rfl
  refine ⟨zq_k_n 42 h rfl (zq_o_42 _), ?_⟩
  replace h := zq_nx1 (q := 103) h rfl
  refine ⟨zq_k_u2 180 (fun z => .getfield z) 26 h rfl (zq_o_180 _) (by decide +kernel), ?_⟩
  replace h := zq_nx3 (q := 106) h rfl
  refine ⟨zq_k_n 27 h rfl (zq_o_27 _), ?_⟩
  replace h := zq_nx1 (q := 107) h rfl
  refine ⟨zq_k_n 46 h rfl (zq_o_46 _), ?_⟩
  replace h := zq_nx1 (q := 108) h rfl
  refine ⟨zq_k_n 172 h rfl (zq_o_172 _), ?_⟩
  replace h := zq_nx1 (q := 109) h rfl
  refine ⟨zq_k_n 42 h rfl (zq_o_42 _), ?_⟩
  replace h := zq_nx1 (q := 110) h rfl
  refine ⟨zq_k_u2 180 (fun z => .getfield z) 29 h rfl (zq_o_180 _) (by decide +kernel), ?_⟩
  replace h := zq_nx3 (q := 113) h rfl
  refine ⟨zq_k_n 27 h rfl (zq_o_27 _), ?_⟩
  replace h := zq_nx1 (q := 114) h rfl
  refine ⟨zq_k_n 46 h rfl (zq_o_46 _), ?_⟩
  replace h := zq_nx1 (q := 115) h rfl
  refine ⟨zq_k_n 172 h rfl (zq_o_172 _), ?_⟩
  replace h := zq_nx1 (q := 116) h rfl
  refine ⟨zq_k_n 42 h rfl (zq_o_42 _), ?_⟩
  replace h := zq_nx1 (q := 117) h rfl
  refine ⟨zq_k_u2 180 (fun z => .getfield z) 7 h rfl (zq_o_180 _) (by decide +kernel), ?_⟩
  replace h := zq_nx3 (q := 120) h rfl
  exact zq_k_s1 16 (fun z => .bipush z) 15 h rfl (zq_o_16 _) (by decide +kernel)
set_option maxRecDepth 100000 in
theorem dd_M_one_122 : (decode prog_10_method_37_code 122 = .ok (.iload_n 1, 1)) ∧ (decode prog_10_method_37_code 123 = .ok (.iadd, 1)) ∧ (decode prog_10_method_37_code 124 = .ok (.iaload, 1)) ∧ (decode prog_10_method_37_code 125 = .ok (.ireturn, 1)) ∧ (decode prog_10_method_37_code 126 = .ok (.aload_n 0, 1)) ∧ (decode prog_10_method_37_code 127 = .ok (.getfield 7, 3)) ∧ (decode prog_10_method_37_code 130 = .ok (.bipush 18, 2)) ∧ (decode prog_10_method_37_code 132 = .ok (.iload_n 1, 1)) ∧ (decode prog_10_method_37_code 133 = .ok (.iadd, 1)) ∧ (decode prog_10_method_37_code 134 = .ok (.iaload, 1)) ∧ (decode prog_10_method_37_code 135 = .ok (.ireturn, 1)) ∧ (decode prog_10_method_37_code 136 = .ok (.aload_n 0, 1)) ∧ (decode prog_10_method_37_code 137 = .ok (.getfield 7, 3)) ∧ (decode prog_10_method_37_code 140 = .ok (.bipush 21, 2)) ∧ (decode prog_10_method_37_code 142 = .ok (.iload_n 1, 1)) ∧ (decode prog_10_method_37_code 143 = .ok (.iadd, 1)) ∧ (decode prog_10_method_37_code 144 = .ok (.iaload, 1)) ∧ (decode prog_10_method_37_code 145 = .ok (.ireturn, 1)) ∧ (decode prog_10_method_37_code 146 = .ok (.aload_n 0, 1)) ∧ (decode prog_10_method_37_code 147 = .ok (.iload_n 1, 1)) ∧ (decode prog_10_method_37_code 148 = .ok (.invokevirtual 195, 3)) ∧ (decode prog_10_method_37_code 151 = .ok (.ireturn, 1)) ∧ (decode prog_10_method_37_code 152 = .ok (.iload_n 3, 1)) ∧ (decode prog_10_method_37_code 153 = .ok (.ireturn, 1)) := by
  have h : List.drop 122 prog_10_method_37_code.data.toList = 0x1b :: _ := rfl
  refine ⟨zq_k_n 27 h rfl (zq_o_27 _), ?_⟩
  replace h := zq_nx1 (q := 123) h rfl
  refine ⟨zq_k_n 96 h rfl (zq_o_96 _), ?_⟩
  replace h := zq_nx1 (q := 124) h rfl
  refine ⟨zq_k_n 46 h rfl (zq_o_46 _), ?_⟩
  replace h := zq_nx1 (q := 125) h rfl
  refine ⟨zq_k_n 172 h rfl (zq_o_172 _), ?_⟩
  replace h := zq_nx1 (q := 126) h rfl
  refine ⟨zq_k_n 42 h rfl (zq_o_42 _), ?_⟩
  replace h := zq_nx1 (q := 127) h rfl
  refine ⟨zq_k_u2 180 (fun z => .getfield z) 7 h rfl (zq_o_180 _) (by decide +kernel), ?_⟩
  replace h := zq_nx3 (q := 130) h rfl
  refine ⟨zq_k_s1 16 (fun z => .bipush z) 18 h rfl (zq_o_16 _) (by decide +kernel), ?_⟩
  replace h := zq_nx2 (q := 132) h rfl
  refine ⟨zq_k_n 27 h rfl (zq_o_27 _), ?_⟩
  replace h := zq_nx1 (q := 133) h rfl
  refine ⟨zq_k_n 96 h rfl (zq_o_96 _), ?_⟩
  replace h := zq_nx1 (q := 134) h rfl
  refine ⟨zq_k_n 46 h rfl (zq_o_46 _), ?_⟩
  replace h := zq_nx1 (q := 135) h rfl
  refine ⟨zq_k_n 172 h rfl (zq_o_172 _), ?_⟩
  replace h := zq_nx1 (q := 136) h rfl
  refine ⟨zq_k_n 42 h rfl (zq_o_42 _), ?_⟩
  replace h := zq_nx1 (q := 137) h rfl
  refine ⟨zq_k_u2 180 (fun z => .getfield z) 7 h rfl (zq_o_180 _) (by decide +kernel), ?_⟩
  replace h := zq_nx3 (q := 140) h rfl
  refine ⟨zq_k_s1 16 (fun z => .bipush z) 21 h rfl (zq_o_16 _) (by decide +kernel), ?_⟩
  replace h := zq_nx2 (q := 142) h rfl
  refine ⟨zq_k_n 27 h rfl (zq_o_27 _), ?_⟩
  replace h := zq_nx1 (q := 143) h rfl
  refine ⟨zq_k_n 96 h rfl (zq_o_96 _), ?_⟩
  replace h := zq_nx1 (q := 144) h rfl
  refine ⟨zq_k_n 46 h rfl (zq_o_46 _), ?_⟩
  replace h := zq_nx1 (q := 145) h rfl
  refine ⟨zq_k_n 172 h rfl (zq_o_172 _), ?_⟩
  replace h := zq_nx1 (q := 146) h rfl
  refine ⟨zq_k_n 42 h rfl (zq_o_42 _), ?_⟩
  replace h := zq_nx1 (q := 147) h rfl
  refine ⟨zq_k_n 27 h rfl (zq_o_27 _), ?_⟩
  replace h := zq_nx1 (q := 148) h rfl
  refine ⟨zq_k_u2 182 (fun z => .invokevirtual z) 195 h rfl (zq_o_182 _) (by decide +kernel), ?_⟩
  replace h := zq_nx3 (q := 151) h rfl
  refine ⟨zq_k_n 172 h rfl (zq_o_172 _), ?_⟩
  replace h := zq_nx1 (q := 152) h rfl
  refine ⟨zq_k_n 29 h rfl (zq_o_29 _), ?_⟩
  replace h := zq_nx1 (q := 153) h rfl
  exact zq_k_n 172 h rfl (zq_o_172 _)
set_option maxRecDepth 100000 in
theorem dd_M_one_154 : (decode prog_10_method_37_code 154 = .ok (.iconst (-1), 1)) ∧ (decode prog_10_method_37_code 155 = .ok (.ireturn, 1)) := by
  have h : List.drop 154 prog_10_method_37_code.data.toList = 0x02 :: _ := rfl
  refine ⟨zq_k_n 2 h rfl (zq_o_2 _), ?_⟩
  replace h := zq_nx1 (q := 155) h rfl
  exact zq_k_n 172 h rfl (zq_o_172 _)
def f_M_one_15b (rec15 : Nat → Int32 → Int32 → Int32 → Int32 → mH → Option (Int32 × mH)) (b0 : Nat) (b1 : Int32) (b2 : Int32) (b3 : Int32) (b4 : Int32) (h : mH) : Option (Int32 × mH) :=
  bd1 (gI h b0 8 2) fun x7 =>
  if x7 ≤ b4 then
    if b2 = (0 : Int32) then
      bd1 (gR h b0 8 0) fun x10 =>
      bd1 (aI h 0 x10 ((12 : Int32) + b1)) fun x12 =>
      some (x12, h)
    else
    if b2 = (1 : Int32) then
      bd1 (gR h b0 8 7) fun x15 =>
      bd1 (aI h 0 x15 b1) fun x17 =>
      some (x17, h)
    else
    if b2 = (2 : Int32) then
      bd1 (gR h b0 8 8) fun x20 =>
      bd1 (aI h 0 x20 b1) fun x22 =>
      some (x22, h)
    else
    if b2 = (3 : Int32) then
      bd1 (gR h b0 8 0) fun x25 =>
      bd1 (aI h 0 x25 ((15 : Int32) + b1)) fun x27 =>
      some (x27, h)
    else
    if b2 = (4 : Int32) then
      bd1 (gR h b0 8 0) fun x30 =>
      bd1 (aI h 0 x30 ((18 : Int32) + b1)) fun x32 =>
      some (x32, h)
    else
    if b2 = (5 : Int32) then
      bd1 (gR h b0 8 0) fun x35 =>
      bd1 (aI h 0 x35 ((21 : Int32) + b1)) fun x37 =>
      some (x37, h)
    else
    if b2 = (6 : Int32) then
      bd1 (kC h b0 8) fun _ =>
      bd2 (f_M_allBy b0 b1 h) fun x44 h42 =>
      some (x44, h42)
    else
    if b2 = (7 : Int32) then
      some (b3, h)
    else
    some (((-1) : Int32), h)
  else
    bd1 (kC h b0 8) fun _ =>
    bd2 (f_M_canBreak b0 b1 b4 h) fun x50 h48 =>
    bd2 (f_M_flag x50 h48) fun x53 h51 =>
    rec15 b0 b1 b2 (b3 ||| (x53 <<< (b4 &&& 31))) (b4 + (1 : Int32)) h51
set_option maxRecDepth 20000 in
theorem t_M_one_15b {sc : Nat × (Nat → Int32)} (rec15 : Nat → Int32 → Int32 → Int32 → Int32 → mH → Option (Int32 × mH)) (hrec15 : ∀ (b0 : Nat) (b1 : Int32) (b2 : Int32) (b3 : Int32) (b4 : Int32) (h : mH) (r : Int32) (h' : mH), rec15 b0 b1 b2 b3 b4 h = some (r, h') → G sc y_M_one prog_10_method_37_code 5 (some .int) 4 89 15 [(0, .ref b0), (1, .int b1), (2, .int b2), (3, .int b3), (4, .int b4)] [] h (some (.int r)) h') (b0 : Nat) (b1 : Int32) (b2 : Int32) (b3 : Int32) (b4 : Int32) (h : mH) (r : Int32) (h' : mH) (hf : f_M_one_15b rec15 b0 b1 b2 b3 b4 h = some (r, h')) : G sc y_M_one prog_10_method_37_code 5 (some .int) 4 89 15 [(0, .ref b0), (1, .int b1), (2, .int b2), (3, .int b3), (4, .int b4)] [] h (some (.int r)) h' := by
  unfold f_M_one_15b at hf
  refine g_iload (pc := 15) 4 dd_M_one_0.2.2.2.2.2.2.2.2.2.2.1 rfl ?_
  refine g_aload_n (pc := 17) 0 dd_M_one_0.2.2.2.2.2.2.2.2.2.2.2.1 rfl rfl ?_
  obtain ⟨x7, e8, hf⟩ := bd1_e hf
  refine g_get (pc := 18) (ci := 8) (kk := 2) dd_M_one_0.2.2.2.2.2.2.2.2.2.2.2.2.1 rfl in_M (by decide) wd_940 (gI_spec e8) ?_
  refine g_icmpge (pc := 21) 46 dd_M_one_0.2.2.2.2.2.2.2.2.2.2.2.2.2.1 (by decide) (fun c54 => ?_) (fun c54 => ?_)
  · replace hf := (if_pos c54).symm.trans hf
    refine g_iload_n (pc := 46) 2 dd_M_one_40.2.2.1 rfl rfl ?_
    by_cases c9 : b2 = (0 : Int32)
    · replace hf := (if_pos c9).symm.trans hf
      refine g_tabIn (pc := 47) 92 (0 : Int32) dd_M_one_40.2.2.2.1 c9 (by decide) (by decide) rfl (by decide) ?_
      refine g_aload_n (pc := 92) 0 dd_M_one_40.2.2.2.2.1 rfl rfl ?_
      obtain ⟨x10, e11, hf⟩ := bd1_e hf
      refine g_get (pc := 93) (ci := 8) (kk := 0) dd_M_one_40.2.2.2.2.2.1 rfl in_M (by decide) wd_938 (gR_spec e11) ?_
      refine g_bipush (pc := 96) (12 : Int32) dd_M_one_40.2.2.2.2.2.2.1 (by decide) ?_
      refine g_iload_n (pc := 98) 1 dd_M_one_40.2.2.2.2.2.2.2.1 rfl rfl ?_
      refine g_iadd (pc := 99) dd_M_one_40.2.2.2.2.2.2.2.2.1 ?_
      obtain ⟨x12, e13, hf⟩ := bd1_e hf
      refine g_iald (pc := 100) dd_M_one_40.2.2.2.2.2.2.2.2.2.1 e13 ?_
      obtain ⟨rfl, rfl⟩ := ret2 hf
      exact g_iret (pc := 101) rfl dd_M_one_40.2.2.2.2.2.2.2.2.2.2.1
    replace hf := (if_neg c9).symm.trans hf
    by_cases c14 : b2 = (1 : Int32)
    · replace hf := (if_pos c14).symm.trans hf
      refine g_tabIn (pc := 47) 102 (1 : Int32) dd_M_one_40.2.2.2.1 c14 (by decide) (by decide) rfl (by decide) ?_
      refine g_aload_n (pc := 102) 0 dd_M_one_40.2.2.2.2.2.2.2.2.2.2.2.1 rfl rfl ?_
      obtain ⟨x15, e16, hf⟩ := bd1_e hf
      refine g_get (pc := 103) (ci := 8) (kk := 7) dd_M_one_40.2.2.2.2.2.2.2.2.2.2.2.2.1 rfl in_M (by decide) wd_945 (gR_spec e16) ?_
      refine g_iload_n (pc := 106) 1 dd_M_one_40.2.2.2.2.2.2.2.2.2.2.2.2.2.1 rfl rfl ?_
      obtain ⟨x17, e18, hf⟩ := bd1_e hf
      refine g_iald (pc := 107) dd_M_one_40.2.2.2.2.2.2.2.2.2.2.2.2.2.2.1 e18 ?_
      obtain ⟨rfl, rfl⟩ := ret2 hf
      exact g_iret (pc := 108) rfl dd_M_one_40.2.2.2.2.2.2.2.2.2.2.2.2.2.2.2.1
    replace hf := (if_neg c14).symm.trans hf
    by_cases c19 : b2 = (2 : Int32)
    · replace hf := (if_pos c19).symm.trans hf
      refine g_tabIn (pc := 47) 109 (2 : Int32) dd_M_one_40.2.2.2.1 c19 (by decide) (by decide) rfl (by decide) ?_
      refine g_aload_n (pc := 109) 0 dd_M_one_40.2.2.2.2.2.2.2.2.2.2.2.2.2.2.2.2.1 rfl rfl ?_
      obtain ⟨x20, e21, hf⟩ := bd1_e hf
      refine g_get (pc := 110) (ci := 8) (kk := 8) dd_M_one_40.2.2.2.2.2.2.2.2.2.2.2.2.2.2.2.2.2.1 rfl in_M (by decide) wd_946 (gR_spec e21) ?_
      refine g_iload_n (pc := 113) 1 dd_M_one_40.2.2.2.2.2.2.2.2.2.2.2.2.2.2.2.2.2.2.1 rfl rfl ?_
      obtain ⟨x22, e23, hf⟩ := bd1_e hf
      refine g_iald (pc := 114) dd_M_one_40.2.2.2.2.2.2.2.2.2.2.2.2.2.2.2.2.2.2.2.1 e23 ?_
      obtain ⟨rfl, rfl⟩ := ret2 hf
      exact g_iret (pc := 115) rfl dd_M_one_40.2.2.2.2.2.2.2.2.2.2.2.2.2.2.2.2.2.2.2.2.1
    replace hf := (if_neg c19).symm.trans hf
    by_cases c24 : b2 = (3 : Int32)
    · replace hf := (if_pos c24).symm.trans hf
      refine g_tabIn (pc := 47) 116 (3 : Int32) dd_M_one_40.2.2.2.1 c24 (by decide) (by decide) rfl (by decide) ?_
      refine g_aload_n (pc := 116) 0 dd_M_one_40.2.2.2.2.2.2.2.2.2.2.2.2.2.2.2.2.2.2.2.2.2.1 rfl rfl ?_
      obtain ⟨x25, e26, hf⟩ := bd1_e hf
      refine g_get (pc := 117) (ci := 8) (kk := 0) dd_M_one_40.2.2.2.2.2.2.2.2.2.2.2.2.2.2.2.2.2.2.2.2.2.2.1 rfl in_M (by decide) wd_938 (gR_spec e26) ?_
      refine g_bipush (pc := 120) (15 : Int32) dd_M_one_40.2.2.2.2.2.2.2.2.2.2.2.2.2.2.2.2.2.2.2.2.2.2.2 (by decide) ?_
      refine g_iload_n (pc := 122) 1 dd_M_one_122.1 rfl rfl ?_
      refine g_iadd (pc := 123) dd_M_one_122.2.1 ?_
      obtain ⟨x27, e28, hf⟩ := bd1_e hf
      refine g_iald (pc := 124) dd_M_one_122.2.2.1 e28 ?_
      obtain ⟨rfl, rfl⟩ := ret2 hf
      exact g_iret (pc := 125) rfl dd_M_one_122.2.2.2.1
    replace hf := (if_neg c24).symm.trans hf
    by_cases c29 : b2 = (4 : Int32)
    · replace hf := (if_pos c29).symm.trans hf
      refine g_tabIn (pc := 47) 126 (4 : Int32) dd_M_one_40.2.2.2.1 c29 (by decide) (by decide) rfl (by decide) ?_
      refine g_aload_n (pc := 126) 0 dd_M_one_122.2.2.2.2.1 rfl rfl ?_
      obtain ⟨x30, e31, hf⟩ := bd1_e hf
      refine g_get (pc := 127) (ci := 8) (kk := 0) dd_M_one_122.2.2.2.2.2.1 rfl in_M (by decide) wd_938 (gR_spec e31) ?_
      refine g_bipush (pc := 130) (18 : Int32) dd_M_one_122.2.2.2.2.2.2.1 (by decide) ?_
      refine g_iload_n (pc := 132) 1 dd_M_one_122.2.2.2.2.2.2.2.1 rfl rfl ?_
      refine g_iadd (pc := 133) dd_M_one_122.2.2.2.2.2.2.2.2.1 ?_
      obtain ⟨x32, e33, hf⟩ := bd1_e hf
      refine g_iald (pc := 134) dd_M_one_122.2.2.2.2.2.2.2.2.2.1 e33 ?_
      obtain ⟨rfl, rfl⟩ := ret2 hf
      exact g_iret (pc := 135) rfl dd_M_one_122.2.2.2.2.2.2.2.2.2.2.1
    replace hf := (if_neg c29).symm.trans hf
    by_cases c34 : b2 = (5 : Int32)
    · replace hf := (if_pos c34).symm.trans hf
      refine g_tabIn (pc := 47) 136 (5 : Int32) dd_M_one_40.2.2.2.1 c34 (by decide) (by decide) rfl (by decide) ?_
      refine g_aload_n (pc := 136) 0 dd_M_one_122.2.2.2.2.2.2.2.2.2.2.2.1 rfl rfl ?_
      obtain ⟨x35, e36, hf⟩ := bd1_e hf
      refine g_get (pc := 137) (ci := 8) (kk := 0) dd_M_one_122.2.2.2.2.2.2.2.2.2.2.2.2.1 rfl in_M (by decide) wd_938 (gR_spec e36) ?_
      refine g_bipush (pc := 140) (21 : Int32) dd_M_one_122.2.2.2.2.2.2.2.2.2.2.2.2.2.1 (by decide) ?_
      refine g_iload_n (pc := 142) 1 dd_M_one_122.2.2.2.2.2.2.2.2.2.2.2.2.2.2.1 rfl rfl ?_
      refine g_iadd (pc := 143) dd_M_one_122.2.2.2.2.2.2.2.2.2.2.2.2.2.2.2.1 ?_
      obtain ⟨x37, e38, hf⟩ := bd1_e hf
      refine g_iald (pc := 144) dd_M_one_122.2.2.2.2.2.2.2.2.2.2.2.2.2.2.2.2.1 e38 ?_
      obtain ⟨rfl, rfl⟩ := ret2 hf
      exact g_iret (pc := 145) rfl dd_M_one_122.2.2.2.2.2.2.2.2.2.2.2.2.2.2.2.2.2.1
    replace hf := (if_neg c34).symm.trans hf
    by_cases c39 : b2 = (6 : Int32)
    · replace hf := (if_pos c39).symm.trans hf
      refine g_tabIn (pc := 47) 146 (6 : Int32) dd_M_one_40.2.2.2.1 c39 (by decide) (by decide) rfl (by decide) ?_
      refine g_aload_n (pc := 146) 0 dd_M_one_122.2.2.2.2.2.2.2.2.2.2.2.2.2.2.2.2.2.2.1 rfl rfl ?_
      refine g_iload_n (pc := 147) 1 dd_M_one_122.2.2.2.2.2.2.2.2.2.2.2.2.2.2.2.2.2.2.2.1 rfl rfl ?_
      obtain ⟨u41, e40, hf⟩ := bd1_e hf
      obtain ⟨x44, h42, e43, hf⟩ := bd2_e hf
      refine g_callV (pc := 148) (ci := 8) [.int b1] (site_of si_M_allBy (by decide) (by decide)) wd_1176 wd_1178 wp_53 dd_M_one_122.2.2.2.2.2.2.2.2.2.2.2.2.2.2.2.2.2.2.2.2.1 rfl e40 (Nat.le_of_ble_eq_true rfl) (fun z => absurd z si_na_M_allBy) (fun z => absurd z si_na_M_allBy) (fun z => absurd z si_na_M_allBy) (c_M_allBy e43) rfl ?_
      refine g_st [.int x44] rfl ?_
      obtain ⟨rfl, rfl⟩ := ret2 hf
      exact g_iret (pc := 151) rfl dd_M_one_122.2.2.2.2.2.2.2.2.2.2.2.2.2.2.2.2.2.2.2.2.2.1
    replace hf := (if_neg c39).symm.trans hf
    by_cases c45 : b2 = (7 : Int32)
    · replace hf := (if_pos c45).symm.trans hf
      refine g_tabIn (pc := 47) 152 (7 : Int32) dd_M_one_40.2.2.2.1 c45 (by decide) (by decide) rfl (by decide) ?_
      refine g_iload_n (pc := 152) 3 dd_M_one_122.2.2.2.2.2.2.2.2.2.2.2.2.2.2.2.2.2.2.2.2.2.2.1 rfl rfl ?_
      obtain ⟨rfl, rfl⟩ := ret2 hf
      exact g_iret (pc := 153) rfl dd_M_one_122.2.2.2.2.2.2.2.2.2.2.2.2.2.2.2.2.2.2.2.2.2.2.2
    replace hf := (if_neg c45).symm.trans hf
    refine g_tabOut (pc := 47) 154 8 dd_M_one_40.2.2.2.1 (by decide) (fun i hi => ?_) (by decide) ?_
    · rcases (show i = 0 ∨ i = 1 ∨ i = 2 ∨ i = 3 ∨ i = 4 ∨ i = 5 ∨ i = 6 ∨ i = 7 by omega) with rfl | rfl | rfl | rfl | rfl | rfl | rfl | rfl
      · exact c9
      · exact c14
      · exact c19
      · exact c24
      · exact c29
      · exact c34
      · exact c39
      · exact c45
    refine g_iconst (pc := 154) ((-1) : Int32) dd_M_one_154.1 (by decide) ?_
    obtain ⟨rfl, rfl⟩ := ret2 hf
    exact g_iret (pc := 155) rfl dd_M_one_154.2
  · replace hf := (if_neg c54).symm.trans hf
    refine g_iload_n (pc := 24) 3 dd_M_one_0.2.2.2.2.2.2.2.2.2.2.2.2.2.2.1 rfl rfl ?_
    refine g_aload_n (pc := 25) 0 dd_M_one_0.2.2.2.2.2.2.2.2.2.2.2.2.2.2.2.1 rfl rfl ?_
    refine g_iload_n (pc := 26) 1 dd_M_one_0.2.2.2.2.2.2.2.2.2.2.2.2.2.2.2.2.1 rfl rfl ?_
    refine g_iload (pc := 27) 4 dd_M_one_0.2.2.2.2.2.2.2.2.2.2.2.2.2.2.2.2.2.1 rfl ?_
    obtain ⟨u47, e46, hf⟩ := bd1_e hf
    obtain ⟨x50, h48, e49, hf⟩ := bd2_e hf
    refine g_callV (pc := 29) (ci := 8) [.int b1, .int b4] (site_of si_M_canBreak (by decide) (by decide)) wd_1164 wd_1166 wp_50 dd_M_one_0.2.2.2.2.2.2.2.2.2.2.2.2.2.2.2.2.2.2.1 rfl e46 (Nat.le_of_ble_eq_true rfl) (fun z => absurd z si_na_M_canBreak) (fun z => absurd z si_na_M_canBreak) (fun z => absurd z si_na_M_canBreak) (c_M_canBreak e49) rfl ?_
    refine g_st [.int x50, .int b3] rfl ?_
    obtain ⟨x53, h51, e52, hf⟩ := bd2_e hf
    refine g_callS (pc := 32) [.int x50] (site_of si_M_flag (by decide) (by decide)) wd_1180 wd_1181 dd_M_one_0.2.2.2.2.2.2.2.2.2.2.2.2.2.2.2.2.2.2.2.1 (Nat.le_of_ble_eq_true rfl) (fun z => absurd z si_na_M_flag) (fun z => absurd z si_na_M_flag) (fun z => absurd z si_na_M_flag) (c_M_flag e52) rfl ?_
    refine g_st [.int x53, .int b3] rfl ?_
    refine g_iload (pc := 35) 4 dd_M_one_0.2.2.2.2.2.2.2.2.2.2.2.2.2.2.2.2.2.2.2.2.1 rfl ?_
    refine g_ishl (pc := 37) dd_M_one_0.2.2.2.2.2.2.2.2.2.2.2.2.2.2.2.2.2.2.2.2.2.1 ?_
    refine g_ior (pc := 38) dd_M_one_0.2.2.2.2.2.2.2.2.2.2.2.2.2.2.2.2.2.2.2.2.2.2.1 ?_
    refine g_istore_n (pc := 39) [(3, .int (b3 ||| (x53 <<< (b4 &&& 31)))), (0, .ref b0), (1, .int b1), (2, .int b2), (4, .int b4)] dd_M_one_0.2.2.2.2.2.2.2.2.2.2.2.2.2.2.2.2.2.2.2.2.2.2.2 rfl (Nat.le_of_ble_eq_true rfl) rfl ?_
    refine g_iinc (pc := 40) 4 (b4 + (1 : Int32)) [(4, .int (b4 + (1 : Int32))), (3, .int (b3 ||| (x53 <<< (b4 &&& 31)))), (0, .ref b0), (1, .int b1), (2, .int b2)] dd_M_one_40.1 rfl rfl (Nat.le_of_ble_eq_true rfl) rfl ?_
    refine g_goto (pc := 43) 15 dd_M_one_40.2.1 (by decide) ?_
    refine g_lv [2, 3, 4, 1, 0] rfl ?_
    exact hrec15 _ _ _ _ _ _ _ _  hf
def f_M_one_15  : Nat → Nat → Int32 → Int32 → Int32 → Int32 → mH → Option (Int32 × mH)
  | 0 => fun _ _ _ _ _ _ => none
  | n + 1 => f_M_one_15b  (f_M_one_15  n)
theorem t_M_one_15 {sc : Nat × (Nat → Int32)}  : ∀ (n : Nat) (b0 : Nat) (b1 : Int32) (b2 : Int32) (b3 : Int32) (b4 : Int32) (h : mH) (r : Int32) (h' : mH) (hf : f_M_one_15  n b0 b1 b2 b3 b4 h = some (r, h')), G sc y_M_one prog_10_method_37_code 5 (some .int) 4 89 15 [(0, .ref b0), (1, .int b1), (2, .int b2), (3, .int b3), (4, .int b4)] [] h (some (.int r)) h'
  | 0, _, _, _, _, _, _, _, _, hf => by cases hf
  | n + 1, _, _, _, _, _, _, _, _, hf => t_M_one_15b  (f_M_one_15  n) (t_M_one_15  n) _ _ _ _ _ _ _ _ hf
def f_M_one_0  (a0 : Nat) (a1 : Int32) (a2 : Int32) (h : mH) : Option (Int32 × mH) :=
  bd1 (kC h a0 8) fun _ =>
  bd2 (f_M_isOne a0 a1 h) fun x5 h3 =>
  if x5 = 0 then
    some (((-1) : Int32), h3)
  else
    f_M_one_15  FU a0 a1 a2 (0 : Int32) (0 : Int32) h3
set_option maxRecDepth 20000 in
theorem t_M_one_0 {sc : Nat × (Nat → Int32)}  (a0 : Nat) (a1 : Int32) (a2 : Int32) (h : mH) (r : Int32) (h' : mH) (hf : f_M_one_0  a0 a1 a2 h = some (r, h')) : G sc y_M_one prog_10_method_37_code 5 (some .int) 4 89 0 [(0, .ref a0), (1, .int a1), (2, .int a2)] [] h (some (.int r)) h' := by
  unfold f_M_one_0 at hf
  refine g_aload_n (pc := 0) 0 dd_M_one_0.1 rfl rfl ?_
  refine g_iload_n (pc := 1) 1 dd_M_one_0.2.1 rfl rfl ?_
  obtain ⟨u2, e1, hf⟩ := bd1_e hf
  obtain ⟨x5, h3, e4, hf⟩ := bd2_e hf
  refine g_callV (pc := 2) (ci := 8) [.int a1] (site_of si_M_isOne (by decide) (by decide)) wd_1160 wd_1162 wp_49 dd_M_one_0.2.2.1 rfl e1 (Nat.le_of_ble_eq_true rfl) (fun z => absurd z si_na_M_isOne) (fun z => absurd z si_na_M_isOne) (fun z => absurd z si_na_M_isOne) (c_M_isOne e4) rfl ?_
  refine g_st [.int x5] rfl ?_
  refine g_ifne (pc := 5) 10 dd_M_one_0.2.2.2.1 (by decide) (fun c6 => ?_) (fun c6 => ?_)
  · replace hf := (if_neg c6).symm.trans hf
    refine g_iconst (pc := 10) (0 : Int32) dd_M_one_0.2.2.2.2.2.2.1 (by decide) ?_
    refine g_istore_n (pc := 11) [(3, .int (0 : Int32)), (0, .ref a0), (1, .int a1), (2, .int a2)] dd_M_one_0.2.2.2.2.2.2.2.1 rfl (Nat.le_of_ble_eq_true rfl) rfl ?_
    refine g_iconst (pc := 12) (0 : Int32) dd_M_one_0.2.2.2.2.2.2.2.2.1 (by decide) ?_
    refine g_istore (pc := 13) [(4, .int (0 : Int32)), (3, .int (0 : Int32)), (0, .ref a0), (1, .int a1), (2, .int a2)] dd_M_one_0.2.2.2.2.2.2.2.2.2.1 (Nat.le_of_ble_eq_true rfl) rfl ?_
    refine g_lv [2, 3, 4, 1, 0] rfl ?_
    exact t_M_one_15  FU _ _ _ _ _ _ _ _  hf
  · replace hf := (if_pos c6).symm.trans hf
    refine g_iconst (pc := 8) ((-1) : Int32) dd_M_one_0.2.2.2.2.1 (by decide) ?_
    obtain ⟨rfl, rfl⟩ := ret2 hf
    exact g_iret (pc := 9) rfl dd_M_one_0.2.2.2.2.2.1
def f_M_one (a0 : Nat) (a1 : Int32) (a2 : Int32) (h : mH) : Option (Int32 × mH) := f_M_one_0 a0 a1 a2 h
theorem c_M_one {sc : Nat × (Nat → Int32)} {a0 : Nat} {a1 : Int32} {a2 : Int32} {h : mH} {r : Int32} {h' : mH} (hf : f_M_one a0 a1 a2 h = some (r, h')) : MM sc y_M_one prog_10_method_37_code 5 (some .int) 4 89 [.ref a0, .int a1, .int a2] h (some (.int r)) h' :=
  mm_of_G si_pn_M (Nat.le_of_ble_eq_true rfl) (t_M_one_0 _ _ _ _ _ _ hf)
/-! M broken (II)I -/
set_option maxRecDepth 100000 in
theorem dd_M_broken_0 : (decode prog_10_method_38_code 0 = .ok (.aload_n 0, 1)) ∧ (decode prog_10_method_38_code 1 = .ok (.iload_n 1, 1)) ∧ (decode prog_10_method_38_code 2 = .ok (.invokevirtual 213, 3)) ∧ (decode prog_10_method_38_code 5 = .ok (.ifCond .eq 20, 3)) ∧ (decode prog_10_method_38_code 8 = .ok (.aload_n 0, 1)) ∧ (decode prog_10_method_38_code 9 = .ok (.iload_n 2, 1)) ∧ (decode prog_10_method_38_code 10 = .ok (.invokevirtual 210, 3)) ∧ (decode prog_10_method_38_code 13 = .ok (.ifCond .eq 12, 3)) ∧ (decode prog_10_method_38_code 16 = .ok (.aload_n 0, 1)) ∧ (decode prog_10_method_38_code 17 = .ok (.iload_n 1, 1)) ∧ (decode prog_10_method_38_code 18 = .ok (.iload_n 2, 1)) ∧ (decode prog_10_method_38_code 19 = .ok (.invokevirtual 188, 3)) ∧ (decode prog_10_method_38_code 22 = .ok (.goto 4, 3)) ∧ (decode prog_10_method_38_code 25 = .ok (.iconst (-1), 1)) ∧ (decode prog_10_method_38_code 26 = .ok (.ireturn, 1)) := by
  have h : List.drop 0 prog_10_method_38_code.data.toList = 0x2a :: _ := rfl
  refine ⟨zq_k_n 42 h rfl (zq_o_42 _), ?_⟩
  replace h := zq_nx1 (q := 1) h rfl
  refine ⟨zq_k_n 27 h rfl (zq_o_27 _), ?_⟩
  replace h := zq_nx1 (q := 2) h rfl
  refine ⟨zq_k_u2 182 (fun z => .invokevirtual z) 213 h rfl (zq_o_182 _) (by decide +kernel), ?_⟩
  replace h := zq_nx3 (q := 5) h rfl
  refine ⟨zq_k_s2 153 (fun z => .ifCond .eq z) 20 h rfl (zq_o_153 _) (by decide +kernel), ?_⟩
  replace h := zq_nx3 (q := 8) h rfl
  refine ⟨zq_k_n 42 h rfl (zq_o_42 _), ?_⟩
  replace h := zq_nx1 (q := 9) h rfl
  refine ⟨zq_k_n 28 h rfl (zq_o_28 _), ?_⟩
  replace h := zq_nx1 (q := 10) h rfl
  refine ⟨zq_k_u2 182 (fun z => .invokevirtual z) 210 h rfl (zq_o_182 _) (by decide +kernel), ?_⟩
  replace h := zq_nx3 (q := 13) h rfl
  refine ⟨zq_k_s2 153 (fun z => .ifCond .eq z) 12 h rfl (zq_o_153 _) (by decide +kernel), ?_⟩
  replace h := zq_nx3 (q := 16) h rfl
  refine ⟨zq_k_n 42 h rfl (zq_o_42 _), ?_⟩
  replace h := zq_nx1 (q := 17) h rfl
  refine ⟨zq_k_n 27 h rfl (zq_o_27 _), ?_⟩
  replace h := zq_nx1 (q := 18) h rfl
  refine ⟨zq_k_n 28 h rfl (zq_o_28 _), ?_⟩
  replace h := zq_nx1 (q := 19) h rfl
  refine ⟨zq_k_u2 182 (fun z => .invokevirtual z) 188 h rfl (zq_o_182 _) (by decide +kernel), ?_⟩
  replace h := zq_nx3 (q := 22) h rfl
  refine ⟨zq_k_s2 167 (fun z => .goto z) 4 h rfl (zq_o_167 _) (by decide +kernel), ?_⟩
  replace h := zq_nx3 (q := 25) h rfl
  refine ⟨zq_k_n 2 h rfl (zq_o_2 _), ?_⟩
  replace h := zq_nx1 (q := 26) h rfl
  exact zq_k_n 172 h rfl (zq_o_172 _)
def f_M_broken_25   (h : mH) : Option (Int32 × mH) :=
  some (((-1) : Int32), h)
set_option maxRecDepth 20000 in
theorem t_M_broken_25 {sc : Nat × (Nat → Int32)}   (h : mH) (r : Int32) (h' : mH) (hf : f_M_broken_25   h = some (r, h')) : G sc y_M_broken prog_10_method_38_code 3 (some .int) 2 46 25 [] [] h (some (.int r)) h' := by
  unfold f_M_broken_25 at hf
  refine g_iconst (pc := 25) ((-1) : Int32) dd_M_broken_0.2.2.2.2.2.2.2.2.2.2.2.2.2.1 (by decide) ?_
  obtain ⟨rfl, rfl⟩ := ret2 hf
  exact g_iret (pc := 26) rfl dd_M_broken_0.2.2.2.2.2.2.2.2.2.2.2.2.2.2
def f_M_broken_0  (a0 : Nat) (a1 : Int32) (a2 : Int32) (h : mH) : Option (Int32 × mH) :=
  bd1 (kC h a0 8) fun _ =>
  bd2 (f_M_isOne a0 a1 h) fun x5 h3 =>
  if x5 = 0 then
    f_M_broken_25  h3
  else
    bd1 (kC h3 a0 8) fun _ =>
    bd2 (f_M_isLaw a0 a2 h3) fun x10 h8 =>
    if x10 = 0 then
      f_M_broken_25  h8
    else
      bd1 (kC h8 a0 8) fun _ =>
      bd2 (f_M_brokenBy a0 a1 a2 h8) fun x15 h13 =>
      some (x15, h13)
set_option maxRecDepth 20000 in
theorem t_M_broken_0 {sc : Nat × (Nat → Int32)}  (a0 : Nat) (a1 : Int32) (a2 : Int32) (h : mH) (r : Int32) (h' : mH) (hf : f_M_broken_0  a0 a1 a2 h = some (r, h')) : G sc y_M_broken prog_10_method_38_code 3 (some .int) 2 46 0 [(0, .ref a0), (1, .int a1), (2, .int a2)] [] h (some (.int r)) h' := by
  unfold f_M_broken_0 at hf
  refine g_aload_n (pc := 0) 0 dd_M_broken_0.1 rfl rfl ?_
  refine g_iload_n (pc := 1) 1 dd_M_broken_0.2.1 rfl rfl ?_
  obtain ⟨u2, e1, hf⟩ := bd1_e hf
  obtain ⟨x5, h3, e4, hf⟩ := bd2_e hf
  refine g_callV (pc := 2) (ci := 8) [.int a1] (site_of si_M_isOne (by decide) (by decide)) wd_1160 wd_1162 wp_49 dd_M_broken_0.2.2.1 rfl e1 (Nat.le_of_ble_eq_true rfl) (fun z => absurd z si_na_M_isOne) (fun z => absurd z si_na_M_isOne) (fun z => absurd z si_na_M_isOne) (c_M_isOne e4) rfl ?_
  refine g_st [.int x5] rfl ?_
  refine g_ifeq (pc := 5) 25 dd_M_broken_0.2.2.2.1 (by decide) (fun c17 => ?_) (fun c17 => ?_)
  · replace hf := (if_pos c17).symm.trans hf
    refine g_lv [] rfl ?_
    exact t_M_broken_25  _ _ _  hf
  · replace hf := (if_neg c17).symm.trans hf
    refine g_aload_n (pc := 8) 0 dd_M_broken_0.2.2.2.2.1 rfl rfl ?_
    refine g_iload_n (pc := 9) 2 dd_M_broken_0.2.2.2.2.2.1 rfl rfl ?_
    obtain ⟨u7, e6, hf⟩ := bd1_e hf
    obtain ⟨x10, h8, e9, hf⟩ := bd2_e hf
    refine g_callV (pc := 10) (ci := 8) [.int a2] (site_of si_M_isLaw (by decide) (by decide)) wd_1136 wd_1138 wp_44 dd_M_broken_0.2.2.2.2.2.2.1 rfl e6 (Nat.le_of_ble_eq_true rfl) (fun z => absurd z si_na_M_isLaw) (fun z => absurd z si_na_M_isLaw) (fun z => absurd z si_na_M_isLaw) (c_M_isLaw e9) rfl ?_
    refine g_st [.int x10] rfl ?_
    refine g_ifeq (pc := 13) 25 dd_M_broken_0.2.2.2.2.2.2.2.1 (by decide) (fun c16 => ?_) (fun c16 => ?_)
    · replace hf := (if_pos c16).symm.trans hf
      refine g_lv [] rfl ?_
      exact t_M_broken_25  _ _ _  hf
    · replace hf := (if_neg c16).symm.trans hf
      refine g_aload_n (pc := 16) 0 dd_M_broken_0.2.2.2.2.2.2.2.2.1 rfl rfl ?_
      refine g_iload_n (pc := 17) 1 dd_M_broken_0.2.2.2.2.2.2.2.2.2.1 rfl rfl ?_
      refine g_iload_n (pc := 18) 2 dd_M_broken_0.2.2.2.2.2.2.2.2.2.2.1 rfl rfl ?_
      obtain ⟨u12, e11, hf⟩ := bd1_e hf
      obtain ⟨x15, h13, e14, hf⟩ := bd2_e hf
      refine g_callV (pc := 19) (ci := 8) [.int a1, .int a2] (site_of si_M_brokenBy (by decide) (by decide)) wd_1148 wd_1150 wp_47 dd_M_broken_0.2.2.2.2.2.2.2.2.2.2.2.1 rfl e11 (Nat.le_of_ble_eq_true rfl) (fun z => absurd z si_na_M_brokenBy) (fun z => absurd z si_na_M_brokenBy) (fun z => absurd z si_na_M_brokenBy) (c_M_brokenBy e14) rfl ?_
      refine g_st [.int x15] rfl ?_
      refine g_goto (pc := 22) 26 dd_M_broken_0.2.2.2.2.2.2.2.2.2.2.2.2.1 (by decide) ?_
      obtain ⟨rfl, rfl⟩ := ret2 hf
      exact g_iret (pc := 26) rfl dd_M_broken_0.2.2.2.2.2.2.2.2.2.2.2.2.2.2
def f_M_broken (a0 : Nat) (a1 : Int32) (a2 : Int32) (h : mH) : Option (Int32 × mH) := f_M_broken_0 a0 a1 a2 h
theorem c_M_broken {sc : Nat × (Nat → Int32)} {a0 : Nat} {a1 : Int32} {a2 : Int32} {h : mH} {r : Int32} {h' : mH} (hf : f_M_broken a0 a1 a2 h = some (r, h')) : MM sc y_M_broken prog_10_method_38_code 3 (some .int) 2 46 [.ref a0, .int a1, .int a2] h (some (.int r)) h' :=
  mm_of_G si_pn_M (Nat.le_of_ble_eq_true rfl) (t_M_broken_0 _ _ _ _ _ _ hf)
/-! M becomes (II)I -/
set_option maxRecDepth 100000 in
theorem dd_M_becomes_0 : (decode prog_10_method_39_code 0 = .ok (.aload_n 0, 1)) ∧ (decode prog_10_method_39_code 1 = .ok (.getfield 7, 3)) ∧ (decode prog_10_method_39_code 4 = .ok (.iload_n 1, 1)) ∧ (decode prog_10_method_39_code 5 = .ok (.iaload, 1)) ∧ (decode prog_10_method_39_code 6 = .ok (.istore_n 3, 1)) ∧ (decode prog_10_method_39_code 7 = .ok (.aload_n 0, 1)) ∧ (decode prog_10_method_39_code 8 = .ok (.getfield 7, 3)) ∧ (decode prog_10_method_39_code 11 = .ok (.iload_n 1, 1)) ∧ (decode prog_10_method_39_code 12 = .ok (.iload_n 2, 1)) ∧ (decode prog_10_method_39_code 13 = .ok (.iastore, 1)) ∧ (decode prog_10_method_39_code 14 = .ok (.iload_n 3, 1)) ∧ (decode prog_10_method_39_code 15 = .ok (.ireturn, 1)) := by
  have h : List.drop 0 prog_10_method_39_code.data.toList = 0x2a :: _ := rfl
  refine ⟨zq_k_n 42 h rfl (zq_o_42 _), ?_⟩
  replace h := zq_nx1 (q := 1) h rfl
  refine ⟨zq_k_u2 180 (fun z => .getfield z) 7 h rfl (zq_o_180 _) (by decide +kernel), ?_⟩
  replace h := zq_nx3 (q := 4) h rfl
  refine ⟨zq_k_n 27 h rfl (zq_o_27 _), ?_⟩
  replace h := zq_nx1 (q := 5) h rfl
  refine ⟨zq_k_n 46 h rfl (zq_o_46 _), ?_⟩
  replace h := zq_nx1 (q := 6) h rfl
  refine ⟨zq_k_n 62 h rfl (zq_o_62 _), ?_⟩
  replace h := zq_nx1 (q := 7) h rfl
  refine ⟨zq_k_n 42 h rfl (zq_o_42 _), ?_⟩
  replace h := zq_nx1 (q := 8) h rfl
  refine ⟨zq_k_u2 180 (fun z => .getfield z) 7 h rfl (zq_o_180 _) (by decide +kernel), ?_⟩
  replace h := zq_nx3 (q := 11) h rfl
  refine ⟨zq_k_n 27 h rfl (zq_o_27 _), ?_⟩
  replace h := zq_nx1 (q := 12) h rfl
  refine ⟨zq_k_n 28 h rfl (zq_o_28 _), ?_⟩
  replace h := zq_nx1 (q := 13) h rfl
  refine ⟨zq_k_n 79 h rfl (zq_o_79 _), ?_⟩
  replace h := zq_nx1 (q := 14) h rfl
  refine ⟨zq_k_n 29 h rfl (zq_o_29 _), ?_⟩
  replace h := zq_nx1 (q := 15) h rfl
  exact zq_k_n 172 h rfl (zq_o_172 _)
def f_M_becomes_0  (a0 : Nat) (a1 : Int32) (a2 : Int32) (h : mH) : Option (Int32 × mH) :=
  bd1 (gR h a0 8 0) fun x1 =>
  bd1 (aI h 0 x1 a1) fun x3 =>
  bd1 (gR h a0 8 0) fun x5 =>
  bd1 (sI h 0 x5 a1 a2) fun h7 =>
  some (x3, h7)
set_option maxRecDepth 20000 in
theorem t_M_becomes_0 {sc : Nat × (Nat → Int32)}  (a0 : Nat) (a1 : Int32) (a2 : Int32) (h : mH) (r : Int32) (h' : mH) (hf : f_M_becomes_0  a0 a1 a2 h = some (r, h')) : G sc y_M_becomes prog_10_method_39_code 4 (some .int) 0 0 0 [(0, .ref a0), (1, .int a1), (2, .int a2)] [] h (some (.int r)) h' := by
  unfold f_M_becomes_0 at hf
  refine g_aload_n (pc := 0) 0 dd_M_becomes_0.1 rfl rfl ?_
  obtain ⟨x1, e2, hf⟩ := bd1_e hf
  refine g_get (pc := 1) (ci := 8) (kk := 0) dd_M_becomes_0.2.1 rfl in_M (by decide) wd_938 (gR_spec e2) ?_
  refine g_iload_n (pc := 4) 1 dd_M_becomes_0.2.2.1 rfl rfl ?_
  obtain ⟨x3, e4, hf⟩ := bd1_e hf
  refine g_iald (pc := 5) dd_M_becomes_0.2.2.2.1 e4 ?_
  refine g_istore_n (pc := 6) [(3, .int x3), (0, .ref a0), (1, .int a1), (2, .int a2)] dd_M_becomes_0.2.2.2.2.1 rfl (Nat.le_of_ble_eq_true rfl) rfl ?_
  refine g_aload_n (pc := 7) 1 dd_M_becomes_0.2.2.2.2.2.1 rfl rfl ?_
  obtain ⟨x5, e6, hf⟩ := bd1_e hf
  refine g_get (pc := 8) (ci := 8) (kk := 0) dd_M_becomes_0.2.2.2.2.2.2.1 rfl in_M (by decide) wd_938 (gR_spec e6) ?_
  refine g_iload_n (pc := 11) 2 dd_M_becomes_0.2.2.2.2.2.2.2.1 rfl rfl ?_
  refine g_iload_n (pc := 12) 3 dd_M_becomes_0.2.2.2.2.2.2.2.2.1 rfl rfl ?_
  obtain ⟨h7, e8, hf⟩ := bd1_e hf
  refine g_iast (pc := 13) dd_M_becomes_0.2.2.2.2.2.2.2.2.2.1 e8 ?_
  refine g_iload_n (pc := 14) 0 dd_M_becomes_0.2.2.2.2.2.2.2.2.2.2.1 rfl rfl ?_
  obtain ⟨rfl, rfl⟩ := ret2 hf
  exact g_iret (pc := 15) rfl dd_M_becomes_0.2.2.2.2.2.2.2.2.2.2.2
def f_M_becomes (a0 : Nat) (a1 : Int32) (a2 : Int32) (h : mH) : Option (Int32 × mH) := f_M_becomes_0 a0 a1 a2 h
theorem c_M_becomes {sc : Nat × (Nat → Int32)} {a0 : Nat} {a1 : Int32} {a2 : Int32} {h : mH} {r : Int32} {h' : mH} (hf : f_M_becomes a0 a1 a2 h = some (r, h')) : MM sc y_M_becomes prog_10_method_39_code 4 (some .int) 0 0 [.ref a0, .int a1, .int a2] h (some (.int r)) h' :=
  mm_of_G si_pn_M (Nat.le_of_ble_eq_true rfl) (t_M_becomes_0 _ _ _ _ _ _ hf)
/-! M quota (II)I -/
set_option maxRecDepth 100000 in
theorem dd_M_quota_0 : (decode prog_10_method_41_code 0 = .ok (.aload_n 0, 1)) ∧ (decode prog_10_method_41_code 1 = .ok (.iload_n 1, 1)) ∧ (decode prog_10_method_41_code 2 = .ok (.invokevirtual 210, 3)) ∧ (decode prog_10_method_41_code 5 = .ok (.ifCond .eq 26, 3)) ∧ (decode prog_10_method_41_code 8 = .ok (.iload_n 2, 1)) ∧ (decode prog_10_method_41_code 9 = .ok (.i2l, 1)) ∧ (decode prog_10_method_41_code 10 = .ok (.lconst 0, 1)) ∧ (decode prog_10_method_41_code 11 = .ok (.ldc2_w 224, 3)) ∧ (decode prog_10_method_41_code 14 = .ok (.invokestatic 114, 3)) ∧ (decode prog_10_method_41_code 17 = .ok (.ifCond .eq 14, 3)) ∧ (decode prog_10_method_41_code 20 = .ok (.aload_n 0, 1)) ∧ (decode prog_10_method_41_code 21 = .ok (.iconst 0, 1)) ∧ (decode prog_10_method_41_code 22 = .ok (.iload_n 1, 1)) ∧ (decode prog_10_method_41_code 23 = .ok (.iadd, 1)) ∧ (decode prog_10_method_41_code 24 = .ok (.iload_n 2, 1)) ∧ (decode prog_10_method_41_code 25 = .ok (.invokevirtual 226, 3)) ∧ (decode prog_10_method_41_code 28 = .ok (.goto 4, 3)) ∧ (decode prog_10_method_41_code 31 = .ok (.iconst (-1), 1)) ∧ (decode prog_10_method_41_code 32 = .ok (.ireturn, 1)) := by
  have h : List.drop 0 prog_10_method_41_code.data.toList = 0x2a :: _ := rfl
  refine ⟨zq_k_n 42 h rfl (zq_o_42 _), ?_⟩
  replace h := zq_nx1 (q := 1) h rfl
  refine ⟨zq_k_n 27 h rfl (zq_o_27 _), ?_⟩
  replace h := zq_nx1 (q := 2) h rfl
  refine ⟨zq_k_u2 182 (fun z => .invokevirtual z) 210 h rfl (zq_o_182 _) (by decide +kernel), ?_⟩
  replace h := zq_nx3 (q := 5) h rfl
  refine ⟨zq_k_s2 153 (fun z => .ifCond .eq z) 26 h rfl (zq_o_153 _) (by decide +kernel), ?_⟩
  replace h := zq_nx3 (q := 8) h rfl
  refine ⟨zq_k_n 28 h rfl (zq_o_28 _), ?_⟩
  replace h := zq_nx1 (q := 9) h rfl
  refine ⟨zq_k_n 133 h rfl (zq_o_133 _), ?_⟩
  replace h := zq_nx1 (q := 10) h rfl
  refine ⟨zq_k_n 9 h rfl (zq_o_9 _), ?_⟩
  replace h := zq_nx1 (q := 11) h rfl
  refine ⟨zq_k_u2 20 (fun z => .ldc2_w z) 224 h rfl (zq_o_20 _) (by decide +kernel), ?_⟩
  replace h := zq_nx3 (q := 14) h rfl
  refine ⟨zq_k_u2 184 (fun z => .invokestatic z) 114 h rfl (zq_o_184 _) (by decide +kernel), ?_⟩
  replace h := zq_nx3 (q := 17) h rfl
  refine ⟨zq_k_s2 153 (fun z => .ifCond .eq z) 14 h rfl (zq_o_153 _) (by decide +kernel), ?_⟩
  replace h := zq_nx3 (q := 20) h rfl
  refine ⟨zq_k_n 42 h rfl (zq_o_42 _), ?_⟩
  replace h := zq_nx1 (q := 21) h rfl
  refine ⟨zq_k_n 3 h rfl (zq_o_3 _), ?_⟩
  replace h := zq_nx1 (q := 22) h rfl
  refine ⟨zq_k_n 27 h rfl (zq_o_27 _), ?_⟩
  replace h := zq_nx1 (q := 23) h rfl
  refine ⟨zq_k_n 96 h rfl (zq_o_96 _), ?_⟩
  replace h := zq_nx1 (q := 24) h rfl
  refine ⟨zq_k_n 28 h rfl (zq_o_28 _), ?_⟩
  replace h := zq_nx1 (q := 25) h rfl
  refine ⟨zq_k_u2 182 (fun z => .invokevirtual z) 226 h rfl (zq_o_182 _) (by decide +kernel), ?_⟩
  replace h := zq_nx3 (q := 28) h rfl
  refine ⟨zq_k_s2 167 (fun z => .goto z) 4 h rfl (zq_o_167 _) (by decide +kernel), ?_⟩
  replace h := zq_nx3 (q := 31) h rfl
  refine ⟨zq_k_n 2 h rfl (zq_o_2 _), ?_⟩
  replace h := zq_nx1 (q := 32) h rfl
  exact zq_k_n 172 h rfl (zq_o_172 _)
def f_M_quota_31   (h : mH) : Option (Int32 × mH) :=
  some (((-1) : Int32), h)
set_option maxRecDepth 20000 in
theorem t_M_quota_31 {sc : Nat × (Nat → Int32)}   (h : mH) (r : Int32) (h' : mH) (hf : f_M_quota_31   h = some (r, h')) : G sc y_M_quota prog_10_method_41_code 3 (some .int) 2 46 31 [] [] h (some (.int r)) h' := by
  unfold f_M_quota_31 at hf
  refine g_iconst (pc := 31) ((-1) : Int32) dd_M_quota_0.2.2.2.2.2.2.2.2.2.2.2.2.2.2.2.2.2.1 (by decide) ?_
  obtain ⟨rfl, rfl⟩ := ret2 hf
  exact g_iret (pc := 32) rfl dd_M_quota_0.2.2.2.2.2.2.2.2.2.2.2.2.2.2.2.2.2.2
def f_M_quota_0  (a0 : Nat) (a1 : Int32) (a2 : Int32) (h : mH) : Option (Int32 × mH) :=
  bd1 (kC h a0 8) fun _ =>
  bd2 (f_M_isLaw a0 a1 h) fun x5 h3 =>
  if x5 = 0 then
    f_M_quota_31  h3
  else
    bd2 (f_M_in a2.toInt64 (0 : Int64) (9 : Int64) h3) fun x8 h6 =>
    if x8 = 0 then
      f_M_quota_31  h6
    else
      bd1 (kC h6 a0 8) fun _ =>
      bd2 (f_M_becomes a0 ((0 : Int32) + a1) a2 h6) fun x13 h11 =>
      some (x13, h11)
set_option maxRecDepth 20000 in
theorem t_M_quota_0 {sc : Nat × (Nat → Int32)}  (a0 : Nat) (a1 : Int32) (a2 : Int32) (h : mH) (r : Int32) (h' : mH) (hf : f_M_quota_0  a0 a1 a2 h = some (r, h')) : G sc y_M_quota prog_10_method_41_code 3 (some .int) 2 46 0 [(0, .ref a0), (1, .int a1), (2, .int a2)] [] h (some (.int r)) h' := by
  unfold f_M_quota_0 at hf
  refine g_aload_n (pc := 0) 0 dd_M_quota_0.1 rfl rfl ?_
  refine g_iload_n (pc := 1) 1 dd_M_quota_0.2.1 rfl rfl ?_
  obtain ⟨u2, e1, hf⟩ := bd1_e hf
  obtain ⟨x5, h3, e4, hf⟩ := bd2_e hf
  refine g_callV (pc := 2) (ci := 8) [.int a1] (site_of si_M_isLaw (by decide) (by decide)) wd_1136 wd_1138 wp_44 dd_M_quota_0.2.2.1 rfl e1 (Nat.le_of_ble_eq_true rfl) (fun z => absurd z si_na_M_isLaw) (fun z => absurd z si_na_M_isLaw) (fun z => absurd z si_na_M_isLaw) (c_M_isLaw e4) rfl ?_
  refine g_st [.int x5] rfl ?_
  refine g_ifeq (pc := 5) 31 dd_M_quota_0.2.2.2.1 (by decide) (fun c15 => ?_) (fun c15 => ?_)
  · replace hf := (if_pos c15).symm.trans hf
    refine g_lv [] rfl ?_
    exact t_M_quota_31  _ _ _  hf
  · replace hf := (if_neg c15).symm.trans hf
    refine g_iload_n (pc := 8) 2 dd_M_quota_0.2.2.2.2.1 rfl rfl ?_
    refine g_i2l (pc := 9) dd_M_quota_0.2.2.2.2.2.1 ?_
    refine g_lconst (pc := 10) (0 : Int64) dd_M_quota_0.2.2.2.2.2.2.1 (by decide) ?_
    refine g_ldc2 (pc := 11) (9 : Int64) dd_M_quota_0.2.2.2.2.2.2.2.1 wd_1191 ?_
    obtain ⟨x8, h6, e7, hf⟩ := bd2_e hf
    refine g_callS (pc := 14) [.long a2.toInt64, .long (0 : Int64), .long (9 : Int64)] (site_of si_M_in (by decide) (by decide)) wd_1061 wd_1062 dd_M_quota_0.2.2.2.2.2.2.2.2.1 (Nat.le_of_ble_eq_true rfl) (fun z => absurd z si_na_M_in) (fun z => absurd z si_na_M_in) (fun z => absurd z si_na_M_in) (c_M_in e7) rfl ?_
    refine g_st [.int x8] rfl ?_
    refine g_ifeq (pc := 17) 31 dd_M_quota_0.2.2.2.2.2.2.2.2.2.1 (by decide) (fun c14 => ?_) (fun c14 => ?_)
    · replace hf := (if_pos c14).symm.trans hf
      refine g_lv [] rfl ?_
      exact t_M_quota_31  _ _ _  hf
    · replace hf := (if_neg c14).symm.trans hf
      refine g_aload_n (pc := 20) 0 dd_M_quota_0.2.2.2.2.2.2.2.2.2.2.1 rfl rfl ?_
      refine g_iconst (pc := 21) (0 : Int32) dd_M_quota_0.2.2.2.2.2.2.2.2.2.2.2.1 (by decide) ?_
      refine g_iload_n (pc := 22) 1 dd_M_quota_0.2.2.2.2.2.2.2.2.2.2.2.2.1 rfl rfl ?_
      refine g_iadd (pc := 23) dd_M_quota_0.2.2.2.2.2.2.2.2.2.2.2.2.2.1 ?_
      refine g_iload_n (pc := 24) 2 dd_M_quota_0.2.2.2.2.2.2.2.2.2.2.2.2.2.2.1 rfl rfl ?_
      obtain ⟨u10, e9, hf⟩ := bd1_e hf
      obtain ⟨x13, h11, e12, hf⟩ := bd2_e hf
      refine g_callV (pc := 25) (ci := 8) [.int ((0 : Int32) + a1), .int a2] (site_of si_M_becomes (by decide) (by decide)) wd_1192 wd_1194 wp_54 dd_M_quota_0.2.2.2.2.2.2.2.2.2.2.2.2.2.2.2.1 rfl e9 (Nat.le_of_ble_eq_true rfl) (fun z => absurd z si_na_M_becomes) (fun z => absurd z si_na_M_becomes) (fun z => absurd z si_na_M_becomes) (c_M_becomes e12) rfl ?_
      refine g_st [.int x13] rfl ?_
      refine g_goto (pc := 28) 32 dd_M_quota_0.2.2.2.2.2.2.2.2.2.2.2.2.2.2.2.2.1 (by decide) ?_
      obtain ⟨rfl, rfl⟩ := ret2 hf
      exact g_iret (pc := 32) rfl dd_M_quota_0.2.2.2.2.2.2.2.2.2.2.2.2.2.2.2.2.2.2
def f_M_quota (a0 : Nat) (a1 : Int32) (a2 : Int32) (h : mH) : Option (Int32 × mH) := f_M_quota_0 a0 a1 a2 h
theorem c_M_quota {sc : Nat × (Nat → Int32)} {a0 : Nat} {a1 : Int32} {a2 : Int32} {h : mH} {r : Int32} {h' : mH} (hf : f_M_quota a0 a1 a2 h = some (r, h')) : MM sc y_M_quota prog_10_method_41_code 3 (some .int) 2 46 [.ref a0, .int a1, .int a2] h (some (.int r)) h' :=
  mm_of_G si_pn_M (Nat.le_of_ble_eq_true rfl) (t_M_quota_0 _ _ _ _ _ _ hf)
/-! M carry (II)I -/
set_option maxRecDepth 100000 in
theorem dd_M_carry_0 : (decode prog_10_method_42_code 0 = .ok (.aload_n 0, 1)) ∧ (decode prog_10_method_42_code 1 = .ok (.iload_n 1, 1)) ∧ (decode prog_10_method_42_code 2 = .ok (.invokevirtual 210, 3)) ∧ (decode prog_10_method_42_code 5 = .ok (.ifCond .eq 33, 3)) ∧ (decode prog_10_method_42_code 8 = .ok (.iload_n 2, 1)) ∧ (decode prog_10_method_42_code 9 = .ok (.iload_n 1, 1)) ∧ (decode prog_10_method_42_code 10 = .ok (.if_icmp .eq 28, 3)) ∧ (decode prog_10_method_42_code 13 = .ok (.iload_n 2, 1)) ∧ (decode prog_10_method_42_code 14 = .ok (.bipush (-4), 2)) ∧ (decode prog_10_method_42_code 16 = .ok (.if_icmp .eq 11, 3)) ∧ (decode prog_10_method_42_code 19 = .ok (.aload_n 0, 1)) ∧ (decode prog_10_method_42_code 20 = .ok (.iload_n 2, 1)) ∧ (decode prog_10_method_42_code 21 = .ok (.invokevirtual 210, 3)) ∧ (decode prog_10_method_42_code 24 = .ok (.ifCond .eq 14, 3)) ∧ (decode prog_10_method_42_code 27 = .ok (.aload_n 0, 1)) ∧ (decode prog_10_method_42_code 28 = .ok (.iconst 5, 1)) ∧ (decode prog_10_method_42_code 29 = .ok (.iload_n 1, 1)) ∧ (decode prog_10_method_42_code 30 = .ok (.iadd, 1)) ∧ (decode prog_10_method_42_code 31 = .ok (.iload_n 2, 1)) ∧ (decode prog_10_method_42_code 32 = .ok (.invokevirtual 226, 3)) ∧ (decode prog_10_method_42_code 35 = .ok (.goto 4, 3)) ∧ (decode prog_10_method_42_code 38 = .ok (.iconst (-1), 1)) ∧ (decode prog_10_method_42_code 39 = .ok (.ireturn, 1)) := by
  have h : List.drop 0 prog_10_method_42_code.data.toList = 0x2a :: _ := rfl
  refine ⟨zq_k_n 42 h rfl (zq_o_42 _), ?_⟩
  replace h := zq_nx1 (q := 1) h rfl
  refine ⟨zq_k_n 27 h rfl (zq_o_27 _), ?_⟩
  replace h := zq_nx1 (q := 2) h rfl
  refine ⟨zq_k_u2 182 (fun z => .invokevirtual z) 210 h rfl (zq_o_182 _) (by decide +kernel), ?_⟩
  replace h := zq_nx3 (q := 5) h rfl
  refine ⟨zq_k_s2 153 (fun z => .ifCond .eq z) 33 h rfl (zq_o_153 _) (by decide +kernel), ?_⟩
  replace h := zq_nx3 (q := 8) h rfl
  refine ⟨zq_k_n 28 h rfl (zq_o_28 _), ?_⟩
  replace h := zq_nx1 (q := 9) h rfl
  refine ⟨zq_k_n 27 h rfl (zq_o_27 _), ?_⟩
  replace h := zq_nx1 (q := 10) h rfl
  refine ⟨zq_k_s2 159 (fun z => .if_icmp .eq z) 28 h rfl (zq_o_159 _) (by decide +kernel), ?_⟩
  replace h := zq_nx3 (q := 13) h rfl
  refine ⟨zq_k_n 28 h rfl (zq_o_28 _), ?_⟩
  replace h := zq_nx1 (q := 14) h rfl
  refine ⟨zq_k_s1 16 (fun z => .bipush z) (-4) h rfl (zq_o_16 _) (by decide +kernel), ?_⟩
  replace h := zq_nx2 (q := 16) h rfl
  refine ⟨zq_k_s2 159 (fun z => .if_icmp .eq z) 11 h rfl (zq_o_159 _) (by decide +kernel), ?_⟩
  replace h := zq_nx3 (q := 19) h rfl
  refine ⟨zq_k_n 42 h rfl (zq_o_42 _), ?_⟩
  replace h := zq_nx1 (q := 20) h rfl
  refine ⟨zq_k_n 28 h rfl (zq_o_28 _), ?_⟩
  replace h := zq_nx1 (q := 21) h rfl
  refine ⟨zq_k_u2 182 (fun z => .invokevirtual z) 210 h rfl (zq_o_182 _) (by decide +kernel), ?_⟩
  replace h := zq_nx3 (q := 24) h rfl
  refine ⟨zq_k_s2 153 (fun z => .ifCond .eq z) 14 h rfl (zq_o_153 _) (by decide +kernel), ?_⟩
  replace h := zq_nx3 (q := 27) h rfl
  refine ⟨zq_k_n 42 h rfl (zq_o_42 _), ?_⟩
  replace h := zq_nx1 (q := 28) h rfl
  refine ⟨zq_k_n 8 h rfl (zq_o_8 _), ?_⟩
  replace h := zq_nx1 (q := 29) h rfl
  refine ⟨zq_k_n 27 h rfl (zq_o_27 _), ?_⟩
  replace h := zq_nx1 (q := 30) h rfl
  refine ⟨zq_k_n 96 h rfl (zq_o_96 _), ?_⟩
  replace h := zq_nx1 (q := 31) h rfl
  refine ⟨zq_k_n 28 h rfl (zq_o_28 _), ?_⟩
  replace h := zq_nx1 (q := 32) h rfl
  refine ⟨zq_k_u2 182 (fun z => .invokevirtual z) 226 h rfl (zq_o_182 _) (by decide +kernel), ?_⟩
  replace h := zq_nx3 (q := 35) h rfl
  refine ⟨zq_k_s2 167 (fun z => .goto z) 4 h rfl (zq_o_167 _) (by decide +kernel), ?_⟩
  replace h := zq_nx3 (q := 38) h rfl
  refine ⟨zq_k_n 2 h rfl (zq_o_2 _), ?_⟩
  replace h := zq_nx1 (q := 39) h rfl
  exact zq_k_n 172 h rfl (zq_o_172 _)
def f_M_carry_38   (h : mH) : Option (Int32 × mH) :=
  some (((-1) : Int32), h)
set_option maxRecDepth 20000 in
theorem t_M_carry_38 {sc : Nat × (Nat → Int32)}   (h : mH) (r : Int32) (h' : mH) (hf : f_M_carry_38   h = some (r, h')) : G sc y_M_carry prog_10_method_42_code 3 (some .int) 2 46 38 [] [] h (some (.int r)) h' := by
  unfold f_M_carry_38 at hf
  refine g_iconst (pc := 38) ((-1) : Int32) dd_M_carry_0.2.2.2.2.2.2.2.2.2.2.2.2.2.2.2.2.2.2.2.2.2.1 (by decide) ?_
  obtain ⟨rfl, rfl⟩ := ret2 hf
  exact g_iret (pc := 39) rfl dd_M_carry_0.2.2.2.2.2.2.2.2.2.2.2.2.2.2.2.2.2.2.2.2.2.2
def f_M_carry_27  (b0 : Nat) (b1 : Int32) (b2 : Int32) (h : mH) : Option (Int32 × mH) :=
  bd1 (kC h b0 8) fun _ =>
  bd2 (f_M_becomes b0 ((5 : Int32) + b1) b2 h) fun x19 h17 =>
  some (x19, h17)
set_option maxRecDepth 20000 in
theorem t_M_carry_27 {sc : Nat × (Nat → Int32)}  (b0 : Nat) (b1 : Int32) (b2 : Int32) (h : mH) (r : Int32) (h' : mH) (hf : f_M_carry_27  b0 b1 b2 h = some (r, h')) : G sc y_M_carry prog_10_method_42_code 3 (some .int) 2 46 27 [(0, .ref b0), (1, .int b1), (2, .int b2)] [] h (some (.int r)) h' := by
  unfold f_M_carry_27 at hf
  refine g_aload_n (pc := 27) 0 dd_M_carry_0.2.2.2.2.2.2.2.2.2.2.2.2.2.2.1 rfl rfl ?_
  refine g_iconst (pc := 28) (5 : Int32) dd_M_carry_0.2.2.2.2.2.2.2.2.2.2.2.2.2.2.2.1 (by decide) ?_
  refine g_iload_n (pc := 29) 1 dd_M_carry_0.2.2.2.2.2.2.2.2.2.2.2.2.2.2.2.2.1 rfl rfl ?_
  refine g_iadd (pc := 30) dd_M_carry_0.2.2.2.2.2.2.2.2.2.2.2.2.2.2.2.2.2.1 ?_
  refine g_iload_n (pc := 31) 2 dd_M_carry_0.2.2.2.2.2.2.2.2.2.2.2.2.2.2.2.2.2.2.1 rfl rfl ?_
  obtain ⟨u16, e15, hf⟩ := bd1_e hf
  obtain ⟨x19, h17, e18, hf⟩ := bd2_e hf
  refine g_callV (pc := 32) (ci := 8) [.int ((5 : Int32) + b1), .int b2] (site_of si_M_becomes (by decide) (by decide)) wd_1192 wd_1194 wp_54 dd_M_carry_0.2.2.2.2.2.2.2.2.2.2.2.2.2.2.2.2.2.2.2.1 rfl e15 (Nat.le_of_ble_eq_true rfl) (fun z => absurd z si_na_M_becomes) (fun z => absurd z si_na_M_becomes) (fun z => absurd z si_na_M_becomes) (c_M_becomes e18) rfl ?_
  refine g_st [.int x19] rfl ?_
  refine g_goto (pc := 35) 39 dd_M_carry_0.2.2.2.2.2.2.2.2.2.2.2.2.2.2.2.2.2.2.2.2.1 (by decide) ?_
  obtain ⟨rfl, rfl⟩ := ret2 hf
  exact g_iret (pc := 39) rfl dd_M_carry_0.2.2.2.2.2.2.2.2.2.2.2.2.2.2.2.2.2.2.2.2.2.2
def f_M_carry_0  (a0 : Nat) (a1 : Int32) (a2 : Int32) (h : mH) : Option (Int32 × mH) :=
  bd1 (kC h a0 8) fun _ =>
  bd2 (f_M_isLaw a0 a1 h) fun x5 h3 =>
  if x5 = 0 then
    f_M_carry_38  h3
  else
    if a2 = a1 then
      f_M_carry_38  h3
    else
      if a2 = ((-4) : Int32) then
        f_M_carry_27  a0 a1 a2 h3
      else
        bd1 (kC h3 a0 8) fun _ =>
        bd2 (f_M_isLaw a0 a2 h3) fun x10 h8 =>
        if x10 = 0 then
          f_M_carry_38  h8
        else
          f_M_carry_27  a0 a1 a2 h8
set_option maxRecDepth 20000 in
theorem t_M_carry_0 {sc : Nat × (Nat → Int32)}  (a0 : Nat) (a1 : Int32) (a2 : Int32) (h : mH) (r : Int32) (h' : mH) (hf : f_M_carry_0  a0 a1 a2 h = some (r, h')) : G sc y_M_carry prog_10_method_42_code 3 (some .int) 2 46 0 [(0, .ref a0), (1, .int a1), (2, .int a2)] [] h (some (.int r)) h' := by
  unfold f_M_carry_0 at hf
  refine g_aload_n (pc := 0) 0 dd_M_carry_0.1 rfl rfl ?_
  refine g_iload_n (pc := 1) 1 dd_M_carry_0.2.1 rfl rfl ?_
  obtain ⟨u2, e1, hf⟩ := bd1_e hf
  obtain ⟨x5, h3, e4, hf⟩ := bd2_e hf
  refine g_callV (pc := 2) (ci := 8) [.int a1] (site_of si_M_isLaw (by decide) (by decide)) wd_1136 wd_1138 wp_44 dd_M_carry_0.2.2.1 rfl e1 (Nat.le_of_ble_eq_true rfl) (fun z => absurd z si_na_M_isLaw) (fun z => absurd z si_na_M_isLaw) (fun z => absurd z si_na_M_isLaw) (c_M_isLaw e4) rfl ?_
  refine g_st [.int x5] rfl ?_
  refine g_ifeq (pc := 5) 38 dd_M_carry_0.2.2.2.1 (by decide) (fun c14 => ?_) (fun c14 => ?_)
  · replace hf := (if_pos c14).symm.trans hf
    refine g_lv [] rfl ?_
    exact t_M_carry_38  _ _ _  hf
  · replace hf := (if_neg c14).symm.trans hf
    refine g_iload_n (pc := 8) 2 dd_M_carry_0.2.2.2.2.1 rfl rfl ?_
    refine g_iload_n (pc := 9) 1 dd_M_carry_0.2.2.2.2.2.1 rfl rfl ?_
    refine g_icmpeq (pc := 10) 38 dd_M_carry_0.2.2.2.2.2.2.1 (by decide) (fun c13 => ?_) (fun c13 => ?_)
    · replace hf := (if_pos c13).symm.trans hf
      refine g_lv [] rfl ?_
      exact t_M_carry_38  _ _ _  hf
    · replace hf := (if_neg c13).symm.trans hf
      refine g_iload_n (pc := 13) 2 dd_M_carry_0.2.2.2.2.2.2.2.1 rfl rfl ?_
      refine g_bipush (pc := 14) ((-4) : Int32) dd_M_carry_0.2.2.2.2.2.2.2.2.1 (by decide) ?_
      refine g_icmpeq (pc := 16) 27 dd_M_carry_0.2.2.2.2.2.2.2.2.2.1 (by decide) (fun c12 => ?_) (fun c12 => ?_)
      · replace hf := (if_pos c12).symm.trans hf
        refine g_lv [0, 1, 2] rfl ?_
        exact t_M_carry_27  _ _ _ _ _ _  hf
      · replace hf := (if_neg c12).symm.trans hf
        refine g_aload_n (pc := 19) 0 dd_M_carry_0.2.2.2.2.2.2.2.2.2.2.1 rfl rfl ?_
        refine g_iload_n (pc := 20) 2 dd_M_carry_0.2.2.2.2.2.2.2.2.2.2.2.1 rfl rfl ?_
        obtain ⟨u7, e6, hf⟩ := bd1_e hf
        obtain ⟨x10, h8, e9, hf⟩ := bd2_e hf
        refine g_callV (pc := 21) (ci := 8) [.int a2] (site_of si_M_isLaw (by decide) (by decide)) wd_1136 wd_1138 wp_44 dd_M_carry_0.2.2.2.2.2.2.2.2.2.2.2.2.1 rfl e6 (Nat.le_of_ble_eq_true rfl) (fun z => absurd z si_na_M_isLaw) (fun z => absurd z si_na_M_isLaw) (fun z => absurd z si_na_M_isLaw) (c_M_isLaw e9) rfl ?_
        refine g_st [.int x10] rfl ?_
        refine g_ifeq (pc := 24) 38 dd_M_carry_0.2.2.2.2.2.2.2.2.2.2.2.2.2.1 (by decide) (fun c11 => ?_) (fun c11 => ?_)
        · replace hf := (if_pos c11).symm.trans hf
          refine g_lv [] rfl ?_
          exact t_M_carry_38  _ _ _  hf
        · replace hf := (if_neg c11).symm.trans hf
          refine g_lv [0, 1, 2] rfl ?_
          exact t_M_carry_27  _ _ _ _ _ _  hf
def f_M_carry (a0 : Nat) (a1 : Int32) (a2 : Int32) (h : mH) : Option (Int32 × mH) := f_M_carry_0 a0 a1 a2 h
theorem c_M_carry {sc : Nat × (Nat → Int32)} {a0 : Nat} {a1 : Int32} {a2 : Int32} {h : mH} {r : Int32} {h' : mH} (hf : f_M_carry a0 a1 a2 h = some (r, h')) : MM sc y_M_carry prog_10_method_42_code 3 (some .int) 2 46 [.ref a0, .int a1, .int a2] h (some (.int r)) h' :=
  mm_of_G si_pn_M (Nat.le_of_ble_eq_true rfl) (t_M_carry_0 _ _ _ _ _ _ hf)
/-! M becomesBit (IIZ)I -/
set_option maxRecDepth 100000 in
theorem dd_M_becomesBit_0 : (decode prog_10_method_40_code 0 = .ok (.aload_n 0, 1)) ∧ (decode prog_10_method_40_code 1 = .ok (.getfield 7, 3)) ∧ (decode prog_10_method_40_code 4 = .ok (.iload_n 1, 1)) ∧ (decode prog_10_method_40_code 5 = .ok (.iaload, 1)) ∧ (decode prog_10_method_40_code 6 = .ok (.iload_n 2, 1)) ∧ (decode prog_10_method_40_code 7 = .ok (.ishr, 1)) ∧ (decode prog_10_method_40_code 8 = .ok (.iconst 1, 1)) ∧ (decode prog_10_method_40_code 9 = .ok (.iand, 1)) ∧ (decode prog_10_method_40_code 10 = .ok (.istore 4, 2)) ∧ (decode prog_10_method_40_code 12 = .ok (.aload_n 0, 1)) ∧ (decode prog_10_method_40_code 13 = .ok (.getfield 7, 3)) ∧ (decode prog_10_method_40_code 16 = .ok (.iload_n 1, 1)) ∧ (decode prog_10_method_40_code 17 = .ok (.iload_n 3, 1)) ∧ (decode prog_10_method_40_code 18 = .ok (.ifCond .eq 16, 3)) ∧ (decode prog_10_method_40_code 21 = .ok (.aload_n 0, 1)) ∧ (decode prog_10_method_40_code 22 = .ok (.getfield 7, 3)) ∧ (decode prog_10_method_40_code 25 = .ok (.iload_n 1, 1)) ∧ (decode prog_10_method_40_code 26 = .ok (.iaload, 1)) ∧ (decode prog_10_method_40_code 27 = .ok (.iconst 1, 1)) ∧ (decode prog_10_method_40_code 28 = .ok (.iload_n 2, 1)) ∧ (decode prog_10_method_40_code 29 = .ok (.ishl, 1)) ∧ (decode prog_10_method_40_code 30 = .ok (.ior, 1)) ∧ (decode prog_10_method_40_code 31 = .ok (.goto 15, 3)) ∧ (decode prog_10_method_40_code 34 = .ok (.aload_n 0, 1)) := by
  have h : List.drop 0 prog_10_method_40_code.data.toList = 0x2a :: _ := rfl
  refine ⟨zq_k_n 42 h rfl (zq_o_42 _), ?_⟩
  replace h := zq_nx1 (q := 1) h rfl
  refine ⟨zq_k_u2 180 (fun z => .getfield z) 7 h rfl (zq_o_180 _) (by decide +kernel), ?_⟩
  replace h := zq_nx3 (q := 4) h rfl
  refine ⟨zq_k_n 27 h rfl (zq_o_27 _), ?_⟩
  replace h := zq_nx1 (q := 5) h rfl
  refine ⟨zq_k_n 46 h rfl (zq_o_46 _), ?_⟩
  replace h := zq_nx1 (q := 6) h rfl
  refine ⟨zq_k_n 28 h rfl (zq_o_28 _), ?_⟩
  replace h := zq_nx1 (q := 7) h rfl
  refine ⟨zq_k_n 122 h rfl (zq_o_122 _), ?_⟩
  replace h := zq_nx1 (q := 8) h rfl
  refine ⟨zq_k_n 4 h rfl (zq_o_4 _), ?_⟩
  replace h := zq_nx1 (q := 9) h rfl
  refine ⟨zq_k_n 126 h rfl (zq_o_126 _), ?_⟩
  replace h := zq_nx1 (q := 10) h rfl
  refine ⟨zq_k_u1 54 (fun z => .istore z) 4 h rfl (zq_o_54 _) (by decide +kernel), ?_⟩
  replace h := zq_nx2 (q := 12) h rfl
  refine ⟨zq_k_n 42 h rfl (zq_o_42 _), ?_⟩
  replace h := zq_nx1 (q := 13) h rfl
  refine ⟨zq_k_u2 180 (fun z => .getfield z) 7 h rfl (zq_o_180 _) (by decide +kernel), ?_⟩
  replace h := zq_nx3 (q := 16) h rfl
  refine ⟨zq_k_n 27 h rfl (zq_o_27 _), ?_⟩
  replace h := zq_nx1 (q := 17) h rfl
  refine ⟨zq_k_n 29 h rfl (zq_o_29 _), ?_⟩
  replace h := zq_nx1 (q := 18) h rfl
  refine ⟨zq_k_s2 153 (fun z => .ifCond .eq z) 16 h rfl (zq_o_153 _) (by decide +kernel), ?_⟩
  replace h := zq_nx3 (q := 21) h rfl
  refine ⟨zq_k_n 42 h rfl (zq_o_42 _), ?_⟩
  replace h := zq_nx1 (q := 22) h rfl
  refine ⟨zq_k_u2 180 (fun z => .getfield z) 7 h rfl (zq_o_180 _) (by decide +kernel), ?_⟩
  replace h := zq_nx3 (q := 25) h rfl
  refine ⟨zq_k_n 27 h rfl (zq_o_27 _), ?_⟩
  replace h := zq_nx1 (q := 26) h rfl
  refine ⟨zq_k_n 46 h rfl (zq_o_46 _), ?_⟩
  replace h := zq_nx1 (q := 27) h rfl
  refine ⟨zq_k_n 4 h rfl (zq_o_4 _), ?_⟩
  replace h := zq_nx1 (q := 28) h rfl
  refine ⟨zq_k_n 28 h rfl (zq_o_28 _), ?_⟩
  replace h := zq_nx1 (q := 29) h rfl
  refine ⟨zq_k_n 120 h rfl (zq_o_120 _), ?_⟩
  replace h := zq_nx1 (q := 30) h rfl
  refine ⟨zq_k_n 128 h rfl (zq_o_128 _), ?_⟩
  replace h := zq_nx1 (q := 31) h rfl
  refine ⟨zq_k_s2 167 (fun z => .goto z) 15 h rfl (zq_o_167 _) (by decide +kernel), ?_⟩
  replace h := zq_nx3 (q := 34) h rfl
  exact zq_k_n 42 h rfl (zq_o_42 _)
set_option maxRecDepth 100000 in
theorem dd_M_becomesBit_35 : (decode prog_10_method_40_code 35 = .ok (.getfield 7, 3)) ∧ (decode prog_10_method_40_code 38 = .ok (.iload_n 1, 1)) ∧ (decode prog_10_method_40_code 39 = .ok (.iaload, 1)) ∧ (decode prog_10_method_40_code 40 = .ok (.iconst 1, 1)) ∧ (decode prog_10_method_40_code 41 = .ok (.iload_n 2, 1)) ∧ (decode prog_10_method_40_code 42 = .ok (.ishl, 1)) ∧ (decode prog_10_method_40_code 43 = .ok (.iconst (-1), 1)) ∧ (decode prog_10_method_40_code 44 = .ok (.ixor, 1)) ∧ (decode prog_10_method_40_code 45 = .ok (.iand, 1)) ∧ (decode prog_10_method_40_code 46 = .ok (.iastore, 1)) ∧ (decode prog_10_method_40_code 47 = .ok (.iload 4, 2)) ∧ (decode prog_10_method_40_code 49 = .ok (.ireturn, 1)) := by
  have h : List.drop 35 prog_10_method_40_code.data.toList = 0xb4 :: _ := rfl
  refine ⟨zq_k_u2 180 (fun z => .getfield z) 7 h rfl (zq_o_180 _) (by decide +kernel), ?_⟩
  replace h := zq_nx3 (q := 38) h rfl
  refine ⟨zq_k_n 27 h rfl (zq_o_27 _), ?_⟩
  replace h := zq_nx1 (q := 39) h rfl
  refine ⟨zq_k_n 46 h rfl (zq_o_46 _), ?_⟩
  replace h := zq_nx1 (q := 40) h rfl
  refine ⟨zq_k_n 4 h rfl (zq_o_4 _), ?_⟩
  replace h := zq_nx1 (q := 41) h rfl
  refine ⟨zq_k_n 28 h rfl (zq_o_28 _), ?_⟩
  replace h := zq_nx1 (q := 42) h rfl
  refine ⟨zq_k_n 120 h rfl (zq_o_120 _), ?_⟩
  replace h := zq_nx1 (q := 43) h rfl
  refine ⟨zq_k_n 2 h rfl (zq_o_2 _), ?_⟩
  replace h := zq_nx1 (q := 44) h rfl
  refine ⟨zq_k_n 130 h rfl (zq_o_130 _), ?_⟩
  replace h := zq_nx1 (q := 45) h rfl
  refine ⟨zq_k_n 126 h rfl (zq_o_126 _), ?_⟩
  replace h := zq_nx1 (q := 46) h rfl
  refine ⟨zq_k_n 79 h rfl (zq_o_79 _), ?_⟩
  replace h := zq_nx1 (q := 47) h rfl
  refine ⟨zq_k_u1 21 (fun z => .iload z) 4 h rfl (zq_o_21 _) (by decide +kernel), ?_⟩
  replace h := zq_nx2 (q := 49) h rfl
  exact zq_k_n 172 h rfl (zq_o_172 _)
def f_M_becomesBit_46  (b4 : Int32) (s0 : Nat) (s1 : Int32) (s2 : Int32) (h : mH) : Option (Int32 × mH) :=
  bd1 (sI h 0 s0 s1 s2) fun h16 =>
  some (b4, h16)
set_option maxRecDepth 20000 in
theorem t_M_becomesBit_46 {sc : Nat × (Nat → Int32)}  (b4 : Int32) (s0 : Nat) (s1 : Int32) (s2 : Int32) (h : mH) (r : Int32) (h' : mH) (hf : f_M_becomesBit_46  b4 s0 s1 s2 h = some (r, h')) : G sc y_M_becomesBit prog_10_method_40_code 5 (some .int) 0 0 46 [(4, .int b4)] [.int s2, .int s1, .ref s0] h (some (.int r)) h' := by
  unfold f_M_becomesBit_46 at hf
  obtain ⟨h16, e17, hf⟩ := bd1_e hf
  refine g_iast (pc := 46) dd_M_becomesBit_35.2.2.2.2.2.2.2.2.2.1 e17 ?_
  refine g_iload (pc := 47) 0 dd_M_becomesBit_35.2.2.2.2.2.2.2.2.2.2.1 rfl ?_
  obtain ⟨rfl, rfl⟩ := ret2 hf
  exact g_iret (pc := 49) rfl dd_M_becomesBit_35.2.2.2.2.2.2.2.2.2.2.2
def f_M_becomesBit_0  (a0 : Nat) (a1 : Int32) (a2 : Int32) (a3 : Int32) (h : mH) : Option (Int32 × mH) :=
  bd1 (gR h a0 8 0) fun x1 =>
  bd1 (aI h 0 x1 a1) fun x3 =>
  bd1 (gR h a0 8 0) fun x5 =>
  if a3 = 0 then
    bd1 (gR h a0 8 0) fun x7 =>
    bd1 (aI h 0 x7 a1) fun x9 =>
    f_M_becomesBit_46  ((x3 >>> (a2 &&& 31)) &&& (1 : Int32)) x5 a1 (x9 &&& (((1 : Int32) <<< (a2 &&& 31)) ^^^ ((-1) : Int32))) h
  else
    bd1 (gR h a0 8 0) fun x11 =>
    bd1 (aI h 0 x11 a1) fun x13 =>
    f_M_becomesBit_46  ((x3 >>> (a2 &&& 31)) &&& (1 : Int32)) x5 a1 (x13 ||| ((1 : Int32) <<< (a2 &&& 31))) h
set_option maxRecDepth 20000 in
theorem t_M_becomesBit_0 {sc : Nat × (Nat → Int32)}  (a0 : Nat) (a1 : Int32) (a2 : Int32) (a3 : Int32) (h : mH) (r : Int32) (h' : mH) (hf : f_M_becomesBit_0  a0 a1 a2 a3 h = some (r, h')) : G sc y_M_becomesBit prog_10_method_40_code 5 (some .int) 0 0 0 [(0, .ref a0), (1, .int a1), (2, .int a2), (3, .int a3)] [] h (some (.int r)) h' := by
  unfold f_M_becomesBit_0 at hf
  refine g_aload_n (pc := 0) 0 dd_M_becomesBit_0.1 rfl rfl ?_
  obtain ⟨x1, e2, hf⟩ := bd1_e hf
  refine g_get (pc := 1) (ci := 8) (kk := 0) dd_M_becomesBit_0.2.1 rfl in_M (by decide) wd_938 (gR_spec e2) ?_
  refine g_iload_n (pc := 4) 1 dd_M_becomesBit_0.2.2.1 rfl rfl ?_
  obtain ⟨x3, e4, hf⟩ := bd1_e hf
  refine g_iald (pc := 5) dd_M_becomesBit_0.2.2.2.1 e4 ?_
  refine g_iload_n (pc := 6) 2 dd_M_becomesBit_0.2.2.2.2.1 rfl rfl ?_
  refine g_ishr (pc := 7) dd_M_becomesBit_0.2.2.2.2.2.1 ?_
  refine g_iconst (pc := 8) (1 : Int32) dd_M_becomesBit_0.2.2.2.2.2.2.1 (by decide) ?_
  refine g_iand (pc := 9) dd_M_becomesBit_0.2.2.2.2.2.2.2.1 ?_
  refine g_istore (pc := 10) [(4, .int ((x3 >>> (a2 &&& 31)) &&& (1 : Int32))), (0, .ref a0), (1, .int a1), (2, .int a2), (3, .int a3)] dd_M_becomesBit_0.2.2.2.2.2.2.2.2.1 (Nat.le_of_ble_eq_true rfl) rfl ?_
  refine g_aload_n (pc := 12) 1 dd_M_becomesBit_0.2.2.2.2.2.2.2.2.2.1 rfl rfl ?_
  obtain ⟨x5, e6, hf⟩ := bd1_e hf
  refine g_get (pc := 13) (ci := 8) (kk := 0) dd_M_becomesBit_0.2.2.2.2.2.2.2.2.2.2.1 rfl in_M (by decide) wd_938 (gR_spec e6) ?_
  refine g_iload_n (pc := 16) 2 dd_M_becomesBit_0.2.2.2.2.2.2.2.2.2.2.2.1 rfl rfl ?_
  refine g_iload_n (pc := 17) 4 dd_M_becomesBit_0.2.2.2.2.2.2.2.2.2.2.2.2.1 rfl rfl ?_
  refine g_ifeq (pc := 18) 34 dd_M_becomesBit_0.2.2.2.2.2.2.2.2.2.2.2.2.2.1 (by decide) (fun c15 => ?_) (fun c15 => ?_)
  · replace hf := (if_pos c15).symm.trans hf
    refine g_aload_n (pc := 34) 1 dd_M_becomesBit_0.2.2.2.2.2.2.2.2.2.2.2.2.2.2.2.2.2.2.2.2.2.2.2 rfl rfl ?_
    obtain ⟨x7, e8, hf⟩ := bd1_e hf
    refine g_get (pc := 35) (ci := 8) (kk := 0) dd_M_becomesBit_35.1 rfl in_M (by decide) wd_938 (gR_spec e8) ?_
    refine g_iload_n (pc := 38) 2 dd_M_becomesBit_35.2.1 rfl rfl ?_
    obtain ⟨x9, e10, hf⟩ := bd1_e hf
    refine g_iald (pc := 39) dd_M_becomesBit_35.2.2.1 e10 ?_
    refine g_iconst (pc := 40) (1 : Int32) dd_M_becomesBit_35.2.2.2.1 (by decide) ?_
    refine g_iload_n (pc := 41) 3 dd_M_becomesBit_35.2.2.2.2.1 rfl rfl ?_
    refine g_ishl (pc := 42) dd_M_becomesBit_35.2.2.2.2.2.1 ?_
    refine g_iconst (pc := 43) ((-1) : Int32) dd_M_becomesBit_35.2.2.2.2.2.2.1 (by decide) ?_
    refine g_ixor (pc := 44) dd_M_becomesBit_35.2.2.2.2.2.2.2.1 ?_
    refine g_iand (pc := 45) dd_M_becomesBit_35.2.2.2.2.2.2.2.2.1 ?_
    refine g_lv [0] rfl ?_
    exact t_M_becomesBit_46  _ _ _ _ _ _ _  hf
  · replace hf := (if_neg c15).symm.trans hf
    refine g_aload_n (pc := 21) 1 dd_M_becomesBit_0.2.2.2.2.2.2.2.2.2.2.2.2.2.2.1 rfl rfl ?_
    obtain ⟨x11, e12, hf⟩ := bd1_e hf
    refine g_get (pc := 22) (ci := 8) (kk := 0) dd_M_becomesBit_0.2.2.2.2.2.2.2.2.2.2.2.2.2.2.2.1 rfl in_M (by decide) wd_938 (gR_spec e12) ?_
    refine g_iload_n (pc := 25) 2 dd_M_becomesBit_0.2.2.2.2.2.2.2.2.2.2.2.2.2.2.2.2.1 rfl rfl ?_
    obtain ⟨x13, e14, hf⟩ := bd1_e hf
    refine g_iald (pc := 26) dd_M_becomesBit_0.2.2.2.2.2.2.2.2.2.2.2.2.2.2.2.2.2.1 e14 ?_
    refine g_iconst (pc := 27) (1 : Int32) dd_M_becomesBit_0.2.2.2.2.2.2.2.2.2.2.2.2.2.2.2.2.2.2.1 (by decide) ?_
    refine g_iload_n (pc := 28) 3 dd_M_becomesBit_0.2.2.2.2.2.2.2.2.2.2.2.2.2.2.2.2.2.2.2.1 rfl rfl ?_
    refine g_ishl (pc := 29) dd_M_becomesBit_0.2.2.2.2.2.2.2.2.2.2.2.2.2.2.2.2.2.2.2.2.1 ?_
    refine g_ior (pc := 30) dd_M_becomesBit_0.2.2.2.2.2.2.2.2.2.2.2.2.2.2.2.2.2.2.2.2.2.1 ?_
    refine g_goto (pc := 31) 46 dd_M_becomesBit_0.2.2.2.2.2.2.2.2.2.2.2.2.2.2.2.2.2.2.2.2.2.2.1 (by decide) ?_
    refine g_lv [0] rfl ?_
    exact t_M_becomesBit_46  _ _ _ _ _ _ _  hf
def f_M_becomesBit (a0 : Nat) (a1 : Int32) (a2 : Int32) (a3 : Int32) (h : mH) : Option (Int32 × mH) := f_M_becomesBit_0 a0 a1 a2 a3 h
theorem c_M_becomesBit {sc : Nat × (Nat → Int32)} {a0 : Nat} {a1 : Int32} {a2 : Int32} {a3 : Int32} {h : mH} {r : Int32} {h' : mH} (hf : f_M_becomesBit a0 a1 a2 a3 h = some (r, h')) : MM sc y_M_becomesBit prog_10_method_40_code 5 (some .int) 0 0 [.ref a0, .int a1, .int a2, .int a3] h (some (.int r)) h' :=
  mm_of_G si_pn_M (Nat.le_of_ble_eq_true rfl) (t_M_becomesBit_0 _ _ _ _ _ _ _ hf)
/-! M watch (IZ)I -/
set_option maxRecDepth 100000 in
theorem dd_M_watch_0 : (decode prog_10_method_43_code 0 = .ok (.aload_n 0, 1)) ∧ (decode prog_10_method_43_code 1 = .ok (.iload_n 1, 1)) ∧ (decode prog_10_method_43_code 2 = .ok (.invokevirtual 210, 3)) ∧ (decode prog_10_method_43_code 5 = .ok (.ifCond .eq 14, 3)) ∧ (decode prog_10_method_43_code 8 = .ok (.aload_n 0, 1)) ∧ (decode prog_10_method_43_code 9 = .ok (.bipush 11, 2)) ∧ (decode prog_10_method_43_code 11 = .ok (.iload_n 1, 1)) ∧ (decode prog_10_method_43_code 12 = .ok (.iload_n 2, 1)) ∧ (decode prog_10_method_43_code 13 = .ok (.invokevirtual 229, 3)) ∧ (decode prog_10_method_43_code 16 = .ok (.goto 4, 3)) ∧ (decode prog_10_method_43_code 19 = .ok (.iconst (-1), 1)) ∧ (decode prog_10_method_43_code 20 = .ok (.ireturn, 1)) := by
  have h : List.drop 0 prog_10_method_43_code.data.toList = 0x2a :: _ := rfl
  refine ⟨zq_k_n 42 h rfl (zq_o_42 _), ?_⟩
  replace h := zq_nx1 (q := 1) h rfl
  refine ⟨zq_k_n 27 h rfl (zq_o_27 _), ?_⟩
  replace h := zq_nx1 (q := 2) h rfl
  refine ⟨zq_k_u2 182 (fun z => .invokevirtual z) 210 h rfl (zq_o_182 _) (by decide +kernel), ?_⟩
  replace h := zq_nx3 (q := 5) h rfl
  refine ⟨zq_k_s2 153 (fun z => .ifCond .eq z) 14 h rfl (zq_o_153 _) (by decide +kernel), ?_⟩
  replace h := zq_nx3 (q := 8) h rfl
  refine ⟨zq_k_n 42 h rfl (zq_o_42 _), ?_⟩
  replace h := zq_nx1 (q := 9) h rfl
  refine ⟨zq_k_s1 16 (fun z => .bipush z) 11 h rfl (zq_o_16 _) (by decide +kernel), ?_⟩
  replace h := zq_nx2 (q := 11) h rfl
  refine ⟨zq_k_n 27 h rfl (zq_o_27 _), ?_⟩
  replace h := zq_nx1 (q := 12) h rfl
  refine ⟨zq_k_n 28 h rfl (zq_o_28 _), ?_⟩
  replace h := zq_nx1 (q := 13) h rfl
  refine ⟨zq_k_u2 182 (fun z => .invokevirtual z) 229 h rfl (zq_o_182 _) (by decide +kernel), ?_⟩
  replace h := zq_nx3 (q := 16) h rfl
  refine ⟨zq_k_s2 167 (fun z => .goto z) 4 h rfl (zq_o_167 _) (by decide +kernel), ?_⟩
  replace h := zq_nx3 (q := 19) h rfl
  refine ⟨zq_k_n 2 h rfl (zq_o_2 _), ?_⟩
  replace h := zq_nx1 (q := 20) h rfl
  exact zq_k_n 172 h rfl (zq_o_172 _)
def f_M_watch_0  (a0 : Nat) (a1 : Int32) (a2 : Int32) (h : mH) : Option (Int32 × mH) :=
  bd1 (kC h a0 8) fun _ =>
  bd2 (f_M_isLaw a0 a1 h) fun x5 h3 =>
  if x5 = 0 then
    some (((-1) : Int32), h3)
  else
    bd1 (kC h3 a0 8) fun _ =>
    bd2 (f_M_becomesBit a0 (11 : Int32) a1 a2 h3) fun x10 h8 =>
    some (x10, h8)
set_option maxRecDepth 20000 in
theorem t_M_watch_0 {sc : Nat × (Nat → Int32)}  (a0 : Nat) (a1 : Int32) (a2 : Int32) (h : mH) (r : Int32) (h' : mH) (hf : f_M_watch_0  a0 a1 a2 h = some (r, h')) : G sc y_M_watch prog_10_method_43_code 3 (some .int) 2 46 0 [(0, .ref a0), (1, .int a1), (2, .int a2)] [] h (some (.int r)) h' := by
  unfold f_M_watch_0 at hf
  refine g_aload_n (pc := 0) 0 dd_M_watch_0.1 rfl rfl ?_
  refine g_iload_n (pc := 1) 1 dd_M_watch_0.2.1 rfl rfl ?_
  obtain ⟨u2, e1, hf⟩ := bd1_e hf
  obtain ⟨x5, h3, e4, hf⟩ := bd2_e hf
  refine g_callV (pc := 2) (ci := 8) [.int a1] (site_of si_M_isLaw (by decide) (by decide)) wd_1136 wd_1138 wp_44 dd_M_watch_0.2.2.1 rfl e1 (Nat.le_of_ble_eq_true rfl) (fun z => absurd z si_na_M_isLaw) (fun z => absurd z si_na_M_isLaw) (fun z => absurd z si_na_M_isLaw) (c_M_isLaw e4) rfl ?_
  refine g_st [.int x5] rfl ?_
  refine g_ifeq (pc := 5) 19 dd_M_watch_0.2.2.2.1 (by decide) (fun c11 => ?_) (fun c11 => ?_)
  · replace hf := (if_pos c11).symm.trans hf
    refine g_iconst (pc := 19) ((-1) : Int32) dd_M_watch_0.2.2.2.2.2.2.2.2.2.2.1 (by decide) ?_
    obtain ⟨rfl, rfl⟩ := ret2 hf
    exact g_iret (pc := 20) rfl dd_M_watch_0.2.2.2.2.2.2.2.2.2.2.2
  · replace hf := (if_neg c11).symm.trans hf
    refine g_aload_n (pc := 8) 0 dd_M_watch_0.2.2.2.2.1 rfl rfl ?_
    refine g_bipush (pc := 9) (11 : Int32) dd_M_watch_0.2.2.2.2.2.1 (by decide) ?_
    refine g_iload_n (pc := 11) 1 dd_M_watch_0.2.2.2.2.2.2.1 rfl rfl ?_
    refine g_iload_n (pc := 12) 2 dd_M_watch_0.2.2.2.2.2.2.2.1 rfl rfl ?_
    obtain ⟨u7, e6, hf⟩ := bd1_e hf
    obtain ⟨x10, h8, e9, hf⟩ := bd2_e hf
    refine g_callV (pc := 13) (ci := 8) [.int (11 : Int32), .int a1, .int a2] (site_of si_M_becomesBit (by decide) (by decide)) wd_1204 wd_1206 wp_55 dd_M_watch_0.2.2.2.2.2.2.2.2.1 rfl e6 (Nat.le_of_ble_eq_true rfl) (fun z => absurd z si_na_M_becomesBit) (fun z => absurd z si_na_M_becomesBit) (fun z => absurd z si_na_M_becomesBit) (c_M_becomesBit e9) rfl ?_
    refine g_st [.int x10] rfl ?_
    refine g_goto (pc := 16) 20 dd_M_watch_0.2.2.2.2.2.2.2.2.2.1 (by decide) ?_
    obtain ⟨rfl, rfl⟩ := ret2 hf
    exact g_iret (pc := 20) rfl dd_M_watch_0.2.2.2.2.2.2.2.2.2.2.2
def f_M_watch (a0 : Nat) (a1 : Int32) (a2 : Int32) (h : mH) : Option (Int32 × mH) := f_M_watch_0 a0 a1 a2 h
theorem c_M_watch {sc : Nat × (Nat → Int32)} {a0 : Nat} {a1 : Int32} {a2 : Int32} {h : mH} {r : Int32} {h' : mH} (hf : f_M_watch a0 a1 a2 h = some (r, h')) : MM sc y_M_watch prog_10_method_43_code 3 (some .int) 2 46 [.ref a0, .int a1, .int a2] h (some (.int r)) h' :=
  mm_of_G si_pn_M (Nat.le_of_ble_eq_true rfl) (t_M_watch_0 _ _ _ _ _ _ hf)
/-! M time (II)I -/
set_option maxRecDepth 100000 in
theorem dd_M_time_0 : (decode prog_10_method_44_code 0 = .ok (.aload_n 0, 1)) ∧ (decode prog_10_method_44_code 1 = .ok (.iload_n 1, 1)) ∧ (decode prog_10_method_44_code 2 = .ok (.invokevirtual 213, 3)) ∧ (decode prog_10_method_44_code 5 = .ok (.ifCond .eq 27, 3)) ∧ (decode prog_10_method_44_code 8 = .ok (.iload_n 2, 1)) ∧ (decode prog_10_method_44_code 9 = .ok (.i2l, 1)) ∧ (decode prog_10_method_44_code 10 = .ok (.lconst 0, 1)) ∧ (decode prog_10_method_44_code 11 = .ok (.ldc2_w 233, 3)) ∧ (decode prog_10_method_44_code 14 = .ok (.invokestatic 114, 3)) ∧ (decode prog_10_method_44_code 17 = .ok (.ifCond .eq 15, 3)) ∧ (decode prog_10_method_44_code 20 = .ok (.aload_n 0, 1)) ∧ (decode prog_10_method_44_code 21 = .ok (.bipush 12, 2)) ∧ (decode prog_10_method_44_code 23 = .ok (.iload_n 1, 1)) ∧ (decode prog_10_method_44_code 24 = .ok (.iadd, 1)) ∧ (decode prog_10_method_44_code 25 = .ok (.iload_n 2, 1)) ∧ (decode prog_10_method_44_code 26 = .ok (.invokevirtual 226, 3)) ∧ (decode prog_10_method_44_code 29 = .ok (.goto 4, 3)) ∧ (decode prog_10_method_44_code 32 = .ok (.iconst (-1), 1)) ∧ (decode prog_10_method_44_code 33 = .ok (.ireturn, 1)) := by
  have h : List.drop 0 prog_10_method_44_code.data.toList = 0x2a :: _ := rfl
  refine ⟨zq_k_n 42 h rfl (zq_o_42 _), ?_⟩
  replace h := zq_nx1 (q := 1) h rfl
  refine ⟨zq_k_n 27 h rfl (zq_o_27 _), ?_⟩
  replace h := zq_nx1 (q := 2) h rfl
  refine ⟨zq_k_u2 182 (fun z => .invokevirtual z) 213 h rfl (zq_o_182 _) (by decide +kernel), ?_⟩
  replace h := zq_nx3 (q := 5) h rfl
  refine ⟨zq_k_s2 153 (fun z => .ifCond .eq z) 27 h rfl (zq_o_153 _) (by decide +kernel), ?_⟩
  replace h := zq_nx3 (q := 8) h rfl
  refine ⟨zq_k_n 28 h rfl (zq_o_28 _), ?_⟩
  replace h := zq_nx1 (q := 9) h rfl
  refine ⟨zq_k_n 133 h rfl (zq_o_133 _), ?_⟩
  replace h := zq_nx1 (q := 10) h rfl
  refine ⟨zq_k_n 9 h rfl (zq_o_9 _), ?_⟩
  replace h := zq_nx1 (q := 11) h rfl
  refine ⟨zq_k_u2 20 (fun z => .ldc2_w z) 233 h rfl (zq_o_20 _) (by decide +kernel), ?_⟩
  replace h := zq_nx3 (q := 14) h rfl
  refine ⟨zq_k_u2 184 (fun z => .invokestatic z) 114 h rfl (zq_o_184 _) (by decide +kernel), ?_⟩
  replace h := zq_nx3 (q := 17) h rfl
  refine ⟨zq_k_s2 153 (fun z => .ifCond .eq z) 15 h rfl (zq_o_153 _) (by decide +kernel), ?_⟩
  replace h := zq_nx3 (q := 20) h rfl
  refine ⟨zq_k_n 42 h rfl (zq_o_42 _), ?_⟩
  replace h := zq_nx1 (q := 21) h rfl
  refine ⟨zq_k_s1 16 (fun z => .bipush z) 12 h rfl (zq_o_16 _) (by decide +kernel), ?_⟩
  replace h := zq_nx2 (q := 23) h rfl
  refine ⟨zq_k_n 27 h rfl (zq_o_27 _), ?_⟩
  replace h := zq_nx1 (q := 24) h rfl
  refine ⟨zq_k_n 96 h rfl (zq_o_96 _), ?_⟩
  replace h := zq_nx1 (q := 25) h rfl
  refine ⟨zq_k_n 28 h rfl (zq_o_28 _), ?_⟩
  replace h := zq_nx1 (q := 26) h rfl
  refine ⟨zq_k_u2 182 (fun z => .invokevirtual z) 226 h rfl (zq_o_182 _) (by decide +kernel), ?_⟩
  replace h := zq_nx3 (q := 29) h rfl
  refine ⟨zq_k_s2 167 (fun z => .goto z) 4 h rfl (zq_o_167 _) (by decide +kernel), ?_⟩
  replace h := zq_nx3 (q := 32) h rfl
  refine ⟨zq_k_n 2 h rfl (zq_o_2 _), ?_⟩
  replace h := zq_nx1 (q := 33) h rfl
  exact zq_k_n 172 h rfl (zq_o_172 _)
def f_M_time_32   (h : mH) : Option (Int32 × mH) :=
  some (((-1) : Int32), h)
set_option maxRecDepth 20000 in
theorem t_M_time_32 {sc : Nat × (Nat → Int32)}   (h : mH) (r : Int32) (h' : mH) (hf : f_M_time_32   h = some (r, h')) : G sc y_M_time prog_10_method_44_code 3 (some .int) 2 46 32 [] [] h (some (.int r)) h' := by
  unfold f_M_time_32 at hf
  refine g_iconst (pc := 32) ((-1) : Int32) dd_M_time_0.2.2.2.2.2.2.2.2.2.2.2.2.2.2.2.2.2.1 (by decide) ?_
  obtain ⟨rfl, rfl⟩ := ret2 hf
  exact g_iret (pc := 33) rfl dd_M_time_0.2.2.2.2.2.2.2.2.2.2.2.2.2.2.2.2.2.2
def f_M_time_0  (a0 : Nat) (a1 : Int32) (a2 : Int32) (h : mH) : Option (Int32 × mH) :=
  bd1 (kC h a0 8) fun _ =>
  bd2 (f_M_isOne a0 a1 h) fun x5 h3 =>
  if x5 = 0 then
    f_M_time_32  h3
  else
    bd2 (f_M_in a2.toInt64 (0 : Int64) (5 : Int64) h3) fun x8 h6 =>
    if x8 = 0 then
      f_M_time_32  h6
    else
      bd1 (kC h6 a0 8) fun _ =>
      bd2 (f_M_becomes a0 ((12 : Int32) + a1) a2 h6) fun x13 h11 =>
      some (x13, h11)
set_option maxRecDepth 20000 in
theorem t_M_time_0 {sc : Nat × (Nat → Int32)}  (a0 : Nat) (a1 : Int32) (a2 : Int32) (h : mH) (r : Int32) (h' : mH) (hf : f_M_time_0  a0 a1 a2 h = some (r, h')) : G sc y_M_time prog_10_method_44_code 3 (some .int) 2 46 0 [(0, .ref a0), (1, .int a1), (2, .int a2)] [] h (some (.int r)) h' := by
  unfold f_M_time_0 at hf
  refine g_aload_n (pc := 0) 0 dd_M_time_0.1 rfl rfl ?_
  refine g_iload_n (pc := 1) 1 dd_M_time_0.2.1 rfl rfl ?_
  obtain ⟨u2, e1, hf⟩ := bd1_e hf
  obtain ⟨x5, h3, e4, hf⟩ := bd2_e hf
  refine g_callV (pc := 2) (ci := 8) [.int a1] (site_of si_M_isOne (by decide) (by decide)) wd_1160 wd_1162 wp_49 dd_M_time_0.2.2.1 rfl e1 (Nat.le_of_ble_eq_true rfl) (fun z => absurd z si_na_M_isOne) (fun z => absurd z si_na_M_isOne) (fun z => absurd z si_na_M_isOne) (c_M_isOne e4) rfl ?_
  refine g_st [.int x5] rfl ?_
  refine g_ifeq (pc := 5) 32 dd_M_time_0.2.2.2.1 (by decide) (fun c15 => ?_) (fun c15 => ?_)
  · replace hf := (if_pos c15).symm.trans hf
    refine g_lv [] rfl ?_
    exact t_M_time_32  _ _ _  hf
  · replace hf := (if_neg c15).symm.trans hf
    refine g_iload_n (pc := 8) 2 dd_M_time_0.2.2.2.2.1 rfl rfl ?_
    refine g_i2l (pc := 9) dd_M_time_0.2.2.2.2.2.1 ?_
    refine g_lconst (pc := 10) (0 : Int64) dd_M_time_0.2.2.2.2.2.2.1 (by decide) ?_
    refine g_ldc2 (pc := 11) (5 : Int64) dd_M_time_0.2.2.2.2.2.2.2.1 wd_1212 ?_
    obtain ⟨x8, h6, e7, hf⟩ := bd2_e hf
    refine g_callS (pc := 14) [.long a2.toInt64, .long (0 : Int64), .long (5 : Int64)] (site_of si_M_in (by decide) (by decide)) wd_1061 wd_1062 dd_M_time_0.2.2.2.2.2.2.2.2.1 (Nat.le_of_ble_eq_true rfl) (fun z => absurd z si_na_M_in) (fun z => absurd z si_na_M_in) (fun z => absurd z si_na_M_in) (c_M_in e7) rfl ?_
    refine g_st [.int x8] rfl ?_
    refine g_ifeq (pc := 17) 32 dd_M_time_0.2.2.2.2.2.2.2.2.2.1 (by decide) (fun c14 => ?_) (fun c14 => ?_)
    · replace hf := (if_pos c14).symm.trans hf
      refine g_lv [] rfl ?_
      exact t_M_time_32  _ _ _  hf
    · replace hf := (if_neg c14).symm.trans hf
      refine g_aload_n (pc := 20) 0 dd_M_time_0.2.2.2.2.2.2.2.2.2.2.1 rfl rfl ?_
      refine g_bipush (pc := 21) (12 : Int32) dd_M_time_0.2.2.2.2.2.2.2.2.2.2.2.1 (by decide) ?_
      refine g_iload_n (pc := 23) 1 dd_M_time_0.2.2.2.2.2.2.2.2.2.2.2.2.1 rfl rfl ?_
      refine g_iadd (pc := 24) dd_M_time_0.2.2.2.2.2.2.2.2.2.2.2.2.2.1 ?_
      refine g_iload_n (pc := 25) 2 dd_M_time_0.2.2.2.2.2.2.2.2.2.2.2.2.2.2.1 rfl rfl ?_
      obtain ⟨u10, e9, hf⟩ := bd1_e hf
      obtain ⟨x13, h11, e12, hf⟩ := bd2_e hf
      refine g_callV (pc := 26) (ci := 8) [.int ((12 : Int32) + a1), .int a2] (site_of si_M_becomes (by decide) (by decide)) wd_1192 wd_1194 wp_54 dd_M_time_0.2.2.2.2.2.2.2.2.2.2.2.2.2.2.2.1 rfl e9 (Nat.le_of_ble_eq_true rfl) (fun z => absurd z si_na_M_becomes) (fun z => absurd z si_na_M_becomes) (fun z => absurd z si_na_M_becomes) (c_M_becomes e12) rfl ?_
      refine g_st [.int x13] rfl ?_
      refine g_goto (pc := 29) 33 dd_M_time_0.2.2.2.2.2.2.2.2.2.2.2.2.2.2.2.2.1 (by decide) ?_
      obtain ⟨rfl, rfl⟩ := ret2 hf
      exact g_iret (pc := 33) rfl dd_M_time_0.2.2.2.2.2.2.2.2.2.2.2.2.2.2.2.2.2.2
def f_M_time (a0 : Nat) (a1 : Int32) (a2 : Int32) (h : mH) : Option (Int32 × mH) := f_M_time_0 a0 a1 a2 h
theorem c_M_time {sc : Nat × (Nat → Int32)} {a0 : Nat} {a1 : Int32} {a2 : Int32} {h : mH} {r : Int32} {h' : mH} (hf : f_M_time a0 a1 a2 h = some (r, h')) : MM sc y_M_time prog_10_method_44_code 3 (some .int) 2 46 [.ref a0, .int a1, .int a2] h (some (.int r)) h' :=
  mm_of_G si_pn_M (Nat.le_of_ble_eq_true rfl) (t_M_time_0 _ _ _ _ _ _ hf)
/-! M refuse (IIZ)I -/
set_option maxRecDepth 100000 in
theorem dd_M_refuse_0 : (decode prog_10_method_45_code 0 = .ok (.aload_n 0, 1)) ∧ (decode prog_10_method_45_code 1 = .ok (.iload_n 1, 1)) ∧ (decode prog_10_method_45_code 2 = .ok (.invokevirtual 213, 3)) ∧ (decode prog_10_method_45_code 5 = .ok (.ifCond .eq 24, 3)) ∧ (decode prog_10_method_45_code 8 = .ok (.aload_n 0, 1)) ∧ (decode prog_10_method_45_code 9 = .ok (.iload_n 2, 1)) ∧ (decode prog_10_method_45_code 10 = .ok (.invokevirtual 210, 3)) ∧ (decode prog_10_method_45_code 13 = .ok (.ifCond .eq 16, 3)) ∧ (decode prog_10_method_45_code 16 = .ok (.aload_n 0, 1)) ∧ (decode prog_10_method_45_code 17 = .ok (.bipush 18, 2)) ∧ (decode prog_10_method_45_code 19 = .ok (.iload_n 1, 1)) ∧ (decode prog_10_method_45_code 20 = .ok (.iadd, 1)) ∧ (decode prog_10_method_45_code 21 = .ok (.iload_n 2, 1)) ∧ (decode prog_10_method_45_code 22 = .ok (.iload_n 3, 1)) ∧ (decode prog_10_method_45_code 23 = .ok (.invokevirtual 229, 3)) ∧ (decode prog_10_method_45_code 26 = .ok (.goto 4, 3)) ∧ (decode prog_10_method_45_code 29 = .ok (.iconst (-1), 1)) ∧ (decode prog_10_method_45_code 30 = .ok (.ireturn, 1)) := by
  have h : List.drop 0 prog_10_method_45_code.data.toList = 0x2a :: _ := rfl
  refine ⟨zq_k_n 42 h rfl (zq_o_42 _), ?_⟩
  replace h := zq_nx1 (q := 1) h rfl
  refine ⟨zq_k_n 27 h rfl (zq_o_27 _), ?_⟩
  replace h := zq_nx1 (q := 2) h rfl
  refine ⟨zq_k_u2 182 (fun z => .invokevirtual z) 213 h rfl (zq_o_182 _) (by decide +kernel), ?_⟩
  replace h := zq_nx3 (q := 5) h rfl
  refine ⟨zq_k_s2 153 (fun z => .ifCond .eq z) 24 h rfl (zq_o_153 _) (by decide +kernel), ?_⟩
  replace h := zq_nx3 (q := 8) h rfl
  refine ⟨zq_k_n 42 h rfl (zq_o_42 _), ?_⟩
  replace h := zq_nx1 (q := 9) h rfl
  refine ⟨zq_k_n 28 h rfl (zq_o_28 _), ?_⟩
  replace h := zq_nx1 (q := 10) h rfl
  refine ⟨zq_k_u2 182 (fun z => .invokevirtual z) 210 h rfl (zq_o_182 _) (by decide +kernel), ?_⟩
  replace h := zq_nx3 (q := 13) h rfl
  refine ⟨zq_k_s2 153 (fun z => .ifCond .eq z) 16 h rfl (zq_o_153 _) (by decide +kernel), ?_⟩
  replace h := zq_nx3 (q := 16) h rfl
  refine ⟨zq_k_n 42 h rfl (zq_o_42 _), ?_⟩
  replace h := zq_nx1 (q := 17) h rfl
  refine ⟨zq_k_s1 16 (fun z => .bipush z) 18 h rfl (zq_o_16 _) (by decide +kernel), ?_⟩
  replace h := zq_nx2 (q := 19) h rfl
  refine ⟨zq_k_n 27 h rfl (zq_o_27 _), ?_⟩
  replace h := zq_nx1 (q := 20) h rfl
  refine ⟨zq_k_n 96 h rfl (zq_o_96 _), ?_⟩
  replace h := zq_nx1 (q := 21) h rfl
  refine ⟨zq_k_n 28 h rfl (zq_o_28 _), ?_⟩
  replace h := zq_nx1 (q := 22) h rfl
  refine ⟨zq_k_n 29 h rfl (zq_o_29 _), ?_⟩
  replace h := zq_nx1 (q := 23) h rfl
  refine ⟨zq_k_u2 182 (fun z => .invokevirtual z) 229 h rfl (zq_o_182 _) (by decide +kernel), ?_⟩
  replace h := zq_nx3 (q := 26) h rfl
  refine ⟨zq_k_s2 167 (fun z => .goto z) 4 h rfl (zq_o_167 _) (by decide +kernel), ?_⟩
  replace h := zq_nx3 (q := 29) h rfl
  refine ⟨zq_k_n 2 h rfl (zq_o_2 _), ?_⟩
  replace h := zq_nx1 (q := 30) h rfl
  exact zq_k_n 172 h rfl (zq_o_172 _)
def f_M_refuse_29   (h : mH) : Option (Int32 × mH) :=
  some (((-1) : Int32), h)
set_option maxRecDepth 20000 in
theorem t_M_refuse_29 {sc : Nat × (Nat → Int32)}   (h : mH) (r : Int32) (h' : mH) (hf : f_M_refuse_29   h = some (r, h')) : G sc y_M_refuse prog_10_method_45_code 4 (some .int) 2 46 29 [] [] h (some (.int r)) h' := by
  unfold f_M_refuse_29 at hf
  refine g_iconst (pc := 29) ((-1) : Int32) dd_M_refuse_0.2.2.2.2.2.2.2.2.2.2.2.2.2.2.2.2.1 (by decide) ?_
  obtain ⟨rfl, rfl⟩ := ret2 hf
  exact g_iret (pc := 30) rfl dd_M_refuse_0.2.2.2.2.2.2.2.2.2.2.2.2.2.2.2.2.2
def f_M_refuse_0  (a0 : Nat) (a1 : Int32) (a2 : Int32) (a3 : Int32) (h : mH) : Option (Int32 × mH) :=
  bd1 (kC h a0 8) fun _ =>
  bd2 (f_M_isOne a0 a1 h) fun x5 h3 =>
  if x5 = 0 then
    f_M_refuse_29  h3
  else
    bd1 (kC h3 a0 8) fun _ =>
    bd2 (f_M_isLaw a0 a2 h3) fun x10 h8 =>
    if x10 = 0 then
      f_M_refuse_29  h8
    else
      bd1 (kC h8 a0 8) fun _ =>
      bd2 (f_M_becomesBit a0 ((18 : Int32) + a1) a2 a3 h8) fun x15 h13 =>
      some (x15, h13)
set_option maxRecDepth 20000 in
theorem t_M_refuse_0 {sc : Nat × (Nat → Int32)}  (a0 : Nat) (a1 : Int32) (a2 : Int32) (a3 : Int32) (h : mH) (r : Int32) (h' : mH) (hf : f_M_refuse_0  a0 a1 a2 a3 h = some (r, h')) : G sc y_M_refuse prog_10_method_45_code 4 (some .int) 2 46 0 [(0, .ref a0), (1, .int a1), (2, .int a2), (3, .int a3)] [] h (some (.int r)) h' := by
  unfold f_M_refuse_0 at hf
  refine g_aload_n (pc := 0) 0 dd_M_refuse_0.1 rfl rfl ?_
  refine g_iload_n (pc := 1) 1 dd_M_refuse_0.2.1 rfl rfl ?_
  obtain ⟨u2, e1, hf⟩ := bd1_e hf
  obtain ⟨x5, h3, e4, hf⟩ := bd2_e hf
  refine g_callV (pc := 2) (ci := 8) [.int a1] (site_of si_M_isOne (by decide) (by decide)) wd_1160 wd_1162 wp_49 dd_M_refuse_0.2.2.1 rfl e1 (Nat.le_of_ble_eq_true rfl) (fun z => absurd z si_na_M_isOne) (fun z => absurd z si_na_M_isOne) (fun z => absurd z si_na_M_isOne) (c_M_isOne e4) rfl ?_
  refine g_st [.int x5] rfl ?_
  refine g_ifeq (pc := 5) 29 dd_M_refuse_0.2.2.2.1 (by decide) (fun c17 => ?_) (fun c17 => ?_)
  · replace hf := (if_pos c17).symm.trans hf
    refine g_lv [] rfl ?_
    exact t_M_refuse_29  _ _ _  hf
  · replace hf := (if_neg c17).symm.trans hf
    refine g_aload_n (pc := 8) 0 dd_M_refuse_0.2.2.2.2.1 rfl rfl ?_
    refine g_iload_n (pc := 9) 2 dd_M_refuse_0.2.2.2.2.2.1 rfl rfl ?_
    obtain ⟨u7, e6, hf⟩ := bd1_e hf
    obtain ⟨x10, h8, e9, hf⟩ := bd2_e hf
    refine g_callV (pc := 10) (ci := 8) [.int a2] (site_of si_M_isLaw (by decide) (by decide)) wd_1136 wd_1138 wp_44 dd_M_refuse_0.2.2.2.2.2.2.1 rfl e6 (Nat.le_of_ble_eq_true rfl) (fun z => absurd z si_na_M_isLaw) (fun z => absurd z si_na_M_isLaw) (fun z => absurd z si_na_M_isLaw) (c_M_isLaw e9) rfl ?_
    refine g_st [.int x10] rfl ?_
    refine g_ifeq (pc := 13) 29 dd_M_refuse_0.2.2.2.2.2.2.2.1 (by decide) (fun c16 => ?_) (fun c16 => ?_)
    · replace hf := (if_pos c16).symm.trans hf
      refine g_lv [] rfl ?_
      exact t_M_refuse_29  _ _ _  hf
    · replace hf := (if_neg c16).symm.trans hf
      refine g_aload_n (pc := 16) 0 dd_M_refuse_0.2.2.2.2.2.2.2.2.1 rfl rfl ?_
      refine g_bipush (pc := 17) (18 : Int32) dd_M_refuse_0.2.2.2.2.2.2.2.2.2.1 (by decide) ?_
      refine g_iload_n (pc := 19) 1 dd_M_refuse_0.2.2.2.2.2.2.2.2.2.2.1 rfl rfl ?_
      refine g_iadd (pc := 20) dd_M_refuse_0.2.2.2.2.2.2.2.2.2.2.2.1 ?_
      refine g_iload_n (pc := 21) 2 dd_M_refuse_0.2.2.2.2.2.2.2.2.2.2.2.2.1 rfl rfl ?_
      refine g_iload_n (pc := 22) 3 dd_M_refuse_0.2.2.2.2.2.2.2.2.2.2.2.2.2.1 rfl rfl ?_
      obtain ⟨u12, e11, hf⟩ := bd1_e hf
      obtain ⟨x15, h13, e14, hf⟩ := bd2_e hf
      refine g_callV (pc := 23) (ci := 8) [.int ((18 : Int32) + a1), .int a2, .int a3] (site_of si_M_becomesBit (by decide) (by decide)) wd_1204 wd_1206 wp_55 dd_M_refuse_0.2.2.2.2.2.2.2.2.2.2.2.2.2.2.1 rfl e11 (Nat.le_of_ble_eq_true rfl) (fun z => absurd z si_na_M_becomesBit) (fun z => absurd z si_na_M_becomesBit) (fun z => absurd z si_na_M_becomesBit) (c_M_becomesBit e14) rfl ?_
      refine g_st [.int x15] rfl ?_
      refine g_goto (pc := 26) 30 dd_M_refuse_0.2.2.2.2.2.2.2.2.2.2.2.2.2.2.2.1 (by decide) ?_
      obtain ⟨rfl, rfl⟩ := ret2 hf
      exact g_iret (pc := 30) rfl dd_M_refuse_0.2.2.2.2.2.2.2.2.2.2.2.2.2.2.2.2.2
def f_M_refuse (a0 : Nat) (a1 : Int32) (a2 : Int32) (a3 : Int32) (h : mH) : Option (Int32 × mH) := f_M_refuse_0 a0 a1 a2 a3 h
theorem c_M_refuse {sc : Nat × (Nat → Int32)} {a0 : Nat} {a1 : Int32} {a2 : Int32} {a3 : Int32} {h : mH} {r : Int32} {h' : mH} (hf : f_M_refuse a0 a1 a2 a3 h = some (r, h')) : MM sc y_M_refuse prog_10_method_45_code 4 (some .int) 2 46 [.ref a0, .int a1, .int a2, .int a3] h (some (.int r)) h' :=
  mm_of_G si_pn_M (Nat.le_of_ble_eq_true rfl) (t_M_refuse_0 _ _ _ _ _ _ _ hf)
/-! M want (IIZ)I -/
set_option maxRecDepth 100000 in
theorem dd_M_want_0 : (decode prog_10_method_46_code 0 = .ok (.aload_n 0, 1)) ∧ (decode prog_10_method_46_code 1 = .ok (.iload_n 1, 1)) ∧ (decode prog_10_method_46_code 2 = .ok (.invokevirtual 213, 3)) ∧ (decode prog_10_method_46_code 5 = .ok (.ifCond .eq 24, 3)) ∧ (decode prog_10_method_46_code 8 = .ok (.aload_n 0, 1)) ∧ (decode prog_10_method_46_code 9 = .ok (.iload_n 2, 1)) ∧ (decode prog_10_method_46_code 10 = .ok (.invokevirtual 210, 3)) ∧ (decode prog_10_method_46_code 13 = .ok (.ifCond .eq 16, 3)) ∧ (decode prog_10_method_46_code 16 = .ok (.aload_n 0, 1)) ∧ (decode prog_10_method_46_code 17 = .ok (.bipush 21, 2)) ∧ (decode prog_10_method_46_code 19 = .ok (.iload_n 1, 1)) ∧ (decode prog_10_method_46_code 20 = .ok (.iadd, 1)) ∧ (decode prog_10_method_46_code 21 = .ok (.iload_n 2, 1)) ∧ (decode prog_10_method_46_code 22 = .ok (.iload_n 3, 1)) ∧ (decode prog_10_method_46_code 23 = .ok (.invokevirtual 229, 3)) ∧ (decode prog_10_method_46_code 26 = .ok (.goto 4, 3)) ∧ (decode prog_10_method_46_code 29 = .ok (.iconst (-1), 1)) ∧ (decode prog_10_method_46_code 30 = .ok (.ireturn, 1)) := by
  have h : List.drop 0 prog_10_method_46_code.data.toList = 0x2a :: _ := rfl
  refine ⟨zq_k_n 42 h rfl (zq_o_42 _), ?_⟩
  replace h := zq_nx1 (q := 1) h rfl
  refine ⟨zq_k_n 27 h rfl (zq_o_27 _), ?_⟩
  replace h := zq_nx1 (q := 2) h rfl
  refine ⟨zq_k_u2 182 (fun z => .invokevirtual z) 213 h rfl (zq_o_182 _) (by decide +kernel), ?_⟩
  replace h := zq_nx3 (q := 5) h rfl
  refine ⟨zq_k_s2 153 (fun z => .ifCond .eq z) 24 h rfl (zq_o_153 _) (by decide +kernel), ?_⟩
  replace h := zq_nx3 (q := 8) h rfl
  refine ⟨zq_k_n 42 h rfl (zq_o_42 _), ?_⟩
  replace h := zq_nx1 (q := 9) h rfl
  refine ⟨zq_k_n 28 h rfl (zq_o_28 _), ?_⟩
  replace h := zq_nx1 (q := 10) h rfl
  refine ⟨zq_k_u2 182 (fun z => .invokevirtual z) 210 h rfl (zq_o_182 _) (by decide +kernel), ?_⟩
  replace h := zq_nx3 (q := 13) h rfl
  refine ⟨zq_k_s2 153 (fun z => .ifCond .eq z) 16 h rfl (zq_o_153 _) (by decide +kernel), ?_⟩
  replace h := zq_nx3 (q := 16) h rfl
  refine ⟨zq_k_n 42 h rfl (zq_o_42 _), ?_⟩
  replace h := zq_nx1 (q := 17) h rfl
  refine ⟨zq_k_s1 16 (fun z => .bipush z) 21 h rfl (zq_o_16 _) (by decide +kernel), ?_⟩
  replace h := zq_nx2 (q := 19) h rfl
  refine ⟨zq_k_n 27 h rfl (zq_o_27 _), ?_⟩
  replace h := zq_nx1 (q := 20) h rfl
  refine ⟨zq_k_n 96 h rfl (zq_o_96 _), ?_⟩
  replace h := zq_nx1 (q := 21) h rfl
  refine ⟨zq_k_n 28 h rfl (zq_o_28 _), ?_⟩
  replace h := zq_nx1 (q := 22) h rfl
  refine ⟨zq_k_n 29 h rfl (zq_o_29 _), ?_⟩
  replace h := zq_nx1 (q := 23) h rfl
  refine ⟨zq_k_u2 182 (fun z => .invokevirtual z) 229 h rfl (zq_o_182 _) (by decide +kernel), ?_⟩
  replace h := zq_nx3 (q := 26) h rfl
  refine ⟨zq_k_s2 167 (fun z => .goto z) 4 h rfl (zq_o_167 _) (by decide +kernel), ?_⟩
  replace h := zq_nx3 (q := 29) h rfl
  refine ⟨zq_k_n 2 h rfl (zq_o_2 _), ?_⟩
  replace h := zq_nx1 (q := 30) h rfl
  exact zq_k_n 172 h rfl (zq_o_172 _)
def f_M_want_29   (h : mH) : Option (Int32 × mH) :=
  some (((-1) : Int32), h)
set_option maxRecDepth 20000 in
theorem t_M_want_29 {sc : Nat × (Nat → Int32)}   (h : mH) (r : Int32) (h' : mH) (hf : f_M_want_29   h = some (r, h')) : G sc y_M_want prog_10_method_46_code 4 (some .int) 2 46 29 [] [] h (some (.int r)) h' := by
  unfold f_M_want_29 at hf
  refine g_iconst (pc := 29) ((-1) : Int32) dd_M_want_0.2.2.2.2.2.2.2.2.2.2.2.2.2.2.2.2.1 (by decide) ?_
  obtain ⟨rfl, rfl⟩ := ret2 hf
  exact g_iret (pc := 30) rfl dd_M_want_0.2.2.2.2.2.2.2.2.2.2.2.2.2.2.2.2.2
def f_M_want_0  (a0 : Nat) (a1 : Int32) (a2 : Int32) (a3 : Int32) (h : mH) : Option (Int32 × mH) :=
  bd1 (kC h a0 8) fun _ =>
  bd2 (f_M_isOne a0 a1 h) fun x5 h3 =>
  if x5 = 0 then
    f_M_want_29  h3
  else
    bd1 (kC h3 a0 8) fun _ =>
    bd2 (f_M_isLaw a0 a2 h3) fun x10 h8 =>
    if x10 = 0 then
      f_M_want_29  h8
    else
      bd1 (kC h8 a0 8) fun _ =>
      bd2 (f_M_becomesBit a0 ((21 : Int32) + a1) a2 a3 h8) fun x15 h13 =>
      some (x15, h13)
set_option maxRecDepth 20000 in
theorem t_M_want_0 {sc : Nat × (Nat → Int32)}  (a0 : Nat) (a1 : Int32) (a2 : Int32) (a3 : Int32) (h : mH) (r : Int32) (h' : mH) (hf : f_M_want_0  a0 a1 a2 a3 h = some (r, h')) : G sc y_M_want prog_10_method_46_code 4 (some .int) 2 46 0 [(0, .ref a0), (1, .int a1), (2, .int a2), (3, .int a3)] [] h (some (.int r)) h' := by
  unfold f_M_want_0 at hf
  refine g_aload_n (pc := 0) 0 dd_M_want_0.1 rfl rfl ?_
  refine g_iload_n (pc := 1) 1 dd_M_want_0.2.1 rfl rfl ?_
  obtain ⟨u2, e1, hf⟩ := bd1_e hf
  obtain ⟨x5, h3, e4, hf⟩ := bd2_e hf
  refine g_callV (pc := 2) (ci := 8) [.int a1] (site_of si_M_isOne (by decide) (by decide)) wd_1160 wd_1162 wp_49 dd_M_want_0.2.2.1 rfl e1 (Nat.le_of_ble_eq_true rfl) (fun z => absurd z si_na_M_isOne) (fun z => absurd z si_na_M_isOne) (fun z => absurd z si_na_M_isOne) (c_M_isOne e4) rfl ?_
  refine g_st [.int x5] rfl ?_
  refine g_ifeq (pc := 5) 29 dd_M_want_0.2.2.2.1 (by decide) (fun c17 => ?_) (fun c17 => ?_)
  · replace hf := (if_pos c17).symm.trans hf
    refine g_lv [] rfl ?_
    exact t_M_want_29  _ _ _  hf
  · replace hf := (if_neg c17).symm.trans hf
    refine g_aload_n (pc := 8) 0 dd_M_want_0.2.2.2.2.1 rfl rfl ?_
    refine g_iload_n (pc := 9) 2 dd_M_want_0.2.2.2.2.2.1 rfl rfl ?_
    obtain ⟨u7, e6, hf⟩ := bd1_e hf
    obtain ⟨x10, h8, e9, hf⟩ := bd2_e hf
    refine g_callV (pc := 10) (ci := 8) [.int a2] (site_of si_M_isLaw (by decide) (by decide)) wd_1136 wd_1138 wp_44 dd_M_want_0.2.2.2.2.2.2.1 rfl e6 (Nat.le_of_ble_eq_true rfl) (fun z => absurd z si_na_M_isLaw) (fun z => absurd z si_na_M_isLaw) (fun z => absurd z si_na_M_isLaw) (c_M_isLaw e9) rfl ?_
    refine g_st [.int x10] rfl ?_
    refine g_ifeq (pc := 13) 29 dd_M_want_0.2.2.2.2.2.2.2.1 (by decide) (fun c16 => ?_) (fun c16 => ?_)
    · replace hf := (if_pos c16).symm.trans hf
      refine g_lv [] rfl ?_
      exact t_M_want_29  _ _ _  hf
    · replace hf := (if_neg c16).symm.trans hf
      refine g_aload_n (pc := 16) 0 dd_M_want_0.2.2.2.2.2.2.2.2.1 rfl rfl ?_
      refine g_bipush (pc := 17) (21 : Int32) dd_M_want_0.2.2.2.2.2.2.2.2.2.1 (by decide) ?_
      refine g_iload_n (pc := 19) 1 dd_M_want_0.2.2.2.2.2.2.2.2.2.2.1 rfl rfl ?_
      refine g_iadd (pc := 20) dd_M_want_0.2.2.2.2.2.2.2.2.2.2.2.1 ?_
      refine g_iload_n (pc := 21) 2 dd_M_want_0.2.2.2.2.2.2.2.2.2.2.2.2.1 rfl rfl ?_
      refine g_iload_n (pc := 22) 3 dd_M_want_0.2.2.2.2.2.2.2.2.2.2.2.2.2.1 rfl rfl ?_
      obtain ⟨u12, e11, hf⟩ := bd1_e hf
      obtain ⟨x15, h13, e14, hf⟩ := bd2_e hf
      refine g_callV (pc := 23) (ci := 8) [.int ((21 : Int32) + a1), .int a2, .int a3] (site_of si_M_becomesBit (by decide) (by decide)) wd_1204 wd_1206 wp_55 dd_M_want_0.2.2.2.2.2.2.2.2.2.2.2.2.2.2.1 rfl e11 (Nat.le_of_ble_eq_true rfl) (fun z => absurd z si_na_M_becomesBit) (fun z => absurd z si_na_M_becomesBit) (fun z => absurd z si_na_M_becomesBit) (c_M_becomesBit e14) rfl ?_
      refine g_st [.int x15] rfl ?_
      refine g_goto (pc := 26) 30 dd_M_want_0.2.2.2.2.2.2.2.2.2.2.2.2.2.2.2.1 (by decide) ?_
      obtain ⟨rfl, rfl⟩ := ret2 hf
      exact g_iret (pc := 30) rfl dd_M_want_0.2.2.2.2.2.2.2.2.2.2.2.2.2.2.2.2.2
def f_M_want (a0 : Nat) (a1 : Int32) (a2 : Int32) (a3 : Int32) (h : mH) : Option (Int32 × mH) := f_M_want_0 a0 a1 a2 a3 h
theorem c_M_want {sc : Nat × (Nat → Int32)} {a0 : Nat} {a1 : Int32} {a2 : Int32} {a3 : Int32} {h : mH} {r : Int32} {h' : mH} (hf : f_M_want a0 a1 a2 a3 h = some (r, h')) : MM sc y_M_want prog_10_method_46_code 4 (some .int) 2 46 [.ref a0, .int a1, .int a2, .int a3] h (some (.int r)) h' :=
  mm_of_G si_pn_M (Nat.le_of_ble_eq_true rfl) (t_M_want_0 _ _ _ _ _ _ _ hf)
/-! M fund (II)I -/
set_option maxRecDepth 100000 in
theorem dd_M_fund_0 : (decode prog_10_method_47_code 0 = .ok (.aload_n 0, 1)) ∧ (decode prog_10_method_47_code 1 = .ok (.iload_n 1, 1)) ∧ (decode prog_10_method_47_code 2 = .ok (.invokevirtual 213, 3)) ∧ (decode prog_10_method_47_code 5 = .ok (.ifCond .eq 27, 3)) ∧ (decode prog_10_method_47_code 8 = .ok (.iload_n 2, 1)) ∧ (decode prog_10_method_47_code 9 = .ok (.i2l, 1)) ∧ (decode prog_10_method_47_code 10 = .ok (.lconst 0, 1)) ∧ (decode prog_10_method_47_code 11 = .ok (.ldc2_w 235, 3)) ∧ (decode prog_10_method_47_code 14 = .ok (.invokestatic 114, 3)) ∧ (decode prog_10_method_47_code 17 = .ok (.ifCond .eq 15, 3)) ∧ (decode prog_10_method_47_code 20 = .ok (.aload_n 0, 1)) ∧ (decode prog_10_method_47_code 21 = .ok (.bipush 15, 2)) ∧ (decode prog_10_method_47_code 23 = .ok (.iload_n 1, 1)) ∧ (decode prog_10_method_47_code 24 = .ok (.iadd, 1)) ∧ (decode prog_10_method_47_code 25 = .ok (.iload_n 2, 1)) ∧ (decode prog_10_method_47_code 26 = .ok (.invokevirtual 226, 3)) ∧ (decode prog_10_method_47_code 29 = .ok (.goto 4, 3)) ∧ (decode prog_10_method_47_code 32 = .ok (.iconst (-1), 1)) ∧ (decode prog_10_method_47_code 33 = .ok (.ireturn, 1)) := by
  have h : List.drop 0 prog_10_method_47_code.data.toList = 0x2a :: _ := rfl
  refine ⟨zq_k_n 42 h rfl (zq_o_42 _), ?_⟩
  replace h := zq_nx1 (q := 1) h rfl
  refine ⟨zq_k_n 27 h rfl (zq_o_27 _), ?_⟩
  replace h := zq_nx1 (q := 2) h rfl
  refine ⟨zq_k_u2 182 (fun z => .invokevirtual z) 213 h rfl (zq_o_182 _) (by decide +kernel), ?_⟩
  replace h := zq_nx3 (q := 5) h rfl
  refine ⟨zq_k_s2 153 (fun z => .ifCond .eq z) 27 h rfl (zq_o_153 _) (by decide +kernel), ?_⟩
  replace h := zq_nx3 (q := 8) h rfl
  refine ⟨zq_k_n 28 h rfl (zq_o_28 _), ?_⟩
  replace h := zq_nx1 (q := 9) h rfl
  refine ⟨zq_k_n 133 h rfl (zq_o_133 _), ?_⟩
  replace h := zq_nx1 (q := 10) h rfl
  refine ⟨zq_k_n 9 h rfl (zq_o_9 _), ?_⟩
  replace h := zq_nx1 (q := 11) h rfl
  refine ⟨zq_k_u2 20 (fun z => .ldc2_w z) 235 h rfl (zq_o_20 _) (by decide +kernel), ?_⟩
  replace h := zq_nx3 (q := 14) h rfl
  refine ⟨zq_k_u2 184 (fun z => .invokestatic z) 114 h rfl (zq_o_184 _) (by decide +kernel), ?_⟩
  replace h := zq_nx3 (q := 17) h rfl
  refine ⟨zq_k_s2 153 (fun z => .ifCond .eq z) 15 h rfl (zq_o_153 _) (by decide +kernel), ?_⟩
  replace h := zq_nx3 (q := 20) h rfl
  refine ⟨zq_k_n 42 h rfl (zq_o_42 _), ?_⟩
  replace h := zq_nx1 (q := 21) h rfl
  refine ⟨zq_k_s1 16 (fun z => .bipush z) 15 h rfl (zq_o_16 _) (by decide +kernel), ?_⟩
  replace h := zq_nx2 (q := 23) h rfl
  refine ⟨zq_k_n 27 h rfl (zq_o_27 _), ?_⟩
  replace h := zq_nx1 (q := 24) h rfl
  refine ⟨zq_k_n 96 h rfl (zq_o_96 _), ?_⟩
  replace h := zq_nx1 (q := 25) h rfl
  refine ⟨zq_k_n 28 h rfl (zq_o_28 _), ?_⟩
  replace h := zq_nx1 (q := 26) h rfl
  refine ⟨zq_k_u2 182 (fun z => .invokevirtual z) 226 h rfl (zq_o_182 _) (by decide +kernel), ?_⟩
  replace h := zq_nx3 (q := 29) h rfl
  refine ⟨zq_k_s2 167 (fun z => .goto z) 4 h rfl (zq_o_167 _) (by decide +kernel), ?_⟩
  replace h := zq_nx3 (q := 32) h rfl
  refine ⟨zq_k_n 2 h rfl (zq_o_2 _), ?_⟩
  replace h := zq_nx1 (q := 33) h rfl
  exact zq_k_n 172 h rfl (zq_o_172 _)
def f_M_fund_32   (h : mH) : Option (Int32 × mH) :=
  some (((-1) : Int32), h)
set_option maxRecDepth 20000 in
theorem t_M_fund_32 {sc : Nat × (Nat → Int32)}   (h : mH) (r : Int32) (h' : mH) (hf : f_M_fund_32   h = some (r, h')) : G sc y_M_fund prog_10_method_47_code 3 (some .int) 2 46 32 [] [] h (some (.int r)) h' := by
  unfold f_M_fund_32 at hf
  refine g_iconst (pc := 32) ((-1) : Int32) dd_M_fund_0.2.2.2.2.2.2.2.2.2.2.2.2.2.2.2.2.2.1 (by decide) ?_
  obtain ⟨rfl, rfl⟩ := ret2 hf
  exact g_iret (pc := 33) rfl dd_M_fund_0.2.2.2.2.2.2.2.2.2.2.2.2.2.2.2.2.2.2
def f_M_fund_0  (a0 : Nat) (a1 : Int32) (a2 : Int32) (h : mH) : Option (Int32 × mH) :=
  bd1 (kC h a0 8) fun _ =>
  bd2 (f_M_isOne a0 a1 h) fun x5 h3 =>
  if x5 = 0 then
    f_M_fund_32  h3
  else
    bd2 (f_M_in a2.toInt64 (0 : Int64) (99 : Int64) h3) fun x8 h6 =>
    if x8 = 0 then
      f_M_fund_32  h6
    else
      bd1 (kC h6 a0 8) fun _ =>
      bd2 (f_M_becomes a0 ((15 : Int32) + a1) a2 h6) fun x13 h11 =>
      some (x13, h11)
set_option maxRecDepth 20000 in
theorem t_M_fund_0 {sc : Nat × (Nat → Int32)}  (a0 : Nat) (a1 : Int32) (a2 : Int32) (h : mH) (r : Int32) (h' : mH) (hf : f_M_fund_0  a0 a1 a2 h = some (r, h')) : G sc y_M_fund prog_10_method_47_code 3 (some .int) 2 46 0 [(0, .ref a0), (1, .int a1), (2, .int a2)] [] h (some (.int r)) h' := by
  unfold f_M_fund_0 at hf
  refine g_aload_n (pc := 0) 0 dd_M_fund_0.1 rfl rfl ?_
  refine g_iload_n (pc := 1) 1 dd_M_fund_0.2.1 rfl rfl ?_
  obtain ⟨u2, e1, hf⟩ := bd1_e hf
  obtain ⟨x5, h3, e4, hf⟩ := bd2_e hf
  refine g_callV (pc := 2) (ci := 8) [.int a1] (site_of si_M_isOne (by decide) (by decide)) wd_1160 wd_1162 wp_49 dd_M_fund_0.2.2.1 rfl e1 (Nat.le_of_ble_eq_true rfl) (fun z => absurd z si_na_M_isOne) (fun z => absurd z si_na_M_isOne) (fun z => absurd z si_na_M_isOne) (c_M_isOne e4) rfl ?_
  refine g_st [.int x5] rfl ?_
  refine g_ifeq (pc := 5) 32 dd_M_fund_0.2.2.2.1 (by decide) (fun c15 => ?_) (fun c15 => ?_)
  · replace hf := (if_pos c15).symm.trans hf
    refine g_lv [] rfl ?_
    exact t_M_fund_32  _ _ _  hf
  · replace hf := (if_neg c15).symm.trans hf
    refine g_iload_n (pc := 8) 2 dd_M_fund_0.2.2.2.2.1 rfl rfl ?_
    refine g_i2l (pc := 9) dd_M_fund_0.2.2.2.2.2.1 ?_
    refine g_lconst (pc := 10) (0 : Int64) dd_M_fund_0.2.2.2.2.2.2.1 (by decide) ?_
    refine g_ldc2 (pc := 11) (99 : Int64) dd_M_fund_0.2.2.2.2.2.2.2.1 wd_1225 ?_
    obtain ⟨x8, h6, e7, hf⟩ := bd2_e hf
    refine g_callS (pc := 14) [.long a2.toInt64, .long (0 : Int64), .long (99 : Int64)] (site_of si_M_in (by decide) (by decide)) wd_1061 wd_1062 dd_M_fund_0.2.2.2.2.2.2.2.2.1 (Nat.le_of_ble_eq_true rfl) (fun z => absurd z si_na_M_in) (fun z => absurd z si_na_M_in) (fun z => absurd z si_na_M_in) (c_M_in e7) rfl ?_
    refine g_st [.int x8] rfl ?_
    refine g_ifeq (pc := 17) 32 dd_M_fund_0.2.2.2.2.2.2.2.2.2.1 (by decide) (fun c14 => ?_) (fun c14 => ?_)
    · replace hf := (if_pos c14).symm.trans hf
      refine g_lv [] rfl ?_
      exact t_M_fund_32  _ _ _  hf
    · replace hf := (if_neg c14).symm.trans hf
      refine g_aload_n (pc := 20) 0 dd_M_fund_0.2.2.2.2.2.2.2.2.2.2.1 rfl rfl ?_
      refine g_bipush (pc := 21) (15 : Int32) dd_M_fund_0.2.2.2.2.2.2.2.2.2.2.2.1 (by decide) ?_
      refine g_iload_n (pc := 23) 1 dd_M_fund_0.2.2.2.2.2.2.2.2.2.2.2.2.1 rfl rfl ?_
      refine g_iadd (pc := 24) dd_M_fund_0.2.2.2.2.2.2.2.2.2.2.2.2.2.1 ?_
      refine g_iload_n (pc := 25) 2 dd_M_fund_0.2.2.2.2.2.2.2.2.2.2.2.2.2.2.1 rfl rfl ?_
      obtain ⟨u10, e9, hf⟩ := bd1_e hf
      obtain ⟨x13, h11, e12, hf⟩ := bd2_e hf
      refine g_callV (pc := 26) (ci := 8) [.int ((15 : Int32) + a1), .int a2] (site_of si_M_becomes (by decide) (by decide)) wd_1192 wd_1194 wp_54 dd_M_fund_0.2.2.2.2.2.2.2.2.2.2.2.2.2.2.2.1 rfl e9 (Nat.le_of_ble_eq_true rfl) (fun z => absurd z si_na_M_becomes) (fun z => absurd z si_na_M_becomes) (fun z => absurd z si_na_M_becomes) (c_M_becomes e12) rfl ?_
      refine g_st [.int x13] rfl ?_
      refine g_goto (pc := 29) 33 dd_M_fund_0.2.2.2.2.2.2.2.2.2.2.2.2.2.2.2.2.1 (by decide) ?_
      obtain ⟨rfl, rfl⟩ := ret2 hf
      exact g_iret (pc := 33) rfl dd_M_fund_0.2.2.2.2.2.2.2.2.2.2.2.2.2.2.2.2.2.2
def f_M_fund (a0 : Nat) (a1 : Int32) (a2 : Int32) (h : mH) : Option (Int32 × mH) := f_M_fund_0 a0 a1 a2 h
theorem c_M_fund {sc : Nat × (Nat → Int32)} {a0 : Nat} {a1 : Int32} {a2 : Int32} {h : mH} {r : Int32} {h' : mH} (hf : f_M_fund a0 a1 a2 h = some (r, h')) : MM sc y_M_fund prog_10_method_47_code 3 (some .int) 2 46 [.ref a0, .int a1, .int a2] h (some (.int r)) h' :=
  mm_of_G si_pn_M (Nat.le_of_ble_eq_true rfl) (t_M_fund_0 _ _ _ _ _ _ hf)
/-! M bitsOf (I)I -/
set_option maxRecDepth 100000 in
theorem dd_M_bitsOf_0 : (decode prog_10_method_25_code 0 = .ok (.iconst 0, 1)) ∧ (decode prog_10_method_25_code 1 = .ok (.istore_n 1, 1)) ∧ (decode prog_10_method_25_code 2 = .ok (.iconst 0, 1)) ∧ (decode prog_10_method_25_code 3 = .ok (.istore_n 2, 1)) ∧ (decode prog_10_method_25_code 4 = .ok (.iload_n 2, 1)) ∧ (decode prog_10_method_25_code 5 = .ok (.iconst 5, 1)) ∧ (decode prog_10_method_25_code 6 = .ok (.if_icmp .ge 17, 3)) ∧ (decode prog_10_method_25_code 9 = .ok (.iload_n 1, 1)) ∧ (decode prog_10_method_25_code 10 = .ok (.iload_n 0, 1)) ∧ (decode prog_10_method_25_code 11 = .ok (.iload_n 2, 1)) ∧ (decode prog_10_method_25_code 12 = .ok (.ishr, 1)) ∧ (decode prog_10_method_25_code 13 = .ok (.iconst 1, 1)) ∧ (decode prog_10_method_25_code 14 = .ok (.iand, 1)) ∧ (decode prog_10_method_25_code 15 = .ok (.iadd, 1)) ∧ (decode prog_10_method_25_code 16 = .ok (.istore_n 1, 1)) ∧ (decode prog_10_method_25_code 17 = .ok (.iinc 2 1, 3)) ∧ (decode prog_10_method_25_code 20 = .ok (.goto (-16), 3)) ∧ (decode prog_10_method_25_code 23 = .ok (.iload_n 1, 1)) ∧ (decode prog_10_method_25_code 24 = .ok (.ireturn, 1)) := by
  have h : List.drop 0 prog_10_method_25_code.data.toList = 0x03 :: _ := rfl
  refine ⟨zq_k_n 3 h rfl (zq_o_3 _), ?_⟩
  replace h := zq_nx1 (q := 1) h rfl
  refine ⟨zq_k_n 60 h rfl (zq_o_60 _), ?_⟩
  replace h := zq_nx1 (q := 2) h rfl
  refine ⟨zq_k_n 3 h rfl (zq_o_3 _), ?_⟩
  replace h := zq_nx1 (q := 3) h rfl
  refine ⟨zq_k_n 61 h rfl (zq_o_61 _), ?_⟩
  replace h := zq_nx1 (q := 4) h rfl
  refine ⟨zq_k_n 28 h rfl (zq_o_28 _), ?_⟩
  replace h := zq_nx1 (q := 5) h rfl
  refine ⟨zq_k_n 8 h rfl (zq_o_8 _), ?_⟩
  replace h := zq_nx1 (q := 6) h rfl
  refine ⟨zq_k_s2 162 (fun z => .if_icmp .ge z) 17 h rfl (zq_o_162 _) (by decide +kernel), ?_⟩
  replace h := zq_nx3 (q := 9) h rfl
  refine ⟨zq_k_n 27 h rfl (zq_o_27 _), ?_⟩
  replace h := zq_nx1 (q := 10) h rfl
  refine ⟨zq_k_n 26 h rfl (zq_o_26 _), ?_⟩
  replace h := zq_nx1 (q := 11) h rfl
  refine ⟨zq_k_n 28 h rfl (zq_o_28 _), ?_⟩
  replace h := zq_nx1 (q := 12) h rfl
  refine ⟨zq_k_n 122 h rfl (zq_o_122 _), ?_⟩
  replace h := zq_nx1 (q := 13) h rfl
  refine ⟨zq_k_n 4 h rfl (zq_o_4 _), ?_⟩
  replace h := zq_nx1 (q := 14) h rfl
  refine ⟨zq_k_n 126 h rfl (zq_o_126 _), ?_⟩
  replace h := zq_nx1 (q := 15) h rfl
  refine ⟨zq_k_n 96 h rfl (zq_o_96 _), ?_⟩
  replace h := zq_nx1 (q := 16) h rfl
  refine ⟨zq_k_n 60 h rfl (zq_o_60 _), ?_⟩
  replace h := zq_nx1 (q := 17) h rfl
  refine ⟨zq_k_iinc 2 1 h rfl (zq_o_132 _) (by decide +kernel) (by decide +kernel), ?_⟩
  replace h := zq_nx3 (q := 20) h rfl
  refine ⟨zq_k_s2 167 (fun z => .goto z) (-16) h rfl (zq_o_167 _) (by decide +kernel), ?_⟩
  replace h := zq_nx3 (q := 23) h rfl
  refine ⟨zq_k_n 27 h rfl (zq_o_27 _), ?_⟩
  replace h := zq_nx1 (q := 24) h rfl
  exact zq_k_n 172 h rfl (zq_o_172 _)
def f_M_bitsOf_4b (rec4 : Int32 → Int32 → Int32 → mH → Option (Int32 × mH)) (b0 : Int32) (b1 : Int32) (b2 : Int32) (h : mH) : Option (Int32 × mH) :=
  if (5 : Int32) ≤ b2 then
    some (b1, h)
  else
    rec4 b0 (b1 + ((b0 >>> (b2 &&& 31)) &&& (1 : Int32))) (b2 + (1 : Int32)) h
set_option maxRecDepth 20000 in
theorem t_M_bitsOf_4b {sc : Nat × (Nat → Int32)} (rec4 : Int32 → Int32 → Int32 → mH → Option (Int32 × mH)) (hrec4 : ∀ (b0 : Int32) (b1 : Int32) (b2 : Int32) (h : mH) (r : Int32) (h' : mH), rec4 b0 b1 b2 h = some (r, h') → G sc y_M_bitsOf prog_10_method_25_code 3 (some .int) 0 0 4 [(0, .int b0), (1, .int b1), (2, .int b2)] [] h (some (.int r)) h') (b0 : Int32) (b1 : Int32) (b2 : Int32) (h : mH) (r : Int32) (h' : mH) (hf : f_M_bitsOf_4b rec4 b0 b1 b2 h = some (r, h')) : G sc y_M_bitsOf prog_10_method_25_code 3 (some .int) 0 0 4 [(0, .int b0), (1, .int b1), (2, .int b2)] [] h (some (.int r)) h' := by
  unfold f_M_bitsOf_4b at hf
  refine g_iload_n (pc := 4) 2 dd_M_bitsOf_0.2.2.2.2.1 rfl rfl ?_
  refine g_iconst (pc := 5) (5 : Int32) dd_M_bitsOf_0.2.2.2.2.2.1 (by decide) ?_
  refine g_icmpge (pc := 6) 23 dd_M_bitsOf_0.2.2.2.2.2.2.1 (by decide) (fun c1 => ?_) (fun c1 => ?_)
  · replace hf := (if_pos c1).symm.trans hf
    refine g_iload_n (pc := 23) 1 dd_M_bitsOf_0.2.2.2.2.2.2.2.2.2.2.2.2.2.2.2.2.2.1 rfl rfl ?_
    obtain ⟨rfl, rfl⟩ := ret2 hf
    exact g_iret (pc := 24) rfl dd_M_bitsOf_0.2.2.2.2.2.2.2.2.2.2.2.2.2.2.2.2.2.2
  · replace hf := (if_neg c1).symm.trans hf
    refine g_iload_n (pc := 9) 1 dd_M_bitsOf_0.2.2.2.2.2.2.2.1 rfl rfl ?_
    refine g_iload_n (pc := 10) 0 dd_M_bitsOf_0.2.2.2.2.2.2.2.2.1 rfl rfl ?_
    refine g_iload_n (pc := 11) 2 dd_M_bitsOf_0.2.2.2.2.2.2.2.2.2.1 rfl rfl ?_
    refine g_ishr (pc := 12) dd_M_bitsOf_0.2.2.2.2.2.2.2.2.2.2.1 ?_
    refine g_iconst (pc := 13) (1 : Int32) dd_M_bitsOf_0.2.2.2.2.2.2.2.2.2.2.2.1 (by decide) ?_
    refine g_iand (pc := 14) dd_M_bitsOf_0.2.2.2.2.2.2.2.2.2.2.2.2.1 ?_
    refine g_iadd (pc := 15) dd_M_bitsOf_0.2.2.2.2.2.2.2.2.2.2.2.2.2.1 ?_
    refine g_istore_n (pc := 16) [(1, .int (b1 + ((b0 >>> (b2 &&& 31)) &&& (1 : Int32)))), (0, .int b0), (2, .int b2)] dd_M_bitsOf_0.2.2.2.2.2.2.2.2.2.2.2.2.2.2.1 rfl (Nat.le_of_ble_eq_true rfl) rfl ?_
    refine g_iinc (pc := 17) 2 (b2 + (1 : Int32)) [(2, .int (b2 + (1 : Int32))), (1, .int (b1 + ((b0 >>> (b2 &&& 31)) &&& (1 : Int32)))), (0, .int b0)] dd_M_bitsOf_0.2.2.2.2.2.2.2.2.2.2.2.2.2.2.2.1 rfl rfl (Nat.le_of_ble_eq_true rfl) rfl ?_
    refine g_goto (pc := 20) 4 dd_M_bitsOf_0.2.2.2.2.2.2.2.2.2.2.2.2.2.2.2.2.1 (by decide) ?_
    refine g_lv [2, 1, 0] rfl ?_
    exact hrec4 _ _ _ _ _ _  hf
def f_M_bitsOf_4  : Nat → Int32 → Int32 → Int32 → mH → Option (Int32 × mH)
  | 0 => fun _ _ _ _ => none
  | n + 1 => f_M_bitsOf_4b  (f_M_bitsOf_4  n)
theorem t_M_bitsOf_4 {sc : Nat × (Nat → Int32)}  : ∀ (n : Nat) (b0 : Int32) (b1 : Int32) (b2 : Int32) (h : mH) (r : Int32) (h' : mH) (hf : f_M_bitsOf_4  n b0 b1 b2 h = some (r, h')), G sc y_M_bitsOf prog_10_method_25_code 3 (some .int) 0 0 4 [(0, .int b0), (1, .int b1), (2, .int b2)] [] h (some (.int r)) h'
  | 0, _, _, _, _, _, _, hf => by cases hf
  | n + 1, _, _, _, _, _, _, hf => t_M_bitsOf_4b  (f_M_bitsOf_4  n) (t_M_bitsOf_4  n) _ _ _ _ _ _ hf
def f_M_bitsOf_0  (a0 : Int32) (h : mH) : Option (Int32 × mH) :=
  f_M_bitsOf_4  FU a0 (0 : Int32) (0 : Int32) h
set_option maxRecDepth 20000 in
theorem t_M_bitsOf_0 {sc : Nat × (Nat → Int32)}  (a0 : Int32) (h : mH) (r : Int32) (h' : mH) (hf : f_M_bitsOf_0  a0 h = some (r, h')) : G sc y_M_bitsOf prog_10_method_25_code 3 (some .int) 0 0 0 [(0, .int a0)] [] h (some (.int r)) h' := by
  unfold f_M_bitsOf_0 at hf
  refine g_iconst (pc := 0) (0 : Int32) dd_M_bitsOf_0.1 (by decide) ?_
  refine g_istore_n (pc := 1) [(1, .int (0 : Int32)), (0, .int a0)] dd_M_bitsOf_0.2.1 rfl (Nat.le_of_ble_eq_true rfl) rfl ?_
  refine g_iconst (pc := 2) (0 : Int32) dd_M_bitsOf_0.2.2.1 (by decide) ?_
  refine g_istore_n (pc := 3) [(2, .int (0 : Int32)), (1, .int (0 : Int32)), (0, .int a0)] dd_M_bitsOf_0.2.2.2.1 rfl (Nat.le_of_ble_eq_true rfl) rfl ?_
  refine g_lv [2, 1, 0] rfl ?_
  exact t_M_bitsOf_4  FU _ _ _ _ _ _  hf
def f_M_bitsOf (a0 : Int32) (h : mH) : Option (Int32 × mH) := f_M_bitsOf_0 a0 h
theorem c_M_bitsOf {sc : Nat × (Nat → Int32)} {a0 : Int32} {h : mH} {r : Int32} {h' : mH} (hf : f_M_bitsOf a0 h = some (r, h')) : MM sc y_M_bitsOf prog_10_method_25_code 3 (some .int) 0 0 [.int a0] h (some (.int r)) h' :=
  mm_of_G si_pn_M (Nat.le_of_ble_eq_true rfl) (t_M_bitsOf_0 _ _ _ _ hf)
/-! M revive (I)I -/
set_option maxRecDepth 100000 in
theorem dd_M_revive_0 : (decode prog_10_method_48_code 0 = .ok (.aload_n 0, 1)) ∧ (decode prog_10_method_48_code 1 = .ok (.iload_n 1, 1)) ∧ (decode prog_10_method_48_code 2 = .ok (.invokevirtual 210, 3)) ∧ (decode prog_10_method_48_code 5 = .ok (.ifCond .ne 5, 3)) ∧ (decode prog_10_method_48_code 8 = .ok (.iconst (-1), 1)) ∧ (decode prog_10_method_48_code 9 = .ok (.ireturn, 1)) ∧ (decode prog_10_method_48_code 10 = .ok (.aload_n 0, 1)) ∧ (decode prog_10_method_48_code 11 = .ok (.iload_n 1, 1)) ∧ (decode prog_10_method_48_code 12 = .ok (.invokevirtual 191, 3)) ∧ (decode prog_10_method_48_code 15 = .ok (.ifCond .eq 6, 3)) ∧ (decode prog_10_method_48_code 18 = .ok (.bipush (-2), 2)) ∧ (decode prog_10_method_48_code 20 = .ok (.ireturn, 1)) ∧ (decode prog_10_method_48_code 21 = .ok (.aload_n 0, 1)) ∧ (decode prog_10_method_48_code 22 = .ok (.getfield 7, 3)) ∧ (decode prog_10_method_48_code 25 = .ok (.bipush 10, 2)) ∧ (decode prog_10_method_48_code 27 = .ok (.dup2, 1)) ∧ (decode prog_10_method_48_code 28 = .ok (.iaload, 1)) ∧ (decode prog_10_method_48_code 29 = .ok (.iconst 1, 1)) ∧ (decode prog_10_method_48_code 30 = .ok (.iload_n 1, 1)) ∧ (decode prog_10_method_48_code 31 = .ok (.ishl, 1)) ∧ (decode prog_10_method_48_code 32 = .ok (.ior, 1)) ∧ (decode prog_10_method_48_code 33 = .ok (.iastore, 1)) ∧ (decode prog_10_method_48_code 34 = .ok (.aload_n 0, 1)) ∧ (decode prog_10_method_48_code 35 = .ok (.getfield 7, 3)) := by
  have h : List.drop 0 prog_10_method_48_code.data.toList = 0x2a :: _ := rfl
  refine ⟨zq_k_n 42 h rfl (zq_o_42 _), ?_⟩
  replace h := zq_nx1 (q := 1) h rfl
  refine ⟨zq_k_n 27 h rfl (zq_o_27 _), ?_⟩
  replace h := zq_nx1 (q := 2) h rfl
  refine ⟨zq_k_u2 182 (fun z => .invokevirtual z) 210 h rfl (zq_o_182 _) (by decide +kernel), ?_⟩
  replace h := zq_nx3 (q := 5) h rfl
  refine ⟨zq_k_s2 154 (fun z => .ifCond .ne z) 5 h rfl (zq_o_154 _) (by decide +kernel), ?_⟩
  replace h := zq_nx3 (q := 8) h rfl
  refine ⟨zq_k_n 2 h rfl (zq_o_2 _), ?_⟩
  replace h := zq_nx1 (q := 9) h rfl
  refine ⟨zq_k_n 172 h rfl (zq_o_172 _), ?_⟩
  replace h := zq_nx1 (q := 10) h rfl
  refine ⟨zq_k_n 42 h rfl (zq_o_42 _), ?_⟩
  replace h := zq_nx1 (q := 11) h rfl
  refine ⟨zq_k_n 27 h rfl (zq_o_27 _), ?_⟩
  replace h := zq_nx1 (q := 12) h rfl
  refine ⟨zq_k_u2 182 (fun z => .invokevirtual z) 191 h rfl (zq_o_182 _) (by decide +kernel), ?_⟩
  replace h := zq_nx3 (q := 15) h rfl
  refine ⟨zq_k_s2 153 (fun z => .ifCond .eq z) 6 h rfl (zq_o_153 _) (by decide +kernel), ?_⟩
  replace h := zq_nx3 (q := 18) h rfl
  refine ⟨zq_k_s1 16 (fun z => .bipush z) (-2) h rfl (zq_o_16 _) (by decide +kernel), ?_⟩
  replace h := zq_nx2 (q := 20) h rfl
  refine ⟨zq_k_n 172 h rfl (zq_o_172 _), ?_⟩
  replace h := zq_nx1 (q := 21) h rfl
  refine ⟨zq_k_n 42 h rfl (zq_o_42 _), ?_⟩
  replace h := zq_nx1 (q := 22) h rfl
  refine ⟨zq_k_u2 180 (fun z => .getfield z) 7 h rfl (zq_o_180 _) (by decide +kernel), ?_⟩
  replace h := zq_nx3 (q := 25) h rfl
  refine ⟨zq_k_s1 16 (fun z => .bipush z) 10 h rfl (zq_o_16 _) (by decide +kernel), ?_⟩
  replace h := zq_nx2 (q := 27) h rfl
  refine ⟨zq_k_n 92 h rfl (zq_o_92 _), ?_⟩
  replace h := zq_nx1 (q := 28) h rfl
  refine ⟨zq_k_n 46 h rfl (zq_o_46 _), ?_⟩
  replace h := zq_nx1 (q := 29) h rfl
  refine ⟨zq_k_n 4 h rfl (zq_o_4 _), ?_⟩
  replace h := zq_nx1 (q := 30) h rfl
  refine ⟨zq_k_n 27 h rfl (zq_o_27 _), ?_⟩
  replace h := zq_nx1 (q := 31) h rfl
  refine ⟨zq_k_n 120 h rfl (zq_o_120 _), ?_⟩
  replace h := zq_nx1 (q := 32) h rfl
  refine ⟨zq_k_n 128 h rfl (zq_o_128 _), ?_⟩
  replace h := zq_nx1 (q := 33) h rfl
  refine ⟨zq_k_n 79 h rfl (zq_o_79 _), ?_⟩
  replace h := zq_nx1 (q := 34) h rfl
  refine ⟨zq_k_n 42 h rfl (zq_o_42 _), ?_⟩
  replace h := zq_nx1 (q := 35) h rfl
  exact zq_k_u2 180 (fun z => .getfield z) 7 h rfl (zq_o_180 _) (by decide +kernel)
set_option maxRecDepth 100000 in
theorem dd_M_revive_38 : (decode prog_10_method_48_code 38 = .ok (.bipush 10, 2)) ∧ (decode prog_10_method_48_code 40 = .ok (.iaload, 1)) ∧ (decode prog_10_method_48_code 41 = .ok (.invokestatic 237, 3)) ∧ (decode prog_10_method_48_code 44 = .ok (.ireturn, 1)) := by
  have h : List.drop 38 prog_10_method_48_code.data.toList = 0x10 :: _ := rfl
  refine ⟨zq_k_s1 16 (fun z => .bipush z) 10 h rfl (zq_o_16 _) (by decide +kernel), ?_⟩
  replace h := zq_nx2 (q := 40) h rfl
  refine ⟨zq_k_n 46 h rfl (zq_o_46 _), ?_⟩
  replace h := zq_nx1 (q := 41) h rfl
  refine ⟨zq_k_u2 184 (fun z => .invokestatic z) 237 h rfl (zq_o_184 _) (by decide +kernel), ?_⟩
  replace h := zq_nx3 (q := 44) h rfl
  exact zq_k_n 172 h rfl (zq_o_172 _)
def f_M_revive_0  (a0 : Nat) (a1 : Int32) (h : mH) : Option (Int32 × mH) :=
  bd1 (kC h a0 8) fun _ =>
  bd2 (f_M_isLaw a0 a1 h) fun x5 h3 =>
  if x5 = 0 then
    some (((-1) : Int32), h3)
  else
    bd1 (kC h3 a0 8) fun _ =>
    bd2 (f_M_doesStand a0 a1 h3) fun x10 h8 =>
    if x10 = 0 then
      bd1 (gR h8 a0 8 0) fun x11 =>
      bd1 (aI h8 0 x11 (10 : Int32)) fun x13 =>
      bd1 (sI h8 0 x11 (10 : Int32) (x13 ||| ((1 : Int32) <<< (a1 &&& 31)))) fun h15 =>
      bd1 (gR h15 a0 8 0) fun x17 =>
      bd1 (aI h15 0 x17 (10 : Int32)) fun x19 =>
      bd2 (f_M_bitsOf x19 h15) fun x23 h21 =>
      some (x23, h21)
    else
      some (((-2) : Int32), h8)
set_option maxRecDepth 20000 in
theorem t_M_revive_0 {sc : Nat × (Nat → Int32)}  (a0 : Nat) (a1 : Int32) (h : mH) (r : Int32) (h' : mH) (hf : f_M_revive_0  a0 a1 h = some (r, h')) : G sc y_M_revive prog_10_method_48_code 2 (some .int) 2 46 0 [(0, .ref a0), (1, .int a1)] [] h (some (.int r)) h' := by
  unfold f_M_revive_0 at hf
  refine g_aload_n (pc := 0) 0 dd_M_revive_0.1 rfl rfl ?_
  refine g_iload_n (pc := 1) 1 dd_M_revive_0.2.1 rfl rfl ?_
  obtain ⟨u2, e1, hf⟩ := bd1_e hf
  obtain ⟨x5, h3, e4, hf⟩ := bd2_e hf
  refine g_callV (pc := 2) (ci := 8) [.int a1] (site_of si_M_isLaw (by decide) (by decide)) wd_1136 wd_1138 wp_44 dd_M_revive_0.2.2.1 rfl e1 (Nat.le_of_ble_eq_true rfl) (fun z => absurd z si_na_M_isLaw) (fun z => absurd z si_na_M_isLaw) (fun z => absurd z si_na_M_isLaw) (c_M_isLaw e4) rfl ?_
  refine g_st [.int x5] rfl ?_
  refine g_ifne (pc := 5) 10 dd_M_revive_0.2.2.2.1 (by decide) (fun c25 => ?_) (fun c25 => ?_)
  · replace hf := (if_neg c25).symm.trans hf
    refine g_aload_n (pc := 10) 0 dd_M_revive_0.2.2.2.2.2.2.1 rfl rfl ?_
    refine g_iload_n (pc := 11) 1 dd_M_revive_0.2.2.2.2.2.2.2.1 rfl rfl ?_
    obtain ⟨u7, e6, hf⟩ := bd1_e hf
    obtain ⟨x10, h8, e9, hf⟩ := bd2_e hf
    refine g_callV (pc := 12) (ci := 8) [.int a1] (site_of si_M_doesStand (by decide) (by decide)) wd_1144 wd_1146 wp_46 dd_M_revive_0.2.2.2.2.2.2.2.2.1 rfl e6 (Nat.le_of_ble_eq_true rfl) (fun z => absurd z si_na_M_doesStand) (fun z => absurd z si_na_M_doesStand) (fun z => absurd z si_na_M_doesStand) (c_M_doesStand e9) rfl ?_
    refine g_st [.int x10] rfl ?_
    refine g_ifeq (pc := 15) 21 dd_M_revive_0.2.2.2.2.2.2.2.2.2.1 (by decide) (fun c24 => ?_) (fun c24 => ?_)
    · replace hf := (if_pos c24).symm.trans hf
      refine g_aload_n (pc := 21) 0 dd_M_revive_0.2.2.2.2.2.2.2.2.2.2.2.2.1 rfl rfl ?_
      obtain ⟨x11, e12, hf⟩ := bd1_e hf
      refine g_get (pc := 22) (ci := 8) (kk := 0) dd_M_revive_0.2.2.2.2.2.2.2.2.2.2.2.2.2.1 rfl in_M (by decide) wd_938 (gR_spec e12) ?_
      refine g_bipush (pc := 25) (10 : Int32) dd_M_revive_0.2.2.2.2.2.2.2.2.2.2.2.2.2.2.1 (by decide) ?_
      refine g_dup2 (pc := 27) dd_M_revive_0.2.2.2.2.2.2.2.2.2.2.2.2.2.2.2.1 rfl rfl ?_
      obtain ⟨x13, e14, hf⟩ := bd1_e hf
      refine g_iald (pc := 28) dd_M_revive_0.2.2.2.2.2.2.2.2.2.2.2.2.2.2.2.2.1 e14 ?_
      refine g_iconst (pc := 29) (1 : Int32) dd_M_revive_0.2.2.2.2.2.2.2.2.2.2.2.2.2.2.2.2.2.1 (by decide) ?_
      refine g_iload_n (pc := 30) 1 dd_M_revive_0.2.2.2.2.2.2.2.2.2.2.2.2.2.2.2.2.2.2.1 rfl rfl ?_
      refine g_ishl (pc := 31) dd_M_revive_0.2.2.2.2.2.2.2.2.2.2.2.2.2.2.2.2.2.2.2.1 ?_
      refine g_ior (pc := 32) dd_M_revive_0.2.2.2.2.2.2.2.2.2.2.2.2.2.2.2.2.2.2.2.2.1 ?_
      obtain ⟨h15, e16, hf⟩ := bd1_e hf
      refine g_iast (pc := 33) dd_M_revive_0.2.2.2.2.2.2.2.2.2.2.2.2.2.2.2.2.2.2.2.2.2.1 e16 ?_
      refine g_aload_n (pc := 34) 0 dd_M_revive_0.2.2.2.2.2.2.2.2.2.2.2.2.2.2.2.2.2.2.2.2.2.2.1 rfl rfl ?_
      obtain ⟨x17, e18, hf⟩ := bd1_e hf
      refine g_get (pc := 35) (ci := 8) (kk := 0) dd_M_revive_0.2.2.2.2.2.2.2.2.2.2.2.2.2.2.2.2.2.2.2.2.2.2.2 rfl in_M (by decide) wd_938 (gR_spec e18) ?_
      refine g_bipush (pc := 38) (10 : Int32) dd_M_revive_38.1 (by decide) ?_
      obtain ⟨x19, e20, hf⟩ := bd1_e hf
      refine g_iald (pc := 40) dd_M_revive_38.2.1 e20 ?_
      obtain ⟨x23, h21, e22, hf⟩ := bd2_e hf
      refine g_callS (pc := 41) [.int x19] (site_of si_M_bitsOf (by decide) (by decide)) wd_1230 wd_1231 dd_M_revive_38.2.2.1 (Nat.le_of_ble_eq_true rfl) (fun z => absurd z si_na_M_bitsOf) (fun z => absurd z si_na_M_bitsOf) (fun z => absurd z si_na_M_bitsOf) (c_M_bitsOf e22) rfl ?_
      refine g_st [.int x23] rfl ?_
      obtain ⟨rfl, rfl⟩ := ret2 hf
      exact g_iret (pc := 44) rfl dd_M_revive_38.2.2.2
    · replace hf := (if_neg c24).symm.trans hf
      refine g_bipush (pc := 18) ((-2) : Int32) dd_M_revive_0.2.2.2.2.2.2.2.2.2.2.1 (by decide) ?_
      obtain ⟨rfl, rfl⟩ := ret2 hf
      exact g_iret (pc := 20) rfl dd_M_revive_0.2.2.2.2.2.2.2.2.2.2.2.1
  · replace hf := (if_pos c25).symm.trans hf
    refine g_iconst (pc := 8) ((-1) : Int32) dd_M_revive_0.2.2.2.2.1 (by decide) ?_
    obtain ⟨rfl, rfl⟩ := ret2 hf
    exact g_iret (pc := 9) rfl dd_M_revive_0.2.2.2.2.2.1
def f_M_revive (a0 : Nat) (a1 : Int32) (h : mH) : Option (Int32 × mH) := f_M_revive_0 a0 a1 h
theorem c_M_revive {sc : Nat × (Nat → Int32)} {a0 : Nat} {a1 : Int32} {h : mH} {r : Int32} {h' : mH} (hf : f_M_revive a0 a1 h = some (r, h')) : MM sc y_M_revive prog_10_method_48_code 2 (some .int) 2 46 [.ref a0, .int a1] h (some (.int r)) h' :=
  mm_of_G si_pn_M (Nat.le_of_ble_eq_true rfl) (t_M_revive_0 _ _ _ _ _ hf)
/-! M breaks (II)I -/
set_option maxRecDepth 100000 in
theorem dd_M_breaks_0 : (decode prog_10_method_49_code 0 = .ok (.aload_n 0, 1)) ∧ (decode prog_10_method_49_code 1 = .ok (.iload_n 1, 1)) ∧ (decode prog_10_method_49_code 2 = .ok (.invokevirtual 213, 3)) ∧ (decode prog_10_method_49_code 5 = .ok (.ifCond .eq 11, 3)) ∧ (decode prog_10_method_49_code 8 = .ok (.aload_n 0, 1)) ∧ (decode prog_10_method_49_code 9 = .ok (.iload_n 2, 1)) ∧ (decode prog_10_method_49_code 10 = .ok (.invokevirtual 210, 3)) ∧ (decode prog_10_method_49_code 13 = .ok (.ifCond .ne 5, 3)) ∧ (decode prog_10_method_49_code 16 = .ok (.iconst (-1), 1)) ∧ (decode prog_10_method_49_code 17 = .ok (.ireturn, 1)) ∧ (decode prog_10_method_49_code 18 = .ok (.aload_n 0, 1)) ∧ (decode prog_10_method_49_code 19 = .ok (.getfield 7, 3)) ∧ (decode prog_10_method_49_code 22 = .ok (.bipush 11, 2)) ∧ (decode prog_10_method_49_code 24 = .ok (.iaload, 1)) ∧ (decode prog_10_method_49_code 25 = .ok (.iload_n 2, 1)) ∧ (decode prog_10_method_49_code 26 = .ok (.ishr, 1)) ∧ (decode prog_10_method_49_code 27 = .ok (.iconst 1, 1)) ∧ (decode prog_10_method_49_code 28 = .ok (.iand, 1)) ∧ (decode prog_10_method_49_code 29 = .ok (.iconst 1, 1)) ∧ (decode prog_10_method_49_code 30 = .ok (.if_icmp .ne 12, 3)) ∧ (decode prog_10_method_49_code 33 = .ok (.aload_n 0, 1)) ∧ (decode prog_10_method_49_code 34 = .ok (.getfield 23, 3)) ∧ (decode prog_10_method_49_code 37 = .ok (.iload_n 2, 1)) ∧ (decode prog_10_method_49_code 38 = .ok (.iaload, 1)) := by
  have h : List.drop 0 prog_10_method_49_code.data.toList = 0x2a :: _ := rfl
  refine ⟨zq_k_n 42 h rfl (zq_o_42 _), ?_⟩
  replace h := zq_nx1 (q := 1) h rfl
  refine ⟨zq_k_n 27 h rfl (zq_o_27 _), ?_⟩
  replace h := zq_nx1 (q := 2) h rfl
  refine ⟨zq_k_u2 182 (fun z => .invokevirtual z) 213 h rfl (zq_o_182 _) (by decide +kernel), ?_⟩
  replace h := zq_nx3 (q := 5) h rfl
  refine ⟨zq_k_s2 153 (fun z => .ifCond .eq z) 11 h rfl (zq_o_153 _) (by decide +kernel), ?_⟩
  replace h := zq_nx3 (q := 8) h rfl
  refine ⟨zq_k_n 42 h rfl (zq_o_42 _), ?_⟩
  replace h := zq_nx1 (q := 9) h rfl
  refine ⟨zq_k_n 28 h rfl (zq_o_28 _), ?_⟩
  replace h := zq_nx1 (q := 10) h rfl
  refine ⟨zq_k_u2 182 (fun z => .invokevirtual z) 210 h rfl (zq_o_182 _) (by decide +kernel), ?_⟩
  replace h := zq_nx3 (q := 13) h rfl
  refine ⟨zq_k_s2 154 (fun z => .ifCond .ne z) 5 h rfl (zq_o_154 _) (by decide +kernel), ?_⟩
  replace h := zq_nx3 (q := 16) h rfl
  refine ⟨zq_k_n 2 h rfl (zq_o_2 _), ?_⟩
  replace h := zq_nx1 (q := 17) h rfl
  refine ⟨zq_k_n 172 h rfl (zq_o_172 _), ?_⟩
  replace h := zq_nx1 (q := 18) h rfl
  refine ⟨zq_k_n 42 h rfl (zq_o_42 _), ?_⟩
  replace h := zq_nx1 (q := 19) h rfl
  refine ⟨zq_k_u2 180 (fun z => .getfield z) 7 h rfl (zq_o_180 _) (by decide +kernel), ?_⟩
  replace h := zq_nx3 (q := 22) h rfl
  refine ⟨zq_k_s1 16 (fun z => .bipush z) 11 h rfl (zq_o_16 _) (by decide +kernel), ?_⟩
  replace h := zq_nx2 (q := 24) h rfl
  refine ⟨zq_k_n 46 h rfl (zq_o_46 _), ?_⟩
  replace h := zq_nx1 (q := 25) h rfl
  refine ⟨zq_k_n 28 h rfl (zq_o_28 _), ?_⟩
  replace h := zq_nx1 (q := 26) h rfl
  refine ⟨zq_k_n 122 h rfl (zq_o_122 _), ?_⟩
  replace h := zq_nx1 (q := 27) h rfl
  refine ⟨zq_k_n 4 h rfl (zq_o_4 _), ?_⟩
  replace h := zq_nx1 (q := 28) h rfl
  refine ⟨zq_k_n 126 h rfl (zq_o_126 _), ?_⟩
  replace h := zq_nx1 (q := 29) h rfl
  refine ⟨zq_k_n 4 h rfl (zq_o_4 _), ?_⟩
  replace h := zq_nx1 (q := 30) h rfl
  refine ⟨zq_k_s2 160 (fun z => .if_icmp .ne z) 12 h rfl (zq_o_160 _) (by decide +kernel), ?_⟩
  replace h := zq_nx3 (q := 33) h rfl
  refine ⟨zq_k_n 42 h rfl (zq_o_42 _), ?_⟩
  replace h := zq_nx1 (q := 34) h rfl
  refine ⟨zq_k_u2 180 (fun z => .getfield z) 23 h rfl (zq_o_180 _) (by decide +kernel), ?_⟩
  replace h := zq_nx3 (q := 37) h rfl
  refine ⟨zq_k_n 28 h rfl (zq_o_28 _), ?_⟩
  replace h := zq_nx1 (q := 38) h rfl
  exact zq_k_n 46 h rfl (zq_o_46 _)
set_option maxRecDepth 100000 in
theorem dd_M_breaks_39 : (decode prog_10_method_49_code 39 = .ok (.goto 4, 3)) ∧ (decode prog_10_method_49_code 42 = .ok (.iconst 0, 1)) ∧ (decode prog_10_method_49_code 43 = .ok (.istore_n 3, 1)) ∧ (decode prog_10_method_49_code 44 = .ok (.aload_n 0, 1)) ∧ (decode prog_10_method_49_code 45 = .ok (.iload_n 1, 1)) ∧ (decode prog_10_method_49_code 46 = .ok (.iload_n 2, 1)) ∧ (decode prog_10_method_49_code 47 = .ok (.invokevirtual 216, 3)) ∧ (decode prog_10_method_49_code 50 = .ok (.ifCond .eq 16, 3)) ∧ (decode prog_10_method_49_code 53 = .ok (.aload_n 0, 1)) ∧ (decode prog_10_method_49_code 54 = .ok (.getfield 7, 3)) ∧ (decode prog_10_method_49_code 57 = .ok (.bipush 15, 2)) ∧ (decode prog_10_method_49_code 59 = .ok (.iload_n 1, 1)) ∧ (decode prog_10_method_49_code 60 = .ok (.iadd, 1)) ∧ (decode prog_10_method_49_code 61 = .ok (.iaload, 1)) ∧ (decode prog_10_method_49_code 62 = .ok (.iload_n 3, 1)) ∧ (decode prog_10_method_49_code 63 = .ok (.if_icmp .ge 6, 3)) ∧ (decode prog_10_method_49_code 66 = .ok (.bipush (-2), 2)) ∧ (decode prog_10_method_49_code 68 = .ok (.ireturn, 1)) ∧ (decode prog_10_method_49_code 69 = .ok (.aload_n 0, 1)) ∧ (decode prog_10_method_49_code 70 = .ok (.getfield 20, 3)) ∧ (decode prog_10_method_49_code 73 = .ok (.iload_n 2, 1)) ∧ (decode prog_10_method_49_code 74 = .ok (.iaload, 1)) ∧ (decode prog_10_method_49_code 75 = .ok (.aload_n 0, 1)) ∧ (decode prog_10_method_49_code 76 = .ok (.getfield 26, 3)) := by
  have h : List.drop 39 prog_10_method_49_code.data.toList = 0xa7 :: _ := rfl
  refine ⟨zq_k_s2 167 (fun z => .goto z) 4 h rfl (zq_o_167 _) (by decide +kernel), ?_⟩
  replace h := zq_nx3 (q := 42) h rfl
  refine ⟨zq_k_n 3 h rfl (zq_o_3 _), ?_⟩
  replace h := zq_nx1 (q := 43) h rfl
  refine ⟨zq_k_n 62 h rfl (zq_o_62 _), ?_⟩
  replace h := zq_nx1 (q := 44) h rfl
  refine ⟨zq_k_n 42 h rfl (zq_o_42 _), ?_⟩
  replace h := zq_nx1 (q := 45) h rfl
  refine ⟨zq_k_n 27 h rfl (zq_o_27 _), ?_⟩
  replace h := zq_nx1 (q := 46) h rfl
  refine ⟨zq_k_n 28 h rfl (zq_o_28 _), ?_⟩
  replace h := zq_nx1 (q := 47) h rfl
  refine ⟨zq_k_u2 182 (fun z => .invokevirtual z) 216 h rfl (zq_o_182 _) (by decide +kernel), ?_⟩
  replace h := zq_nx3 (q := 50) h rfl
  refine ⟨zq_k_s2 153 (fun z => .ifCond .eq z) 16 h rfl (zq_o_153 _) (by decide +kernel), ?_⟩
  replace h := zq_nx3 (q := 53) h rfl
  refine ⟨zq_k_n 42 h rfl (zq_o_42 _), ?_⟩
  replace h := zq_nx1 (q := 54) h rfl
  refine ⟨zq_k_u2 180 (fun z => .getfield z) 7 h rfl (zq_o_180 _) (by decide +kernel), ?_⟩
  replace h := zq_nx3 (q := 57) h rfl
  refine ⟨zq_k_s1 16 (fun z => .bipush z) 15 h rfl (zq_o_16 _) (by decide +kernel), ?_⟩
  replace h := zq_nx2 (q := 59) h rfl
  refine ⟨zq_k_n 27 h rfl (zq_o_27 _), ?_⟩
  replace h := zq_nx1 (q := 60) h rfl
  refine ⟨zq_k_n 96 h rfl (zq_o_96 _), ?_⟩
  replace h := zq_nx1 (q := 61) h rfl
  refine ⟨zq_k_n 46 h rfl (zq_o_46 _), ?_⟩
  replace h := zq_nx1 (q := 62) h rfl
  refine ⟨zq_k_n 29 h rfl (zq_o_29 _), ?_⟩
  replace h := zq_nx1 (q := 63) h rfl
  refine ⟨zq_k_s2 162 (fun z => .if_icmp .ge z) 6 h rfl (zq_o_162 _) (by decide +kernel), ?_⟩
  replace h := zq_nx3 (q := 66) h rfl
  refine ⟨zq_k_s1 16 (fun z => .bipush z) (-2) h rfl (zq_o_16 _) (by decide +kernel), ?_⟩
  replace h := zq_nx2 (q := 68) h rfl
  refine ⟨zq_k_n 172 h rfl (zq_o_172 _), ?_⟩
  replace h := zq_nx1 (q := 69) h rfl
  refine ⟨zq_k_n 42 h rfl (zq_o_42 _), ?_⟩
  replace h := zq_nx1 (q := 70) h rfl
  refine ⟨zq_k_u2 180 (fun z => .getfield z) 20 h rfl (zq_o_180 _) (by decide +kernel), ?_⟩
  replace h := zq_nx3 (q := 73) h rfl
  refine ⟨zq_k_n 28 h rfl (zq_o_28 _), ?_⟩
  replace h := zq_nx1 (q := 74) h rfl
  refine ⟨zq_k_n 46 h rfl (zq_o_46 _), ?_⟩
  replace h := zq_nx1 (q := 75) h rfl
  refine ⟨zq_k_n 42 h rfl (zq_o_42 _), ?_⟩
  replace h := zq_nx1 (q := 76) h rfl
  exact zq_k_u2 180 (fun z => .getfield z) 26 h rfl (zq_o_180 _) (by decide +kernel)
set_option maxRecDepth 100000 in
theorem dd_M_breaks_79 : (decode prog_10_method_49_code 79 = .ok (.iload_n 1, 1)) ∧ (decode prog_10_method_49_code 80 = .ok (.iaload, 1)) ∧ (decode prog_10_method_49_code 81 = .ok (.iadd, 1)) ∧ (decode prog_10_method_49_code 82 = .ok (.istore 4, 2)) ∧ (decode prog_10_method_49_code 84 = .ok (.aload_n 0, 1)) ∧ (decode prog_10_method_49_code 85 = .ok (.getfield 7, 3)) ∧ (decode prog_10_method_49_code 88 = .ok (.bipush 40, 2)) ∧ (decode prog_10_method_49_code 90 = .ok (.iaload, 1)) ∧ (decode prog_10_method_49_code 91 = .ok (.iload 4, 2)) ∧ (decode prog_10_method_49_code 93 = .ok (.iadd, 1)) ∧ (decode prog_10_method_49_code 94 = .ok (.sipush 9999, 3)) ∧ (decode prog_10_method_49_code 97 = .ok (.if_icmp .le 6, 3)) ∧ (decode prog_10_method_49_code 100 = .ok (.bipush (-3), 2)) ∧ (decode prog_10_method_49_code 102 = .ok (.ireturn, 1)) ∧ (decode prog_10_method_49_code 103 = .ok (.aload_n 0, 1)) ∧ (decode prog_10_method_49_code 104 = .ok (.getfield 7, 3)) ∧ (decode prog_10_method_49_code 107 = .ok (.bipush 40, 2)) ∧ (decode prog_10_method_49_code 109 = .ok (.dup2, 1)) ∧ (decode prog_10_method_49_code 110 = .ok (.iaload, 1)) ∧ (decode prog_10_method_49_code 111 = .ok (.iload 4, 2)) ∧ (decode prog_10_method_49_code 113 = .ok (.iadd, 1)) ∧ (decode prog_10_method_49_code 114 = .ok (.iastore, 1)) ∧ (decode prog_10_method_49_code 115 = .ok (.aload_n 0, 1)) ∧ (decode prog_10_method_49_code 116 = .ok (.getfield 7, 3)) := by
  have h : List.drop 79 prog_10_method_49_code.data.toList = 0x1b :: _ := rfl
  refine ⟨zq_k_n 27 h rfl (zq_o_27 _), ?_⟩
  replace h := zq_nx1 (q := 80) h rfl
  refine ⟨zq_k_n 46 h rfl (zq_o_46 _), ?_⟩
  replace h := zq_nx1 (q := 81) h rfl
  refine ⟨zq_k_n 96 h rfl (zq_o_96 _), ?_⟩
  replace h := zq_nx1 (q := 82) h rfl
  refine ⟨zq_k_u1 54 (fun z => .istore z) 4 h rfl (zq_o_54 _) (by decide +kernel), ?_⟩
  replace h := zq_nx2 (q := 84) h rfl
  refine ⟨zq_k_n 42 h rfl (zq_o_42 _), ?_⟩
  replace h := zq_nx1 (q := 85) h rfl
  refine ⟨zq_k_u2 180 (fun z => .getfield z) 7 h rfl (zq_o_180 _) (by decide +kernel), ?_⟩
  replace h := zq_nx3 (q := 88) h rfl
  refine ⟨zq_k_s1 16 (fun z => .bipush z) 40 h rfl (zq_o_16 _) (by decide +kernel), ?_⟩
  replace h := zq_nx2 (q := 90) h rfl
  refine ⟨zq_k_n 46 h rfl (zq_o_46 _), ?_⟩
  replace h := zq_nx1 (q := 91) h rfl
  refine ⟨zq_k_u1 21 (fun z => .iload z) 4 h rfl (zq_o_21 _) (by decide +kernel), ?_⟩
  replace h := zq_nx2 (q := 93) h rfl
  refine ⟨zq_k_n 96 h rfl (zq_o_96 _), ?_⟩
  replace h := zq_nx1 (q := 94) h rfl
  refine ⟨zq_k_s2 17 (fun z => .sipush z) 9999 h rfl (zq_o_17 _) (by decide +kernel), ?_⟩
  replace h := zq_nx3 (q := 97) h rfl
  refine ⟨zq_k_s2 164 (fun z => .if_icmp .le z) 6 h rfl (zq_o_164 _) (by decide +kernel), ?_⟩
  replace h := zq_nx3 (q := 100) h rfl
  refine ⟨zq_k_s1 16 (fun z => .bipush z) (-3) h rfl (zq_o_16 _) (by decide +kernel), ?_⟩
  replace h := zq_nx2 (q := 102) h rfl
  refine ⟨zq_k_n 172 h rfl (zq_o_172 _), ?_⟩
  replace h := zq_nx1 (q := 103) h rfl
  refine ⟨zq_k_n 42 h rfl (zq_o_42 _), ?_⟩
  replace h := zq_nx1 (q := 104) h rfl
  refine ⟨zq_k_u2 180 (fun z => .getfield z) 7 h rfl (zq_o_180 _) (by decide +kernel), ?_⟩
  replace h := zq_nx3 (q := 107) h rfl
  refine ⟨zq_k_s1 16 (fun z => .bipush z) 40 h rfl (zq_o_16 _) (by decide +kernel), ?_⟩
  replace h := zq_nx2 (q := 109) h rfl
  refine ⟨zq_k_n 92 h rfl (zq_o_92 _), ?_⟩
  replace h := zq_nx1 (q := 110) h rfl
  refine ⟨zq_k_n 46 h rfl (zq_o_46 _), ?_⟩
  replace h := zq_nx1 (q := 111) h rfl
  refine ⟨zq_k_u1 21 (fun z => .iload z) 4 h rfl (zq_o_21 _) (by decide +kernel), ?_⟩
  replace h := zq_nx2 (q := 113) h rfl
  refine ⟨zq_k_n 96 h rfl (zq_o_96 _), ?_⟩
  replace h := zq_nx1 (q := 114) h rfl
  refine ⟨zq_k_n 79 h rfl (zq_o_79 _), ?_⟩
  replace h := zq_nx1 (q := 115) h rfl
  refine ⟨zq_k_n 42 h rfl (zq_o_42 _), ?_⟩
  replace h := zq_nx1 (q := 116) h rfl
  exact zq_k_u2 180 (fun z => .getfield z) 7 h rfl (zq_o_180 _) (by decide +kernel)
set_option maxRecDepth 100000 in
theorem dd_M_breaks_119 : (decode prog_10_method_49_code 119 = .ok (.bipush 15, 2)) ∧ (decode prog_10_method_49_code 121 = .ok (.iload_n 1, 1)) ∧ (decode prog_10_method_49_code 122 = .ok (.iadd, 1)) ∧ (decode prog_10_method_49_code 123 = .ok (.dup2, 1)) ∧ (decode prog_10_method_49_code 124 = .ok (.iaload, 1)) ∧ (decode prog_10_method_49_code 125 = .ok (.iload_n 3, 1)) ∧ (decode prog_10_method_49_code 126 = .ok (.isub, 1)) ∧ (decode prog_10_method_49_code 127 = .ok (.iastore, 1)) ∧ (decode prog_10_method_49_code 128 = .ok (.aload_n 0, 1)) ∧ (decode prog_10_method_49_code 129 = .ok (.getfield 7, 3)) ∧ (decode prog_10_method_49_code 132 = .ok (.bipush 24, 2)) ∧ (decode prog_10_method_49_code 134 = .ok (.iconst 5, 1)) ∧ (decode prog_10_method_49_code 135 = .ok (.iload_n 1, 1)) ∧ (decode prog_10_method_49_code 136 = .ok (.imul, 1)) ∧ (decode prog_10_method_49_code 137 = .ok (.iadd, 1)) ∧ (decode prog_10_method_49_code 138 = .ok (.iload_n 2, 1)) ∧ (decode prog_10_method_49_code 139 = .ok (.iadd, 1)) ∧ (decode prog_10_method_49_code 140 = .ok (.dup2, 1)) ∧ (decode prog_10_method_49_code 141 = .ok (.iaload, 1)) ∧ (decode prog_10_method_49_code 142 = .ok (.iconst 1, 1)) ∧ (decode prog_10_method_49_code 143 = .ok (.iadd, 1)) ∧ (decode prog_10_method_49_code 144 = .ok (.iastore, 1)) ∧ (decode prog_10_method_49_code 145 = .ok (.iload 4, 2)) ∧ (decode prog_10_method_49_code 147 = .ok (.ireturn, 1)) := by
  have h : List.drop 119 prog_10_method_49_code.data.toList = 0x10 :: _ := rfl
  refine ⟨zq_k_s1 16 (fun z => .bipush z) 15 h rfl (zq_o_16 _) (by decide +kernel), ?_⟩
  replace h := zq_nx2 (q := 121) h rfl
  refine ⟨zq_k_n 27 h rfl (zq_o_27 _), ?_⟩
  replace h := zq_nx1 (q := 122) h rfl
  refine ⟨zq_k_n 96 h rfl (zq_o_96 _), ?_⟩
  replace h := zq_nx1 (q := 123) h rfl
  refine ⟨zq_k_n 92 h rfl (zq_o_92 _), ?_⟩
  replace h := zq_nx1 (q := 124) h rfl
  refine ⟨zq_k_n 46 h rfl (zq_o_46 _), ?_⟩
  replace h := zq_nx1 (q := 125) h rfl
  refine ⟨zq_k_n 29 h rfl (zq_o_29 _), ?_⟩
  replace h := zq_nx1 (q := 126) h rfl
  refine ⟨zq_k_n 100 h rfl (zq_o_100 _), ?_⟩
  replace h := zq_nx1 (q := 127) h rfl
  refine ⟨zq_k_n 79 h rfl (zq_o_79 _), ?_⟩
  replace h := zq_nx1 (q := 128) h rfl
  refine ⟨zq_k_n 42 h rfl (zq_o_42 _), ?_⟩
  replace h := zq_nx1 (q := 129) h rfl
  refine ⟨zq_k_u2 180 (fun z => .getfield z) 7 h rfl (zq_o_180 _) (by decide +kernel), ?_⟩
  replace h := zq_nx3 (q := 132) h rfl
  refine ⟨zq_k_s1 16 (fun z => .bipush z) 24 h rfl (zq_o_16 _) (by decide +kernel), ?_⟩
  replace h := zq_nx2 (q := 134) h rfl
  refine ⟨zq_k_n 8 h rfl (zq_o_8 _), ?_⟩
  replace h := zq_nx1 (q := 135) h rfl
  refine ⟨zq_k_n 27 h rfl (zq_o_27 _), ?_⟩
  replace h := zq_nx1 (q := 136) h rfl
  refine ⟨zq_k_n 104 h rfl (zq_o_104 _), ?_⟩
  replace h := zq_nx1 (q := 137) h rfl
  refine ⟨zq_k_n 96 h rfl (zq_o_96 _), ?_⟩
  replace h := zq_nx1 (q := 138) h rfl
  refine ⟨zq_k_n 28 h rfl (zq_o_28 _), ?_⟩
  replace h := zq_nx1 (q := 139) h rfl
  refine ⟨zq_k_n 96 h rfl (zq_o_96 _), ?_⟩
  replace h := zq_nx1 (q := 140) h rfl
  refine ⟨zq_k_n 92 h rfl (zq_o_92 _), ?_⟩
  replace h := zq_nx1 (q := 141) h rfl
  refine ⟨zq_k_n 46 h rfl (zq_o_46 _), ?_⟩
  replace h := zq_nx1 (q := 142) h rfl
  refine ⟨zq_k_n 4 h rfl (zq_o_4 _), ?_⟩
  replace h := zq_nx1 (q := 143) h rfl
  refine ⟨zq_k_n 96 h rfl (zq_o_96 _), ?_⟩
  replace h := zq_nx1 (q := 144) h rfl
  refine ⟨zq_k_n 79 h rfl (zq_o_79 _), ?_⟩
  replace h := zq_nx1 (q := 145) h rfl
  refine ⟨zq_k_u1 21 (fun z => .iload z) 4 h rfl (zq_o_21 _) (by decide +kernel), ?_⟩
  replace h := zq_nx2 (q := 147) h rfl
  exact zq_k_n 172 h rfl (zq_o_172 _)
def f_M_breaks_66   (h : mH) : Option (Int32 × mH) :=
  some (((-2) : Int32), h)
set_option maxRecDepth 20000 in
theorem t_M_breaks_66 {sc : Nat × (Nat → Int32)}   (h : mH) (r : Int32) (h' : mH) (hf : f_M_breaks_66   h = some (r, h')) : G sc y_M_breaks prog_10_method_49_code 5 (some .int) 4 89 66 [] [] h (some (.int r)) h' := by
  unfold f_M_breaks_66 at hf
  refine g_bipush (pc := 66) ((-2) : Int32) dd_M_breaks_39.2.2.2.2.2.2.2.2.2.2.2.2.2.2.2.2.1 (by decide) ?_
  obtain ⟨rfl, rfl⟩ := ret2 hf
  exact g_iret (pc := 68) rfl dd_M_breaks_39.2.2.2.2.2.2.2.2.2.2.2.2.2.2.2.2.2.1
def f_M_breaks_43  (b0 : Nat) (b1 : Int32) (b2 : Int32) (s0 : Int32) (h : mH) : Option (Int32 × mH) :=
  bd1 (kC h b0 8) fun _ =>
  bd2 (f_M_canBreak b0 b1 b2 h) fun x26 h24 =>
  if x26 = 0 then
    f_M_breaks_66  h24
  else
    bd1 (gR h24 b0 8 0) fun x27 =>
    bd1 (aI h24 0 x27 ((15 : Int32) + b1)) fun x29 =>
    if s0 ≤ x29 then
      bd1 (gR h24 b0 8 5) fun x31 =>
      bd1 (aI h24 0 x31 b2) fun x33 =>
      bd1 (gR h24 b0 8 7) fun x35 =>
      bd1 (aI h24 0 x35 b1) fun x37 =>
      bd1 (gR h24 b0 8 0) fun x39 =>
      bd1 (aI h24 0 x39 (40 : Int32)) fun x41 =>
      if (x41 + (x33 + x37)) ≤ (9999 : Int32) then
        bd1 (gR h24 b0 8 0) fun x43 =>
        bd1 (aI h24 0 x43 (40 : Int32)) fun x45 =>
        bd1 (sI h24 0 x43 (40 : Int32) (x45 + (x33 + x37))) fun h47 =>
        bd1 (gR h47 b0 8 0) fun x49 =>
        bd1 (aI h47 0 x49 ((15 : Int32) + b1)) fun x51 =>
        bd1 (sI h47 0 x49 ((15 : Int32) + b1) (x51 - s0)) fun h53 =>
        bd1 (gR h53 b0 8 0) fun x55 =>
        bd1 (aI h53 0 x55 (((24 : Int32) + ((5 : Int32) * b1)) + b2)) fun x57 =>
        bd1 (sI h53 0 x55 (((24 : Int32) + ((5 : Int32) * b1)) + b2) (x57 + (1 : Int32))) fun h59 =>
        some (x33 + x37, h59)
      else
        some (((-3) : Int32), h24)
    else
      f_M_breaks_66  h24
set_option maxRecDepth 20000 in
theorem t_M_breaks_43 {sc : Nat × (Nat → Int32)}  (b0 : Nat) (b1 : Int32) (b2 : Int32) (s0 : Int32) (h : mH) (r : Int32) (h' : mH) (hf : f_M_breaks_43  b0 b1 b2 s0 h = some (r, h')) : G sc y_M_breaks prog_10_method_49_code 5 (some .int) 4 89 43 [(0, .ref b0), (1, .int b1), (2, .int b2)] [.int s0] h (some (.int r)) h' := by
  unfold f_M_breaks_43 at hf
  refine g_istore_n (pc := 43) [(3, .int s0), (0, .ref b0), (1, .int b1), (2, .int b2)] dd_M_breaks_39.2.2.1 rfl (Nat.le_of_ble_eq_true rfl) rfl ?_
  refine g_aload_n (pc := 44) 1 dd_M_breaks_39.2.2.2.1 rfl rfl ?_
  refine g_iload_n (pc := 45) 2 dd_M_breaks_39.2.2.2.2.1 rfl rfl ?_
  refine g_iload_n (pc := 46) 3 dd_M_breaks_39.2.2.2.2.2.1 rfl rfl ?_
  obtain ⟨u23, e22, hf⟩ := bd1_e hf
  obtain ⟨x26, h24, e25, hf⟩ := bd2_e hf
  refine g_callV (pc := 47) (ci := 8) [.int b1, .int b2] (site_of si_M_canBreak (by decide) (by decide)) wd_1164 wd_1166 wp_50 dd_M_breaks_39.2.2.2.2.2.2.1 rfl e22 (Nat.le_of_ble_eq_true rfl) (fun z => absurd z si_na_M_canBreak) (fun z => absurd z si_na_M_canBreak) (fun z => absurd z si_na_M_canBreak) (c_M_canBreak e25) rfl ?_
  refine g_st [.int x26] rfl ?_
  refine g_ifeq (pc := 50) 66 dd_M_breaks_39.2.2.2.2.2.2.2.1 (by decide) (fun c63 => ?_) (fun c63 => ?_)
  · replace hf := (if_pos c63).symm.trans hf
    refine g_lv [] rfl ?_
    exact t_M_breaks_66  _ _ _  hf
  · replace hf := (if_neg c63).symm.trans hf
    refine g_aload_n (pc := 53) 1 dd_M_breaks_39.2.2.2.2.2.2.2.2.1 rfl rfl ?_
    obtain ⟨x27, e28, hf⟩ := bd1_e hf
    refine g_get (pc := 54) (ci := 8) (kk := 0) dd_M_breaks_39.2.2.2.2.2.2.2.2.2.1 rfl in_M (by decide) wd_938 (gR_spec e28) ?_
    refine g_bipush (pc := 57) (15 : Int32) dd_M_breaks_39.2.2.2.2.2.2.2.2.2.2.1 (by decide) ?_
    refine g_iload_n (pc := 59) 2 dd_M_breaks_39.2.2.2.2.2.2.2.2.2.2.2.1 rfl rfl ?_
    refine g_iadd (pc := 60) dd_M_breaks_39.2.2.2.2.2.2.2.2.2.2.2.2.1 ?_
    obtain ⟨x29, e30, hf⟩ := bd1_e hf
    refine g_iald (pc := 61) dd_M_breaks_39.2.2.2.2.2.2.2.2.2.2.2.2.2.1 e30 ?_
    refine g_iload_n (pc := 62) 0 dd_M_breaks_39.2.2.2.2.2.2.2.2.2.2.2.2.2.2.1 rfl rfl ?_
    refine g_icmpge (pc := 63) 69 dd_M_breaks_39.2.2.2.2.2.2.2.2.2.2.2.2.2.2.2.1 (by decide) (fun c62 => ?_) (fun c62 => ?_)
    · replace hf := (if_pos c62).symm.trans hf
      refine g_aload_n (pc := 69) 1 dd_M_breaks_39.2.2.2.2.2.2.2.2.2.2.2.2.2.2.2.2.2.2.1 rfl rfl ?_
      obtain ⟨x31, e32, hf⟩ := bd1_e hf
      refine g_get (pc := 70) (ci := 8) (kk := 5) dd_M_breaks_39.2.2.2.2.2.2.2.2.2.2.2.2.2.2.2.2.2.2.2.1 rfl in_M (by decide) wd_943 (gR_spec e32) ?_
      refine g_iload_n (pc := 73) 3 dd_M_breaks_39.2.2.2.2.2.2.2.2.2.2.2.2.2.2.2.2.2.2.2.2.1 rfl rfl ?_
      obtain ⟨x33, e34, hf⟩ := bd1_e hf
      refine g_iald (pc := 74) dd_M_breaks_39.2.2.2.2.2.2.2.2.2.2.2.2.2.2.2.2.2.2.2.2.2.1 e34 ?_
      refine g_aload_n (pc := 75) 1 dd_M_breaks_39.2.2.2.2.2.2.2.2.2.2.2.2.2.2.2.2.2.2.2.2.2.2.1 rfl rfl ?_
      obtain ⟨x35, e36, hf⟩ := bd1_e hf
      refine g_get (pc := 76) (ci := 8) (kk := 7) dd_M_breaks_39.2.2.2.2.2.2.2.2.2.2.2.2.2.2.2.2.2.2.2.2.2.2.2 rfl in_M (by decide) wd_945 (gR_spec e36) ?_
      refine g_iload_n (pc := 79) 2 dd_M_breaks_79.1 rfl rfl ?_
      obtain ⟨x37, e38, hf⟩ := bd1_e hf
      refine g_iald (pc := 80) dd_M_breaks_79.2.1 e38 ?_
      refine g_iadd (pc := 81) dd_M_breaks_79.2.2.1 ?_
      refine g_istore (pc := 82) [(4, .int (x33 + x37)), (3, .int s0), (0, .ref b0), (1, .int b1), (2, .int b2)] dd_M_breaks_79.2.2.2.1 (Nat.le_of_ble_eq_true rfl) rfl ?_
      refine g_aload_n (pc := 84) 2 dd_M_breaks_79.2.2.2.2.1 rfl rfl ?_
      obtain ⟨x39, e40, hf⟩ := bd1_e hf
      refine g_get (pc := 85) (ci := 8) (kk := 0) dd_M_breaks_79.2.2.2.2.2.1 rfl in_M (by decide) wd_938 (gR_spec e40) ?_
      refine g_bipush (pc := 88) (40 : Int32) dd_M_breaks_79.2.2.2.2.2.2.1 (by decide) ?_
      obtain ⟨x41, e42, hf⟩ := bd1_e hf
      refine g_iald (pc := 90) dd_M_breaks_79.2.2.2.2.2.2.2.1 e42 ?_
      refine g_iload (pc := 91) 0 dd_M_breaks_79.2.2.2.2.2.2.2.2.1 rfl ?_
      refine g_iadd (pc := 93) dd_M_breaks_79.2.2.2.2.2.2.2.2.2.1 ?_
      refine g_sipush (pc := 94) (9999 : Int32) dd_M_breaks_79.2.2.2.2.2.2.2.2.2.2.1 (by decide) ?_
      refine g_icmple (pc := 97) 103 dd_M_breaks_79.2.2.2.2.2.2.2.2.2.2.2.1 (by decide) (fun c61 => ?_) (fun c61 => ?_)
      · replace hf := (if_pos c61).symm.trans hf
        refine g_aload_n (pc := 103) 2 dd_M_breaks_79.2.2.2.2.2.2.2.2.2.2.2.2.2.2.1 rfl rfl ?_
        obtain ⟨x43, e44, hf⟩ := bd1_e hf
        refine g_get (pc := 104) (ci := 8) (kk := 0) dd_M_breaks_79.2.2.2.2.2.2.2.2.2.2.2.2.2.2.2.1 rfl in_M (by decide) wd_938 (gR_spec e44) ?_
        refine g_bipush (pc := 107) (40 : Int32) dd_M_breaks_79.2.2.2.2.2.2.2.2.2.2.2.2.2.2.2.2.1 (by decide) ?_
        refine g_dup2 (pc := 109) dd_M_breaks_79.2.2.2.2.2.2.2.2.2.2.2.2.2.2.2.2.2.1 rfl rfl ?_
        obtain ⟨x45, e46, hf⟩ := bd1_e hf
        refine g_iald (pc := 110) dd_M_breaks_79.2.2.2.2.2.2.2.2.2.2.2.2.2.2.2.2.2.2.1 e46 ?_
        refine g_iload (pc := 111) 0 dd_M_breaks_79.2.2.2.2.2.2.2.2.2.2.2.2.2.2.2.2.2.2.2.1 rfl ?_
        refine g_iadd (pc := 113) dd_M_breaks_79.2.2.2.2.2.2.2.2.2.2.2.2.2.2.2.2.2.2.2.2.1 ?_
        obtain ⟨h47, e48, hf⟩ := bd1_e hf
        refine g_iast (pc := 114) dd_M_breaks_79.2.2.2.2.2.2.2.2.2.2.2.2.2.2.2.2.2.2.2.2.2.1 e48 ?_
        refine g_aload_n (pc := 115) 2 dd_M_breaks_79.2.2.2.2.2.2.2.2.2.2.2.2.2.2.2.2.2.2.2.2.2.2.1 rfl rfl ?_
        obtain ⟨x49, e50, hf⟩ := bd1_e hf
        refine g_get (pc := 116) (ci := 8) (kk := 0) dd_M_breaks_79.2.2.2.2.2.2.2.2.2.2.2.2.2.2.2.2.2.2.2.2.2.2.2 rfl in_M (by decide) wd_938 (gR_spec e50) ?_
        refine g_bipush (pc := 119) (15 : Int32) dd_M_breaks_119.1 (by decide) ?_
        refine g_iload_n (pc := 121) 3 dd_M_breaks_119.2.1 rfl rfl ?_
        refine g_iadd (pc := 122) dd_M_breaks_119.2.2.1 ?_
        refine g_dup2 (pc := 123) dd_M_breaks_119.2.2.2.1 rfl rfl ?_
        obtain ⟨x51, e52, hf⟩ := bd1_e hf
        refine g_iald (pc := 124) dd_M_breaks_119.2.2.2.2.1 e52 ?_
        refine g_iload_n (pc := 125) 1 dd_M_breaks_119.2.2.2.2.2.1 rfl rfl ?_
        refine g_isub (pc := 126) dd_M_breaks_119.2.2.2.2.2.2.1 ?_
        obtain ⟨h53, e54, hf⟩ := bd1_e hf
        refine g_iast (pc := 127) dd_M_breaks_119.2.2.2.2.2.2.2.1 e54 ?_
        refine g_aload_n (pc := 128) 2 dd_M_breaks_119.2.2.2.2.2.2.2.2.1 rfl rfl ?_
        obtain ⟨x55, e56, hf⟩ := bd1_e hf
        refine g_get (pc := 129) (ci := 8) (kk := 0) dd_M_breaks_119.2.2.2.2.2.2.2.2.2.1 rfl in_M (by decide) wd_938 (gR_spec e56) ?_
        refine g_bipush (pc := 132) (24 : Int32) dd_M_breaks_119.2.2.2.2.2.2.2.2.2.2.1 (by decide) ?_
        refine g_iconst (pc := 134) (5 : Int32) dd_M_breaks_119.2.2.2.2.2.2.2.2.2.2.2.1 (by decide) ?_
        refine g_iload_n (pc := 135) 3 dd_M_breaks_119.2.2.2.2.2.2.2.2.2.2.2.2.1 rfl rfl ?_
        refine g_imul (pc := 136) dd_M_breaks_119.2.2.2.2.2.2.2.2.2.2.2.2.2.1 ?_
        refine g_iadd (pc := 137) dd_M_breaks_119.2.2.2.2.2.2.2.2.2.2.2.2.2.2.1 ?_
        refine g_iload_n (pc := 138) 4 dd_M_breaks_119.2.2.2.2.2.2.2.2.2.2.2.2.2.2.2.1 rfl rfl ?_
        refine g_iadd (pc := 139) dd_M_breaks_119.2.2.2.2.2.2.2.2.2.2.2.2.2.2.2.2.1 ?_
        refine g_dup2 (pc := 140) dd_M_breaks_119.2.2.2.2.2.2.2.2.2.2.2.2.2.2.2.2.2.1 rfl rfl ?_
        obtain ⟨x57, e58, hf⟩ := bd1_e hf
        refine g_iald (pc := 141) dd_M_breaks_119.2.2.2.2.2.2.2.2.2.2.2.2.2.2.2.2.2.2.1 e58 ?_
        refine g_iconst (pc := 142) (1 : Int32) dd_M_breaks_119.2.2.2.2.2.2.2.2.2.2.2.2.2.2.2.2.2.2.2.1 (by decide) ?_
        refine g_iadd (pc := 143) dd_M_breaks_119.2.2.2.2.2.2.2.2.2.2.2.2.2.2.2.2.2.2.2.2.1 ?_
        obtain ⟨h59, e60, hf⟩ := bd1_e hf
        refine g_iast (pc := 144) dd_M_breaks_119.2.2.2.2.2.2.2.2.2.2.2.2.2.2.2.2.2.2.2.2.2.1 e60 ?_
        refine g_iload (pc := 145) 0 dd_M_breaks_119.2.2.2.2.2.2.2.2.2.2.2.2.2.2.2.2.2.2.2.2.2.2.1 rfl ?_
        obtain ⟨rfl, rfl⟩ := ret2 hf
        exact g_iret (pc := 147) rfl dd_M_breaks_119.2.2.2.2.2.2.2.2.2.2.2.2.2.2.2.2.2.2.2.2.2.2.2
      · replace hf := (if_neg c61).symm.trans hf
        refine g_bipush (pc := 100) ((-3) : Int32) dd_M_breaks_79.2.2.2.2.2.2.2.2.2.2.2.2.1 (by decide) ?_
        obtain ⟨rfl, rfl⟩ := ret2 hf
        exact g_iret (pc := 102) rfl dd_M_breaks_79.2.2.2.2.2.2.2.2.2.2.2.2.2.1
    · replace hf := (if_neg c62).symm.trans hf
      refine g_lv [] rfl ?_
      exact t_M_breaks_66  _ _ _  hf
def f_M_breaks_16   (h : mH) : Option (Int32 × mH) :=
  some (((-1) : Int32), h)
set_option maxRecDepth 20000 in
theorem t_M_breaks_16 {sc : Nat × (Nat → Int32)}   (h : mH) (r : Int32) (h' : mH) (hf : f_M_breaks_16   h = some (r, h')) : G sc y_M_breaks prog_10_method_49_code 5 (some .int) 4 89 16 [] [] h (some (.int r)) h' := by
  unfold f_M_breaks_16 at hf
  refine g_iconst (pc := 16) ((-1) : Int32) dd_M_breaks_0.2.2.2.2.2.2.2.2.1 (by decide) ?_
  obtain ⟨rfl, rfl⟩ := ret2 hf
  exact g_iret (pc := 17) rfl dd_M_breaks_0.2.2.2.2.2.2.2.2.2.1
def f_M_breaks_0  (a0 : Nat) (a1 : Int32) (a2 : Int32) (h : mH) : Option (Int32 × mH) :=
  bd1 (kC h a0 8) fun _ =>
  bd2 (f_M_isOne a0 a1 h) fun x5 h3 =>
  if x5 = 0 then
    f_M_breaks_16  h3
  else
    bd1 (kC h3 a0 8) fun _ =>
    bd2 (f_M_isLaw a0 a2 h3) fun x10 h8 =>
    if x10 = 0 then
      f_M_breaks_16  h8
    else
      bd1 (gR h8 a0 8 0) fun x11 =>
      bd1 (aI h8 0 x11 (11 : Int32)) fun x13 =>
      if ((x13 >>> (a2 &&& 31)) &&& (1 : Int32)) = (1 : Int32) then
        bd1 (gR h8 a0 8 6) fun x15 =>
        bd1 (aI h8 0 x15 a2) fun x17 =>
        f_M_breaks_43  a0 a1 a2 x17 h8
      else
        f_M_breaks_43  a0 a1 a2 (0 : Int32) h8
set_option maxRecDepth 20000 in
theorem t_M_breaks_0 {sc : Nat × (Nat → Int32)}  (a0 : Nat) (a1 : Int32) (a2 : Int32) (h : mH) (r : Int32) (h' : mH) (hf : f_M_breaks_0  a0 a1 a2 h = some (r, h')) : G sc y_M_breaks prog_10_method_49_code 5 (some .int) 4 89 0 [(0, .ref a0), (1, .int a1), (2, .int a2)] [] h (some (.int r)) h' := by
  unfold f_M_breaks_0 at hf
  refine g_aload_n (pc := 0) 0 dd_M_breaks_0.1 rfl rfl ?_
  refine g_iload_n (pc := 1) 1 dd_M_breaks_0.2.1 rfl rfl ?_
  obtain ⟨u2, e1, hf⟩ := bd1_e hf
  obtain ⟨x5, h3, e4, hf⟩ := bd2_e hf
  refine g_callV (pc := 2) (ci := 8) [.int a1] (site_of si_M_isOne (by decide) (by decide)) wd_1160 wd_1162 wp_49 dd_M_breaks_0.2.2.1 rfl e1 (Nat.le_of_ble_eq_true rfl) (fun z => absurd z si_na_M_isOne) (fun z => absurd z si_na_M_isOne) (fun z => absurd z si_na_M_isOne) (c_M_isOne e4) rfl ?_
  refine g_st [.int x5] rfl ?_
  refine g_ifeq (pc := 5) 16 dd_M_breaks_0.2.2.2.1 (by decide) (fun c21 => ?_) (fun c21 => ?_)
  · replace hf := (if_pos c21).symm.trans hf
    refine g_lv [] rfl ?_
    exact t_M_breaks_16  _ _ _  hf
  · replace hf := (if_neg c21).symm.trans hf
    refine g_aload_n (pc := 8) 0 dd_M_breaks_0.2.2.2.2.1 rfl rfl ?_
    refine g_iload_n (pc := 9) 2 dd_M_breaks_0.2.2.2.2.2.1 rfl rfl ?_
    obtain ⟨u7, e6, hf⟩ := bd1_e hf
    obtain ⟨x10, h8, e9, hf⟩ := bd2_e hf
    refine g_callV (pc := 10) (ci := 8) [.int a2] (site_of si_M_isLaw (by decide) (by decide)) wd_1136 wd_1138 wp_44 dd_M_breaks_0.2.2.2.2.2.2.1 rfl e6 (Nat.le_of_ble_eq_true rfl) (fun z => absurd z si_na_M_isLaw) (fun z => absurd z si_na_M_isLaw) (fun z => absurd z si_na_M_isLaw) (c_M_isLaw e9) rfl ?_
    refine g_st [.int x10] rfl ?_
    refine g_ifne (pc := 13) 18 dd_M_breaks_0.2.2.2.2.2.2.2.1 (by decide) (fun c20 => ?_) (fun c20 => ?_)
    · replace hf := (if_neg c20).symm.trans hf
      refine g_aload_n (pc := 18) 0 dd_M_breaks_0.2.2.2.2.2.2.2.2.2.2.1 rfl rfl ?_
      obtain ⟨x11, e12, hf⟩ := bd1_e hf
      refine g_get (pc := 19) (ci := 8) (kk := 0) dd_M_breaks_0.2.2.2.2.2.2.2.2.2.2.2.1 rfl in_M (by decide) wd_938 (gR_spec e12) ?_
      refine g_bipush (pc := 22) (11 : Int32) dd_M_breaks_0.2.2.2.2.2.2.2.2.2.2.2.2.1 (by decide) ?_
      obtain ⟨x13, e14, hf⟩ := bd1_e hf
      refine g_iald (pc := 24) dd_M_breaks_0.2.2.2.2.2.2.2.2.2.2.2.2.2.1 e14 ?_
      refine g_iload_n (pc := 25) 2 dd_M_breaks_0.2.2.2.2.2.2.2.2.2.2.2.2.2.2.1 rfl rfl ?_
      refine g_ishr (pc := 26) dd_M_breaks_0.2.2.2.2.2.2.2.2.2.2.2.2.2.2.2.1 ?_
      refine g_iconst (pc := 27) (1 : Int32) dd_M_breaks_0.2.2.2.2.2.2.2.2.2.2.2.2.2.2.2.2.1 (by decide) ?_
      refine g_iand (pc := 28) dd_M_breaks_0.2.2.2.2.2.2.2.2.2.2.2.2.2.2.2.2.2.1 ?_
      refine g_iconst (pc := 29) (1 : Int32) dd_M_breaks_0.2.2.2.2.2.2.2.2.2.2.2.2.2.2.2.2.2.2.1 (by decide) ?_
      refine g_icmpne (pc := 30) 42 dd_M_breaks_0.2.2.2.2.2.2.2.2.2.2.2.2.2.2.2.2.2.2.2.1 (by decide) (fun c19 => ?_) (fun c19 => ?_)
      · replace hf := (if_neg c19).symm.trans hf
        refine g_iconst (pc := 42) (0 : Int32) dd_M_breaks_39.2.1 (by decide) ?_
        refine g_lv [0, 1, 2] rfl ?_
        exact t_M_breaks_43  _ _ _ _ _ _ _  hf
      · replace hf := (if_pos c19).symm.trans hf
        refine g_aload_n (pc := 33) 0 dd_M_breaks_0.2.2.2.2.2.2.2.2.2.2.2.2.2.2.2.2.2.2.2.2.1 rfl rfl ?_
        obtain ⟨x15, e16, hf⟩ := bd1_e hf
        refine g_get (pc := 34) (ci := 8) (kk := 6) dd_M_breaks_0.2.2.2.2.2.2.2.2.2.2.2.2.2.2.2.2.2.2.2.2.2.1 rfl in_M (by decide) wd_944 (gR_spec e16) ?_
        refine g_iload_n (pc := 37) 2 dd_M_breaks_0.2.2.2.2.2.2.2.2.2.2.2.2.2.2.2.2.2.2.2.2.2.2.1 rfl rfl ?_
        obtain ⟨x17, e18, hf⟩ := bd1_e hf
        refine g_iald (pc := 38) dd_M_breaks_0.2.2.2.2.2.2.2.2.2.2.2.2.2.2.2.2.2.2.2.2.2.2.2 e18 ?_
        refine g_goto (pc := 39) 43 dd_M_breaks_39.1 (by decide) ?_
        refine g_lv [0, 1, 2] rfl ?_
        exact t_M_breaks_43  _ _ _ _ _ _ _  hf
    · replace hf := (if_pos c20).symm.trans hf
      refine g_lv [] rfl ?_
      exact t_M_breaks_16  _ _ _  hf
def f_M_breaks (a0 : Nat) (a1 : Int32) (a2 : Int32) (h : mH) : Option (Int32 × mH) := f_M_breaks_0 a0 a1 a2 h
theorem c_M_breaks {sc : Nat × (Nat → Int32)} {a0 : Nat} {a1 : Int32} {a2 : Int32} {h : mH} {r : Int32} {h' : mH} (hf : f_M_breaks a0 a1 a2 h = some (r, h')) : MM sc y_M_breaks prog_10_method_49_code 5 (some .int) 4 89 [.ref a0, .int a1, .int a2] h (some (.int r)) h' :=
  mm_of_G si_pn_M (Nat.le_of_ble_eq_true rfl) (t_M_breaks_0 _ _ _ _ _ _ hf)
/-! M fallsNow ()I -/
set_option maxRecDepth 100000 in
theorem dd_M_fallsNow_0 : (decode prog_10_method_34_code 0 = .ok (.iconst 0, 1)) ∧ (decode prog_10_method_34_code 1 = .ok (.istore_n 1, 1)) ∧ (decode prog_10_method_34_code 2 = .ok (.iconst 0, 1)) ∧ (decode prog_10_method_34_code 3 = .ok (.istore_n 2, 1)) ∧ (decode prog_10_method_34_code 4 = .ok (.iload_n 2, 1)) ∧ (decode prog_10_method_34_code 5 = .ok (.aload_n 0, 1)) ∧ (decode prog_10_method_34_code 6 = .ok (.getfield 106, 3)) ∧ (decode prog_10_method_34_code 9 = .ok (.if_icmp .ge 37, 3)) ∧ (decode prog_10_method_34_code 12 = .ok (.iload_n 1, 1)) ∧ (decode prog_10_method_34_code 13 = .ok (.aload_n 0, 1)) ∧ (decode prog_10_method_34_code 14 = .ok (.iload_n 2, 1)) ∧ (decode prog_10_method_34_code 15 = .ok (.invokevirtual 191, 3)) ∧ (decode prog_10_method_34_code 18 = .ok (.ifCond .eq 19, 3)) ∧ (decode prog_10_method_34_code 21 = .ok (.aload_n 0, 1)) ∧ (decode prog_10_method_34_code 22 = .ok (.iload_n 2, 1)) ∧ (decode prog_10_method_34_code 23 = .ok (.invokevirtual 204, 3)) ∧ (decode prog_10_method_34_code 26 = .ok (.ifCond .le 11, 3)) ∧ (decode prog_10_method_34_code 29 = .ok (.aload_n 0, 1)) ∧ (decode prog_10_method_34_code 30 = .ok (.iload_n 2, 1)) ∧ (decode prog_10_method_34_code 31 = .ok (.invokevirtual 207, 3)) ∧ (decode prog_10_method_34_code 34 = .ok (.goto 4, 3)) ∧ (decode prog_10_method_34_code 37 = .ok (.iconst 0, 1)) ∧ (decode prog_10_method_34_code 38 = .ok (.ior, 1)) ∧ (decode prog_10_method_34_code 39 = .ok (.istore_n 1, 1)) := by
  have h : List.drop 0 prog_10_method_34_code.data.toList = 0x03 :: _ := rfl
  refine ⟨zq_k_n 3 h rfl (zq_o_3 _), ?_⟩
  replace h := zq_nx1 (q := 1) h rfl
  refine ⟨zq_k_n 60 h rfl (zq_o_60 _), ?_⟩
  replace h := zq_nx1 (q := 2) h rfl
  refine ⟨zq_k_n 3 h rfl (zq_o_3 _), ?_⟩
  replace h := zq_nx1 (q := 3) h rfl
  refine ⟨zq_k_n 61 h rfl (zq_o_61 _), ?_⟩
  replace h := zq_nx1 (q := 4) h rfl
  refine ⟨zq_k_n 28 h rfl (zq_o_28 _), ?_⟩
  replace h := zq_nx1 (q := 5) h rfl
  refine ⟨zq_k_n 42 h rfl (zq_o_42 _), ?_⟩
  replace h := zq_nx1 (q := 6) h rfl
  refine ⟨zq_k_u2 180 (fun z => .getfield z) 106 h rfl (zq_o_180 _) (by decide +kernel), ?_⟩
  replace h := zq_nx3 (q := 9) h rfl
  refine ⟨zq_k_s2 162 (fun z => .if_icmp .ge z) 37 h rfl (zq_o_162 _) (by decide +kernel), ?_⟩
  replace h := zq_nx3 (q := 12) h rfl
  refine ⟨zq_k_n 27 h rfl (zq_o_27 _), ?_⟩
  replace h := zq_nx1 (q := 13) h rfl
  refine ⟨zq_k_n 42 h rfl (zq_o_42 _), ?_⟩
  replace h := zq_nx1 (q := 14) h rfl
  refine ⟨zq_k_n 28 h rfl (zq_o_28 _), ?_⟩
  replace h := zq_nx1 (q := 15) h rfl
  refine ⟨zq_k_u2 182 (fun z => .invokevirtual z) 191 h rfl (zq_o_182 _) (by decide +kernel), ?_⟩
  replace h := zq_nx3 (q := 18) h rfl
  refine ⟨zq_k_s2 153 (fun z => .ifCond .eq z) 19 h rfl (zq_o_153 _) (by decide +kernel), ?_⟩
  replace h := zq_nx3 (q := 21) h rfl
  refine ⟨zq_k_n 42 h rfl (zq_o_42 _), ?_⟩
  replace h := zq_nx1 (q := 22) h rfl
  refine ⟨zq_k_n 28 h rfl (zq_o_28 _), ?_⟩
  replace h := zq_nx1 (q := 23) h rfl
  refine ⟨zq_k_u2 182 (fun z => .invokevirtual z) 204 h rfl (zq_o_182 _) (by decide +kernel), ?_⟩
  replace h := zq_nx3 (q := 26) h rfl
  refine ⟨zq_k_s2 158 (fun z => .ifCond .le z) 11 h rfl (zq_o_158 _) (by decide +kernel), ?_⟩
  replace h := zq_nx3 (q := 29) h rfl
  refine ⟨zq_k_n 42 h rfl (zq_o_42 _), ?_⟩
  replace h := zq_nx1 (q := 30) h rfl
  refine ⟨zq_k_n 28 h rfl (zq_o_28 _), ?_⟩
  replace h := zq_nx1 (q := 31) h rfl
  refine ⟨zq_k_u2 182 (fun z => .invokevirtual z) 207 h rfl (zq_o_182 _) (by decide +kernel), ?_⟩
  replace h := zq_nx3 (q := 34) h rfl
  refine ⟨zq_k_s2 167 (fun z => .goto z) 4 h rfl (zq_o_167 _) (by decide +kernel), ?_⟩
  replace h := zq_nx3 (q := 37) h rfl
  refine ⟨zq_k_n 3 h rfl (zq_o_3 _), ?_⟩
  replace h := zq_nx1 (q := 38) h rfl
  refine ⟨zq_k_n 128 h rfl (zq_o_128 _), ?_⟩
  replace h := zq_nx1 (q := 39) h rfl
  exact zq_k_n 60 h rfl (zq_o_60 _)
set_option maxRecDepth 100000 in
theorem dd_M_fallsNow_40 : (decode prog_10_method_34_code 40 = .ok (.iinc 2 1, 3)) ∧ (decode prog_10_method_34_code 43 = .ok (.goto (-39), 3)) ∧ (decode prog_10_method_34_code 46 = .ok (.iload_n 1, 1)) ∧ (decode prog_10_method_34_code 47 = .ok (.aload_n 0, 1)) ∧ (decode prog_10_method_34_code 48 = .ok (.getfield 7, 3)) ∧ (decode prog_10_method_34_code 51 = .ok (.bipush 10, 2)) ∧ (decode prog_10_method_34_code 53 = .ok (.iaload, 1)) ∧ (decode prog_10_method_34_code 54 = .ok (.iand, 1)) ∧ (decode prog_10_method_34_code 55 = .ok (.ireturn, 1)) := by
  have h : List.drop 40 prog_10_method_34_code.data.toList = 0x84 :: _ := rfl
  refine ⟨zq_k_iinc 2 1 h rfl (zq_o_132 _) (by decide +kernel) (by decide +kernel), ?_⟩
  replace h := zq_nx3 (q := 43) h rfl
  refine ⟨zq_k_s2 167 (fun z => .goto z) (-39) h rfl (zq_o_167 _) (by decide +kernel), ?_⟩
  replace h := zq_nx3 (q := 46) h rfl
  refine ⟨zq_k_n 27 h rfl (zq_o_27 _), ?_⟩
  replace h := zq_nx1 (q := 47) h rfl
  refine ⟨zq_k_n 42 h rfl (zq_o_42 _), ?_⟩
  replace h := zq_nx1 (q := 48) h rfl
  refine ⟨zq_k_u2 180 (fun z => .getfield z) 7 h rfl (zq_o_180 _) (by decide +kernel), ?_⟩
  replace h := zq_nx3 (q := 51) h rfl
  refine ⟨zq_k_s1 16 (fun z => .bipush z) 10 h rfl (zq_o_16 _) (by decide +kernel), ?_⟩
  replace h := zq_nx2 (q := 53) h rfl
  refine ⟨zq_k_n 46 h rfl (zq_o_46 _), ?_⟩
  replace h := zq_nx1 (q := 54) h rfl
  refine ⟨zq_k_n 126 h rfl (zq_o_126 _), ?_⟩
  replace h := zq_nx1 (q := 55) h rfl
  exact zq_k_n 172 h rfl (zq_o_172 _)
def f_M_fallsNow_38 (rec4 : Nat → Int32 → Int32 → mH → Option (Int32 × mH)) (b0 : Nat) (b2 : Int32) (s0 : Int32) (s1 : Int32) (h : mH) : Option (Int32 × mH) :=
  rec4 b0 (s0 ||| s1) (b2 + (1 : Int32)) h
set_option maxRecDepth 20000 in
theorem t_M_fallsNow_38 {sc : Nat × (Nat → Int32)} (rec4 : Nat → Int32 → Int32 → mH → Option (Int32 × mH)) (hrec4 : ∀ (b0 : Nat) (b1 : Int32) (b2 : Int32) (h : mH) (r : Int32) (h' : mH), rec4 b0 b1 b2 h = some (r, h') → G sc y_M_fallsNow prog_10_method_34_code 3 (some .int) 2 45 4 [(0, .ref b0), (1, .int b1), (2, .int b2)] [] h (some (.int r)) h') (b0 : Nat) (b2 : Int32) (s0 : Int32) (s1 : Int32) (h : mH) (r : Int32) (h' : mH) (hf : f_M_fallsNow_38 rec4 b0 b2 s0 s1 h = some (r, h')) : G sc y_M_fallsNow prog_10_method_34_code 3 (some .int) 2 45 38 [(0, .ref b0), (2, .int b2)] [.int s1, .int s0] h (some (.int r)) h' := by
  unfold f_M_fallsNow_38 at hf
  refine g_ior (pc := 38) dd_M_fallsNow_0.2.2.2.2.2.2.2.2.2.2.2.2.2.2.2.2.2.2.2.2.2.2.1 ?_
  refine g_istore_n (pc := 39) [(1, .int (s0 ||| s1)), (0, .ref b0), (2, .int b2)] dd_M_fallsNow_0.2.2.2.2.2.2.2.2.2.2.2.2.2.2.2.2.2.2.2.2.2.2.2 rfl (Nat.le_of_ble_eq_true rfl) rfl ?_
  refine g_iinc (pc := 40) 2 (b2 + (1 : Int32)) [(2, .int (b2 + (1 : Int32))), (1, .int (s0 ||| s1)), (0, .ref b0)] dd_M_fallsNow_40.1 rfl rfl (Nat.le_of_ble_eq_true rfl) rfl ?_
  refine g_goto (pc := 43) 4 dd_M_fallsNow_40.2.1 (by decide) ?_
  refine g_lv [2, 1, 0] rfl ?_
  exact hrec4 _ _ _ _ _ _  hf
def f_M_fallsNow_37 (rec4 : Nat → Int32 → Int32 → mH → Option (Int32 × mH)) (b0 : Nat) (b2 : Int32) (s0 : Int32) (h : mH) : Option (Int32 × mH) :=
  f_M_fallsNow_38 rec4 b0 b2 s0 (0 : Int32) h
set_option maxRecDepth 20000 in
theorem t_M_fallsNow_37 {sc : Nat × (Nat → Int32)} (rec4 : Nat → Int32 → Int32 → mH → Option (Int32 × mH)) (hrec4 : ∀ (b0 : Nat) (b1 : Int32) (b2 : Int32) (h : mH) (r : Int32) (h' : mH), rec4 b0 b1 b2 h = some (r, h') → G sc y_M_fallsNow prog_10_method_34_code 3 (some .int) 2 45 4 [(0, .ref b0), (1, .int b1), (2, .int b2)] [] h (some (.int r)) h') (b0 : Nat) (b2 : Int32) (s0 : Int32) (h : mH) (r : Int32) (h' : mH) (hf : f_M_fallsNow_37 rec4 b0 b2 s0 h = some (r, h')) : G sc y_M_fallsNow prog_10_method_34_code 3 (some .int) 2 45 37 [(0, .ref b0), (2, .int b2)] [.int s0] h (some (.int r)) h' := by
  unfold f_M_fallsNow_37 at hf
  refine g_iconst (pc := 37) (0 : Int32) dd_M_fallsNow_0.2.2.2.2.2.2.2.2.2.2.2.2.2.2.2.2.2.2.2.2.2.1 (by decide) ?_
  refine g_lv [0, 1] rfl ?_
  exact t_M_fallsNow_38 rec4 hrec4 _ _ _ _ _ _ _  hf
def f_M_fallsNow_4b (rec4 : Nat → Int32 → Int32 → mH → Option (Int32 × mH)) (b0 : Nat) (b1 : Int32) (b2 : Int32) (h : mH) : Option (Int32 × mH) :=
  bd1 (gI h b0 8 2) fun x1 =>
  if x1 ≤ b2 then
    bd1 (gR h b0 8 0) fun x3 =>
    bd1 (aI h 0 x3 (10 : Int32)) fun x5 =>
    some (b1 &&& x5, h)
  else
    bd1 (kC h b0 8) fun _ =>
    bd2 (f_M_doesStand b0 b2 h) fun x11 h9 =>
    if x11 = 0 then
      f_M_fallsNow_37 rec4 b0 b2 b1 h9
    else
      bd1 (kC h9 b0 8) fun _ =>
      bd2 (f_M_needOf b0 b2 h9) fun x16 h14 =>
      if x16 ≤ 0 then
        f_M_fallsNow_37 rec4 b0 b2 b1 h14
      else
        bd1 (kC h14 b0 8) fun _ =>
        bd2 (f_M_chainOf b0 b2 h14) fun x21 h19 =>
        f_M_fallsNow_38 rec4 b0 b2 b1 x21 h19
set_option maxRecDepth 20000 in
theorem t_M_fallsNow_4b {sc : Nat × (Nat → Int32)} (rec4 : Nat → Int32 → Int32 → mH → Option (Int32 × mH)) (hrec4 : ∀ (b0 : Nat) (b1 : Int32) (b2 : Int32) (h : mH) (r : Int32) (h' : mH), rec4 b0 b1 b2 h = some (r, h') → G sc y_M_fallsNow prog_10_method_34_code 3 (some .int) 2 45 4 [(0, .ref b0), (1, .int b1), (2, .int b2)] [] h (some (.int r)) h') (b0 : Nat) (b1 : Int32) (b2 : Int32) (h : mH) (r : Int32) (h' : mH) (hf : f_M_fallsNow_4b rec4 b0 b1 b2 h = some (r, h')) : G sc y_M_fallsNow prog_10_method_34_code 3 (some .int) 2 45 4 [(0, .ref b0), (1, .int b1), (2, .int b2)] [] h (some (.int r)) h' := by
  unfold f_M_fallsNow_4b at hf
  refine g_iload_n (pc := 4) 2 dd_M_fallsNow_0.2.2.2.2.1 rfl rfl ?_
  refine g_aload_n (pc := 5) 0 dd_M_fallsNow_0.2.2.2.2.2.1 rfl rfl ?_
  obtain ⟨x1, e2, hf⟩ := bd1_e hf
  refine g_get (pc := 6) (ci := 8) (kk := 2) dd_M_fallsNow_0.2.2.2.2.2.2.1 rfl in_M (by decide) wd_940 (gI_spec e2) ?_
  refine g_icmpge (pc := 9) 46 dd_M_fallsNow_0.2.2.2.2.2.2.2.1 (by decide) (fun c24 => ?_) (fun c24 => ?_)
  · replace hf := (if_pos c24).symm.trans hf
    refine g_iload_n (pc := 46) 1 dd_M_fallsNow_40.2.2.1 rfl rfl ?_
    refine g_aload_n (pc := 47) 0 dd_M_fallsNow_40.2.2.2.1 rfl rfl ?_
    obtain ⟨x3, e4, hf⟩ := bd1_e hf
    refine g_get (pc := 48) (ci := 8) (kk := 0) dd_M_fallsNow_40.2.2.2.2.1 rfl in_M (by decide) wd_938 (gR_spec e4) ?_
    refine g_bipush (pc := 51) (10 : Int32) dd_M_fallsNow_40.2.2.2.2.2.1 (by decide) ?_
    obtain ⟨x5, e6, hf⟩ := bd1_e hf
    refine g_iald (pc := 53) dd_M_fallsNow_40.2.2.2.2.2.2.1 e6 ?_
    refine g_iand (pc := 54) dd_M_fallsNow_40.2.2.2.2.2.2.2.1 ?_
    obtain ⟨rfl, rfl⟩ := ret2 hf
    exact g_iret (pc := 55) rfl dd_M_fallsNow_40.2.2.2.2.2.2.2.2
  · replace hf := (if_neg c24).symm.trans hf
    refine g_iload_n (pc := 12) 1 dd_M_fallsNow_0.2.2.2.2.2.2.2.2.1 rfl rfl ?_
    refine g_aload_n (pc := 13) 0 dd_M_fallsNow_0.2.2.2.2.2.2.2.2.2.1 rfl rfl ?_
    refine g_iload_n (pc := 14) 2 dd_M_fallsNow_0.2.2.2.2.2.2.2.2.2.2.1 rfl rfl ?_
    obtain ⟨u8, e7, hf⟩ := bd1_e hf
    obtain ⟨x11, h9, e10, hf⟩ := bd2_e hf
    refine g_callV (pc := 15) (ci := 8) [.int b2] (site_of si_M_doesStand (by decide) (by decide)) wd_1144 wd_1146 wp_46 dd_M_fallsNow_0.2.2.2.2.2.2.2.2.2.2.2.1 rfl e7 (Nat.le_of_ble_eq_true rfl) (fun z => absurd z si_na_M_doesStand) (fun z => absurd z si_na_M_doesStand) (fun z => absurd z si_na_M_doesStand) (c_M_doesStand e10) rfl ?_
    refine g_st [.int x11, .int b1] rfl ?_
    refine g_ifeq (pc := 18) 37 dd_M_fallsNow_0.2.2.2.2.2.2.2.2.2.2.2.2.1 (by decide) (fun c23 => ?_) (fun c23 => ?_)
    · replace hf := (if_pos c23).symm.trans hf
      refine g_lv [0, 2] rfl ?_
      exact t_M_fallsNow_37 rec4 hrec4 _ _ _ _ _ _  hf
    · replace hf := (if_neg c23).symm.trans hf
      refine g_aload_n (pc := 21) 0 dd_M_fallsNow_0.2.2.2.2.2.2.2.2.2.2.2.2.2.1 rfl rfl ?_
      refine g_iload_n (pc := 22) 2 dd_M_fallsNow_0.2.2.2.2.2.2.2.2.2.2.2.2.2.2.1 rfl rfl ?_
      obtain ⟨u13, e12, hf⟩ := bd1_e hf
      obtain ⟨x16, h14, e15, hf⟩ := bd2_e hf
      refine g_callV (pc := 23) (ci := 8) [.int b2] (site_of si_M_needOf (by decide) (by decide)) wd_1140 wd_1142 wp_45 dd_M_fallsNow_0.2.2.2.2.2.2.2.2.2.2.2.2.2.2.2.1 rfl e12 (Nat.le_of_ble_eq_true rfl) (fun z => absurd z si_na_M_needOf) (fun z => absurd z si_na_M_needOf) (fun z => absurd z si_na_M_needOf) (c_M_needOf e15) rfl ?_
      refine g_st [.int x16, .int b1] rfl ?_
      refine g_ifle (pc := 26) 37 dd_M_fallsNow_0.2.2.2.2.2.2.2.2.2.2.2.2.2.2.2.2.1 (by decide) (fun c22 => ?_) (fun c22 => ?_)
      · replace hf := (if_pos c22).symm.trans hf
        refine g_lv [0, 2] rfl ?_
        exact t_M_fallsNow_37 rec4 hrec4 _ _ _ _ _ _  hf
      · replace hf := (if_neg c22).symm.trans hf
        refine g_aload_n (pc := 29) 0 dd_M_fallsNow_0.2.2.2.2.2.2.2.2.2.2.2.2.2.2.2.2.2.1 rfl rfl ?_
        refine g_iload_n (pc := 30) 2 dd_M_fallsNow_0.2.2.2.2.2.2.2.2.2.2.2.2.2.2.2.2.2.2.1 rfl rfl ?_
        obtain ⟨u18, e17, hf⟩ := bd1_e hf
        obtain ⟨x21, h19, e20, hf⟩ := bd2_e hf
        refine g_callV (pc := 31) (ci := 8) [.int b2] (site_of si_M_chainOf (by decide) (by decide)) wd_1152 wd_1154 wp_48 dd_M_fallsNow_0.2.2.2.2.2.2.2.2.2.2.2.2.2.2.2.2.2.2.2.1 rfl e17 (Nat.le_of_ble_eq_true rfl) (fun z => absurd z si_na_M_chainOf) (fun z => absurd z si_na_M_chainOf) (fun z => absurd z si_na_M_chainOf) (c_M_chainOf e20) rfl ?_
        refine g_st [.int x21, .int b1] rfl ?_
        refine g_goto (pc := 34) 38 dd_M_fallsNow_0.2.2.2.2.2.2.2.2.2.2.2.2.2.2.2.2.2.2.2.2.1 (by decide) ?_
        refine g_lv [0, 2] rfl ?_
        exact t_M_fallsNow_38 rec4 hrec4 _ _ _ _ _ _ _  hf
def f_M_fallsNow_4  : Nat → Nat → Int32 → Int32 → mH → Option (Int32 × mH)
  | 0 => fun _ _ _ _ => none
  | n + 1 => f_M_fallsNow_4b  (f_M_fallsNow_4  n)
theorem t_M_fallsNow_4 {sc : Nat × (Nat → Int32)}  : ∀ (n : Nat) (b0 : Nat) (b1 : Int32) (b2 : Int32) (h : mH) (r : Int32) (h' : mH) (hf : f_M_fallsNow_4  n b0 b1 b2 h = some (r, h')), G sc y_M_fallsNow prog_10_method_34_code 3 (some .int) 2 45 4 [(0, .ref b0), (1, .int b1), (2, .int b2)] [] h (some (.int r)) h'
  | 0, _, _, _, _, _, _, hf => by cases hf
  | n + 1, _, _, _, _, _, _, hf => t_M_fallsNow_4b  (f_M_fallsNow_4  n) (t_M_fallsNow_4  n) _ _ _ _ _ _ hf
def f_M_fallsNow_0  (a0 : Nat) (h : mH) : Option (Int32 × mH) :=
  f_M_fallsNow_4  FU a0 (0 : Int32) (0 : Int32) h
set_option maxRecDepth 20000 in
theorem t_M_fallsNow_0 {sc : Nat × (Nat → Int32)}  (a0 : Nat) (h : mH) (r : Int32) (h' : mH) (hf : f_M_fallsNow_0  a0 h = some (r, h')) : G sc y_M_fallsNow prog_10_method_34_code 3 (some .int) 2 45 0 [(0, .ref a0)] [] h (some (.int r)) h' := by
  unfold f_M_fallsNow_0 at hf
  refine g_iconst (pc := 0) (0 : Int32) dd_M_fallsNow_0.1 (by decide) ?_
  refine g_istore_n (pc := 1) [(1, .int (0 : Int32)), (0, .ref a0)] dd_M_fallsNow_0.2.1 rfl (Nat.le_of_ble_eq_true rfl) rfl ?_
  refine g_iconst (pc := 2) (0 : Int32) dd_M_fallsNow_0.2.2.1 (by decide) ?_
  refine g_istore_n (pc := 3) [(2, .int (0 : Int32)), (1, .int (0 : Int32)), (0, .ref a0)] dd_M_fallsNow_0.2.2.2.1 rfl (Nat.le_of_ble_eq_true rfl) rfl ?_
  refine g_lv [2, 1, 0] rfl ?_
  exact t_M_fallsNow_4  FU _ _ _ _ _ _  hf
def f_M_fallsNow (a0 : Nat) (h : mH) : Option (Int32 × mH) := f_M_fallsNow_0 a0 h
theorem c_M_fallsNow {sc : Nat × (Nat → Int32)} {a0 : Nat} {h : mH} {r : Int32} {h' : mH} (hf : f_M_fallsNow a0 h = some (r, h')) : MM sc y_M_fallsNow prog_10_method_34_code 3 (some .int) 2 45 [.ref a0] h (some (.int r)) h' :=
  mm_of_G si_pn_M (Nat.le_of_ble_eq_true rfl) (t_M_fallsNow_0 _ _ _ _ hf)
/-! M year ()I -/
set_option maxRecDepth 100000 in
theorem dd_M_year_0 : (decode prog_10_method_50_code 0 = .ok (.aload_n 0, 1)) ∧ (decode prog_10_method_50_code 1 = .ok (.getfield 7, 3)) ∧ (decode prog_10_method_50_code 4 = .ok (.bipush 39, 2)) ∧ (decode prog_10_method_50_code 6 = .ok (.iaload, 1)) ∧ (decode prog_10_method_50_code 7 = .ok (.sipush 999, 3)) ∧ (decode prog_10_method_50_code 10 = .ok (.if_icmp .ne 6, 3)) ∧ (decode prog_10_method_50_code 13 = .ok (.bipush (-3), 2)) ∧ (decode prog_10_method_50_code 15 = .ok (.ireturn, 1)) ∧ (decode prog_10_method_50_code 16 = .ok (.aload_n 0, 1)) ∧ (decode prog_10_method_50_code 17 = .ok (.invokevirtual 240, 3)) ∧ (decode prog_10_method_50_code 20 = .ok (.istore_n 1, 1)) ∧ (decode prog_10_method_50_code 21 = .ok (.aload_n 0, 1)) ∧ (decode prog_10_method_50_code 22 = .ok (.getfield 7, 3)) ∧ (decode prog_10_method_50_code 25 = .ok (.bipush 10, 2)) ∧ (decode prog_10_method_50_code 27 = .ok (.dup2, 1)) ∧ (decode prog_10_method_50_code 28 = .ok (.iaload, 1)) ∧ (decode prog_10_method_50_code 29 = .ok (.iload_n 1, 1)) ∧ (decode prog_10_method_50_code 30 = .ok (.iconst (-1), 1)) ∧ (decode prog_10_method_50_code 31 = .ok (.ixor, 1)) ∧ (decode prog_10_method_50_code 32 = .ok (.iand, 1)) ∧ (decode prog_10_method_50_code 33 = .ok (.iastore, 1)) ∧ (decode prog_10_method_50_code 34 = .ok (.iconst 0, 1)) ∧ (decode prog_10_method_50_code 35 = .ok (.istore_n 2, 1)) ∧ (decode prog_10_method_50_code 36 = .ok (.iload_n 2, 1)) := by
  have h : List.drop 0 prog_10_method_50_code.data.toList = 0x2a :: _ := rfl
  refine ⟨zq_k_n 42 h rfl (zq_o_42 _), ?_⟩
  replace h := zq_nx1 (q := 1) h rfl
  refine ⟨zq_k_u2 180 (fun z => .getfield z) 7 h rfl (zq_o_180 _) (by decide +kernel), ?_⟩
  replace h := zq_nx3 (q := 4) h rfl
  refine ⟨zq_k_s1 16 (fun z => .bipush z) 39 h rfl (zq_o_16 _) (by decide +kernel), ?_⟩
  replace h := zq_nx2 (q := 6) h rfl
  refine ⟨zq_k_n 46 h rfl (zq_o_46 _), ?_⟩
  replace h := zq_nx1 (q := 7) h rfl
  refine ⟨zq_k_s2 17 (fun z => .sipush z) 999 h rfl (zq_o_17 _) (by decide +kernel), ?_⟩
  replace h := zq_nx3 (q := 10) h rfl
  refine ⟨zq_k_s2 160 (fun z => .if_icmp .ne z) 6 h rfl (zq_o_160 _) (by decide +kernel), ?_⟩
  replace h := zq_nx3 (q := 13) h rfl
  refine ⟨zq_k_s1 16 (fun z => .bipush z) (-3) h rfl (zq_o_16 _) (by decide +kernel), ?_⟩
  replace h := zq_nx2 (q := 15) h rfl
  refine ⟨zq_k_n 172 h rfl (zq_o_172 _), ?_⟩
  replace h := zq_nx1 (q := 16) h rfl
  refine ⟨zq_k_n 42 h rfl (zq_o_42 _), ?_⟩
  replace h := zq_nx1 (q := 17) h rfl
  refine ⟨zq_k_u2 182 (fun z => .invokevirtual z) 240 h rfl (zq_o_182 _) (by decide +kernel), ?_⟩
  replace h := zq_nx3 (q := 20) h rfl
  refine ⟨zq_k_n 60 h rfl (zq_o_60 _), ?_⟩
  replace h := zq_nx1 (q := 21) h rfl
  refine ⟨zq_k_n 42 h rfl (zq_o_42 _), ?_⟩
  replace h := zq_nx1 (q := 22) h rfl
  refine ⟨zq_k_u2 180 (fun z => .getfield z) 7 h rfl (zq_o_180 _) (by decide +kernel), ?_⟩
  replace h := zq_nx3 (q := 25) h rfl
  refine ⟨zq_k_s1 16 (fun z => .bipush z) 10 h rfl (zq_o_16 _) (by decide +kernel), ?_⟩
  replace h := zq_nx2 (q := 27) h rfl
  refine ⟨zq_k_n 92 h rfl (zq_o_92 _), ?_⟩
  replace h := zq_nx1 (q := 28) h rfl
  refine ⟨zq_k_n 46 h rfl (zq_o_46 _), ?_⟩
  replace h := zq_nx1 (q := 29) h rfl
  refine ⟨zq_k_n 27 h rfl (zq_o_27 _), ?_⟩
  replace h := zq_nx1 (q := 30) h rfl
  refine ⟨zq_k_n 2 h rfl (zq_o_2 _), ?_⟩
  replace h := zq_nx1 (q := 31) h rfl
  refine ⟨zq_k_n 130 h rfl (zq_o_130 _), ?_⟩
  replace h := zq_nx1 (q := 32) h rfl
  refine ⟨zq_k_n 126 h rfl (zq_o_126 _), ?_⟩
  replace h := zq_nx1 (q := 33) h rfl
  refine ⟨zq_k_n 79 h rfl (zq_o_79 _), ?_⟩
  replace h := zq_nx1 (q := 34) h rfl
  refine ⟨zq_k_n 3 h rfl (zq_o_3 _), ?_⟩
  replace h := zq_nx1 (q := 35) h rfl
  refine ⟨zq_k_n 61 h rfl (zq_o_61 _), ?_⟩
  replace h := zq_nx1 (q := 36) h rfl
  exact zq_k_n 28 h rfl (zq_o_28 _)
set_option maxRecDepth 100000 in
theorem dd_M_year_37 : (decode prog_10_method_50_code 37 = .ok (.bipush 15, 2)) ∧ (decode prog_10_method_50_code 39 = .ok (.if_icmp .ge 19, 3)) ∧ (decode prog_10_method_50_code 42 = .ok (.aload_n 0, 1)) ∧ (decode prog_10_method_50_code 43 = .ok (.getfield 7, 3)) ∧ (decode prog_10_method_50_code 46 = .ok (.bipush 24, 2)) ∧ (decode prog_10_method_50_code 48 = .ok (.iload_n 2, 1)) ∧ (decode prog_10_method_50_code 49 = .ok (.iadd, 1)) ∧ (decode prog_10_method_50_code 50 = .ok (.iconst 0, 1)) ∧ (decode prog_10_method_50_code 51 = .ok (.iastore, 1)) ∧ (decode prog_10_method_50_code 52 = .ok (.iinc 2 1, 3)) ∧ (decode prog_10_method_50_code 55 = .ok (.goto (-19), 3)) ∧ (decode prog_10_method_50_code 58 = .ok (.aload_n 0, 1)) ∧ (decode prog_10_method_50_code 59 = .ok (.getfield 7, 3)) ∧ (decode prog_10_method_50_code 62 = .ok (.bipush 39, 2)) ∧ (decode prog_10_method_50_code 64 = .ok (.dup2, 1)) ∧ (decode prog_10_method_50_code 65 = .ok (.iaload, 1)) ∧ (decode prog_10_method_50_code 66 = .ok (.iconst 1, 1)) ∧ (decode prog_10_method_50_code 67 = .ok (.iadd, 1)) ∧ (decode prog_10_method_50_code 68 = .ok (.iastore, 1)) ∧ (decode prog_10_method_50_code 69 = .ok (.iload_n 1, 1)) ∧ (decode prog_10_method_50_code 70 = .ok (.ireturn, 1)) := by
  have h : List.drop 37 prog_10_method_50_code.data.toList = 0x10 :: _ := rfl
  refine ⟨zq_k_s1 16 (fun z => .bipush z) 15 h rfl (zq_o_16 _) (by decide +kernel), ?_⟩
  replace h := zq_nx2 (q := 39) h rfl
  refine ⟨zq_k_s2 162 (fun z => .if_icmp .ge z) 19 h rfl (zq_o_162 _) (by decide +kernel), ?_⟩
  replace h := zq_nx3 (q := 42) h rfl
  refine ⟨zq_k_n 42 h rfl (zq_o_42 _), ?_⟩
  replace h := zq_nx1 (q := 43) h rfl
  refine ⟨zq_k_u2 180 (fun z => .getfield z) 7 h rfl (zq_o_180 _) (by decide +kernel), ?_⟩
  replace h := zq_nx3 (q := 46) h rfl
  refine ⟨zq_k_s1 16 (fun z => .bipush z) 24 h rfl (zq_o_16 _) (by decide +kernel), ?_⟩
  replace h := zq_nx2 (q := 48) h rfl
  refine ⟨zq_k_n 28 h rfl (zq_o_28 _), ?_⟩
  replace h := zq_nx1 (q := 49) h rfl
  refine ⟨zq_k_n 96 h rfl (zq_o_96 _), ?_⟩
  replace h := zq_nx1 (q := 50) h rfl
  refine ⟨zq_k_n 3 h rfl (zq_o_3 _), ?_⟩
  replace h := zq_nx1 (q := 51) h rfl
  refine ⟨zq_k_n 79 h rfl (zq_o_79 _), ?_⟩
  replace h := zq_nx1 (q := 52) h rfl
  refine ⟨zq_k_iinc 2 1 h rfl (zq_o_132 _) (by decide +kernel) (by decide +kernel), ?_⟩
  replace h := zq_nx3 (q := 55) h rfl
  refine ⟨zq_k_s2 167 (fun z => .goto z) (-19) h rfl (zq_o_167 _) (by decide +kernel), ?_⟩
  replace h := zq_nx3 (q := 58) h rfl
  refine ⟨zq_k_n 42 h rfl (zq_o_42 _), ?_⟩
  replace h := zq_nx1 (q := 59) h rfl
  refine ⟨zq_k_u2 180 (fun z => .getfield z) 7 h rfl (zq_o_180 _) (by decide +kernel), ?_⟩
  replace h := zq_nx3 (q := 62) h rfl
  refine ⟨zq_k_s1 16 (fun z => .bipush z) 39 h rfl (zq_o_16 _) (by decide +kernel), ?_⟩
  replace h := zq_nx2 (q := 64) h rfl
  refine ⟨zq_k_n 92 h rfl (zq_o_92 _), ?_⟩
  replace h := zq_nx1 (q := 65) h rfl
  refine ⟨zq_k_n 46 h rfl (zq_o_46 _), ?_⟩
  replace h := zq_nx1 (q := 66) h rfl
  refine ⟨zq_k_n 4 h rfl (zq_o_4 _), ?_⟩
  replace h := zq_nx1 (q := 67) h rfl
  refine ⟨zq_k_n 96 h rfl (zq_o_96 _), ?_⟩
  replace h := zq_nx1 (q := 68) h rfl
  refine ⟨zq_k_n 79 h rfl (zq_o_79 _), ?_⟩
  replace h := zq_nx1 (q := 69) h rfl
  refine ⟨zq_k_n 27 h rfl (zq_o_27 _), ?_⟩
  replace h := zq_nx1 (q := 70) h rfl
  exact zq_k_n 172 h rfl (zq_o_172 _)
def f_M_year_36b (rec36 : Nat → Int32 → Int32 → mH → Option (Int32 × mH)) (b0 : Nat) (b1 : Int32) (b2 : Int32) (h : mH) : Option (Int32 × mH) :=
  if (15 : Int32) ≤ b2 then
    bd1 (gR h b0 8 0) fun x17 =>
    bd1 (aI h 0 x17 (39 : Int32)) fun x19 =>
    bd1 (sI h 0 x17 (39 : Int32) (x19 + (1 : Int32))) fun h21 =>
    some (b1, h21)
  else
    bd1 (gR h b0 8 0) fun x23 =>
    bd1 (sI h 0 x23 ((24 : Int32) + b2) (0 : Int32)) fun h25 =>
    rec36 b0 b1 (b2 + (1 : Int32)) h25
set_option maxRecDepth 20000 in
theorem t_M_year_36b {sc : Nat × (Nat → Int32)} (rec36 : Nat → Int32 → Int32 → mH → Option (Int32 × mH)) (hrec36 : ∀ (b0 : Nat) (b1 : Int32) (b2 : Int32) (h : mH) (r : Int32) (h' : mH), rec36 b0 b1 b2 h = some (r, h') → G sc y_M_year prog_10_method_50_code 3 (some .int) 3 67 36 [(0, .ref b0), (1, .int b1), (2, .int b2)] [] h (some (.int r)) h') (b0 : Nat) (b1 : Int32) (b2 : Int32) (h : mH) (r : Int32) (h' : mH) (hf : f_M_year_36b rec36 b0 b1 b2 h = some (r, h')) : G sc y_M_year prog_10_method_50_code 3 (some .int) 3 67 36 [(0, .ref b0), (1, .int b1), (2, .int b2)] [] h (some (.int r)) h' := by
  unfold f_M_year_36b at hf
  refine g_iload_n (pc := 36) 2 dd_M_year_0.2.2.2.2.2.2.2.2.2.2.2.2.2.2.2.2.2.2.2.2.2.2.2 rfl rfl ?_
  refine g_bipush (pc := 37) (15 : Int32) dd_M_year_37.1 (by decide) ?_
  refine g_icmpge (pc := 39) 58 dd_M_year_37.2.1 (by decide) (fun c27 => ?_) (fun c27 => ?_)
  · replace hf := (if_pos c27).symm.trans hf
    refine g_aload_n (pc := 58) 0 dd_M_year_37.2.2.2.2.2.2.2.2.2.2.2.1 rfl rfl ?_
    obtain ⟨x17, e18, hf⟩ := bd1_e hf
    refine g_get (pc := 59) (ci := 8) (kk := 0) dd_M_year_37.2.2.2.2.2.2.2.2.2.2.2.2.1 rfl in_M (by decide) wd_938 (gR_spec e18) ?_
    refine g_bipush (pc := 62) (39 : Int32) dd_M_year_37.2.2.2.2.2.2.2.2.2.2.2.2.2.1 (by decide) ?_
    refine g_dup2 (pc := 64) dd_M_year_37.2.2.2.2.2.2.2.2.2.2.2.2.2.2.1 rfl rfl ?_
    obtain ⟨x19, e20, hf⟩ := bd1_e hf
    refine g_iald (pc := 65) dd_M_year_37.2.2.2.2.2.2.2.2.2.2.2.2.2.2.2.1 e20 ?_
    refine g_iconst (pc := 66) (1 : Int32) dd_M_year_37.2.2.2.2.2.2.2.2.2.2.2.2.2.2.2.2.1 (by decide) ?_
    refine g_iadd (pc := 67) dd_M_year_37.2.2.2.2.2.2.2.2.2.2.2.2.2.2.2.2.2.1 ?_
    obtain ⟨h21, e22, hf⟩ := bd1_e hf
    refine g_iast (pc := 68) dd_M_year_37.2.2.2.2.2.2.2.2.2.2.2.2.2.2.2.2.2.2.1 e22 ?_
    refine g_iload_n (pc := 69) 1 dd_M_year_37.2.2.2.2.2.2.2.2.2.2.2.2.2.2.2.2.2.2.2.1 rfl rfl ?_
    obtain ⟨rfl, rfl⟩ := ret2 hf
    exact g_iret (pc := 70) rfl dd_M_year_37.2.2.2.2.2.2.2.2.2.2.2.2.2.2.2.2.2.2.2.2
  · replace hf := (if_neg c27).symm.trans hf
    refine g_aload_n (pc := 42) 0 dd_M_year_37.2.2.1 rfl rfl ?_
    obtain ⟨x23, e24, hf⟩ := bd1_e hf
    refine g_get (pc := 43) (ci := 8) (kk := 0) dd_M_year_37.2.2.2.1 rfl in_M (by decide) wd_938 (gR_spec e24) ?_
    refine g_bipush (pc := 46) (24 : Int32) dd_M_year_37.2.2.2.2.1 (by decide) ?_
    refine g_iload_n (pc := 48) 2 dd_M_year_37.2.2.2.2.2.1 rfl rfl ?_
    refine g_iadd (pc := 49) dd_M_year_37.2.2.2.2.2.2.1 ?_
    refine g_iconst (pc := 50) (0 : Int32) dd_M_year_37.2.2.2.2.2.2.2.1 (by decide) ?_
    obtain ⟨h25, e26, hf⟩ := bd1_e hf
    refine g_iast (pc := 51) dd_M_year_37.2.2.2.2.2.2.2.2.1 e26 ?_
    refine g_iinc (pc := 52) 2 (b2 + (1 : Int32)) [(2, .int (b2 + (1 : Int32))), (0, .ref b0), (1, .int b1)] dd_M_year_37.2.2.2.2.2.2.2.2.2.1 rfl rfl (Nat.le_of_ble_eq_true rfl) rfl ?_
    refine g_goto (pc := 55) 36 dd_M_year_37.2.2.2.2.2.2.2.2.2.2.1 (by decide) ?_
    refine g_lv [1, 2, 0] rfl ?_
    exact hrec36 _ _ _ _ _ _  hf
def f_M_year_36  : Nat → Nat → Int32 → Int32 → mH → Option (Int32 × mH)
  | 0 => fun _ _ _ _ => none
  | n + 1 => f_M_year_36b  (f_M_year_36  n)
theorem t_M_year_36 {sc : Nat × (Nat → Int32)}  : ∀ (n : Nat) (b0 : Nat) (b1 : Int32) (b2 : Int32) (h : mH) (r : Int32) (h' : mH) (hf : f_M_year_36  n b0 b1 b2 h = some (r, h')), G sc y_M_year prog_10_method_50_code 3 (some .int) 3 67 36 [(0, .ref b0), (1, .int b1), (2, .int b2)] [] h (some (.int r)) h'
  | 0, _, _, _, _, _, _, hf => by cases hf
  | n + 1, _, _, _, _, _, _, hf => t_M_year_36b  (f_M_year_36  n) (t_M_year_36  n) _ _ _ _ _ _ hf
def f_M_year_0  (a0 : Nat) (h : mH) : Option (Int32 × mH) :=
  bd1 (gR h a0 8 0) fun x1 =>
  bd1 (aI h 0 x1 (39 : Int32)) fun x3 =>
  if x3 = (999 : Int32) then
    some (((-3) : Int32), h)
  else
    bd1 (kC h a0 8) fun _ =>
    bd2 (f_M_fallsNow a0 h) fun x9 h7 =>
    bd1 (gR h7 a0 8 0) fun x10 =>
    bd1 (aI h7 0 x10 (10 : Int32)) fun x12 =>
    bd1 (sI h7 0 x10 (10 : Int32) (x12 &&& (x9 ^^^ ((-1) : Int32)))) fun h14 =>
    f_M_year_36  FU a0 x9 (0 : Int32) h14
set_option maxRecDepth 20000 in
theorem t_M_year_0 {sc : Nat × (Nat → Int32)}  (a0 : Nat) (h : mH) (r : Int32) (h' : mH) (hf : f_M_year_0  a0 h = some (r, h')) : G sc y_M_year prog_10_method_50_code 3 (some .int) 3 67 0 [(0, .ref a0)] [] h (some (.int r)) h' := by
  unfold f_M_year_0 at hf
  refine g_aload_n (pc := 0) 0 dd_M_year_0.1 rfl rfl ?_
  obtain ⟨x1, e2, hf⟩ := bd1_e hf
  refine g_get (pc := 1) (ci := 8) (kk := 0) dd_M_year_0.2.1 rfl in_M (by decide) wd_938 (gR_spec e2) ?_
  refine g_bipush (pc := 4) (39 : Int32) dd_M_year_0.2.2.1 (by decide) ?_
  obtain ⟨x3, e4, hf⟩ := bd1_e hf
  refine g_iald (pc := 6) dd_M_year_0.2.2.2.1 e4 ?_
  refine g_sipush (pc := 7) (999 : Int32) dd_M_year_0.2.2.2.2.1 (by decide) ?_
  refine g_icmpne (pc := 10) 16 dd_M_year_0.2.2.2.2.2.1 (by decide) (fun c16 => ?_) (fun c16 => ?_)
  · replace hf := (if_neg c16).symm.trans hf
    refine g_aload_n (pc := 16) 0 dd_M_year_0.2.2.2.2.2.2.2.2.1 rfl rfl ?_
    obtain ⟨u6, e5, hf⟩ := bd1_e hf
    obtain ⟨x9, h7, e8, hf⟩ := bd2_e hf
    refine g_callV (pc := 17) (ci := 8) [] (site_of si_M_fallsNow (by decide) (by decide)) wd_1241 wd_1243 wp_56 dd_M_year_0.2.2.2.2.2.2.2.2.2.1 rfl e5 (Nat.le_of_ble_eq_true rfl) (fun z => absurd z si_na_M_fallsNow) (fun z => absurd z si_na_M_fallsNow) (fun z => absurd z si_na_M_fallsNow) (c_M_fallsNow e8) rfl ?_
    refine g_st [.int x9] rfl ?_
    refine g_istore_n (pc := 20) [(1, .int x9), (0, .ref a0)] dd_M_year_0.2.2.2.2.2.2.2.2.2.2.1 rfl (Nat.le_of_ble_eq_true rfl) rfl ?_
    refine g_aload_n (pc := 21) 1 dd_M_year_0.2.2.2.2.2.2.2.2.2.2.2.1 rfl rfl ?_
    obtain ⟨x10, e11, hf⟩ := bd1_e hf
    refine g_get (pc := 22) (ci := 8) (kk := 0) dd_M_year_0.2.2.2.2.2.2.2.2.2.2.2.2.1 rfl in_M (by decide) wd_938 (gR_spec e11) ?_
    refine g_bipush (pc := 25) (10 : Int32) dd_M_year_0.2.2.2.2.2.2.2.2.2.2.2.2.2.1 (by decide) ?_
    refine g_dup2 (pc := 27) dd_M_year_0.2.2.2.2.2.2.2.2.2.2.2.2.2.2.1 rfl rfl ?_
    obtain ⟨x12, e13, hf⟩ := bd1_e hf
    refine g_iald (pc := 28) dd_M_year_0.2.2.2.2.2.2.2.2.2.2.2.2.2.2.2.1 e13 ?_
    refine g_iload_n (pc := 29) 0 dd_M_year_0.2.2.2.2.2.2.2.2.2.2.2.2.2.2.2.2.1 rfl rfl ?_
    refine g_iconst (pc := 30) ((-1) : Int32) dd_M_year_0.2.2.2.2.2.2.2.2.2.2.2.2.2.2.2.2.2.1 (by decide) ?_
    refine g_ixor (pc := 31) dd_M_year_0.2.2.2.2.2.2.2.2.2.2.2.2.2.2.2.2.2.2.1 ?_
    refine g_iand (pc := 32) dd_M_year_0.2.2.2.2.2.2.2.2.2.2.2.2.2.2.2.2.2.2.2.1 ?_
    obtain ⟨h14, e15, hf⟩ := bd1_e hf
    refine g_iast (pc := 33) dd_M_year_0.2.2.2.2.2.2.2.2.2.2.2.2.2.2.2.2.2.2.2.2.1 e15 ?_
    refine g_iconst (pc := 34) (0 : Int32) dd_M_year_0.2.2.2.2.2.2.2.2.2.2.2.2.2.2.2.2.2.2.2.2.2.1 (by decide) ?_
    refine g_istore_n (pc := 35) [(2, .int (0 : Int32)), (1, .int x9), (0, .ref a0)] dd_M_year_0.2.2.2.2.2.2.2.2.2.2.2.2.2.2.2.2.2.2.2.2.2.2.1 rfl (Nat.le_of_ble_eq_true rfl) rfl ?_
    refine g_lv [2, 1, 0] rfl ?_
    exact t_M_year_36  FU _ _ _ _ _ _  hf
  · replace hf := (if_pos c16).symm.trans hf
    refine g_bipush (pc := 13) ((-3) : Int32) dd_M_year_0.2.2.2.2.2.2.1 (by decide) ?_
    obtain ⟨rfl, rfl⟩ := ret2 hf
    exact g_iret (pc := 15) rfl dd_M_year_0.2.2.2.2.2.2.2.1
def f_M_year (a0 : Nat) (h : mH) : Option (Int32 × mH) := f_M_year_0 a0 h
theorem c_M_year {sc : Nat × (Nat → Int32)} {a0 : Nat} {h : mH} {r : Int32} {h' : mH} (hf : f_M_year a0 h = some (r, h')) : MM sc y_M_year prog_10_method_50_code 3 (some .int) 3 67 [.ref a0] h (some (.int r)) h' :=
  mm_of_G si_pn_M (Nat.le_of_ble_eq_true rfl) (t_M_year_0 _ _ _ _ hf)
end
