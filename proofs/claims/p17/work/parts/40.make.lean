/-! Reader init ()V -/
set_option maxRecDepth 100000 in
theorem dd_Reader_new_0 : (decode prog_4_method_1_code 0 = .ok (.aload_n 0, 1)) ∧ (decode prog_4_method_1_code 1 = .ok (.invokespecial 3, 3)) ∧ (decode prog_4_method_1_code 4 = .ok (.aload_n 0, 1)) ∧ (decode prog_4_method_1_code 5 = .ok (.sipush 160, 3)) ∧ (decode prog_4_method_1_code 8 = .ok (.newarray .byte, 2)) ∧ (decode prog_4_method_1_code 10 = .ok (.putfield 9, 3)) ∧ (decode prog_4_method_1_code 13 = .ok (.return_, 1)) := by
  have h : List.drop 0 prog_4_method_1_code.data.toList = 0x2a :: _ := rfl
  refine ⟨zq_k_n 42 h rfl (zq_o_42 _), ?_⟩
  replace h := zq_nx1 (q := 1) h rfl
  refine ⟨zq_k_u2 183 (fun z => .invokespecial z) 3 h rfl (zq_o_183 _) (by decide +kernel), ?_⟩
  replace h := zq_nx3 (q := 4) h rfl
  refine ⟨zq_k_n 42 h rfl (zq_o_42 _), ?_⟩
  replace h := zq_nx1 (q := 5) h rfl
  refine ⟨zq_k_s2 17 (fun z => .sipush z) 160 h rfl (zq_o_17 _) (by decide +kernel), ?_⟩
  replace h := zq_nx3 (q := 8) h rfl
  refine ⟨by decide +kernel, ?_⟩
  have h : List.drop 10 prog_4_method_1_code.data.toList = 0xb5 :: _ := rfl
  refine ⟨zq_k_u2 181 (fun z => .putfield z) 9 h rfl (zq_o_181 _) (by decide +kernel), ?_⟩
  replace h := zq_nx3 (q := 13) h rfl
  exact zq_k_n 177 h rfl (zq_o_177 _)
theorem d_Reader_new_0 : decode prog_4_method_1_code 0 = .ok (.aload_n 0, 1) := dd_Reader_new_0.1
theorem d_Reader_new_1 : decode prog_4_method_1_code 1 = .ok (.invokespecial 3, 3) := dd_Reader_new_0.2.1
theorem d_Reader_new_4 : decode prog_4_method_1_code 4 = .ok (.aload_n 0, 1) := dd_Reader_new_0.2.2.1
theorem d_Reader_new_5 : decode prog_4_method_1_code 5 = .ok (.sipush 160, 3) := dd_Reader_new_0.2.2.2.1
theorem d_Reader_new_8 : decode prog_4_method_1_code 8 = .ok (.newarray .byte, 2) := dd_Reader_new_0.2.2.2.2.1
theorem d_Reader_new_10 : decode prog_4_method_1_code 10 = .ok (.putfield 9, 3) := dd_Reader_new_0.2.2.2.2.2.1
theorem d_Reader_new_13 : decode prog_4_method_1_code 13 = .ok (.return_, 1) := dd_Reader_new_0.2.2.2.2.2.2
def f_Reader_new_0  (a0 : Nat) (h : mH) : Option mH :=
  grd (¬ a0 = h.1) <|
  bd1 (mkn h 160 (.inl (1, (160, .inl (fun _ => 0))))) fun h2 =>
  grd (h.1 < h2.1) <|
  bd1 (pV h2 a0 3 0 (.ref h.1)) fun h6 =>
  some h6
set_option maxRecDepth 20000 in
theorem t_Reader_new_0 {sc : Nat × (Nat → Int32)}  (a0 : Nat) (h : mH) (h' : mH) (hf : f_Reader_new_0  a0 h = some h') : G sc y_Reader_new prog_4_method_1_code 1 none 1 20 0 [(0, .ref a0)] [] h none h' := by
  unfold f_Reader_new_0 at hf
  refine g_aload_n (pc := 0) 0 d_Reader_new_0 rfl rfl ?_
  refine g_objInit (pc := 1) d_Reader_new_1 wd_31 wd_24 wd_25 (by decide) (Nat.le_of_ble_eq_true rfl) ?_
  refine g_aload_n (pc := 4) 0 d_Reader_new_4 rfl rfl ?_
  refine g_sipush (pc := 5) (160 : Int32) d_Reader_new_5 (by decide) ?_
  obtain ⟨g1, hf⟩ := grd_e hf
  obtain ⟨h2, e3, hf⟩ := bd1_e hf
  obtain ⟨g4, e5⟩ := mkn_e e3
  refine g_newa (pc := 8) rfl 1 160 .byte (160, .inl (fun _ => 0)) wd_64 rfl (fun _ => rfl) (fun _ _ _ a b => Option.some.inj (a.symm.trans b)) (fun _ => rfl) (fun _ => rfl) (fun _ z => absurd z id) (by decide) (by decide) (by decide) d_Reader_new_8 g4 (okl_cons (okv_r (by omega)) (okl_nil)) (oks_cons (okv_r (by omega)) (oks_nil)) ?_
  rw [← e5]
  have h2_n : h2.1 = h.1 + 1 := by rw [e5]; rfl
  obtain ⟨g8, hf⟩ := grd_e hf
  obtain ⟨h6, e7, hf⟩ := bd1_e hf
  refine g_putF (pc := 10) (ci := 3) (kk := 0) ty_Reader tyok_Reader nm_Reader d_Reader_new_10 rfl in_Reader (by decide) wd_32 rfl rfl rfl (fun _ => rfl) (fun _ => rfl) (fun _ z => by cases z; omega) e7 ?_
  obtain rfl := ret1 hf
  exact g_vret (pc := 13) rfl d_Reader_new_13
def f_Reader_new (a0 : Nat) (h : mH) : Option mH := f_Reader_new_0 a0 h
theorem c_Reader_new {sc : Nat × (Nat → Int32)} {a0 : Nat} {h : mH} {h' : mH} (hf : f_Reader_new a0 h = some h') : MM sc y_Reader_new prog_4_method_1_code 1 none 1 20 [.ref a0] h none h' :=
  mm_of_G (by decide) (Nat.le_of_ble_eq_true rfl) (t_Reader_new_0 _ _ _ hf)
/-! Sightings init ()V -/
set_option maxRecDepth 100000 in
theorem dd_Sightings_new_0 : (decode prog_7_method_1_code 0 = .ok (.aload_n 0, 1)) ∧ (decode prog_7_method_1_code 1 = .ok (.invokespecial 3, 3)) ∧ (decode prog_7_method_1_code 4 = .ok (.aload_n 0, 1)) ∧ (decode prog_7_method_1_code 5 = .ok (.bipush 8, 2)) ∧ (decode prog_7_method_1_code 7 = .ok (.newarray .int, 2)) ∧ (decode prog_7_method_1_code 9 = .ok (.putfield 9, 3)) ∧ (decode prog_7_method_1_code 12 = .ok (.aload_n 0, 1)) ∧ (decode prog_7_method_1_code 13 = .ok (.bipush 8, 2)) ∧ (decode prog_7_method_1_code 15 = .ok (.newarray .int, 2)) ∧ (decode prog_7_method_1_code 17 = .ok (.putfield 15, 3)) ∧ (decode prog_7_method_1_code 20 = .ok (.aload_n 0, 1)) ∧ (decode prog_7_method_1_code 21 = .ok (.bipush 8, 2)) ∧ (decode prog_7_method_1_code 23 = .ok (.newarray .int, 2)) ∧ (decode prog_7_method_1_code 25 = .ok (.putfield 18, 3)) ∧ (decode prog_7_method_1_code 28 = .ok (.return_, 1)) := by
  have h : List.drop 0 prog_7_method_1_code.data.toList = 0x2a :: _ := rfl
  refine ⟨zq_k_n 42 h rfl (zq_o_42 _), ?_⟩
  replace h := zq_nx1 (q := 1) h rfl
  refine ⟨zq_k_u2 183 (fun z => .invokespecial z) 3 h rfl (zq_o_183 _) (by decide +kernel), ?_⟩
  replace h := zq_nx3 (q := 4) h rfl
  refine ⟨zq_k_n 42 h rfl (zq_o_42 _), ?_⟩
  replace h := zq_nx1 (q := 5) h rfl
  refine ⟨zq_k_s1 16 (fun z => .bipush z) 8 h rfl (zq_o_16 _) (by decide +kernel), ?_⟩
  replace h := zq_nx2 (q := 7) h rfl
  refine ⟨by decide +kernel, ?_⟩
  have h : List.drop 9 prog_7_method_1_code.data.toList = 0xb5 :: _ := rfl
  refine ⟨zq_k_u2 181 (fun z => .putfield z) 9 h rfl (zq_o_181 _) (by decide +kernel), ?_⟩
  replace h := zq_nx3 (q := 12) h rfl
  refine ⟨zq_k_n 42 h rfl (zq_o_42 _), ?_⟩
  replace h := zq_nx1 (q := 13) h rfl
  refine ⟨zq_k_s1 16 (fun z => .bipush z) 8 h rfl (zq_o_16 _) (by decide +kernel), ?_⟩
  replace h := zq_nx2 (q := 15) h rfl
  refine ⟨by decide +kernel, ?_⟩
  have h : List.drop 17 prog_7_method_1_code.data.toList = 0xb5 :: _ := rfl
  refine ⟨zq_k_u2 181 (fun z => .putfield z) 15 h rfl (zq_o_181 _) (by decide +kernel), ?_⟩
  replace h := zq_nx3 (q := 20) h rfl
  refine ⟨zq_k_n 42 h rfl (zq_o_42 _), ?_⟩
  replace h := zq_nx1 (q := 21) h rfl
  refine ⟨zq_k_s1 16 (fun z => .bipush z) 8 h rfl (zq_o_16 _) (by decide +kernel), ?_⟩
  replace h := zq_nx2 (q := 23) h rfl
  refine ⟨by decide +kernel, ?_⟩
  have h : List.drop 25 prog_7_method_1_code.data.toList = 0xb5 :: _ := rfl
  refine ⟨zq_k_u2 181 (fun z => .putfield z) 18 h rfl (zq_o_181 _) (by decide +kernel), ?_⟩
  replace h := zq_nx3 (q := 28) h rfl
  exact zq_k_n 177 h rfl (zq_o_177 _)
theorem d_Sightings_new_0 : decode prog_7_method_1_code 0 = .ok (.aload_n 0, 1) := dd_Sightings_new_0.1
theorem d_Sightings_new_1 : decode prog_7_method_1_code 1 = .ok (.invokespecial 3, 3) := dd_Sightings_new_0.2.1
theorem d_Sightings_new_4 : decode prog_7_method_1_code 4 = .ok (.aload_n 0, 1) := dd_Sightings_new_0.2.2.1
theorem d_Sightings_new_5 : decode prog_7_method_1_code 5 = .ok (.bipush 8, 2) := dd_Sightings_new_0.2.2.2.1
theorem d_Sightings_new_7 : decode prog_7_method_1_code 7 = .ok (.newarray .int, 2) := dd_Sightings_new_0.2.2.2.2.1
theorem d_Sightings_new_9 : decode prog_7_method_1_code 9 = .ok (.putfield 9, 3) := dd_Sightings_new_0.2.2.2.2.2.1
theorem d_Sightings_new_12 : decode prog_7_method_1_code 12 = .ok (.aload_n 0, 1) := dd_Sightings_new_0.2.2.2.2.2.2.1
theorem d_Sightings_new_13 : decode prog_7_method_1_code 13 = .ok (.bipush 8, 2) := dd_Sightings_new_0.2.2.2.2.2.2.2.1
theorem d_Sightings_new_15 : decode prog_7_method_1_code 15 = .ok (.newarray .int, 2) := dd_Sightings_new_0.2.2.2.2.2.2.2.2.1
theorem d_Sightings_new_17 : decode prog_7_method_1_code 17 = .ok (.putfield 15, 3) := dd_Sightings_new_0.2.2.2.2.2.2.2.2.2.1
theorem d_Sightings_new_20 : decode prog_7_method_1_code 20 = .ok (.aload_n 0, 1) := dd_Sightings_new_0.2.2.2.2.2.2.2.2.2.2.1
theorem d_Sightings_new_21 : decode prog_7_method_1_code 21 = .ok (.bipush 8, 2) := dd_Sightings_new_0.2.2.2.2.2.2.2.2.2.2.2.1
theorem d_Sightings_new_23 : decode prog_7_method_1_code 23 = .ok (.newarray .int, 2) := dd_Sightings_new_0.2.2.2.2.2.2.2.2.2.2.2.2.1
theorem d_Sightings_new_25 : decode prog_7_method_1_code 25 = .ok (.putfield 18, 3) := dd_Sightings_new_0.2.2.2.2.2.2.2.2.2.2.2.2.2.1
theorem d_Sightings_new_28 : decode prog_7_method_1_code 28 = .ok (.return_, 1) := dd_Sightings_new_0.2.2.2.2.2.2.2.2.2.2.2.2.2.2
def f_Sightings_new_0  (a0 : Nat) (h : mH) : Option mH :=
  grd (¬ a0 = h.1) <|
  bd1 (mkn h 8 (.inl (0, (8, .inl (fun _ => 0))))) fun h2 =>
  grd (h.1 < h2.1) <|
  bd1 (pV h2 a0 6 1 (.ref h.1)) fun h6 =>
  grd (¬ a0 = h6.1) <|
  bd1 (mkn h6 8 (.inl (0, (8, .inl (fun _ => 0))))) fun h10 =>
  grd (h6.1 < h10.1) <|
  bd1 (pV h10 a0 6 2 (.ref h6.1)) fun h14 =>
  grd (¬ a0 = h14.1) <|
  bd1 (mkn h14 8 (.inl (0, (8, .inl (fun _ => 0))))) fun h18 =>
  grd (h14.1 < h18.1) <|
  bd1 (pV h18 a0 6 3 (.ref h14.1)) fun h22 =>
  some h22
set_option maxRecDepth 20000 in
theorem t_Sightings_new_0 {sc : Nat × (Nat → Int32)}  (a0 : Nat) (h : mH) (h' : mH) (hf : f_Sightings_new_0  a0 h = some h') : G sc y_Sightings_new prog_7_method_1_code 1 none 1 20 0 [(0, .ref a0)] [] h none h' := by
  unfold f_Sightings_new_0 at hf
  refine g_aload_n (pc := 0) 0 d_Sightings_new_0 rfl rfl ?_
  refine g_objInit (pc := 1) d_Sightings_new_1 wd_76 wd_24 wd_25 (by decide) (Nat.le_of_ble_eq_true rfl) ?_
  refine g_aload_n (pc := 4) 0 d_Sightings_new_4 rfl rfl ?_
  refine g_bipush (pc := 5) (8 : Int32) d_Sightings_new_5 (by decide) ?_
  obtain ⟨g1, hf⟩ := grd_e hf
  obtain ⟨h2, e3, hf⟩ := bd1_e hf
  obtain ⟨g4, e5⟩ := mkn_e e3
  refine g_newa (pc := 7) rfl 0 8 .int (8, .inl (fun _ => 0)) wd_92 rfl (fun _ => rfl) (fun _ _ _ a b => Option.some.inj (a.symm.trans b)) (fun _ => rfl) (fun _ => rfl) (fun _ z => absurd z id) (by decide) (by decide) (by decide) d_Sightings_new_7 g4 (okl_cons (okv_r (by omega)) (okl_nil)) (oks_cons (okv_r (by omega)) (oks_nil)) ?_
  rw [← e5]
  have h2_n : h2.1 = h.1 + 1 := by rw [e5]; rfl
  obtain ⟨g8, hf⟩ := grd_e hf
  obtain ⟨h6, e7, hf⟩ := bd1_e hf
  refine g_putF (pc := 9) (ci := 6) (kk := 1) ty_Sightings tyok_Sightings nm_Sightings d_Sightings_new_9 rfl in_Sightings (by decide) wd_80 rfl rfl rfl (fun _ => rfl) (fun _ => rfl) (fun _ z => by cases z; omega) e7 ?_
  refine g_aload_n (pc := 12) 0 d_Sightings_new_12 rfl rfl ?_
  refine g_bipush (pc := 13) (8 : Int32) d_Sightings_new_13 (by decide) ?_
  obtain ⟨g9, hf⟩ := grd_e hf
  obtain ⟨h10, e11, hf⟩ := bd1_e hf
  obtain ⟨g12, e13⟩ := mkn_e e11
  refine g_newa (pc := 15) rfl 0 8 .int (8, .inl (fun _ => 0)) wd_92 rfl (fun _ => rfl) (fun _ _ _ a b => Option.some.inj (a.symm.trans b)) (fun _ => rfl) (fun _ => rfl) (fun _ z => absurd z id) (by decide) (by decide) (by decide) d_Sightings_new_15 g12 (okl_cons (okv_r (by omega)) (okl_nil)) (oks_cons (okv_r (by omega)) (oks_nil)) ?_
  rw [← e13]
  have h10_n : h10.1 = h6.1 + 1 := by rw [e13]; rfl
  obtain ⟨g16, hf⟩ := grd_e hf
  obtain ⟨h14, e15, hf⟩ := bd1_e hf
  refine g_putF (pc := 17) (ci := 6) (kk := 2) ty_Sightings tyok_Sightings nm_Sightings d_Sightings_new_17 rfl in_Sightings (by decide) wd_81 rfl rfl rfl (fun _ => rfl) (fun _ => rfl) (fun _ z => by cases z; omega) e15 ?_
  refine g_aload_n (pc := 20) 0 d_Sightings_new_20 rfl rfl ?_
  refine g_bipush (pc := 21) (8 : Int32) d_Sightings_new_21 (by decide) ?_
  obtain ⟨g17, hf⟩ := grd_e hf
  obtain ⟨h18, e19, hf⟩ := bd1_e hf
  obtain ⟨g20, e21⟩ := mkn_e e19
  refine g_newa (pc := 23) rfl 0 8 .int (8, .inl (fun _ => 0)) wd_92 rfl (fun _ => rfl) (fun _ _ _ a b => Option.some.inj (a.symm.trans b)) (fun _ => rfl) (fun _ => rfl) (fun _ z => absurd z id) (by decide) (by decide) (by decide) d_Sightings_new_23 g20 (okl_cons (okv_r (by omega)) (okl_nil)) (oks_cons (okv_r (by omega)) (oks_nil)) ?_
  rw [← e21]
  have h18_n : h18.1 = h14.1 + 1 := by rw [e21]; rfl
  obtain ⟨g24, hf⟩ := grd_e hf
  obtain ⟨h22, e23, hf⟩ := bd1_e hf
  refine g_putF (pc := 25) (ci := 6) (kk := 3) ty_Sightings tyok_Sightings nm_Sightings d_Sightings_new_25 rfl in_Sightings (by decide) wd_82 rfl rfl rfl (fun _ => rfl) (fun _ => rfl) (fun _ z => by cases z; omega) e23 ?_
  obtain rfl := ret1 hf
  exact g_vret (pc := 28) rfl d_Sightings_new_28
def f_Sightings_new (a0 : Nat) (h : mH) : Option mH := f_Sightings_new_0 a0 h
theorem c_Sightings_new {sc : Nat × (Nat → Int32)} {a0 : Nat} {h : mH} {h' : mH} (hf : f_Sightings_new a0 h = some h') : MM sc y_Sightings_new prog_7_method_1_code 1 none 1 20 [.ref a0] h none h' :=
  mm_of_G (by decide) (Nat.le_of_ble_eq_true rfl) (t_Sightings_new_0 _ _ _ hf)
/-! Realm init ()V -/
set_option maxRecDepth 100000 in
theorem dd_Realm_new_0 : (decode prog_5_method_1_code 0 = .ok (.aload_n 0, 1)) ∧ (decode prog_5_method_1_code 1 = .ok (.invokespecial 3, 3)) ∧ (decode prog_5_method_1_code 4 = .ok (.aload_n 0, 1)) ∧ (decode prog_5_method_1_code 5 = .ok (.iconst 5, 1)) ∧ (decode prog_5_method_1_code 6 = .ok (.newarray .int, 2)) ∧ (decode prog_5_method_1_code 8 = .ok (.putfield 9, 3)) ∧ (decode prog_5_method_1_code 11 = .ok (.aload_n 0, 1)) ∧ (decode prog_5_method_1_code 12 = .ok (.iconst 5, 1)) ∧ (decode prog_5_method_1_code 13 = .ok (.newarray .int, 2)) ∧ (decode prog_5_method_1_code 15 = .ok (.putfield 15, 3)) ∧ (decode prog_5_method_1_code 18 = .ok (.aload_n 0, 1)) ∧ (decode prog_5_method_1_code 19 = .ok (.iconst 5, 1)) ∧ (decode prog_5_method_1_code 20 = .ok (.newarray .int, 2)) ∧ (decode prog_5_method_1_code 22 = .ok (.putfield 18, 3)) ∧ (decode prog_5_method_1_code 25 = .ok (.aload_n 0, 1)) ∧ (decode prog_5_method_1_code 26 = .ok (.iconst 5, 1)) ∧ (decode prog_5_method_1_code 27 = .ok (.newarray .int, 2)) ∧ (decode prog_5_method_1_code 29 = .ok (.putfield 21, 3)) ∧ (decode prog_5_method_1_code 32 = .ok (.aload_n 0, 1)) ∧ (decode prog_5_method_1_code 33 = .ok (.iconst 5, 1)) ∧ (decode prog_5_method_1_code 34 = .ok (.newarray .int, 2)) ∧ (decode prog_5_method_1_code 36 = .ok (.putfield 24, 3)) ∧ (decode prog_5_method_1_code 39 = .ok (.aload_n 0, 1)) ∧ (decode prog_5_method_1_code 40 = .ok (.iconst 3, 1)) := by
  have h : List.drop 0 prog_5_method_1_code.data.toList = 0x2a :: _ := rfl
  refine ⟨zq_k_n 42 h rfl (zq_o_42 _), ?_⟩
  replace h := zq_nx1 (q := 1) h rfl
  refine ⟨zq_k_u2 183 (fun z => .invokespecial z) 3 h rfl (zq_o_183 _) (by decide +kernel), ?_⟩
  replace h := zq_nx3 (q := 4) h rfl
  refine ⟨zq_k_n 42 h rfl (zq_o_42 _), ?_⟩
  replace h := zq_nx1 (q := 5) h rfl
  refine ⟨zq_k_n 8 h rfl (zq_o_8 _), ?_⟩
  replace h := zq_nx1 (q := 6) h rfl
  refine ⟨by decide +kernel, ?_⟩
  have h : List.drop 8 prog_5_method_1_code.data.toList = 0xb5 :: _ := rfl
  refine ⟨zq_k_u2 181 (fun z => .putfield z) 9 h rfl (zq_o_181 _) (by decide +kernel), ?_⟩
  replace h := zq_nx3 (q := 11) h rfl
  refine ⟨zq_k_n 42 h rfl (zq_o_42 _), ?_⟩
  replace h := zq_nx1 (q := 12) h rfl
  refine ⟨zq_k_n 8 h rfl (zq_o_8 _), ?_⟩
  replace h := zq_nx1 (q := 13) h rfl
  refine ⟨by decide +kernel, ?_⟩
  have h : List.drop 15 prog_5_method_1_code.data.toList = 0xb5 :: _ := rfl
  refine ⟨zq_k_u2 181 (fun z => .putfield z) 15 h rfl (zq_o_181 _) (by decide +kernel), ?_⟩
  replace h := zq_nx3 (q := 18) h rfl
  refine ⟨zq_k_n 42 h rfl (zq_o_42 _), ?_⟩
  replace h := zq_nx1 (q := 19) h rfl
  refine ⟨zq_k_n 8 h rfl (zq_o_8 _), ?_⟩
  replace h := zq_nx1 (q := 20) h rfl
  refine ⟨by decide +kernel, ?_⟩
  have h : List.drop 22 prog_5_method_1_code.data.toList = 0xb5 :: _ := rfl
  refine ⟨zq_k_u2 181 (fun z => .putfield z) 18 h rfl (zq_o_181 _) (by decide +kernel), ?_⟩
  replace h := zq_nx3 (q := 25) h rfl
  refine ⟨zq_k_n 42 h rfl (zq_o_42 _), ?_⟩
  replace h := zq_nx1 (q := 26) h rfl
  refine ⟨zq_k_n 8 h rfl (zq_o_8 _), ?_⟩
  replace h := zq_nx1 (q := 27) h rfl
  refine ⟨by decide +kernel, ?_⟩
  have h : List.drop 29 prog_5_method_1_code.data.toList = 0xb5 :: _ := rfl
  refine ⟨zq_k_u2 181 (fun z => .putfield z) 21 h rfl (zq_o_181 _) (by decide +kernel), ?_⟩
  replace h := zq_nx3 (q := 32) h rfl
  refine ⟨zq_k_n 42 h rfl (zq_o_42 _), ?_⟩
  replace h := zq_nx1 (q := 33) h rfl
  refine ⟨zq_k_n 8 h rfl (zq_o_8 _), ?_⟩
  replace h := zq_nx1 (q := 34) h rfl
  refine ⟨by decide +kernel, ?_⟩
  have h : List.drop 36 prog_5_method_1_code.data.toList = 0xb5 :: _ := rfl
  refine ⟨zq_k_u2 181 (fun z => .putfield z) 24 h rfl (zq_o_181 _) (by decide +kernel), ?_⟩
  replace h := zq_nx3 (q := 39) h rfl
  refine ⟨zq_k_n 42 h rfl (zq_o_42 _), ?_⟩
  replace h := zq_nx1 (q := 40) h rfl
  exact zq_k_n 6 h rfl (zq_o_6 _)
theorem d_Realm_new_0 : decode prog_5_method_1_code 0 = .ok (.aload_n 0, 1) := dd_Realm_new_0.1
theorem d_Realm_new_1 : decode prog_5_method_1_code 1 = .ok (.invokespecial 3, 3) := dd_Realm_new_0.2.1
theorem d_Realm_new_4 : decode prog_5_method_1_code 4 = .ok (.aload_n 0, 1) := dd_Realm_new_0.2.2.1
theorem d_Realm_new_5 : decode prog_5_method_1_code 5 = .ok (.iconst 5, 1) := dd_Realm_new_0.2.2.2.1
theorem d_Realm_new_6 : decode prog_5_method_1_code 6 = .ok (.newarray .int, 2) := dd_Realm_new_0.2.2.2.2.1
theorem d_Realm_new_8 : decode prog_5_method_1_code 8 = .ok (.putfield 9, 3) := dd_Realm_new_0.2.2.2.2.2.1
theorem d_Realm_new_11 : decode prog_5_method_1_code 11 = .ok (.aload_n 0, 1) := dd_Realm_new_0.2.2.2.2.2.2.1
theorem d_Realm_new_12 : decode prog_5_method_1_code 12 = .ok (.iconst 5, 1) := dd_Realm_new_0.2.2.2.2.2.2.2.1
theorem d_Realm_new_13 : decode prog_5_method_1_code 13 = .ok (.newarray .int, 2) := dd_Realm_new_0.2.2.2.2.2.2.2.2.1
theorem d_Realm_new_15 : decode prog_5_method_1_code 15 = .ok (.putfield 15, 3) := dd_Realm_new_0.2.2.2.2.2.2.2.2.2.1
theorem d_Realm_new_18 : decode prog_5_method_1_code 18 = .ok (.aload_n 0, 1) := dd_Realm_new_0.2.2.2.2.2.2.2.2.2.2.1
theorem d_Realm_new_19 : decode prog_5_method_1_code 19 = .ok (.iconst 5, 1) := dd_Realm_new_0.2.2.2.2.2.2.2.2.2.2.2.1
theorem d_Realm_new_20 : decode prog_5_method_1_code 20 = .ok (.newarray .int, 2) := dd_Realm_new_0.2.2.2.2.2.2.2.2.2.2.2.2.1
theorem d_Realm_new_22 : decode prog_5_method_1_code 22 = .ok (.putfield 18, 3) := dd_Realm_new_0.2.2.2.2.2.2.2.2.2.2.2.2.2.1
theorem d_Realm_new_25 : decode prog_5_method_1_code 25 = .ok (.aload_n 0, 1) := dd_Realm_new_0.2.2.2.2.2.2.2.2.2.2.2.2.2.2.1
theorem d_Realm_new_26 : decode prog_5_method_1_code 26 = .ok (.iconst 5, 1) := dd_Realm_new_0.2.2.2.2.2.2.2.2.2.2.2.2.2.2.2.1
theorem d_Realm_new_27 : decode prog_5_method_1_code 27 = .ok (.newarray .int, 2) := dd_Realm_new_0.2.2.2.2.2.2.2.2.2.2.2.2.2.2.2.2.1
theorem d_Realm_new_29 : decode prog_5_method_1_code 29 = .ok (.putfield 21, 3) := dd_Realm_new_0.2.2.2.2.2.2.2.2.2.2.2.2.2.2.2.2.2.1
theorem d_Realm_new_32 : decode prog_5_method_1_code 32 = .ok (.aload_n 0, 1) := dd_Realm_new_0.2.2.2.2.2.2.2.2.2.2.2.2.2.2.2.2.2.2.1
theorem d_Realm_new_33 : decode prog_5_method_1_code 33 = .ok (.iconst 5, 1) := dd_Realm_new_0.2.2.2.2.2.2.2.2.2.2.2.2.2.2.2.2.2.2.2.1
theorem d_Realm_new_34 : decode prog_5_method_1_code 34 = .ok (.newarray .int, 2) := dd_Realm_new_0.2.2.2.2.2.2.2.2.2.2.2.2.2.2.2.2.2.2.2.2.1
theorem d_Realm_new_36 : decode prog_5_method_1_code 36 = .ok (.putfield 24, 3) := dd_Realm_new_0.2.2.2.2.2.2.2.2.2.2.2.2.2.2.2.2.2.2.2.2.2.1
theorem d_Realm_new_39 : decode prog_5_method_1_code 39 = .ok (.aload_n 0, 1) := dd_Realm_new_0.2.2.2.2.2.2.2.2.2.2.2.2.2.2.2.2.2.2.2.2.2.2.1
theorem d_Realm_new_40 : decode prog_5_method_1_code 40 = .ok (.iconst 3, 1) := dd_Realm_new_0.2.2.2.2.2.2.2.2.2.2.2.2.2.2.2.2.2.2.2.2.2.2.2
set_option maxRecDepth 100000 in
theorem dd_Realm_new_41 : (decode prog_5_method_1_code 41 = .ok (.newarray .int, 2)) ∧ (decode prog_5_method_1_code 43 = .ok (.putfield 27, 3)) ∧ (decode prog_5_method_1_code 46 = .ok (.aload_n 0, 1)) ∧ (decode prog_5_method_1_code 47 = .ok (.iconst 3, 1)) ∧ (decode prog_5_method_1_code 48 = .ok (.newarray .int, 2)) ∧ (decode prog_5_method_1_code 50 = .ok (.putfield 30, 3)) ∧ (decode prog_5_method_1_code 53 = .ok (.aload_n 0, 1)) ∧ (decode prog_5_method_1_code 54 = .ok (.iconst 3, 1)) ∧ (decode prog_5_method_1_code 55 = .ok (.newarray .int, 2)) ∧ (decode prog_5_method_1_code 57 = .ok (.putfield 33, 3)) ∧ (decode prog_5_method_1_code 60 = .ok (.aload_n 0, 1)) ∧ (decode prog_5_method_1_code 61 = .ok (.iconst 3, 1)) ∧ (decode prog_5_method_1_code 62 = .ok (.newarray .int, 2)) ∧ (decode prog_5_method_1_code 64 = .ok (.putfield 36, 3)) ∧ (decode prog_5_method_1_code 67 = .ok (.aload_n 0, 1)) ∧ (decode prog_5_method_1_code 68 = .ok (.iconst 3, 1)) ∧ (decode prog_5_method_1_code 69 = .ok (.newarray .int, 2)) ∧ (decode prog_5_method_1_code 71 = .ok (.putfield 39, 3)) ∧ (decode prog_5_method_1_code 74 = .ok (.aload_n 0, 1)) ∧ (decode prog_5_method_1_code 75 = .ok (.iconst 3, 1)) ∧ (decode prog_5_method_1_code 76 = .ok (.newarray .int, 2)) ∧ (decode prog_5_method_1_code 78 = .ok (.putfield 42, 3)) ∧ (decode prog_5_method_1_code 81 = .ok (.aload_n 0, 1)) ∧ (decode prog_5_method_1_code 82 = .ok (.bipush 15, 2)) := by
  refine ⟨by decide +kernel, ?_⟩
  have h : List.drop 43 prog_5_method_1_code.data.toList = 0xb5 :: _ := rfl
  refine ⟨zq_k_u2 181 (fun z => .putfield z) 27 h rfl (zq_o_181 _) (by decide +kernel), ?_⟩
  replace h := zq_nx3 (q := 46) h rfl
  refine ⟨zq_k_n 42 h rfl (zq_o_42 _), ?_⟩
  replace h := zq_nx1 (q := 47) h rfl
  refine ⟨zq_k_n 6 h rfl (zq_o_6 _), ?_⟩
  replace h := zq_nx1 (q := 48) h rfl
  refine ⟨by decide +kernel, ?_⟩
  have h : List.drop 50 prog_5_method_1_code.data.toList = 0xb5 :: _ := rfl
  refine ⟨zq_k_u2 181 (fun z => .putfield z) 30 h rfl (zq_o_181 _) (by decide +kernel), ?_⟩
  replace h := zq_nx3 (q := 53) h rfl
  refine ⟨zq_k_n 42 h rfl (zq_o_42 _), ?_⟩
  replace h := zq_nx1 (q := 54) h rfl
  refine ⟨zq_k_n 6 h rfl (zq_o_6 _), ?_⟩
  replace h := zq_nx1 (q := 55) h rfl
  refine ⟨by decide +kernel, ?_⟩
  have h : List.drop 57 prog_5_method_1_code.data.toList = 0xb5 :: _ := rfl
  refine ⟨zq_k_u2 181 (fun z => .putfield z) 33 h rfl (zq_o_181 _) (by decide +kernel), ?_⟩
  replace h := zq_nx3 (q := 60) h rfl
  refine ⟨zq_k_n 42 h rfl (zq_o_42 _), ?_⟩
  replace h := zq_nx1 (q := 61) h rfl
  refine ⟨zq_k_n 6 h rfl (zq_o_6 _), ?_⟩
  replace h := zq_nx1 (q := 62) h rfl
  refine ⟨by decide +kernel, ?_⟩
  have h : List.drop 64 prog_5_method_1_code.data.toList = 0xb5 :: _ := rfl
  refine ⟨zq_k_u2 181 (fun z => .putfield z) 36 h rfl (zq_o_181 _) (by decide +kernel), ?_⟩
  replace h := zq_nx3 (q := 67) h rfl
  refine ⟨zq_k_n 42 h rfl (zq_o_42 _), ?_⟩
  replace h := zq_nx1 (q := 68) h rfl
  refine ⟨zq_k_n 6 h rfl (zq_o_6 _), ?_⟩
  replace h := zq_nx1 (q := 69) h rfl
  refine ⟨by decide +kernel, ?_⟩
  have h : List.drop 71 prog_5_method_1_code.data.toList = 0xb5 :: _ := rfl
  refine ⟨zq_k_u2 181 (fun z => .putfield z) 39 h rfl (zq_o_181 _) (by decide +kernel), ?_⟩
  replace h := zq_nx3 (q := 74) h rfl
  refine ⟨zq_k_n 42 h rfl (zq_o_42 _), ?_⟩
  replace h := zq_nx1 (q := 75) h rfl
  refine ⟨zq_k_n 6 h rfl (zq_o_6 _), ?_⟩
  replace h := zq_nx1 (q := 76) h rfl
  refine ⟨by decide +kernel, ?_⟩
  have h : List.drop 78 prog_5_method_1_code.data.toList = 0xb5 :: _ := rfl
  refine ⟨zq_k_u2 181 (fun z => .putfield z) 42 h rfl (zq_o_181 _) (by decide +kernel), ?_⟩
  replace h := zq_nx3 (q := 81) h rfl
  refine ⟨zq_k_n 42 h rfl (zq_o_42 _), ?_⟩
  replace h := zq_nx1 (q := 82) h rfl
  exact zq_k_s1 16 (fun z => .bipush z) 15 h rfl (zq_o_16 _) (by decide +kernel)
theorem d_Realm_new_41 : decode prog_5_method_1_code 41 = .ok (.newarray .int, 2) := dd_Realm_new_41.1
theorem d_Realm_new_43 : decode prog_5_method_1_code 43 = .ok (.putfield 27, 3) := dd_Realm_new_41.2.1
theorem d_Realm_new_46 : decode prog_5_method_1_code 46 = .ok (.aload_n 0, 1) := dd_Realm_new_41.2.2.1
theorem d_Realm_new_47 : decode prog_5_method_1_code 47 = .ok (.iconst 3, 1) := dd_Realm_new_41.2.2.2.1
theorem d_Realm_new_48 : decode prog_5_method_1_code 48 = .ok (.newarray .int, 2) := dd_Realm_new_41.2.2.2.2.1
theorem d_Realm_new_50 : decode prog_5_method_1_code 50 = .ok (.putfield 30, 3) := dd_Realm_new_41.2.2.2.2.2.1
theorem d_Realm_new_53 : decode prog_5_method_1_code 53 = .ok (.aload_n 0, 1) := dd_Realm_new_41.2.2.2.2.2.2.1
theorem d_Realm_new_54 : decode prog_5_method_1_code 54 = .ok (.iconst 3, 1) := dd_Realm_new_41.2.2.2.2.2.2.2.1
theorem d_Realm_new_55 : decode prog_5_method_1_code 55 = .ok (.newarray .int, 2) := dd_Realm_new_41.2.2.2.2.2.2.2.2.1
theorem d_Realm_new_57 : decode prog_5_method_1_code 57 = .ok (.putfield 33, 3) := dd_Realm_new_41.2.2.2.2.2.2.2.2.2.1
theorem d_Realm_new_60 : decode prog_5_method_1_code 60 = .ok (.aload_n 0, 1) := dd_Realm_new_41.2.2.2.2.2.2.2.2.2.2.1
theorem d_Realm_new_61 : decode prog_5_method_1_code 61 = .ok (.iconst 3, 1) := dd_Realm_new_41.2.2.2.2.2.2.2.2.2.2.2.1
theorem d_Realm_new_62 : decode prog_5_method_1_code 62 = .ok (.newarray .int, 2) := dd_Realm_new_41.2.2.2.2.2.2.2.2.2.2.2.2.1
theorem d_Realm_new_64 : decode prog_5_method_1_code 64 = .ok (.putfield 36, 3) := dd_Realm_new_41.2.2.2.2.2.2.2.2.2.2.2.2.2.1
theorem d_Realm_new_67 : decode prog_5_method_1_code 67 = .ok (.aload_n 0, 1) := dd_Realm_new_41.2.2.2.2.2.2.2.2.2.2.2.2.2.2.1
theorem d_Realm_new_68 : decode prog_5_method_1_code 68 = .ok (.iconst 3, 1) := dd_Realm_new_41.2.2.2.2.2.2.2.2.2.2.2.2.2.2.2.1
theorem d_Realm_new_69 : decode prog_5_method_1_code 69 = .ok (.newarray .int, 2) := dd_Realm_new_41.2.2.2.2.2.2.2.2.2.2.2.2.2.2.2.2.1
theorem d_Realm_new_71 : decode prog_5_method_1_code 71 = .ok (.putfield 39, 3) := dd_Realm_new_41.2.2.2.2.2.2.2.2.2.2.2.2.2.2.2.2.2.1
theorem d_Realm_new_74 : decode prog_5_method_1_code 74 = .ok (.aload_n 0, 1) := dd_Realm_new_41.2.2.2.2.2.2.2.2.2.2.2.2.2.2.2.2.2.2.1
theorem d_Realm_new_75 : decode prog_5_method_1_code 75 = .ok (.iconst 3, 1) := dd_Realm_new_41.2.2.2.2.2.2.2.2.2.2.2.2.2.2.2.2.2.2.2.1
theorem d_Realm_new_76 : decode prog_5_method_1_code 76 = .ok (.newarray .int, 2) := dd_Realm_new_41.2.2.2.2.2.2.2.2.2.2.2.2.2.2.2.2.2.2.2.2.1
theorem d_Realm_new_78 : decode prog_5_method_1_code 78 = .ok (.putfield 42, 3) := dd_Realm_new_41.2.2.2.2.2.2.2.2.2.2.2.2.2.2.2.2.2.2.2.2.2.1
theorem d_Realm_new_81 : decode prog_5_method_1_code 81 = .ok (.aload_n 0, 1) := dd_Realm_new_41.2.2.2.2.2.2.2.2.2.2.2.2.2.2.2.2.2.2.2.2.2.2.1
theorem d_Realm_new_82 : decode prog_5_method_1_code 82 = .ok (.bipush 15, 2) := dd_Realm_new_41.2.2.2.2.2.2.2.2.2.2.2.2.2.2.2.2.2.2.2.2.2.2.2
set_option maxRecDepth 100000 in
theorem dd_Realm_new_84 : (decode prog_5_method_1_code 84 = .ok (.newarray .int, 2)) ∧ (decode prog_5_method_1_code 86 = .ok (.putfield 45, 3)) ∧ (decode prog_5_method_1_code 89 = .ok (.aload_n 0, 1)) ∧ (decode prog_5_method_1_code 90 = .ok (.new 48, 3)) ∧ (decode prog_5_method_1_code 93 = .ok (.dup, 1)) ∧ (decode prog_5_method_1_code 94 = .ok (.invokespecial 50, 3)) ∧ (decode prog_5_method_1_code 97 = .ok (.putfield 51, 3)) ∧ (decode prog_5_method_1_code 100 = .ok (.return_, 1)) := by
  refine ⟨by decide +kernel, ?_⟩
  have h : List.drop 86 prog_5_method_1_code.data.toList = 0xb5 :: _ := rfl
  refine ⟨zq_k_u2 181 (fun z => .putfield z) 45 h rfl (zq_o_181 _) (by decide +kernel), ?_⟩
  replace h := zq_nx3 (q := 89) h rfl
  refine ⟨zq_k_n 42 h rfl (zq_o_42 _), ?_⟩
  replace h := zq_nx1 (q := 90) h rfl
  refine ⟨zq_k_u2 187 (fun z => .new z) 48 h rfl (zq_o_187 _) (by decide +kernel), ?_⟩
  replace h := zq_nx3 (q := 93) h rfl
  refine ⟨zq_k_n 89 h rfl (zq_o_89 _), ?_⟩
  replace h := zq_nx1 (q := 94) h rfl
  refine ⟨zq_k_u2 183 (fun z => .invokespecial z) 50 h rfl (zq_o_183 _) (by decide +kernel), ?_⟩
  replace h := zq_nx3 (q := 97) h rfl
  refine ⟨zq_k_u2 181 (fun z => .putfield z) 51 h rfl (zq_o_181 _) (by decide +kernel), ?_⟩
  replace h := zq_nx3 (q := 100) h rfl
  exact zq_k_n 177 h rfl (zq_o_177 _)
theorem d_Realm_new_84 : decode prog_5_method_1_code 84 = .ok (.newarray .int, 2) := dd_Realm_new_84.1
theorem d_Realm_new_86 : decode prog_5_method_1_code 86 = .ok (.putfield 45, 3) := dd_Realm_new_84.2.1
theorem d_Realm_new_89 : decode prog_5_method_1_code 89 = .ok (.aload_n 0, 1) := dd_Realm_new_84.2.2.1
theorem d_Realm_new_90 : decode prog_5_method_1_code 90 = .ok (.new 48, 3) := dd_Realm_new_84.2.2.2.1
theorem d_Realm_new_93 : decode prog_5_method_1_code 93 = .ok (.dup, 1) := dd_Realm_new_84.2.2.2.2.1
theorem d_Realm_new_94 : decode prog_5_method_1_code 94 = .ok (.invokespecial 50, 3) := dd_Realm_new_84.2.2.2.2.2.1
theorem d_Realm_new_97 : decode prog_5_method_1_code 97 = .ok (.putfield 51, 3) := dd_Realm_new_84.2.2.2.2.2.2.1
theorem d_Realm_new_100 : decode prog_5_method_1_code 100 = .ok (.return_, 1) := dd_Realm_new_84.2.2.2.2.2.2.2
def f_Realm_new_0  (a0 : Nat) (h : mH) : Option mH :=
  grd (¬ a0 = h.1) <|
  bd1 (mkn h 5 (.inl (0, (5, .inl (fun _ => 0))))) fun h2 =>
  grd (h.1 < h2.1) <|
  bd1 (pV h2 a0 4 6 (.ref h.1)) fun h6 =>
  grd (¬ a0 = h6.1) <|
  bd1 (mkn h6 5 (.inl (0, (5, .inl (fun _ => 0))))) fun h10 =>
  grd (h6.1 < h10.1) <|
  bd1 (pV h10 a0 4 7 (.ref h6.1)) fun h14 =>
  grd (¬ a0 = h14.1) <|
  bd1 (mkn h14 5 (.inl (0, (5, .inl (fun _ => 0))))) fun h18 =>
  grd (h14.1 < h18.1) <|
  bd1 (pV h18 a0 4 8 (.ref h14.1)) fun h22 =>
  grd (¬ a0 = h22.1) <|
  bd1 (mkn h22 5 (.inl (0, (5, .inl (fun _ => 0))))) fun h26 =>
  grd (h22.1 < h26.1) <|
  bd1 (pV h26 a0 4 9 (.ref h22.1)) fun h30 =>
  grd (¬ a0 = h30.1) <|
  bd1 (mkn h30 5 (.inl (0, (5, .inl (fun _ => 0))))) fun h34 =>
  grd (h30.1 < h34.1) <|
  bd1 (pV h34 a0 4 10 (.ref h30.1)) fun h38 =>
  grd (¬ a0 = h38.1) <|
  bd1 (mkn h38 3 (.inl (0, (3, .inl (fun _ => 0))))) fun h42 =>
  grd (h38.1 < h42.1) <|
  bd1 (pV h42 a0 4 11 (.ref h38.1)) fun h46 =>
  grd (¬ a0 = h46.1) <|
  bd1 (mkn h46 3 (.inl (0, (3, .inl (fun _ => 0))))) fun h50 =>
  grd (h46.1 < h50.1) <|
  bd1 (pV h50 a0 4 12 (.ref h46.1)) fun h54 =>
  grd (¬ a0 = h54.1) <|
  bd1 (mkn h54 3 (.inl (0, (3, .inl (fun _ => 0))))) fun h58 =>
  grd (h54.1 < h58.1) <|
  bd1 (pV h58 a0 4 13 (.ref h54.1)) fun h62 =>
  grd (¬ a0 = h62.1) <|
  bd1 (mkn h62 3 (.inl (0, (3, .inl (fun _ => 0))))) fun h66 =>
  grd (h62.1 < h66.1) <|
  bd1 (pV h66 a0 4 14 (.ref h62.1)) fun h70 =>
  grd (¬ a0 = h70.1) <|
  bd1 (mkn h70 3 (.inl (0, (3, .inl (fun _ => 0))))) fun h74 =>
  grd (h70.1 < h74.1) <|
  bd1 (pV h74 a0 4 15 (.ref h70.1)) fun h78 =>
  grd (¬ a0 = h78.1) <|
  bd1 (mkn h78 3 (.inl (0, (3, .inl (fun _ => 0))))) fun h82 =>
  grd (h78.1 < h82.1) <|
  bd1 (pV h82 a0 4 16 (.ref h78.1)) fun h86 =>
  grd (¬ a0 = h86.1) <|
  bd1 (mkn h86 15 (.inl (0, (15, .inl (fun _ => 0))))) fun h90 =>
  grd (h86.1 < h90.1) <|
  bd1 (pV h90 a0 4 17 (.ref h86.1)) fun h94 =>
  grd (¬ a0 = h94.1) <|
  bd1 (mkn h94 4 (.inr (6, [.int 0, .null, .null, .null]))) fun h98 =>
  grd (a0 < h98.1 ∧ h94.1 < h98.1) <|
  bd1 (f_Sightings_new h94.1 h98) fun h104 =>
  grd (h94.1 < h104.1) <|
  bd1 (pV h104 a0 4 18 (.ref h94.1)) fun h106 =>
  some h106
set_option maxRecDepth 20000 in
theorem t_Realm_new_0 {sc : Nat × (Nat → Int32)}  (a0 : Nat) (h : mH) (h' : mH) (hf : f_Realm_new_0  a0 h = some h') : G sc y_Realm_new prog_5_method_1_code 1 none 2 40 0 [(0, .ref a0)] [] h none h' := by
  unfold f_Realm_new_0 at hf
  refine g_aload_n (pc := 0) 0 d_Realm_new_0 rfl rfl ?_
  refine g_objInit (pc := 1) d_Realm_new_1 wd_70 wd_24 wd_25 (by decide) (Nat.le_of_ble_eq_true rfl) ?_
  refine g_aload_n (pc := 4) 0 d_Realm_new_4 rfl rfl ?_
  refine g_iconst (pc := 5) (5 : Int32) d_Realm_new_5 (by decide) ?_
  obtain ⟨g1, hf⟩ := grd_e hf
  obtain ⟨h2, e3, hf⟩ := bd1_e hf
  obtain ⟨g4, e5⟩ := mkn_e e3
  refine g_newa (pc := 6) rfl 0 5 .int (5, .inl (fun _ => 0)) wd_92 rfl (fun _ => rfl) (fun _ _ _ a b => Option.some.inj (a.symm.trans b)) (fun _ => rfl) (fun _ => rfl) (fun _ z => absurd z id) (by decide) (by decide) (by decide) d_Realm_new_6 g4 (okl_cons (okv_r (by omega)) (okl_nil)) (oks_cons (okv_r (by omega)) (oks_nil)) ?_
  rw [← e5]
  have h2_n : h2.1 = h.1 + 1 := by rw [e5]; rfl
  obtain ⟨g8, hf⟩ := grd_e hf
  obtain ⟨h6, e7, hf⟩ := bd1_e hf
  refine g_putF (pc := 8) (ci := 4) (kk := 6) ty_Realm tyok_Realm nm_Realm d_Realm_new_8 rfl in_Realm (by decide) wd_113 rfl rfl rfl (fun _ => rfl) (fun _ => rfl) (fun _ z => by cases z; omega) e7 ?_
  refine g_aload_n (pc := 11) 0 d_Realm_new_11 rfl rfl ?_
  refine g_iconst (pc := 12) (5 : Int32) d_Realm_new_12 (by decide) ?_
  obtain ⟨g9, hf⟩ := grd_e hf
  obtain ⟨h10, e11, hf⟩ := bd1_e hf
  obtain ⟨g12, e13⟩ := mkn_e e11
  refine g_newa (pc := 13) rfl 0 5 .int (5, .inl (fun _ => 0)) wd_92 rfl (fun _ => rfl) (fun _ _ _ a b => Option.some.inj (a.symm.trans b)) (fun _ => rfl) (fun _ => rfl) (fun _ z => absurd z id) (by decide) (by decide) (by decide) d_Realm_new_13 g12 (okl_cons (okv_r (by omega)) (okl_nil)) (oks_cons (okv_r (by omega)) (oks_nil)) ?_
  rw [← e13]
  have h10_n : h10.1 = h6.1 + 1 := by rw [e13]; rfl
  obtain ⟨g16, hf⟩ := grd_e hf
  obtain ⟨h14, e15, hf⟩ := bd1_e hf
  refine g_putF (pc := 15) (ci := 4) (kk := 7) ty_Realm tyok_Realm nm_Realm d_Realm_new_15 rfl in_Realm (by decide) wd_116 rfl rfl rfl (fun _ => rfl) (fun _ => rfl) (fun _ z => by cases z; omega) e15 ?_
  refine g_aload_n (pc := 18) 0 d_Realm_new_18 rfl rfl ?_
  refine g_iconst (pc := 19) (5 : Int32) d_Realm_new_19 (by decide) ?_
  obtain ⟨g17, hf⟩ := grd_e hf
  obtain ⟨h18, e19, hf⟩ := bd1_e hf
  obtain ⟨g20, e21⟩ := mkn_e e19
  refine g_newa (pc := 20) rfl 0 5 .int (5, .inl (fun _ => 0)) wd_92 rfl (fun _ => rfl) (fun _ _ _ a b => Option.some.inj (a.symm.trans b)) (fun _ => rfl) (fun _ => rfl) (fun _ z => absurd z id) (by decide) (by decide) (by decide) d_Realm_new_20 g20 (okl_cons (okv_r (by omega)) (okl_nil)) (oks_cons (okv_r (by omega)) (oks_nil)) ?_
  rw [← e21]
  have h18_n : h18.1 = h14.1 + 1 := by rw [e21]; rfl
  obtain ⟨g24, hf⟩ := grd_e hf
  obtain ⟨h22, e23, hf⟩ := bd1_e hf
  refine g_putF (pc := 22) (ci := 4) (kk := 8) ty_Realm tyok_Realm nm_Realm d_Realm_new_22 rfl in_Realm (by decide) wd_120 rfl rfl rfl (fun _ => rfl) (fun _ => rfl) (fun _ z => by cases z; omega) e23 ?_
  refine g_aload_n (pc := 25) 0 d_Realm_new_25 rfl rfl ?_
  refine g_iconst (pc := 26) (5 : Int32) d_Realm_new_26 (by decide) ?_
  obtain ⟨g25, hf⟩ := grd_e hf
  obtain ⟨h26, e27, hf⟩ := bd1_e hf
  obtain ⟨g28, e29⟩ := mkn_e e27
  refine g_newa (pc := 27) rfl 0 5 .int (5, .inl (fun _ => 0)) wd_92 rfl (fun _ => rfl) (fun _ _ _ a b => Option.some.inj (a.symm.trans b)) (fun _ => rfl) (fun _ => rfl) (fun _ z => absurd z id) (by decide) (by decide) (by decide) d_Realm_new_27 g28 (okl_cons (okv_r (by omega)) (okl_nil)) (oks_cons (okv_r (by omega)) (oks_nil)) ?_
  rw [← e29]
  have h26_n : h26.1 = h22.1 + 1 := by rw [e29]; rfl
  obtain ⟨g32, hf⟩ := grd_e hf
  obtain ⟨h30, e31, hf⟩ := bd1_e hf
  refine g_putF (pc := 29) (ci := 4) (kk := 9) ty_Realm tyok_Realm nm_Realm d_Realm_new_29 rfl in_Realm (by decide) wd_124 rfl rfl rfl (fun _ => rfl) (fun _ => rfl) (fun _ z => by cases z; omega) e31 ?_
  refine g_aload_n (pc := 32) 0 d_Realm_new_32 rfl rfl ?_
  refine g_iconst (pc := 33) (5 : Int32) d_Realm_new_33 (by decide) ?_
  obtain ⟨g33, hf⟩ := grd_e hf
  obtain ⟨h34, e35, hf⟩ := bd1_e hf
  obtain ⟨g36, e37⟩ := mkn_e e35
  refine g_newa (pc := 34) rfl 0 5 .int (5, .inl (fun _ => 0)) wd_92 rfl (fun _ => rfl) (fun _ _ _ a b => Option.some.inj (a.symm.trans b)) (fun _ => rfl) (fun _ => rfl) (fun _ z => absurd z id) (by decide) (by decide) (by decide) d_Realm_new_34 g36 (okl_cons (okv_r (by omega)) (okl_nil)) (oks_cons (okv_r (by omega)) (oks_nil)) ?_
  rw [← e37]
  have h34_n : h34.1 = h30.1 + 1 := by rw [e37]; rfl
  obtain ⟨g40, hf⟩ := grd_e hf
  obtain ⟨h38, e39, hf⟩ := bd1_e hf
  refine g_putF (pc := 36) (ci := 4) (kk := 10) ty_Realm tyok_Realm nm_Realm d_Realm_new_36 rfl in_Realm (by decide) wd_127 rfl rfl rfl (fun _ => rfl) (fun _ => rfl) (fun _ z => by cases z; omega) e39 ?_
  refine g_aload_n (pc := 39) 0 d_Realm_new_39 rfl rfl ?_
  refine g_iconst (pc := 40) (3 : Int32) d_Realm_new_40 (by decide) ?_
  obtain ⟨g41, hf⟩ := grd_e hf
  obtain ⟨h42, e43, hf⟩ := bd1_e hf
  obtain ⟨g44, e45⟩ := mkn_e e43
  refine g_newa (pc := 41) rfl 0 3 .int (3, .inl (fun _ => 0)) wd_92 rfl (fun _ => rfl) (fun _ _ _ a b => Option.some.inj (a.symm.trans b)) (fun _ => rfl) (fun _ => rfl) (fun _ z => absurd z id) (by decide) (by decide) (by decide) d_Realm_new_41 g44 (okl_cons (okv_r (by omega)) (okl_nil)) (oks_cons (okv_r (by omega)) (oks_nil)) ?_
  rw [← e45]
  have h42_n : h42.1 = h38.1 + 1 := by rw [e45]; rfl
  obtain ⟨g48, hf⟩ := grd_e hf
  obtain ⟨h46, e47, hf⟩ := bd1_e hf
  refine g_putF (pc := 43) (ci := 4) (kk := 11) ty_Realm tyok_Realm nm_Realm d_Realm_new_43 rfl in_Realm (by decide) wd_130 rfl rfl rfl (fun _ => rfl) (fun _ => rfl) (fun _ z => by cases z; omega) e47 ?_
  refine g_aload_n (pc := 46) 0 d_Realm_new_46 rfl rfl ?_
  refine g_iconst (pc := 47) (3 : Int32) d_Realm_new_47 (by decide) ?_
  obtain ⟨g49, hf⟩ := grd_e hf
  obtain ⟨h50, e51, hf⟩ := bd1_e hf
  obtain ⟨g52, e53⟩ := mkn_e e51
  refine g_newa (pc := 48) rfl 0 3 .int (3, .inl (fun _ => 0)) wd_92 rfl (fun _ => rfl) (fun _ _ _ a b => Option.some.inj (a.symm.trans b)) (fun _ => rfl) (fun _ => rfl) (fun _ z => absurd z id) (by decide) (by decide) (by decide) d_Realm_new_48 g52 (okl_cons (okv_r (by omega)) (okl_nil)) (oks_cons (okv_r (by omega)) (oks_nil)) ?_
  rw [← e53]
  have h50_n : h50.1 = h46.1 + 1 := by rw [e53]; rfl
  obtain ⟨g56, hf⟩ := grd_e hf
  obtain ⟨h54, e55, hf⟩ := bd1_e hf
  refine g_putF (pc := 50) (ci := 4) (kk := 12) ty_Realm tyok_Realm nm_Realm d_Realm_new_50 rfl in_Realm (by decide) wd_134 rfl rfl rfl (fun _ => rfl) (fun _ => rfl) (fun _ z => by cases z; omega) e55 ?_
  refine g_aload_n (pc := 53) 0 d_Realm_new_53 rfl rfl ?_
  refine g_iconst (pc := 54) (3 : Int32) d_Realm_new_54 (by decide) ?_
  obtain ⟨g57, hf⟩ := grd_e hf
  obtain ⟨h58, e59, hf⟩ := bd1_e hf
  obtain ⟨g60, e61⟩ := mkn_e e59
  refine g_newa (pc := 55) rfl 0 3 .int (3, .inl (fun _ => 0)) wd_92 rfl (fun _ => rfl) (fun _ _ _ a b => Option.some.inj (a.symm.trans b)) (fun _ => rfl) (fun _ => rfl) (fun _ z => absurd z id) (by decide) (by decide) (by decide) d_Realm_new_55 g60 (okl_cons (okv_r (by omega)) (okl_nil)) (oks_cons (okv_r (by omega)) (oks_nil)) ?_
  rw [← e61]
  have h58_n : h58.1 = h54.1 + 1 := by rw [e61]; rfl
  obtain ⟨g64, hf⟩ := grd_e hf
  obtain ⟨h62, e63, hf⟩ := bd1_e hf
  refine g_putF (pc := 57) (ci := 4) (kk := 13) ty_Realm tyok_Realm nm_Realm d_Realm_new_57 rfl in_Realm (by decide) wd_138 rfl rfl rfl (fun _ => rfl) (fun _ => rfl) (fun _ z => by cases z; omega) e63 ?_
  refine g_aload_n (pc := 60) 0 d_Realm_new_60 rfl rfl ?_
  refine g_iconst (pc := 61) (3 : Int32) d_Realm_new_61 (by decide) ?_
  obtain ⟨g65, hf⟩ := grd_e hf
  obtain ⟨h66, e67, hf⟩ := bd1_e hf
  obtain ⟨g68, e69⟩ := mkn_e e67
  refine g_newa (pc := 62) rfl 0 3 .int (3, .inl (fun _ => 0)) wd_92 rfl (fun _ => rfl) (fun _ _ _ a b => Option.some.inj (a.symm.trans b)) (fun _ => rfl) (fun _ => rfl) (fun _ z => absurd z id) (by decide) (by decide) (by decide) d_Realm_new_62 g68 (okl_cons (okv_r (by omega)) (okl_nil)) (oks_cons (okv_r (by omega)) (oks_nil)) ?_
  rw [← e69]
  have h66_n : h66.1 = h62.1 + 1 := by rw [e69]; rfl
  obtain ⟨g72, hf⟩ := grd_e hf
  obtain ⟨h70, e71, hf⟩ := bd1_e hf
  refine g_putF (pc := 64) (ci := 4) (kk := 14) ty_Realm tyok_Realm nm_Realm d_Realm_new_64 rfl in_Realm (by decide) wd_142 rfl rfl rfl (fun _ => rfl) (fun _ => rfl) (fun _ z => by cases z; omega) e71 ?_
  refine g_aload_n (pc := 67) 0 d_Realm_new_67 rfl rfl ?_
  refine g_iconst (pc := 68) (3 : Int32) d_Realm_new_68 (by decide) ?_
  obtain ⟨g73, hf⟩ := grd_e hf
  obtain ⟨h74, e75, hf⟩ := bd1_e hf
  obtain ⟨g76, e77⟩ := mkn_e e75
  refine g_newa (pc := 69) rfl 0 3 .int (3, .inl (fun _ => 0)) wd_92 rfl (fun _ => rfl) (fun _ _ _ a b => Option.some.inj (a.symm.trans b)) (fun _ => rfl) (fun _ => rfl) (fun _ z => absurd z id) (by decide) (by decide) (by decide) d_Realm_new_69 g76 (okl_cons (okv_r (by omega)) (okl_nil)) (oks_cons (okv_r (by omega)) (oks_nil)) ?_
  rw [← e77]
  have h74_n : h74.1 = h70.1 + 1 := by rw [e77]; rfl
  obtain ⟨g80, hf⟩ := grd_e hf
  obtain ⟨h78, e79, hf⟩ := bd1_e hf
  refine g_putF (pc := 71) (ci := 4) (kk := 15) ty_Realm tyok_Realm nm_Realm d_Realm_new_71 rfl in_Realm (by decide) wd_145 rfl rfl rfl (fun _ => rfl) (fun _ => rfl) (fun _ z => by cases z; omega) e79 ?_
  refine g_aload_n (pc := 74) 0 d_Realm_new_74 rfl rfl ?_
  refine g_iconst (pc := 75) (3 : Int32) d_Realm_new_75 (by decide) ?_
  obtain ⟨g81, hf⟩ := grd_e hf
  obtain ⟨h82, e83, hf⟩ := bd1_e hf
  obtain ⟨g84, e85⟩ := mkn_e e83
  refine g_newa (pc := 76) rfl 0 3 .int (3, .inl (fun _ => 0)) wd_92 rfl (fun _ => rfl) (fun _ _ _ a b => Option.some.inj (a.symm.trans b)) (fun _ => rfl) (fun _ => rfl) (fun _ z => absurd z id) (by decide) (by decide) (by decide) d_Realm_new_76 g84 (okl_cons (okv_r (by omega)) (okl_nil)) (oks_cons (okv_r (by omega)) (oks_nil)) ?_
  rw [← e85]
  have h82_n : h82.1 = h78.1 + 1 := by rw [e85]; rfl
  obtain ⟨g88, hf⟩ := grd_e hf
  obtain ⟨h86, e87, hf⟩ := bd1_e hf
  refine g_putF (pc := 78) (ci := 4) (kk := 16) ty_Realm tyok_Realm nm_Realm d_Realm_new_78 rfl in_Realm (by decide) wd_149 rfl rfl rfl (fun _ => rfl) (fun _ => rfl) (fun _ z => by cases z; omega) e87 ?_
  refine g_aload_n (pc := 81) 0 d_Realm_new_81 rfl rfl ?_
  refine g_bipush (pc := 82) (15 : Int32) d_Realm_new_82 (by decide) ?_
  obtain ⟨g89, hf⟩ := grd_e hf
  obtain ⟨h90, e91, hf⟩ := bd1_e hf
  obtain ⟨g92, e93⟩ := mkn_e e91
  refine g_newa (pc := 84) rfl 0 15 .int (15, .inl (fun _ => 0)) wd_92 rfl (fun _ => rfl) (fun _ _ _ a b => Option.some.inj (a.symm.trans b)) (fun _ => rfl) (fun _ => rfl) (fun _ z => absurd z id) (by decide) (by decide) (by decide) d_Realm_new_84 g92 (okl_cons (okv_r (by omega)) (okl_nil)) (oks_cons (okv_r (by omega)) (oks_nil)) ?_
  rw [← e93]
  have h90_n : h90.1 = h86.1 + 1 := by rw [e93]; rfl
  obtain ⟨g96, hf⟩ := grd_e hf
  obtain ⟨h94, e95, hf⟩ := bd1_e hf
  refine g_putF (pc := 86) (ci := 4) (kk := 17) ty_Realm tyok_Realm nm_Realm d_Realm_new_86 rfl in_Realm (by decide) wd_152 rfl rfl rfl (fun _ => rfl) (fun _ => rfl) (fun _ z => by cases z; omega) e95 ?_
  refine g_aload_n (pc := 89) 0 d_Realm_new_89 rfl rfl ?_
  obtain ⟨g97, hf⟩ := grd_e hf
  obtain ⟨h98, e99, hf⟩ := bd1_e hf
  obtain ⟨g100, e101⟩ := mkn_e e99
  refine g_new (pc := 90) (ci := 6) rfl [.int 0, .null, .null, .null] ty_Sightings tyok_Sightings d_Realm_new_90 rfl in_Sightings wd_71 wd_72 wd_4 (by decide) (by simp) g100 (okl_cons (okv_r (by omega)) (okl_nil)) (oks_cons (okv_r (by omega)) (oks_nil)) ?_
  rw [← e101]
  have h98_n : h98.1 = h94.1 + 1 := by rw [e101]; rfl
  refine g_dup (pc := 93) d_Realm_new_93 rfl ?_
  obtain ⟨⟨g102, g103⟩, hf⟩ := grd_e hf
  obtain ⟨h104, e105, hf⟩ := bd1_e hf
  refine g_callIN (pc := 94) "QuotaLaws" [] (site_of si_Sightings_new (by decide) (by decide)) rfl wd_73 wd_74 d_Realm_new_94 (Nat.le_of_ble_eq_true rfl) (fun _ => rfl) (fun _ => (okl_cons (okv_r (by omega)) (okl_nil))) (fun _ => (oks_cons (okv_r (by omega)) (oks_cons (okv_r (by omega)) (oks_nil)))) (c_Sightings_new e105) rfl ?_
  refine g_st [.ref h94.1, .ref a0] rfl ?_
  obtain ⟨g108, hf⟩ := grd_e hf
  obtain ⟨h106, e107, hf⟩ := bd1_e hf
  refine g_putF (pc := 97) (ci := 4) (kk := 18) ty_Realm tyok_Realm nm_Realm d_Realm_new_97 rfl in_Realm (by decide) wd_153 rfl rfl rfl (fun _ => rfl) (fun _ => rfl) (fun _ z => by cases z; omega) e107 ?_
  obtain rfl := ret1 hf
  exact g_vret (pc := 100) rfl d_Realm_new_100
def f_Realm_new (a0 : Nat) (h : mH) : Option mH := f_Realm_new_0 a0 h
theorem c_Realm_new {sc : Nat × (Nat → Int32)} {a0 : Nat} {h : mH} {h' : mH} (hf : f_Realm_new a0 h = some h') : MM sc y_Realm_new prog_5_method_1_code 1 none 2 40 [.ref a0] h none h' :=
  mm_of_G (by decide) (Nat.le_of_ble_eq_true rfl) (t_Realm_new_0 _ _ _ hf)
/-! Planner init ()V -/
set_option maxRecDepth 100000 in
theorem dd_Planner_new_0 : (decode prog_3_method_1_code 0 = .ok (.aload_n 0, 1)) ∧ (decode prog_3_method_1_code 1 = .ok (.invokespecial 3, 3)) ∧ (decode prog_3_method_1_code 4 = .ok (.aload_n 0, 1)) ∧ (decode prog_3_method_1_code 5 = .ok (.iconst 3, 1)) ∧ (decode prog_3_method_1_code 6 = .ok (.newarray .int, 2)) ∧ (decode prog_3_method_1_code 8 = .ok (.putfield 9, 3)) ∧ (decode prog_3_method_1_code 11 = .ok (.aload_n 0, 1)) ∧ (decode prog_3_method_1_code 12 = .ok (.iconst 5, 1)) ∧ (decode prog_3_method_1_code 13 = .ok (.newarray .int, 2)) ∧ (decode prog_3_method_1_code 15 = .ok (.putfield 15, 3)) ∧ (decode prog_3_method_1_code 18 = .ok (.aload_n 0, 1)) ∧ (decode prog_3_method_1_code 19 = .ok (.bipush 6, 2)) ∧ (decode prog_3_method_1_code 21 = .ok (.newarray .int, 2)) ∧ (decode prog_3_method_1_code 23 = .ok (.putfield 18, 3)) ∧ (decode prog_3_method_1_code 26 = .ok (.aload_n 0, 1)) ∧ (decode prog_3_method_1_code 27 = .ok (.bipush 15, 2)) ∧ (decode prog_3_method_1_code 29 = .ok (.newarray .int, 2)) ∧ (decode prog_3_method_1_code 31 = .ok (.putfield 21, 3)) ∧ (decode prog_3_method_1_code 34 = .ok (.aload_n 0, 1)) ∧ (decode prog_3_method_1_code 35 = .ok (.bipush 15, 2)) ∧ (decode prog_3_method_1_code 37 = .ok (.newarray .int, 2)) ∧ (decode prog_3_method_1_code 39 = .ok (.putfield 24, 3)) ∧ (decode prog_3_method_1_code 42 = .ok (.aload_n 0, 1)) ∧ (decode prog_3_method_1_code 43 = .ok (.bipush 15, 2)) := by
  have h : List.drop 0 prog_3_method_1_code.data.toList = 0x2a :: _ := rfl
  refine ⟨zq_k_n 42 h rfl (zq_o_42 _), ?_⟩
  replace h := zq_nx1 (q := 1) h rfl
  refine ⟨zq_k_u2 183 (fun z => .invokespecial z) 3 h rfl (zq_o_183 _) (by decide +kernel), ?_⟩
  replace h := zq_nx3 (q := 4) h rfl
  refine ⟨zq_k_n 42 h rfl (zq_o_42 _), ?_⟩
  replace h := zq_nx1 (q := 5) h rfl
  refine ⟨zq_k_n 6 h rfl (zq_o_6 _), ?_⟩
  replace h := zq_nx1 (q := 6) h rfl
  refine ⟨by decide +kernel, ?_⟩
  have h : List.drop 8 prog_3_method_1_code.data.toList = 0xb5 :: _ := rfl
  refine ⟨zq_k_u2 181 (fun z => .putfield z) 9 h rfl (zq_o_181 _) (by decide +kernel), ?_⟩
  replace h := zq_nx3 (q := 11) h rfl
  refine ⟨zq_k_n 42 h rfl (zq_o_42 _), ?_⟩
  replace h := zq_nx1 (q := 12) h rfl
  refine ⟨zq_k_n 8 h rfl (zq_o_8 _), ?_⟩
  replace h := zq_nx1 (q := 13) h rfl
  refine ⟨by decide +kernel, ?_⟩
  have h : List.drop 15 prog_3_method_1_code.data.toList = 0xb5 :: _ := rfl
  refine ⟨zq_k_u2 181 (fun z => .putfield z) 15 h rfl (zq_o_181 _) (by decide +kernel), ?_⟩
  replace h := zq_nx3 (q := 18) h rfl
  refine ⟨zq_k_n 42 h rfl (zq_o_42 _), ?_⟩
  replace h := zq_nx1 (q := 19) h rfl
  refine ⟨zq_k_s1 16 (fun z => .bipush z) 6 h rfl (zq_o_16 _) (by decide +kernel), ?_⟩
  replace h := zq_nx2 (q := 21) h rfl
  refine ⟨by decide +kernel, ?_⟩
  have h : List.drop 23 prog_3_method_1_code.data.toList = 0xb5 :: _ := rfl
  refine ⟨zq_k_u2 181 (fun z => .putfield z) 18 h rfl (zq_o_181 _) (by decide +kernel), ?_⟩
  replace h := zq_nx3 (q := 26) h rfl
  refine ⟨zq_k_n 42 h rfl (zq_o_42 _), ?_⟩
  replace h := zq_nx1 (q := 27) h rfl
  refine ⟨zq_k_s1 16 (fun z => .bipush z) 15 h rfl (zq_o_16 _) (by decide +kernel), ?_⟩
  replace h := zq_nx2 (q := 29) h rfl
  refine ⟨by decide +kernel, ?_⟩
  have h : List.drop 31 prog_3_method_1_code.data.toList = 0xb5 :: _ := rfl
  refine ⟨zq_k_u2 181 (fun z => .putfield z) 21 h rfl (zq_o_181 _) (by decide +kernel), ?_⟩
  replace h := zq_nx3 (q := 34) h rfl
  refine ⟨zq_k_n 42 h rfl (zq_o_42 _), ?_⟩
  replace h := zq_nx1 (q := 35) h rfl
  refine ⟨zq_k_s1 16 (fun z => .bipush z) 15 h rfl (zq_o_16 _) (by decide +kernel), ?_⟩
  replace h := zq_nx2 (q := 37) h rfl
  refine ⟨by decide +kernel, ?_⟩
  have h : List.drop 39 prog_3_method_1_code.data.toList = 0xb5 :: _ := rfl
  refine ⟨zq_k_u2 181 (fun z => .putfield z) 24 h rfl (zq_o_181 _) (by decide +kernel), ?_⟩
  replace h := zq_nx3 (q := 42) h rfl
  refine ⟨zq_k_n 42 h rfl (zq_o_42 _), ?_⟩
  replace h := zq_nx1 (q := 43) h rfl
  exact zq_k_s1 16 (fun z => .bipush z) 15 h rfl (zq_o_16 _) (by decide +kernel)
theorem d_Planner_new_0 : decode prog_3_method_1_code 0 = .ok (.aload_n 0, 1) := dd_Planner_new_0.1
theorem d_Planner_new_1 : decode prog_3_method_1_code 1 = .ok (.invokespecial 3, 3) := dd_Planner_new_0.2.1
theorem d_Planner_new_4 : decode prog_3_method_1_code 4 = .ok (.aload_n 0, 1) := dd_Planner_new_0.2.2.1
theorem d_Planner_new_5 : decode prog_3_method_1_code 5 = .ok (.iconst 3, 1) := dd_Planner_new_0.2.2.2.1
theorem d_Planner_new_6 : decode prog_3_method_1_code 6 = .ok (.newarray .int, 2) := dd_Planner_new_0.2.2.2.2.1
theorem d_Planner_new_8 : decode prog_3_method_1_code 8 = .ok (.putfield 9, 3) := dd_Planner_new_0.2.2.2.2.2.1
theorem d_Planner_new_11 : decode prog_3_method_1_code 11 = .ok (.aload_n 0, 1) := dd_Planner_new_0.2.2.2.2.2.2.1
theorem d_Planner_new_12 : decode prog_3_method_1_code 12 = .ok (.iconst 5, 1) := dd_Planner_new_0.2.2.2.2.2.2.2.1
theorem d_Planner_new_13 : decode prog_3_method_1_code 13 = .ok (.newarray .int, 2) := dd_Planner_new_0.2.2.2.2.2.2.2.2.1
theorem d_Planner_new_15 : decode prog_3_method_1_code 15 = .ok (.putfield 15, 3) := dd_Planner_new_0.2.2.2.2.2.2.2.2.2.1
theorem d_Planner_new_18 : decode prog_3_method_1_code 18 = .ok (.aload_n 0, 1) := dd_Planner_new_0.2.2.2.2.2.2.2.2.2.2.1
theorem d_Planner_new_19 : decode prog_3_method_1_code 19 = .ok (.bipush 6, 2) := dd_Planner_new_0.2.2.2.2.2.2.2.2.2.2.2.1
theorem d_Planner_new_21 : decode prog_3_method_1_code 21 = .ok (.newarray .int, 2) := dd_Planner_new_0.2.2.2.2.2.2.2.2.2.2.2.2.1
theorem d_Planner_new_23 : decode prog_3_method_1_code 23 = .ok (.putfield 18, 3) := dd_Planner_new_0.2.2.2.2.2.2.2.2.2.2.2.2.2.1
theorem d_Planner_new_26 : decode prog_3_method_1_code 26 = .ok (.aload_n 0, 1) := dd_Planner_new_0.2.2.2.2.2.2.2.2.2.2.2.2.2.2.1
theorem d_Planner_new_27 : decode prog_3_method_1_code 27 = .ok (.bipush 15, 2) := dd_Planner_new_0.2.2.2.2.2.2.2.2.2.2.2.2.2.2.2.1
theorem d_Planner_new_29 : decode prog_3_method_1_code 29 = .ok (.newarray .int, 2) := dd_Planner_new_0.2.2.2.2.2.2.2.2.2.2.2.2.2.2.2.2.1
theorem d_Planner_new_31 : decode prog_3_method_1_code 31 = .ok (.putfield 21, 3) := dd_Planner_new_0.2.2.2.2.2.2.2.2.2.2.2.2.2.2.2.2.2.1
theorem d_Planner_new_34 : decode prog_3_method_1_code 34 = .ok (.aload_n 0, 1) := dd_Planner_new_0.2.2.2.2.2.2.2.2.2.2.2.2.2.2.2.2.2.2.1
theorem d_Planner_new_35 : decode prog_3_method_1_code 35 = .ok (.bipush 15, 2) := dd_Planner_new_0.2.2.2.2.2.2.2.2.2.2.2.2.2.2.2.2.2.2.2.1
theorem d_Planner_new_37 : decode prog_3_method_1_code 37 = .ok (.newarray .int, 2) := dd_Planner_new_0.2.2.2.2.2.2.2.2.2.2.2.2.2.2.2.2.2.2.2.2.1
theorem d_Planner_new_39 : decode prog_3_method_1_code 39 = .ok (.putfield 24, 3) := dd_Planner_new_0.2.2.2.2.2.2.2.2.2.2.2.2.2.2.2.2.2.2.2.2.2.1
theorem d_Planner_new_42 : decode prog_3_method_1_code 42 = .ok (.aload_n 0, 1) := dd_Planner_new_0.2.2.2.2.2.2.2.2.2.2.2.2.2.2.2.2.2.2.2.2.2.2.1
theorem d_Planner_new_43 : decode prog_3_method_1_code 43 = .ok (.bipush 15, 2) := dd_Planner_new_0.2.2.2.2.2.2.2.2.2.2.2.2.2.2.2.2.2.2.2.2.2.2.2
set_option maxRecDepth 100000 in
theorem dd_Planner_new_45 : (decode prog_3_method_1_code 45 = .ok (.newarray .int, 2)) ∧ (decode prog_3_method_1_code 47 = .ok (.putfield 27, 3)) ∧ (decode prog_3_method_1_code 50 = .ok (.aload_n 0, 1)) ∧ (decode prog_3_method_1_code 51 = .ok (.sipush 216, 3)) ∧ (decode prog_3_method_1_code 54 = .ok (.newarray .int, 2)) ∧ (decode prog_3_method_1_code 56 = .ok (.putfield 30, 3)) ∧ (decode prog_3_method_1_code 59 = .ok (.return_, 1)) := by
  refine ⟨by decide +kernel, ?_⟩
  have h : List.drop 47 prog_3_method_1_code.data.toList = 0xb5 :: _ := rfl
  refine ⟨zq_k_u2 181 (fun z => .putfield z) 27 h rfl (zq_o_181 _) (by decide +kernel), ?_⟩
  replace h := zq_nx3 (q := 50) h rfl
  refine ⟨zq_k_n 42 h rfl (zq_o_42 _), ?_⟩
  replace h := zq_nx1 (q := 51) h rfl
  refine ⟨zq_k_s2 17 (fun z => .sipush z) 216 h rfl (zq_o_17 _) (by decide +kernel), ?_⟩
  replace h := zq_nx3 (q := 54) h rfl
  refine ⟨by decide +kernel, ?_⟩
  have h : List.drop 56 prog_3_method_1_code.data.toList = 0xb5 :: _ := rfl
  refine ⟨zq_k_u2 181 (fun z => .putfield z) 30 h rfl (zq_o_181 _) (by decide +kernel), ?_⟩
  replace h := zq_nx3 (q := 59) h rfl
  exact zq_k_n 177 h rfl (zq_o_177 _)
theorem d_Planner_new_45 : decode prog_3_method_1_code 45 = .ok (.newarray .int, 2) := dd_Planner_new_45.1
theorem d_Planner_new_47 : decode prog_3_method_1_code 47 = .ok (.putfield 27, 3) := dd_Planner_new_45.2.1
theorem d_Planner_new_50 : decode prog_3_method_1_code 50 = .ok (.aload_n 0, 1) := dd_Planner_new_45.2.2.1
theorem d_Planner_new_51 : decode prog_3_method_1_code 51 = .ok (.sipush 216, 3) := dd_Planner_new_45.2.2.2.1
theorem d_Planner_new_54 : decode prog_3_method_1_code 54 = .ok (.newarray .int, 2) := dd_Planner_new_45.2.2.2.2.1
theorem d_Planner_new_56 : decode prog_3_method_1_code 56 = .ok (.putfield 30, 3) := dd_Planner_new_45.2.2.2.2.2.1
theorem d_Planner_new_59 : decode prog_3_method_1_code 59 = .ok (.return_, 1) := dd_Planner_new_45.2.2.2.2.2.2
def f_Planner_new_0  (a0 : Nat) (h : mH) : Option mH :=
  grd (¬ a0 = h.1) <|
  bd1 (mkn h 3 (.inl (0, (3, .inl (fun _ => 0))))) fun h2 =>
  grd (h.1 < h2.1) <|
  bd1 (pV h2 a0 2 1 (.ref h.1)) fun h6 =>
  grd (¬ a0 = h6.1) <|
  bd1 (mkn h6 5 (.inl (0, (5, .inl (fun _ => 0))))) fun h10 =>
  grd (h6.1 < h10.1) <|
  bd1 (pV h10 a0 2 2 (.ref h6.1)) fun h14 =>
  grd (¬ a0 = h14.1) <|
  bd1 (mkn h14 6 (.inl (0, (6, .inl (fun _ => 0))))) fun h18 =>
  grd (h14.1 < h18.1) <|
  bd1 (pV h18 a0 2 3 (.ref h14.1)) fun h22 =>
  grd (¬ a0 = h22.1) <|
  bd1 (mkn h22 15 (.inl (0, (15, .inl (fun _ => 0))))) fun h26 =>
  grd (h22.1 < h26.1) <|
  bd1 (pV h26 a0 2 4 (.ref h22.1)) fun h30 =>
  grd (¬ a0 = h30.1) <|
  bd1 (mkn h30 15 (.inl (0, (15, .inl (fun _ => 0))))) fun h34 =>
  grd (h30.1 < h34.1) <|
  bd1 (pV h34 a0 2 5 (.ref h30.1)) fun h38 =>
  grd (¬ a0 = h38.1) <|
  bd1 (mkn h38 15 (.inl (0, (15, .inl (fun _ => 0))))) fun h42 =>
  grd (h38.1 < h42.1) <|
  bd1 (pV h42 a0 2 6 (.ref h38.1)) fun h46 =>
  grd (¬ a0 = h46.1) <|
  bd1 (mkn h46 216 (.inl (0, (216, .inl (fun _ => 0))))) fun h50 =>
  grd (h46.1 < h50.1) <|
  bd1 (pV h50 a0 2 7 (.ref h46.1)) fun h54 =>
  some h54
set_option maxRecDepth 20000 in
theorem t_Planner_new_0 {sc : Nat × (Nat → Int32)}  (a0 : Nat) (h : mH) (h' : mH) (hf : f_Planner_new_0  a0 h = some h') : G sc y_Planner_new prog_3_method_1_code 1 none 1 20 0 [(0, .ref a0)] [] h none h' := by
  unfold f_Planner_new_0 at hf
  refine g_aload_n (pc := 0) 0 d_Planner_new_0 rfl rfl ?_
  refine g_objInit (pc := 1) d_Planner_new_1 wd_203 wd_24 wd_25 (by decide) (Nat.le_of_ble_eq_true rfl) ?_
  refine g_aload_n (pc := 4) 0 d_Planner_new_4 rfl rfl ?_
  refine g_iconst (pc := 5) (3 : Int32) d_Planner_new_5 (by decide) ?_
  obtain ⟨g1, hf⟩ := grd_e hf
  obtain ⟨h2, e3, hf⟩ := bd1_e hf
  obtain ⟨g4, e5⟩ := mkn_e e3
  refine g_newa (pc := 6) rfl 0 3 .int (3, .inl (fun _ => 0)) wd_92 rfl (fun _ => rfl) (fun _ _ _ a b => Option.some.inj (a.symm.trans b)) (fun _ => rfl) (fun _ => rfl) (fun _ z => absurd z id) (by decide) (by decide) (by decide) d_Planner_new_6 g4 (okl_cons (okv_r (by omega)) (okl_nil)) (oks_cons (okv_r (by omega)) (oks_nil)) ?_
  rw [← e5]
  have h2_n : h2.1 = h.1 + 1 := by rw [e5]; rfl
  obtain ⟨g8, hf⟩ := grd_e hf
  obtain ⟨h6, e7, hf⟩ := bd1_e hf
  refine g_putF (pc := 8) (ci := 2) (kk := 1) ty_Planner tyok_Planner nm_Planner d_Planner_new_8 rfl in_Planner (by decide) wd_205 rfl rfl rfl (fun _ => rfl) (fun _ => rfl) (fun _ z => by cases z; omega) e7 ?_
  refine g_aload_n (pc := 11) 0 d_Planner_new_11 rfl rfl ?_
  refine g_iconst (pc := 12) (5 : Int32) d_Planner_new_12 (by decide) ?_
  obtain ⟨g9, hf⟩ := grd_e hf
  obtain ⟨h10, e11, hf⟩ := bd1_e hf
  obtain ⟨g12, e13⟩ := mkn_e e11
  refine g_newa (pc := 13) rfl 0 5 .int (5, .inl (fun _ => 0)) wd_92 rfl (fun _ => rfl) (fun _ _ _ a b => Option.some.inj (a.symm.trans b)) (fun _ => rfl) (fun _ => rfl) (fun _ z => absurd z id) (by decide) (by decide) (by decide) d_Planner_new_13 g12 (okl_cons (okv_r (by omega)) (okl_nil)) (oks_cons (okv_r (by omega)) (oks_nil)) ?_
  rw [← e13]
  have h10_n : h10.1 = h6.1 + 1 := by rw [e13]; rfl
  obtain ⟨g16, hf⟩ := grd_e hf
  obtain ⟨h14, e15, hf⟩ := bd1_e hf
  refine g_putF (pc := 15) (ci := 2) (kk := 2) ty_Planner tyok_Planner nm_Planner d_Planner_new_15 rfl in_Planner (by decide) wd_206 rfl rfl rfl (fun _ => rfl) (fun _ => rfl) (fun _ z => by cases z; omega) e15 ?_
  refine g_aload_n (pc := 18) 0 d_Planner_new_18 rfl rfl ?_
  refine g_bipush (pc := 19) (6 : Int32) d_Planner_new_19 (by decide) ?_
  obtain ⟨g17, hf⟩ := grd_e hf
  obtain ⟨h18, e19, hf⟩ := bd1_e hf
  obtain ⟨g20, e21⟩ := mkn_e e19
  refine g_newa (pc := 21) rfl 0 6 .int (6, .inl (fun _ => 0)) wd_92 rfl (fun _ => rfl) (fun _ _ _ a b => Option.some.inj (a.symm.trans b)) (fun _ => rfl) (fun _ => rfl) (fun _ z => absurd z id) (by decide) (by decide) (by decide) d_Planner_new_21 g20 (okl_cons (okv_r (by omega)) (okl_nil)) (oks_cons (okv_r (by omega)) (oks_nil)) ?_
  rw [← e21]
  have h18_n : h18.1 = h14.1 + 1 := by rw [e21]; rfl
  obtain ⟨g24, hf⟩ := grd_e hf
  obtain ⟨h22, e23, hf⟩ := bd1_e hf
  refine g_putF (pc := 23) (ci := 2) (kk := 3) ty_Planner tyok_Planner nm_Planner d_Planner_new_23 rfl in_Planner (by decide) wd_207 rfl rfl rfl (fun _ => rfl) (fun _ => rfl) (fun _ z => by cases z; omega) e23 ?_
  refine g_aload_n (pc := 26) 0 d_Planner_new_26 rfl rfl ?_
  refine g_bipush (pc := 27) (15 : Int32) d_Planner_new_27 (by decide) ?_
  obtain ⟨g25, hf⟩ := grd_e hf
  obtain ⟨h26, e27, hf⟩ := bd1_e hf
  obtain ⟨g28, e29⟩ := mkn_e e27
  refine g_newa (pc := 29) rfl 0 15 .int (15, .inl (fun _ => 0)) wd_92 rfl (fun _ => rfl) (fun _ _ _ a b => Option.some.inj (a.symm.trans b)) (fun _ => rfl) (fun _ => rfl) (fun _ z => absurd z id) (by decide) (by decide) (by decide) d_Planner_new_29 g28 (okl_cons (okv_r (by omega)) (okl_nil)) (oks_cons (okv_r (by omega)) (oks_nil)) ?_
  rw [← e29]
  have h26_n : h26.1 = h22.1 + 1 := by rw [e29]; rfl
  obtain ⟨g32, hf⟩ := grd_e hf
  obtain ⟨h30, e31, hf⟩ := bd1_e hf
  refine g_putF (pc := 31) (ci := 2) (kk := 4) ty_Planner tyok_Planner nm_Planner d_Planner_new_31 rfl in_Planner (by decide) wd_208 rfl rfl rfl (fun _ => rfl) (fun _ => rfl) (fun _ z => by cases z; omega) e31 ?_
  refine g_aload_n (pc := 34) 0 d_Planner_new_34 rfl rfl ?_
  refine g_bipush (pc := 35) (15 : Int32) d_Planner_new_35 (by decide) ?_
  obtain ⟨g33, hf⟩ := grd_e hf
  obtain ⟨h34, e35, hf⟩ := bd1_e hf
  obtain ⟨g36, e37⟩ := mkn_e e35
  refine g_newa (pc := 37) rfl 0 15 .int (15, .inl (fun _ => 0)) wd_92 rfl (fun _ => rfl) (fun _ _ _ a b => Option.some.inj (a.symm.trans b)) (fun _ => rfl) (fun _ => rfl) (fun _ z => absurd z id) (by decide) (by decide) (by decide) d_Planner_new_37 g36 (okl_cons (okv_r (by omega)) (okl_nil)) (oks_cons (okv_r (by omega)) (oks_nil)) ?_
  rw [← e37]
  have h34_n : h34.1 = h30.1 + 1 := by rw [e37]; rfl
  obtain ⟨g40, hf⟩ := grd_e hf
  obtain ⟨h38, e39, hf⟩ := bd1_e hf
  refine g_putF (pc := 39) (ci := 2) (kk := 5) ty_Planner tyok_Planner nm_Planner d_Planner_new_39 rfl in_Planner (by decide) wd_209 rfl rfl rfl (fun _ => rfl) (fun _ => rfl) (fun _ z => by cases z; omega) e39 ?_
  refine g_aload_n (pc := 42) 0 d_Planner_new_42 rfl rfl ?_
  refine g_bipush (pc := 43) (15 : Int32) d_Planner_new_43 (by decide) ?_
  obtain ⟨g41, hf⟩ := grd_e hf
  obtain ⟨h42, e43, hf⟩ := bd1_e hf
  obtain ⟨g44, e45⟩ := mkn_e e43
  refine g_newa (pc := 45) rfl 0 15 .int (15, .inl (fun _ => 0)) wd_92 rfl (fun _ => rfl) (fun _ _ _ a b => Option.some.inj (a.symm.trans b)) (fun _ => rfl) (fun _ => rfl) (fun _ z => absurd z id) (by decide) (by decide) (by decide) d_Planner_new_45 g44 (okl_cons (okv_r (by omega)) (okl_nil)) (oks_cons (okv_r (by omega)) (oks_nil)) ?_
  rw [← e45]
  have h42_n : h42.1 = h38.1 + 1 := by rw [e45]; rfl
  obtain ⟨g48, hf⟩ := grd_e hf
  obtain ⟨h46, e47, hf⟩ := bd1_e hf
  refine g_putF (pc := 47) (ci := 2) (kk := 6) ty_Planner tyok_Planner nm_Planner d_Planner_new_47 rfl in_Planner (by decide) wd_210 rfl rfl rfl (fun _ => rfl) (fun _ => rfl) (fun _ z => by cases z; omega) e47 ?_
  refine g_aload_n (pc := 50) 0 d_Planner_new_50 rfl rfl ?_
  refine g_sipush (pc := 51) (216 : Int32) d_Planner_new_51 (by decide) ?_
  obtain ⟨g49, hf⟩ := grd_e hf
  obtain ⟨h50, e51, hf⟩ := bd1_e hf
  obtain ⟨g52, e53⟩ := mkn_e e51
  refine g_newa (pc := 54) rfl 0 216 .int (216, .inl (fun _ => 0)) wd_92 rfl (fun _ => rfl) (fun _ _ _ a b => Option.some.inj (a.symm.trans b)) (fun _ => rfl) (fun _ => rfl) (fun _ z => absurd z id) (by decide) (by decide) (by decide) d_Planner_new_54 g52 (okl_cons (okv_r (by omega)) (okl_nil)) (oks_cons (okv_r (by omega)) (oks_nil)) ?_
  rw [← e53]
  have h50_n : h50.1 = h46.1 + 1 := by rw [e53]; rfl
  obtain ⟨g56, hf⟩ := grd_e hf
  obtain ⟨h54, e55, hf⟩ := bd1_e hf
  refine g_putF (pc := 56) (ci := 2) (kk := 7) ty_Planner tyok_Planner nm_Planner d_Planner_new_56 rfl in_Planner (by decide) wd_211 rfl rfl rfl (fun _ => rfl) (fun _ => rfl) (fun _ z => by cases z; omega) e55 ?_
  obtain rfl := ret1 hf
  exact g_vret (pc := 59) rfl d_Planner_new_59
def f_Planner_new (a0 : Nat) (h : mH) : Option mH := f_Planner_new_0 a0 h
theorem c_Planner_new {sc : Nat × (Nat → Int32)} {a0 : Nat} {h : mH} {h' : mH} (hf : f_Planner_new a0 h = some h') : MM sc y_Planner_new prog_3_method_1_code 1 none 1 20 [.ref a0] h none h' :=
  mm_of_G (by decide) (Nat.le_of_ble_eq_true rfl) (t_Planner_new_0 _ _ _ hf)
/-! Tables init ()V -/
set_option maxRecDepth 100000 in
theorem dd_Tables_new_0 : (decode prog_8_method_1_code 0 = .ok (.aload_n 0, 1)) ∧ (decode prog_8_method_1_code 1 = .ok (.invokespecial 3, 3)) ∧ (decode prog_8_method_1_code 4 = .ok (.aload_n 0, 1)) ∧ (decode prog_8_method_1_code 5 = .ok (.bipush 15, 2)) ∧ (decode prog_8_method_1_code 7 = .ok (.newarray .int, 2)) ∧ (decode prog_8_method_1_code 9 = .ok (.putfield 9, 3)) ∧ (decode prog_8_method_1_code 12 = .ok (.aload_n 0, 1)) ∧ (decode prog_8_method_1_code 13 = .ok (.bipush 15, 2)) ∧ (decode prog_8_method_1_code 15 = .ok (.newarray .int, 2)) ∧ (decode prog_8_method_1_code 17 = .ok (.putfield 15, 3)) ∧ (decode prog_8_method_1_code 20 = .ok (.aload_n 0, 1)) ∧ (decode prog_8_method_1_code 21 = .ok (.iconst 5, 1)) ∧ (decode prog_8_method_1_code 22 = .ok (.newarray .int, 2)) ∧ (decode prog_8_method_1_code 24 = .ok (.putfield 18, 3)) ∧ (decode prog_8_method_1_code 27 = .ok (.aload_n 0, 1)) ∧ (decode prog_8_method_1_code 28 = .ok (.iconst 3, 1)) ∧ (decode prog_8_method_1_code 29 = .ok (.newarray .int, 2)) ∧ (decode prog_8_method_1_code 31 = .ok (.putfield 21, 3)) ∧ (decode prog_8_method_1_code 34 = .ok (.aload_n 0, 1)) ∧ (decode prog_8_method_1_code 35 = .ok (.iconst 3, 1)) ∧ (decode prog_8_method_1_code 36 = .ok (.newarray .int, 2)) ∧ (decode prog_8_method_1_code 38 = .ok (.putfield 24, 3)) ∧ (decode prog_8_method_1_code 41 = .ok (.aload_n 0, 1)) ∧ (decode prog_8_method_1_code 42 = .ok (.bipush 18, 2)) := by
  have h : List.drop 0 prog_8_method_1_code.data.toList = 0x2a :: _ := rfl
  refine ⟨zq_k_n 42 h rfl (zq_o_42 _), ?_⟩
  replace h := zq_nx1 (q := 1) h rfl
  refine ⟨zq_k_u2 183 (fun z => .invokespecial z) 3 h rfl (zq_o_183 _) (by decide +kernel), ?_⟩
  replace h := zq_nx3 (q := 4) h rfl
  refine ⟨zq_k_n 42 h rfl (zq_o_42 _), ?_⟩
  replace h := zq_nx1 (q := 5) h rfl
  refine ⟨zq_k_s1 16 (fun z => .bipush z) 15 h rfl (zq_o_16 _) (by decide +kernel), ?_⟩
  replace h := zq_nx2 (q := 7) h rfl
  refine ⟨by decide +kernel, ?_⟩
  have h : List.drop 9 prog_8_method_1_code.data.toList = 0xb5 :: _ := rfl
  refine ⟨zq_k_u2 181 (fun z => .putfield z) 9 h rfl (zq_o_181 _) (by decide +kernel), ?_⟩
  replace h := zq_nx3 (q := 12) h rfl
  refine ⟨zq_k_n 42 h rfl (zq_o_42 _), ?_⟩
  replace h := zq_nx1 (q := 13) h rfl
  refine ⟨zq_k_s1 16 (fun z => .bipush z) 15 h rfl (zq_o_16 _) (by decide +kernel), ?_⟩
  replace h := zq_nx2 (q := 15) h rfl
  refine ⟨by decide +kernel, ?_⟩
  have h : List.drop 17 prog_8_method_1_code.data.toList = 0xb5 :: _ := rfl
  refine ⟨zq_k_u2 181 (fun z => .putfield z) 15 h rfl (zq_o_181 _) (by decide +kernel), ?_⟩
  replace h := zq_nx3 (q := 20) h rfl
  refine ⟨zq_k_n 42 h rfl (zq_o_42 _), ?_⟩
  replace h := zq_nx1 (q := 21) h rfl
  refine ⟨zq_k_n 8 h rfl (zq_o_8 _), ?_⟩
  replace h := zq_nx1 (q := 22) h rfl
  refine ⟨by decide +kernel, ?_⟩
  have h : List.drop 24 prog_8_method_1_code.data.toList = 0xb5 :: _ := rfl
  refine ⟨zq_k_u2 181 (fun z => .putfield z) 18 h rfl (zq_o_181 _) (by decide +kernel), ?_⟩
  replace h := zq_nx3 (q := 27) h rfl
  refine ⟨zq_k_n 42 h rfl (zq_o_42 _), ?_⟩
  replace h := zq_nx1 (q := 28) h rfl
  refine ⟨zq_k_n 6 h rfl (zq_o_6 _), ?_⟩
  replace h := zq_nx1 (q := 29) h rfl
  refine ⟨by decide +kernel, ?_⟩
  have h : List.drop 31 prog_8_method_1_code.data.toList = 0xb5 :: _ := rfl
  refine ⟨zq_k_u2 181 (fun z => .putfield z) 21 h rfl (zq_o_181 _) (by decide +kernel), ?_⟩
  replace h := zq_nx3 (q := 34) h rfl
  refine ⟨zq_k_n 42 h rfl (zq_o_42 _), ?_⟩
  replace h := zq_nx1 (q := 35) h rfl
  refine ⟨zq_k_n 6 h rfl (zq_o_6 _), ?_⟩
  replace h := zq_nx1 (q := 36) h rfl
  refine ⟨by decide +kernel, ?_⟩
  have h : List.drop 38 prog_8_method_1_code.data.toList = 0xb5 :: _ := rfl
  refine ⟨zq_k_u2 181 (fun z => .putfield z) 24 h rfl (zq_o_181 _) (by decide +kernel), ?_⟩
  replace h := zq_nx3 (q := 41) h rfl
  refine ⟨zq_k_n 42 h rfl (zq_o_42 _), ?_⟩
  replace h := zq_nx1 (q := 42) h rfl
  exact zq_k_s1 16 (fun z => .bipush z) 18 h rfl (zq_o_16 _) (by decide +kernel)
theorem d_Tables_new_0 : decode prog_8_method_1_code 0 = .ok (.aload_n 0, 1) := dd_Tables_new_0.1
theorem d_Tables_new_1 : decode prog_8_method_1_code 1 = .ok (.invokespecial 3, 3) := dd_Tables_new_0.2.1
theorem d_Tables_new_4 : decode prog_8_method_1_code 4 = .ok (.aload_n 0, 1) := dd_Tables_new_0.2.2.1
theorem d_Tables_new_5 : decode prog_8_method_1_code 5 = .ok (.bipush 15, 2) := dd_Tables_new_0.2.2.2.1
theorem d_Tables_new_7 : decode prog_8_method_1_code 7 = .ok (.newarray .int, 2) := dd_Tables_new_0.2.2.2.2.1
theorem d_Tables_new_9 : decode prog_8_method_1_code 9 = .ok (.putfield 9, 3) := dd_Tables_new_0.2.2.2.2.2.1
theorem d_Tables_new_12 : decode prog_8_method_1_code 12 = .ok (.aload_n 0, 1) := dd_Tables_new_0.2.2.2.2.2.2.1
theorem d_Tables_new_13 : decode prog_8_method_1_code 13 = .ok (.bipush 15, 2) := dd_Tables_new_0.2.2.2.2.2.2.2.1
theorem d_Tables_new_15 : decode prog_8_method_1_code 15 = .ok (.newarray .int, 2) := dd_Tables_new_0.2.2.2.2.2.2.2.2.1
theorem d_Tables_new_17 : decode prog_8_method_1_code 17 = .ok (.putfield 15, 3) := dd_Tables_new_0.2.2.2.2.2.2.2.2.2.1
theorem d_Tables_new_20 : decode prog_8_method_1_code 20 = .ok (.aload_n 0, 1) := dd_Tables_new_0.2.2.2.2.2.2.2.2.2.2.1
theorem d_Tables_new_21 : decode prog_8_method_1_code 21 = .ok (.iconst 5, 1) := dd_Tables_new_0.2.2.2.2.2.2.2.2.2.2.2.1
theorem d_Tables_new_22 : decode prog_8_method_1_code 22 = .ok (.newarray .int, 2) := dd_Tables_new_0.2.2.2.2.2.2.2.2.2.2.2.2.1
theorem d_Tables_new_24 : decode prog_8_method_1_code 24 = .ok (.putfield 18, 3) := dd_Tables_new_0.2.2.2.2.2.2.2.2.2.2.2.2.2.1
theorem d_Tables_new_27 : decode prog_8_method_1_code 27 = .ok (.aload_n 0, 1) := dd_Tables_new_0.2.2.2.2.2.2.2.2.2.2.2.2.2.2.1
theorem d_Tables_new_28 : decode prog_8_method_1_code 28 = .ok (.iconst 3, 1) := dd_Tables_new_0.2.2.2.2.2.2.2.2.2.2.2.2.2.2.2.1
theorem d_Tables_new_29 : decode prog_8_method_1_code 29 = .ok (.newarray .int, 2) := dd_Tables_new_0.2.2.2.2.2.2.2.2.2.2.2.2.2.2.2.2.1
theorem d_Tables_new_31 : decode prog_8_method_1_code 31 = .ok (.putfield 21, 3) := dd_Tables_new_0.2.2.2.2.2.2.2.2.2.2.2.2.2.2.2.2.2.1
theorem d_Tables_new_34 : decode prog_8_method_1_code 34 = .ok (.aload_n 0, 1) := dd_Tables_new_0.2.2.2.2.2.2.2.2.2.2.2.2.2.2.2.2.2.2.1
theorem d_Tables_new_35 : decode prog_8_method_1_code 35 = .ok (.iconst 3, 1) := dd_Tables_new_0.2.2.2.2.2.2.2.2.2.2.2.2.2.2.2.2.2.2.2.1
theorem d_Tables_new_36 : decode prog_8_method_1_code 36 = .ok (.newarray .int, 2) := dd_Tables_new_0.2.2.2.2.2.2.2.2.2.2.2.2.2.2.2.2.2.2.2.2.1
theorem d_Tables_new_38 : decode prog_8_method_1_code 38 = .ok (.putfield 24, 3) := dd_Tables_new_0.2.2.2.2.2.2.2.2.2.2.2.2.2.2.2.2.2.2.2.2.2.1
theorem d_Tables_new_41 : decode prog_8_method_1_code 41 = .ok (.aload_n 0, 1) := dd_Tables_new_0.2.2.2.2.2.2.2.2.2.2.2.2.2.2.2.2.2.2.2.2.2.2.1
theorem d_Tables_new_42 : decode prog_8_method_1_code 42 = .ok (.bipush 18, 2) := dd_Tables_new_0.2.2.2.2.2.2.2.2.2.2.2.2.2.2.2.2.2.2.2.2.2.2.2
set_option maxRecDepth 100000 in
theorem dd_Tables_new_44 : (decode prog_8_method_1_code 44 = .ok (.newarray .long, 2)) ∧ (decode prog_8_method_1_code 46 = .ok (.putfield 27, 3)) ∧ (decode prog_8_method_1_code 49 = .ok (.aload_n 0, 1)) ∧ (decode prog_8_method_1_code 50 = .ok (.sipush 216, 3)) ∧ (decode prog_8_method_1_code 53 = .ok (.newarray .long, 2)) ∧ (decode prog_8_method_1_code 55 = .ok (.putfield 31, 3)) ∧ (decode prog_8_method_1_code 58 = .ok (.return_, 1)) := by
  refine ⟨by decide +kernel, ?_⟩
  have h : List.drop 46 prog_8_method_1_code.data.toList = 0xb5 :: _ := rfl
  refine ⟨zq_k_u2 181 (fun z => .putfield z) 27 h rfl (zq_o_181 _) (by decide +kernel), ?_⟩
  replace h := zq_nx3 (q := 49) h rfl
  refine ⟨zq_k_n 42 h rfl (zq_o_42 _), ?_⟩
  replace h := zq_nx1 (q := 50) h rfl
  refine ⟨zq_k_s2 17 (fun z => .sipush z) 216 h rfl (zq_o_17 _) (by decide +kernel), ?_⟩
  replace h := zq_nx3 (q := 53) h rfl
  refine ⟨by decide +kernel, ?_⟩
  have h : List.drop 55 prog_8_method_1_code.data.toList = 0xb5 :: _ := rfl
  refine ⟨zq_k_u2 181 (fun z => .putfield z) 31 h rfl (zq_o_181 _) (by decide +kernel), ?_⟩
  replace h := zq_nx3 (q := 58) h rfl
  exact zq_k_n 177 h rfl (zq_o_177 _)
theorem d_Tables_new_44 : decode prog_8_method_1_code 44 = .ok (.newarray .long, 2) := dd_Tables_new_44.1
theorem d_Tables_new_46 : decode prog_8_method_1_code 46 = .ok (.putfield 27, 3) := dd_Tables_new_44.2.1
theorem d_Tables_new_49 : decode prog_8_method_1_code 49 = .ok (.aload_n 0, 1) := dd_Tables_new_44.2.2.1
theorem d_Tables_new_50 : decode prog_8_method_1_code 50 = .ok (.sipush 216, 3) := dd_Tables_new_44.2.2.2.1
theorem d_Tables_new_53 : decode prog_8_method_1_code 53 = .ok (.newarray .long, 2) := dd_Tables_new_44.2.2.2.2.1
theorem d_Tables_new_55 : decode prog_8_method_1_code 55 = .ok (.putfield 31, 3) := dd_Tables_new_44.2.2.2.2.2.1
theorem d_Tables_new_58 : decode prog_8_method_1_code 58 = .ok (.return_, 1) := dd_Tables_new_44.2.2.2.2.2.2
def f_Tables_new_0  (a0 : Nat) (h : mH) : Option mH :=
  grd (¬ a0 = h.1) <|
  bd1 (mkn h 15 (.inl (0, (15, .inl (fun _ => 0))))) fun h2 =>
  grd (h.1 < h2.1) <|
  bd1 (pV h2 a0 7 1 (.ref h.1)) fun h6 =>
  grd (¬ a0 = h6.1) <|
  bd1 (mkn h6 15 (.inl (0, (15, .inl (fun _ => 0))))) fun h10 =>
  grd (h6.1 < h10.1) <|
  bd1 (pV h10 a0 7 2 (.ref h6.1)) fun h14 =>
  grd (¬ a0 = h14.1) <|
  bd1 (mkn h14 5 (.inl (0, (5, .inl (fun _ => 0))))) fun h18 =>
  grd (h14.1 < h18.1) <|
  bd1 (pV h18 a0 7 3 (.ref h14.1)) fun h22 =>
  grd (¬ a0 = h22.1) <|
  bd1 (mkn h22 3 (.inl (0, (3, .inl (fun _ => 0))))) fun h26 =>
  grd (h22.1 < h26.1) <|
  bd1 (pV h26 a0 7 4 (.ref h22.1)) fun h30 =>
  grd (¬ a0 = h30.1) <|
  bd1 (mkn h30 3 (.inl (0, (3, .inl (fun _ => 0))))) fun h34 =>
  grd (h30.1 < h34.1) <|
  bd1 (pV h34 a0 7 5 (.ref h30.1)) fun h38 =>
  grd (¬ a0 = h38.1) <|
  bd1 (mkn h38 18 (.inl (3, (18, .inr (.inl (fun _ => 0)))))) fun h42 =>
  grd (h38.1 < h42.1) <|
  bd1 (pV h42 a0 7 6 (.ref h38.1)) fun h46 =>
  grd (¬ a0 = h46.1) <|
  bd1 (mkn h46 216 (.inl (3, (216, .inr (.inl (fun _ => 0)))))) fun h50 =>
  grd (h46.1 < h50.1) <|
  bd1 (pV h50 a0 7 7 (.ref h46.1)) fun h54 =>
  some h54
set_option maxRecDepth 20000 in
theorem t_Tables_new_0 {sc : Nat × (Nat → Int32)}  (a0 : Nat) (h : mH) (h' : mH) (hf : f_Tables_new_0  a0 h = some h') : G sc y_Tables_new prog_8_method_1_code 1 none 1 20 0 [(0, .ref a0)] [] h none h' := by
  unfold f_Tables_new_0 at hf
  refine g_aload_n (pc := 0) 0 d_Tables_new_0 rfl rfl ?_
  refine g_objInit (pc := 1) d_Tables_new_1 wd_235 wd_24 wd_25 (by decide) (Nat.le_of_ble_eq_true rfl) ?_
  refine g_aload_n (pc := 4) 0 d_Tables_new_4 rfl rfl ?_
  refine g_bipush (pc := 5) (15 : Int32) d_Tables_new_5 (by decide) ?_
  obtain ⟨g1, hf⟩ := grd_e hf
  obtain ⟨h2, e3, hf⟩ := bd1_e hf
  obtain ⟨g4, e5⟩ := mkn_e e3
  refine g_newa (pc := 7) rfl 0 15 .int (15, .inl (fun _ => 0)) wd_92 rfl (fun _ => rfl) (fun _ _ _ a b => Option.some.inj (a.symm.trans b)) (fun _ => rfl) (fun _ => rfl) (fun _ z => absurd z id) (by decide) (by decide) (by decide) d_Tables_new_7 g4 (okl_cons (okv_r (by omega)) (okl_nil)) (oks_cons (okv_r (by omega)) (oks_nil)) ?_
  rw [← e5]
  have h2_n : h2.1 = h.1 + 1 := by rw [e5]; rfl
  obtain ⟨g8, hf⟩ := grd_e hf
  obtain ⟨h6, e7, hf⟩ := bd1_e hf
  refine g_putF (pc := 9) (ci := 7) (kk := 1) ty_Tables tyok_Tables nm_Tables d_Tables_new_9 rfl in_Tables (by decide) wd_237 rfl rfl rfl (fun _ => rfl) (fun _ => rfl) (fun _ z => by cases z; omega) e7 ?_
  refine g_aload_n (pc := 12) 0 d_Tables_new_12 rfl rfl ?_
  refine g_bipush (pc := 13) (15 : Int32) d_Tables_new_13 (by decide) ?_
  obtain ⟨g9, hf⟩ := grd_e hf
  obtain ⟨h10, e11, hf⟩ := bd1_e hf
  obtain ⟨g12, e13⟩ := mkn_e e11
  refine g_newa (pc := 15) rfl 0 15 .int (15, .inl (fun _ => 0)) wd_92 rfl (fun _ => rfl) (fun _ _ _ a b => Option.some.inj (a.symm.trans b)) (fun _ => rfl) (fun _ => rfl) (fun _ z => absurd z id) (by decide) (by decide) (by decide) d_Tables_new_15 g12 (okl_cons (okv_r (by omega)) (okl_nil)) (oks_cons (okv_r (by omega)) (oks_nil)) ?_
  rw [← e13]
  have h10_n : h10.1 = h6.1 + 1 := by rw [e13]; rfl
  obtain ⟨g16, hf⟩ := grd_e hf
  obtain ⟨h14, e15, hf⟩ := bd1_e hf
  refine g_putF (pc := 17) (ci := 7) (kk := 2) ty_Tables tyok_Tables nm_Tables d_Tables_new_17 rfl in_Tables (by decide) wd_238 rfl rfl rfl (fun _ => rfl) (fun _ => rfl) (fun _ z => by cases z; omega) e15 ?_
  refine g_aload_n (pc := 20) 0 d_Tables_new_20 rfl rfl ?_
  refine g_iconst (pc := 21) (5 : Int32) d_Tables_new_21 (by decide) ?_
  obtain ⟨g17, hf⟩ := grd_e hf
  obtain ⟨h18, e19, hf⟩ := bd1_e hf
  obtain ⟨g20, e21⟩ := mkn_e e19
  refine g_newa (pc := 22) rfl 0 5 .int (5, .inl (fun _ => 0)) wd_92 rfl (fun _ => rfl) (fun _ _ _ a b => Option.some.inj (a.symm.trans b)) (fun _ => rfl) (fun _ => rfl) (fun _ z => absurd z id) (by decide) (by decide) (by decide) d_Tables_new_22 g20 (okl_cons (okv_r (by omega)) (okl_nil)) (oks_cons (okv_r (by omega)) (oks_nil)) ?_
  rw [← e21]
  have h18_n : h18.1 = h14.1 + 1 := by rw [e21]; rfl
  obtain ⟨g24, hf⟩ := grd_e hf
  obtain ⟨h22, e23, hf⟩ := bd1_e hf
  refine g_putF (pc := 24) (ci := 7) (kk := 3) ty_Tables tyok_Tables nm_Tables d_Tables_new_24 rfl in_Tables (by decide) wd_239 rfl rfl rfl (fun _ => rfl) (fun _ => rfl) (fun _ z => by cases z; omega) e23 ?_
  refine g_aload_n (pc := 27) 0 d_Tables_new_27 rfl rfl ?_
  refine g_iconst (pc := 28) (3 : Int32) d_Tables_new_28 (by decide) ?_
  obtain ⟨g25, hf⟩ := grd_e hf
  obtain ⟨h26, e27, hf⟩ := bd1_e hf
  obtain ⟨g28, e29⟩ := mkn_e e27
  refine g_newa (pc := 29) rfl 0 3 .int (3, .inl (fun _ => 0)) wd_92 rfl (fun _ => rfl) (fun _ _ _ a b => Option.some.inj (a.symm.trans b)) (fun _ => rfl) (fun _ => rfl) (fun _ z => absurd z id) (by decide) (by decide) (by decide) d_Tables_new_29 g28 (okl_cons (okv_r (by omega)) (okl_nil)) (oks_cons (okv_r (by omega)) (oks_nil)) ?_
  rw [← e29]
  have h26_n : h26.1 = h22.1 + 1 := by rw [e29]; rfl
  obtain ⟨g32, hf⟩ := grd_e hf
  obtain ⟨h30, e31, hf⟩ := bd1_e hf
  refine g_putF (pc := 31) (ci := 7) (kk := 4) ty_Tables tyok_Tables nm_Tables d_Tables_new_31 rfl in_Tables (by decide) wd_240 rfl rfl rfl (fun _ => rfl) (fun _ => rfl) (fun _ z => by cases z; omega) e31 ?_
  refine g_aload_n (pc := 34) 0 d_Tables_new_34 rfl rfl ?_
  refine g_iconst (pc := 35) (3 : Int32) d_Tables_new_35 (by decide) ?_
  obtain ⟨g33, hf⟩ := grd_e hf
  obtain ⟨h34, e35, hf⟩ := bd1_e hf
  obtain ⟨g36, e37⟩ := mkn_e e35
  refine g_newa (pc := 36) rfl 0 3 .int (3, .inl (fun _ => 0)) wd_92 rfl (fun _ => rfl) (fun _ _ _ a b => Option.some.inj (a.symm.trans b)) (fun _ => rfl) (fun _ => rfl) (fun _ z => absurd z id) (by decide) (by decide) (by decide) d_Tables_new_36 g36 (okl_cons (okv_r (by omega)) (okl_nil)) (oks_cons (okv_r (by omega)) (oks_nil)) ?_
  rw [← e37]
  have h34_n : h34.1 = h30.1 + 1 := by rw [e37]; rfl
  obtain ⟨g40, hf⟩ := grd_e hf
  obtain ⟨h38, e39, hf⟩ := bd1_e hf
  refine g_putF (pc := 38) (ci := 7) (kk := 5) ty_Tables tyok_Tables nm_Tables d_Tables_new_38 rfl in_Tables (by decide) wd_241 rfl rfl rfl (fun _ => rfl) (fun _ => rfl) (fun _ z => by cases z; omega) e39 ?_
  refine g_aload_n (pc := 41) 0 d_Tables_new_41 rfl rfl ?_
  refine g_bipush (pc := 42) (18 : Int32) d_Tables_new_42 (by decide) ?_
  obtain ⟨g41, hf⟩ := grd_e hf
  obtain ⟨h42, e43, hf⟩ := bd1_e hf
  obtain ⟨g44, e45⟩ := mkn_e e43
  refine g_newa (pc := 44) rfl 3 18 .long (18, .inr (.inl (fun _ => 0))) wd_261 rfl (fun _ => rfl) (fun _ _ _ a b => Option.some.inj (a.symm.trans b)) (fun _ => rfl) (fun _ => rfl) (fun _ z => absurd z id) (by decide) (by decide) (by decide) d_Tables_new_44 g44 (okl_cons (okv_r (by omega)) (okl_nil)) (oks_cons (okv_r (by omega)) (oks_nil)) ?_
  rw [← e45]
  have h42_n : h42.1 = h38.1 + 1 := by rw [e45]; rfl
  obtain ⟨g48, hf⟩ := grd_e hf
  obtain ⟨h46, e47, hf⟩ := bd1_e hf
  refine g_putF (pc := 46) (ci := 7) (kk := 6) ty_Tables tyok_Tables nm_Tables d_Tables_new_46 rfl in_Tables (by decide) wd_242 rfl rfl rfl (fun _ => rfl) (fun _ => rfl) (fun _ z => by cases z; omega) e47 ?_
  refine g_aload_n (pc := 49) 0 d_Tables_new_49 rfl rfl ?_
  refine g_sipush (pc := 50) (216 : Int32) d_Tables_new_50 (by decide) ?_
  obtain ⟨g49, hf⟩ := grd_e hf
  obtain ⟨h50, e51, hf⟩ := bd1_e hf
  obtain ⟨g52, e53⟩ := mkn_e e51
  refine g_newa (pc := 53) rfl 3 216 .long (216, .inr (.inl (fun _ => 0))) wd_261 rfl (fun _ => rfl) (fun _ _ _ a b => Option.some.inj (a.symm.trans b)) (fun _ => rfl) (fun _ => rfl) (fun _ z => absurd z id) (by decide) (by decide) (by decide) d_Tables_new_53 g52 (okl_cons (okv_r (by omega)) (okl_nil)) (oks_cons (okv_r (by omega)) (oks_nil)) ?_
  rw [← e53]
  have h50_n : h50.1 = h46.1 + 1 := by rw [e53]; rfl
  obtain ⟨g56, hf⟩ := grd_e hf
  obtain ⟨h54, e55, hf⟩ := bd1_e hf
  refine g_putF (pc := 55) (ci := 7) (kk := 7) ty_Tables tyok_Tables nm_Tables d_Tables_new_55 rfl in_Tables (by decide) wd_243 rfl rfl rfl (fun _ => rfl) (fun _ => rfl) (fun _ z => by cases z; omega) e55 ?_
  obtain rfl := ret1 hf
  exact g_vret (pc := 58) rfl d_Tables_new_58
def f_Tables_new (a0 : Nat) (h : mH) : Option mH := f_Tables_new_0 a0 h
theorem c_Tables_new {sc : Nat × (Nat → Int32)} {a0 : Nat} {h : mH} {h' : mH} (hf : f_Tables_new a0 h = some h') : MM sc y_Tables_new prog_8_method_1_code 1 none 1 20 [.ref a0] h none h' :=
  mm_of_G (by decide) (Nat.le_of_ble_eq_true rfl) (t_Tables_new_0 _ _ _ hf)
/-! Odds init ()V -/
set_option maxRecDepth 100000 in
theorem dd_Odds_new_0 : (decode prog_2_method_1_code 0 = .ok (.aload_n 0, 1)) ∧ (decode prog_2_method_1_code 1 = .ok (.invokespecial 3, 3)) ∧ (decode prog_2_method_1_code 4 = .ok (.aload_n 0, 1)) ∧ (decode prog_2_method_1_code 5 = .ok (.bipush 10, 2)) ∧ (decode prog_2_method_1_code 7 = .ok (.newarray .long, 2)) ∧ (decode prog_2_method_1_code 9 = .ok (.putfield 11, 3)) ∧ (decode prog_2_method_1_code 12 = .ok (.return_, 1)) := by
  have h : List.drop 0 prog_2_method_1_code.data.toList = 0x2a :: _ := rfl
  refine ⟨zq_k_n 42 h rfl (zq_o_42 _), ?_⟩
  replace h := zq_nx1 (q := 1) h rfl
  refine ⟨zq_k_u2 183 (fun z => .invokespecial z) 3 h rfl (zq_o_183 _) (by decide +kernel), ?_⟩
  replace h := zq_nx3 (q := 4) h rfl
  refine ⟨zq_k_n 42 h rfl (zq_o_42 _), ?_⟩
  replace h := zq_nx1 (q := 5) h rfl
  refine ⟨zq_k_s1 16 (fun z => .bipush z) 10 h rfl (zq_o_16 _) (by decide +kernel), ?_⟩
  replace h := zq_nx2 (q := 7) h rfl
  refine ⟨by decide +kernel, ?_⟩
  have h : List.drop 9 prog_2_method_1_code.data.toList = 0xb5 :: _ := rfl
  refine ⟨zq_k_u2 181 (fun z => .putfield z) 11 h rfl (zq_o_181 _) (by decide +kernel), ?_⟩
  replace h := zq_nx3 (q := 12) h rfl
  exact zq_k_n 177 h rfl (zq_o_177 _)
theorem d_Odds_new_0 : decode prog_2_method_1_code 0 = .ok (.aload_n 0, 1) := dd_Odds_new_0.1
theorem d_Odds_new_1 : decode prog_2_method_1_code 1 = .ok (.invokespecial 3, 3) := dd_Odds_new_0.2.1
theorem d_Odds_new_4 : decode prog_2_method_1_code 4 = .ok (.aload_n 0, 1) := dd_Odds_new_0.2.2.1
theorem d_Odds_new_5 : decode prog_2_method_1_code 5 = .ok (.bipush 10, 2) := dd_Odds_new_0.2.2.2.1
theorem d_Odds_new_7 : decode prog_2_method_1_code 7 = .ok (.newarray .long, 2) := dd_Odds_new_0.2.2.2.2.1
theorem d_Odds_new_9 : decode prog_2_method_1_code 9 = .ok (.putfield 11, 3) := dd_Odds_new_0.2.2.2.2.2.1
theorem d_Odds_new_12 : decode prog_2_method_1_code 12 = .ok (.return_, 1) := dd_Odds_new_0.2.2.2.2.2.2
def f_Odds_new_0  (a0 : Nat) (h : mH) : Option mH :=
  grd (¬ a0 = h.1) <|
  bd1 (mkn h 10 (.inl (3, (10, .inr (.inl (fun _ => 0)))))) fun h2 =>
  grd (h.1 < h2.1) <|
  bd1 (pV h2 a0 1 2 (.ref h.1)) fun h6 =>
  some h6
set_option maxRecDepth 20000 in
theorem t_Odds_new_0 {sc : Nat × (Nat → Int32)}  (a0 : Nat) (h : mH) (h' : mH) (hf : f_Odds_new_0  a0 h = some h') : G sc y_Odds_new prog_2_method_1_code 1 none 1 20 0 [(0, .ref a0)] [] h none h' := by
  unfold f_Odds_new_0 at hf
  refine g_aload_n (pc := 0) 0 d_Odds_new_0 rfl rfl ?_
  refine g_objInit (pc := 1) d_Odds_new_1 wd_267 wd_24 wd_25 (by decide) (Nat.le_of_ble_eq_true rfl) ?_
  refine g_aload_n (pc := 4) 0 d_Odds_new_4 rfl rfl ?_
  refine g_bipush (pc := 5) (10 : Int32) d_Odds_new_5 (by decide) ?_
  obtain ⟨g1, hf⟩ := grd_e hf
  obtain ⟨h2, e3, hf⟩ := bd1_e hf
  obtain ⟨g4, e5⟩ := mkn_e e3
  refine g_newa (pc := 7) rfl 3 10 .long (10, .inr (.inl (fun _ => 0))) wd_261 rfl (fun _ => rfl) (fun _ _ _ a b => Option.some.inj (a.symm.trans b)) (fun _ => rfl) (fun _ => rfl) (fun _ z => absurd z id) (by decide) (by decide) (by decide) d_Odds_new_7 g4 (okl_cons (okv_r (by omega)) (okl_nil)) (oks_cons (okv_r (by omega)) (oks_nil)) ?_
  rw [← e5]
  have h2_n : h2.1 = h.1 + 1 := by rw [e5]; rfl
  obtain ⟨g8, hf⟩ := grd_e hf
  obtain ⟨h6, e7, hf⟩ := bd1_e hf
  refine g_putF (pc := 9) (ci := 1) (kk := 2) ty_Odds tyok_Odds nm_Odds d_Odds_new_9 rfl in_Odds (by decide) wd_272 rfl rfl rfl (fun _ => rfl) (fun _ => rfl) (fun _ z => by cases z; omega) e7 ?_
  obtain rfl := ret1 hf
  exact g_vret (pc := 12) rfl d_Odds_new_12
def f_Odds_new (a0 : Nat) (h : mH) : Option mH := f_Odds_new_0 a0 h
theorem c_Odds_new {sc : Nat × (Nat → Int32)} {a0 : Nat} {h : mH} {h' : mH} (hf : f_Odds_new a0 h = some h') : MM sc y_Odds_new prog_2_method_1_code 1 none 1 20 [.ref a0] h none h' :=
  mm_of_G (by decide) (Nat.le_of_ble_eq_true rfl) (t_Odds_new_0 _ _ _ hf)
/-! Sheet init ()V -/
set_option maxRecDepth 100000 in
theorem dd_Sheet_new_0 : (decode prog_6_method_1_code 0 = .ok (.aload_n 0, 1)) ∧ (decode prog_6_method_1_code 1 = .ok (.invokespecial 3, 3)) ∧ (decode prog_6_method_1_code 4 = .ok (.aload_n 0, 1)) ∧ (decode prog_6_method_1_code 5 = .ok (.bipush (-4), 2)) ∧ (decode prog_6_method_1_code 7 = .ok (.putfield 9, 3)) ∧ (decode prog_6_method_1_code 10 = .ok (.aload_n 0, 1)) ∧ (decode prog_6_method_1_code 11 = .ok (.bipush 40, 2)) ∧ (decode prog_6_method_1_code 13 = .ok (.newarray .int, 2)) ∧ (decode prog_6_method_1_code 15 = .ok (.putfield 15, 3)) ∧ (decode prog_6_method_1_code 18 = .ok (.return_, 1)) := by
  have h : List.drop 0 prog_6_method_1_code.data.toList = 0x2a :: _ := rfl
  refine ⟨zq_k_n 42 h rfl (zq_o_42 _), ?_⟩
  replace h := zq_nx1 (q := 1) h rfl
  refine ⟨zq_k_u2 183 (fun z => .invokespecial z) 3 h rfl (zq_o_183 _) (by decide +kernel), ?_⟩
  replace h := zq_nx3 (q := 4) h rfl
  refine ⟨zq_k_n 42 h rfl (zq_o_42 _), ?_⟩
  replace h := zq_nx1 (q := 5) h rfl
  refine ⟨zq_k_s1 16 (fun z => .bipush z) (-4) h rfl (zq_o_16 _) (by decide +kernel), ?_⟩
  replace h := zq_nx2 (q := 7) h rfl
  refine ⟨zq_k_u2 181 (fun z => .putfield z) 9 h rfl (zq_o_181 _) (by decide +kernel), ?_⟩
  replace h := zq_nx3 (q := 10) h rfl
  refine ⟨zq_k_n 42 h rfl (zq_o_42 _), ?_⟩
  replace h := zq_nx1 (q := 11) h rfl
  refine ⟨zq_k_s1 16 (fun z => .bipush z) 40 h rfl (zq_o_16 _) (by decide +kernel), ?_⟩
  replace h := zq_nx2 (q := 13) h rfl
  refine ⟨by decide +kernel, ?_⟩
  have h : List.drop 15 prog_6_method_1_code.data.toList = 0xb5 :: _ := rfl
  refine ⟨zq_k_u2 181 (fun z => .putfield z) 15 h rfl (zq_o_181 _) (by decide +kernel), ?_⟩
  replace h := zq_nx3 (q := 18) h rfl
  exact zq_k_n 177 h rfl (zq_o_177 _)
theorem d_Sheet_new_0 : decode prog_6_method_1_code 0 = .ok (.aload_n 0, 1) := dd_Sheet_new_0.1
theorem d_Sheet_new_1 : decode prog_6_method_1_code 1 = .ok (.invokespecial 3, 3) := dd_Sheet_new_0.2.1
theorem d_Sheet_new_4 : decode prog_6_method_1_code 4 = .ok (.aload_n 0, 1) := dd_Sheet_new_0.2.2.1
theorem d_Sheet_new_5 : decode prog_6_method_1_code 5 = .ok (.bipush (-4), 2) := dd_Sheet_new_0.2.2.2.1
theorem d_Sheet_new_7 : decode prog_6_method_1_code 7 = .ok (.putfield 9, 3) := dd_Sheet_new_0.2.2.2.2.1
theorem d_Sheet_new_10 : decode prog_6_method_1_code 10 = .ok (.aload_n 0, 1) := dd_Sheet_new_0.2.2.2.2.2.1
theorem d_Sheet_new_11 : decode prog_6_method_1_code 11 = .ok (.bipush 40, 2) := dd_Sheet_new_0.2.2.2.2.2.2.1
theorem d_Sheet_new_13 : decode prog_6_method_1_code 13 = .ok (.newarray .int, 2) := dd_Sheet_new_0.2.2.2.2.2.2.2.1
theorem d_Sheet_new_15 : decode prog_6_method_1_code 15 = .ok (.putfield 15, 3) := dd_Sheet_new_0.2.2.2.2.2.2.2.2.1
theorem d_Sheet_new_18 : decode prog_6_method_1_code 18 = .ok (.return_, 1) := dd_Sheet_new_0.2.2.2.2.2.2.2.2.2
def f_Sheet_new_0  (a0 : Nat) (h : mH) : Option mH :=
  bd1 (pV h a0 5 0 (.int ((-4) : Int32))) fun h1 =>
  grd (¬ a0 = h1.1) <|
  bd1 (mkn h1 40 (.inl (0, (40, .inl (fun _ => 0))))) fun h4 =>
  grd (h1.1 < h4.1) <|
  bd1 (pV h4 a0 5 2 (.ref h1.1)) fun h8 =>
  some h8
set_option maxRecDepth 20000 in
theorem t_Sheet_new_0 {sc : Nat × (Nat → Int32)}  (a0 : Nat) (h : mH) (h' : mH) (hf : f_Sheet_new_0  a0 h = some h') : G sc y_Sheet_new prog_6_method_1_code 1 none 1 20 0 [(0, .ref a0)] [] h none h' := by
  unfold f_Sheet_new_0 at hf
  refine g_aload_n (pc := 0) 0 d_Sheet_new_0 rfl rfl ?_
  refine g_objInit (pc := 1) d_Sheet_new_1 wd_284 wd_24 wd_25 (by decide) (Nat.le_of_ble_eq_true rfl) ?_
  refine g_aload_n (pc := 4) 0 d_Sheet_new_4 rfl rfl ?_
  refine g_bipush (pc := 5) ((-4) : Int32) d_Sheet_new_5 (by decide) ?_
  obtain ⟨h1, e2, hf⟩ := bd1_e hf
  refine g_put (pc := 7) (ci := 5) (kk := 0) ty_Sheet tyok_Sheet nm_Sheet d_Sheet_new_7 rfl in_Sheet (by decide) wd_285 rfl (fun _ => rfl) (fun _ => rfl) (fun _ z => by cases z) e2 ?_
  refine g_aload_n (pc := 10) 0 d_Sheet_new_10 rfl rfl ?_
  refine g_bipush (pc := 11) (40 : Int32) d_Sheet_new_11 (by decide) ?_
  obtain ⟨g3, hf⟩ := grd_e hf
  obtain ⟨h4, e5, hf⟩ := bd1_e hf
  obtain ⟨g6, e7⟩ := mkn_e e5
  refine g_newa (pc := 13) rfl 0 40 .int (40, .inl (fun _ => 0)) wd_92 rfl (fun _ => rfl) (fun _ _ _ a b => Option.some.inj (a.symm.trans b)) (fun _ => rfl) (fun _ => rfl) (fun _ z => absurd z id) (by decide) (by decide) (by decide) d_Sheet_new_13 g6 (okl_cons (okv_r (by omega)) (okl_nil)) (oks_cons (okv_r (by omega)) (oks_nil)) ?_
  rw [← e7]
  have h4_n : h4.1 = h1.1 + 1 := by rw [e7]; rfl
  obtain ⟨g10, hf⟩ := grd_e hf
  obtain ⟨h8, e9, hf⟩ := bd1_e hf
  refine g_putF (pc := 15) (ci := 5) (kk := 2) ty_Sheet tyok_Sheet nm_Sheet d_Sheet_new_15 rfl in_Sheet (by decide) wd_288 rfl rfl rfl (fun _ => rfl) (fun _ => rfl) (fun _ z => by cases z; omega) e9 ?_
  obtain rfl := ret1 hf
  exact g_vret (pc := 18) rfl d_Sheet_new_18
def f_Sheet_new (a0 : Nat) (h : mH) : Option mH := f_Sheet_new_0 a0 h
theorem c_Sheet_new {sc : Nat × (Nat → Int32)} {a0 : Nat} {h : mH} {h' : mH} (hf : f_Sheet_new a0 h = some h') : MM sc y_Sheet_new prog_6_method_1_code 1 none 1 20 [.ref a0] h none h' :=
  mm_of_G (by decide) (Nat.le_of_ble_eq_true rfl) (t_Sheet_new_0 _ _ _ hf)
/-! Q init ()V -/
set_option maxRecDepth 100000 in
theorem dd_Q_new_0 : (decode prog_1_method_1_code 0 = .ok (.aload_n 0, 1)) ∧ (decode prog_1_method_1_code 1 = .ok (.invokespecial 1, 3)) ∧ (decode prog_1_method_1_code 4 = .ok (.aload_n 0, 1)) ∧ (decode prog_1_method_1_code 5 = .ok (.new 7, 3)) ∧ (decode prog_1_method_1_code 8 = .ok (.dup, 1)) ∧ (decode prog_1_method_1_code 9 = .ok (.invokespecial 9, 3)) ∧ (decode prog_1_method_1_code 12 = .ok (.putfield 10, 3)) ∧ (decode prog_1_method_1_code 15 = .ok (.aload_n 0, 1)) ∧ (decode prog_1_method_1_code 16 = .ok (.new 16, 3)) ∧ (decode prog_1_method_1_code 19 = .ok (.dup, 1)) ∧ (decode prog_1_method_1_code 20 = .ok (.invokespecial 18, 3)) ∧ (decode prog_1_method_1_code 23 = .ok (.putfield 19, 3)) ∧ (decode prog_1_method_1_code 26 = .ok (.aload_n 0, 1)) ∧ (decode prog_1_method_1_code 27 = .ok (.new 16, 3)) ∧ (decode prog_1_method_1_code 30 = .ok (.dup, 1)) ∧ (decode prog_1_method_1_code 31 = .ok (.invokespecial 18, 3)) ∧ (decode prog_1_method_1_code 34 = .ok (.putfield 23, 3)) ∧ (decode prog_1_method_1_code 37 = .ok (.aload_n 0, 1)) ∧ (decode prog_1_method_1_code 38 = .ok (.iconst 2, 1)) ∧ (decode prog_1_method_1_code 39 = .ok (.anewarray 16, 3)) ∧ (decode prog_1_method_1_code 42 = .ok (.putfield 26, 3)) ∧ (decode prog_1_method_1_code 45 = .ok (.aload_n 0, 1)) ∧ (decode prog_1_method_1_code 46 = .ok (.iconst 2, 1)) ∧ (decode prog_1_method_1_code 47 = .ok (.newarray .boolean, 2)) := by
  have h : List.drop 0 prog_1_method_1_code.data.toList = 0x2a :: _ := rfl
  refine ⟨zq_k_n 42 h rfl (zq_o_42 _), ?_⟩
  replace h := zq_nx1 (q := 1) h rfl
  refine ⟨zq_k_u2 183 (fun z => .invokespecial z) 1 h rfl (zq_o_183 _) (by decide +kernel), ?_⟩
  replace h := zq_nx3 (q := 4) h rfl
  refine ⟨zq_k_n 42 h rfl (zq_o_42 _), ?_⟩
  replace h := zq_nx1 (q := 5) h rfl
  refine ⟨zq_k_u2 187 (fun z => .new z) 7 h rfl (zq_o_187 _) (by decide +kernel), ?_⟩
  replace h := zq_nx3 (q := 8) h rfl
  refine ⟨zq_k_n 89 h rfl (zq_o_89 _), ?_⟩
  replace h := zq_nx1 (q := 9) h rfl
  refine ⟨zq_k_u2 183 (fun z => .invokespecial z) 9 h rfl (zq_o_183 _) (by decide +kernel), ?_⟩
  replace h := zq_nx3 (q := 12) h rfl
  refine ⟨zq_k_u2 181 (fun z => .putfield z) 10 h rfl (zq_o_181 _) (by decide +kernel), ?_⟩
  replace h := zq_nx3 (q := 15) h rfl
  refine ⟨zq_k_n 42 h rfl (zq_o_42 _), ?_⟩
  replace h := zq_nx1 (q := 16) h rfl
  refine ⟨zq_k_u2 187 (fun z => .new z) 16 h rfl (zq_o_187 _) (by decide +kernel), ?_⟩
  replace h := zq_nx3 (q := 19) h rfl
  refine ⟨zq_k_n 89 h rfl (zq_o_89 _), ?_⟩
  replace h := zq_nx1 (q := 20) h rfl
  refine ⟨zq_k_u2 183 (fun z => .invokespecial z) 18 h rfl (zq_o_183 _) (by decide +kernel), ?_⟩
  replace h := zq_nx3 (q := 23) h rfl
  refine ⟨zq_k_u2 181 (fun z => .putfield z) 19 h rfl (zq_o_181 _) (by decide +kernel), ?_⟩
  replace h := zq_nx3 (q := 26) h rfl
  refine ⟨zq_k_n 42 h rfl (zq_o_42 _), ?_⟩
  replace h := zq_nx1 (q := 27) h rfl
  refine ⟨zq_k_u2 187 (fun z => .new z) 16 h rfl (zq_o_187 _) (by decide +kernel), ?_⟩
  replace h := zq_nx3 (q := 30) h rfl
  refine ⟨zq_k_n 89 h rfl (zq_o_89 _), ?_⟩
  replace h := zq_nx1 (q := 31) h rfl
  refine ⟨zq_k_u2 183 (fun z => .invokespecial z) 18 h rfl (zq_o_183 _) (by decide +kernel), ?_⟩
  replace h := zq_nx3 (q := 34) h rfl
  refine ⟨zq_k_u2 181 (fun z => .putfield z) 23 h rfl (zq_o_181 _) (by decide +kernel), ?_⟩
  replace h := zq_nx3 (q := 37) h rfl
  refine ⟨zq_k_n 42 h rfl (zq_o_42 _), ?_⟩
  replace h := zq_nx1 (q := 38) h rfl
  refine ⟨zq_k_n 5 h rfl (zq_o_5 _), ?_⟩
  replace h := zq_nx1 (q := 39) h rfl
  refine ⟨zq_k_u2 189 (fun z => .anewarray z) 16 h rfl (zq_o_189 _) (by decide +kernel), ?_⟩
  replace h := zq_nx3 (q := 42) h rfl
  refine ⟨zq_k_u2 181 (fun z => .putfield z) 26 h rfl (zq_o_181 _) (by decide +kernel), ?_⟩
  replace h := zq_nx3 (q := 45) h rfl
  refine ⟨zq_k_n 42 h rfl (zq_o_42 _), ?_⟩
  replace h := zq_nx1 (q := 46) h rfl
  refine ⟨zq_k_n 5 h rfl (zq_o_5 _), ?_⟩
  replace h := zq_nx1 (q := 47) h rfl
  exact by decide +kernel
theorem d_Q_new_0 : decode prog_1_method_1_code 0 = .ok (.aload_n 0, 1) := dd_Q_new_0.1
theorem d_Q_new_1 : decode prog_1_method_1_code 1 = .ok (.invokespecial 1, 3) := dd_Q_new_0.2.1
theorem d_Q_new_4 : decode prog_1_method_1_code 4 = .ok (.aload_n 0, 1) := dd_Q_new_0.2.2.1
theorem d_Q_new_5 : decode prog_1_method_1_code 5 = .ok (.new 7, 3) := dd_Q_new_0.2.2.2.1
theorem d_Q_new_8 : decode prog_1_method_1_code 8 = .ok (.dup, 1) := dd_Q_new_0.2.2.2.2.1
theorem d_Q_new_9 : decode prog_1_method_1_code 9 = .ok (.invokespecial 9, 3) := dd_Q_new_0.2.2.2.2.2.1
theorem d_Q_new_12 : decode prog_1_method_1_code 12 = .ok (.putfield 10, 3) := dd_Q_new_0.2.2.2.2.2.2.1
theorem d_Q_new_15 : decode prog_1_method_1_code 15 = .ok (.aload_n 0, 1) := dd_Q_new_0.2.2.2.2.2.2.2.1
theorem d_Q_new_16 : decode prog_1_method_1_code 16 = .ok (.new 16, 3) := dd_Q_new_0.2.2.2.2.2.2.2.2.1
theorem d_Q_new_19 : decode prog_1_method_1_code 19 = .ok (.dup, 1) := dd_Q_new_0.2.2.2.2.2.2.2.2.2.1
theorem d_Q_new_20 : decode prog_1_method_1_code 20 = .ok (.invokespecial 18, 3) := dd_Q_new_0.2.2.2.2.2.2.2.2.2.2.1
theorem d_Q_new_23 : decode prog_1_method_1_code 23 = .ok (.putfield 19, 3) := dd_Q_new_0.2.2.2.2.2.2.2.2.2.2.2.1
theorem d_Q_new_26 : decode prog_1_method_1_code 26 = .ok (.aload_n 0, 1) := dd_Q_new_0.2.2.2.2.2.2.2.2.2.2.2.2.1
theorem d_Q_new_27 : decode prog_1_method_1_code 27 = .ok (.new 16, 3) := dd_Q_new_0.2.2.2.2.2.2.2.2.2.2.2.2.2.1
theorem d_Q_new_30 : decode prog_1_method_1_code 30 = .ok (.dup, 1) := dd_Q_new_0.2.2.2.2.2.2.2.2.2.2.2.2.2.2.1
theorem d_Q_new_31 : decode prog_1_method_1_code 31 = .ok (.invokespecial 18, 3) := dd_Q_new_0.2.2.2.2.2.2.2.2.2.2.2.2.2.2.2.1
theorem d_Q_new_34 : decode prog_1_method_1_code 34 = .ok (.putfield 23, 3) := dd_Q_new_0.2.2.2.2.2.2.2.2.2.2.2.2.2.2.2.2.1
theorem d_Q_new_37 : decode prog_1_method_1_code 37 = .ok (.aload_n 0, 1) := dd_Q_new_0.2.2.2.2.2.2.2.2.2.2.2.2.2.2.2.2.2.1
theorem d_Q_new_38 : decode prog_1_method_1_code 38 = .ok (.iconst 2, 1) := dd_Q_new_0.2.2.2.2.2.2.2.2.2.2.2.2.2.2.2.2.2.2.1
theorem d_Q_new_39 : decode prog_1_method_1_code 39 = .ok (.anewarray 16, 3) := dd_Q_new_0.2.2.2.2.2.2.2.2.2.2.2.2.2.2.2.2.2.2.2.1
theorem d_Q_new_42 : decode prog_1_method_1_code 42 = .ok (.putfield 26, 3) := dd_Q_new_0.2.2.2.2.2.2.2.2.2.2.2.2.2.2.2.2.2.2.2.2.1
theorem d_Q_new_45 : decode prog_1_method_1_code 45 = .ok (.aload_n 0, 1) := dd_Q_new_0.2.2.2.2.2.2.2.2.2.2.2.2.2.2.2.2.2.2.2.2.2.1
theorem d_Q_new_46 : decode prog_1_method_1_code 46 = .ok (.iconst 2, 1) := dd_Q_new_0.2.2.2.2.2.2.2.2.2.2.2.2.2.2.2.2.2.2.2.2.2.2.1
theorem d_Q_new_47 : decode prog_1_method_1_code 47 = .ok (.newarray .boolean, 2) := dd_Q_new_0.2.2.2.2.2.2.2.2.2.2.2.2.2.2.2.2.2.2.2.2.2.2.2
set_option maxRecDepth 100000 in
theorem dd_Q_new_49 : (decode prog_1_method_1_code 49 = .ok (.putfield 30, 3)) ∧ (decode prog_1_method_1_code 52 = .ok (.aload_n 0, 1)) ∧ (decode prog_1_method_1_code 53 = .ok (.iconst 4, 1)) ∧ (decode prog_1_method_1_code 54 = .ok (.anewarray 34, 3)) ∧ (decode prog_1_method_1_code 57 = .ok (.putfield 36, 3)) ∧ (decode prog_1_method_1_code 60 = .ok (.aload_n 0, 1)) ∧ (decode prog_1_method_1_code 61 = .ok (.new 40, 3)) ∧ (decode prog_1_method_1_code 64 = .ok (.dup, 1)) ∧ (decode prog_1_method_1_code 65 = .ok (.invokespecial 42, 3)) ∧ (decode prog_1_method_1_code 68 = .ok (.putfield 43, 3)) ∧ (decode prog_1_method_1_code 71 = .ok (.aload_n 0, 1)) ∧ (decode prog_1_method_1_code 72 = .ok (.new 47, 3)) ∧ (decode prog_1_method_1_code 75 = .ok (.dup, 1)) ∧ (decode prog_1_method_1_code 76 = .ok (.invokespecial 49, 3)) ∧ (decode prog_1_method_1_code 79 = .ok (.putfield 50, 3)) ∧ (decode prog_1_method_1_code 82 = .ok (.aload_n 0, 1)) ∧ (decode prog_1_method_1_code 83 = .ok (.new 54, 3)) ∧ (decode prog_1_method_1_code 86 = .ok (.dup, 1)) ∧ (decode prog_1_method_1_code 87 = .ok (.invokespecial 56, 3)) ∧ (decode prog_1_method_1_code 90 = .ok (.putfield 57, 3)) ∧ (decode prog_1_method_1_code 93 = .ok (.iconst 0, 1)) ∧ (decode prog_1_method_1_code 94 = .ok (.istore_n 1, 1)) ∧ (decode prog_1_method_1_code 95 = .ok (.iload_n 1, 1)) ∧ (decode prog_1_method_1_code 96 = .ok (.iconst 2, 1)) := by
  have h : List.drop 49 prog_1_method_1_code.data.toList = 0xb5 :: _ := rfl
  refine ⟨zq_k_u2 181 (fun z => .putfield z) 30 h rfl (zq_o_181 _) (by decide +kernel), ?_⟩
  replace h := zq_nx3 (q := 52) h rfl
  refine ⟨zq_k_n 42 h rfl (zq_o_42 _), ?_⟩
  replace h := zq_nx1 (q := 53) h rfl
  refine ⟨zq_k_n 7 h rfl (zq_o_7 _), ?_⟩
  replace h := zq_nx1 (q := 54) h rfl
  refine ⟨zq_k_u2 189 (fun z => .anewarray z) 34 h rfl (zq_o_189 _) (by decide +kernel), ?_⟩
  replace h := zq_nx3 (q := 57) h rfl
  refine ⟨zq_k_u2 181 (fun z => .putfield z) 36 h rfl (zq_o_181 _) (by decide +kernel), ?_⟩
  replace h := zq_nx3 (q := 60) h rfl
  refine ⟨zq_k_n 42 h rfl (zq_o_42 _), ?_⟩
  replace h := zq_nx1 (q := 61) h rfl
  refine ⟨zq_k_u2 187 (fun z => .new z) 40 h rfl (zq_o_187 _) (by decide +kernel), ?_⟩
  replace h := zq_nx3 (q := 64) h rfl
  refine ⟨zq_k_n 89 h rfl (zq_o_89 _), ?_⟩
  replace h := zq_nx1 (q := 65) h rfl
  refine ⟨zq_k_u2 183 (fun z => .invokespecial z) 42 h rfl (zq_o_183 _) (by decide +kernel), ?_⟩
  replace h := zq_nx3 (q := 68) h rfl
  refine ⟨zq_k_u2 181 (fun z => .putfield z) 43 h rfl (zq_o_181 _) (by decide +kernel), ?_⟩
  replace h := zq_nx3 (q := 71) h rfl
  refine ⟨zq_k_n 42 h rfl (zq_o_42 _), ?_⟩
  replace h := zq_nx1 (q := 72) h rfl
  refine ⟨zq_k_u2 187 (fun z => .new z) 47 h rfl (zq_o_187 _) (by decide +kernel), ?_⟩
  replace h := zq_nx3 (q := 75) h rfl
  refine ⟨zq_k_n 89 h rfl (zq_o_89 _), ?_⟩
  replace h := zq_nx1 (q := 76) h rfl
  refine ⟨zq_k_u2 183 (fun z => .invokespecial z) 49 h rfl (zq_o_183 _) (by decide +kernel), ?_⟩
  replace h := zq_nx3 (q := 79) h rfl
  refine ⟨zq_k_u2 181 (fun z => .putfield z) 50 h rfl (zq_o_181 _) (by decide +kernel), ?_⟩
  replace h := zq_nx3 (q := 82) h rfl
  refine ⟨zq_k_n 42 h rfl (zq_o_42 _), ?_⟩
  replace h := zq_nx1 (q := 83) h rfl
  refine ⟨zq_k_u2 187 (fun z => .new z) 54 h rfl (zq_o_187 _) (by decide +kernel), ?_⟩
  replace h := zq_nx3 (q := 86) h rfl
  refine ⟨zq_k_n 89 h rfl (zq_o_89 _), ?_⟩
  replace h := zq_nx1 (q := 87) h rfl
  refine ⟨zq_k_u2 183 (fun z => .invokespecial z) 56 h rfl (zq_o_183 _) (by decide +kernel), ?_⟩
  replace h := zq_nx3 (q := 90) h rfl
  refine ⟨zq_k_u2 181 (fun z => .putfield z) 57 h rfl (zq_o_181 _) (by decide +kernel), ?_⟩
  replace h := zq_nx3 (q := 93) h rfl
  refine ⟨zq_k_n 3 h rfl (zq_o_3 _), ?_⟩
  replace h := zq_nx1 (q := 94) h rfl
  refine ⟨zq_k_n 60 h rfl (zq_o_60 _), ?_⟩
  replace h := zq_nx1 (q := 95) h rfl
  refine ⟨zq_k_n 27 h rfl (zq_o_27 _), ?_⟩
  replace h := zq_nx1 (q := 96) h rfl
  exact zq_k_n 5 h rfl (zq_o_5 _)
theorem d_Q_new_49 : decode prog_1_method_1_code 49 = .ok (.putfield 30, 3) := dd_Q_new_49.1
theorem d_Q_new_52 : decode prog_1_method_1_code 52 = .ok (.aload_n 0, 1) := dd_Q_new_49.2.1
theorem d_Q_new_53 : decode prog_1_method_1_code 53 = .ok (.iconst 4, 1) := dd_Q_new_49.2.2.1
theorem d_Q_new_54 : decode prog_1_method_1_code 54 = .ok (.anewarray 34, 3) := dd_Q_new_49.2.2.2.1
theorem d_Q_new_57 : decode prog_1_method_1_code 57 = .ok (.putfield 36, 3) := dd_Q_new_49.2.2.2.2.1
theorem d_Q_new_60 : decode prog_1_method_1_code 60 = .ok (.aload_n 0, 1) := dd_Q_new_49.2.2.2.2.2.1
theorem d_Q_new_61 : decode prog_1_method_1_code 61 = .ok (.new 40, 3) := dd_Q_new_49.2.2.2.2.2.2.1
theorem d_Q_new_64 : decode prog_1_method_1_code 64 = .ok (.dup, 1) := dd_Q_new_49.2.2.2.2.2.2.2.1
theorem d_Q_new_65 : decode prog_1_method_1_code 65 = .ok (.invokespecial 42, 3) := dd_Q_new_49.2.2.2.2.2.2.2.2.1
theorem d_Q_new_68 : decode prog_1_method_1_code 68 = .ok (.putfield 43, 3) := dd_Q_new_49.2.2.2.2.2.2.2.2.2.1
theorem d_Q_new_71 : decode prog_1_method_1_code 71 = .ok (.aload_n 0, 1) := dd_Q_new_49.2.2.2.2.2.2.2.2.2.2.1
theorem d_Q_new_72 : decode prog_1_method_1_code 72 = .ok (.new 47, 3) := dd_Q_new_49.2.2.2.2.2.2.2.2.2.2.2.1
theorem d_Q_new_75 : decode prog_1_method_1_code 75 = .ok (.dup, 1) := dd_Q_new_49.2.2.2.2.2.2.2.2.2.2.2.2.1
theorem d_Q_new_76 : decode prog_1_method_1_code 76 = .ok (.invokespecial 49, 3) := dd_Q_new_49.2.2.2.2.2.2.2.2.2.2.2.2.2.1
theorem d_Q_new_79 : decode prog_1_method_1_code 79 = .ok (.putfield 50, 3) := dd_Q_new_49.2.2.2.2.2.2.2.2.2.2.2.2.2.2.1
theorem d_Q_new_82 : decode prog_1_method_1_code 82 = .ok (.aload_n 0, 1) := dd_Q_new_49.2.2.2.2.2.2.2.2.2.2.2.2.2.2.2.1
theorem d_Q_new_83 : decode prog_1_method_1_code 83 = .ok (.new 54, 3) := dd_Q_new_49.2.2.2.2.2.2.2.2.2.2.2.2.2.2.2.2.1
theorem d_Q_new_86 : decode prog_1_method_1_code 86 = .ok (.dup, 1) := dd_Q_new_49.2.2.2.2.2.2.2.2.2.2.2.2.2.2.2.2.2.1
theorem d_Q_new_87 : decode prog_1_method_1_code 87 = .ok (.invokespecial 56, 3) := dd_Q_new_49.2.2.2.2.2.2.2.2.2.2.2.2.2.2.2.2.2.2.1
theorem d_Q_new_90 : decode prog_1_method_1_code 90 = .ok (.putfield 57, 3) := dd_Q_new_49.2.2.2.2.2.2.2.2.2.2.2.2.2.2.2.2.2.2.2.1
theorem d_Q_new_93 : decode prog_1_method_1_code 93 = .ok (.iconst 0, 1) := dd_Q_new_49.2.2.2.2.2.2.2.2.2.2.2.2.2.2.2.2.2.2.2.2.1
theorem d_Q_new_94 : decode prog_1_method_1_code 94 = .ok (.istore_n 1, 1) := dd_Q_new_49.2.2.2.2.2.2.2.2.2.2.2.2.2.2.2.2.2.2.2.2.2.1
theorem d_Q_new_95 : decode prog_1_method_1_code 95 = .ok (.iload_n 1, 1) := dd_Q_new_49.2.2.2.2.2.2.2.2.2.2.2.2.2.2.2.2.2.2.2.2.2.2.1
theorem d_Q_new_96 : decode prog_1_method_1_code 96 = .ok (.iconst 2, 1) := dd_Q_new_49.2.2.2.2.2.2.2.2.2.2.2.2.2.2.2.2.2.2.2.2.2.2.2
set_option maxRecDepth 100000 in
theorem dd_Q_new_97 : (decode prog_1_method_1_code 97 = .ok (.if_icmp .ge 22, 3)) ∧ (decode prog_1_method_1_code 100 = .ok (.aload_n 0, 1)) ∧ (decode prog_1_method_1_code 101 = .ok (.getfield 26, 3)) ∧ (decode prog_1_method_1_code 104 = .ok (.iload_n 1, 1)) ∧ (decode prog_1_method_1_code 105 = .ok (.new 16, 3)) ∧ (decode prog_1_method_1_code 108 = .ok (.dup, 1)) ∧ (decode prog_1_method_1_code 109 = .ok (.invokespecial 18, 3)) ∧ (decode prog_1_method_1_code 112 = .ok (.aastore, 1)) ∧ (decode prog_1_method_1_code 113 = .ok (.iinc 1 1, 3)) ∧ (decode prog_1_method_1_code 116 = .ok (.goto (-21), 3)) ∧ (decode prog_1_method_1_code 119 = .ok (.iconst 0, 1)) ∧ (decode prog_1_method_1_code 120 = .ok (.istore_n 1, 1)) ∧ (decode prog_1_method_1_code 121 = .ok (.iload_n 1, 1)) ∧ (decode prog_1_method_1_code 122 = .ok (.iconst 4, 1)) ∧ (decode prog_1_method_1_code 123 = .ok (.if_icmp .ge 22, 3)) ∧ (decode prog_1_method_1_code 126 = .ok (.aload_n 0, 1)) ∧ (decode prog_1_method_1_code 127 = .ok (.getfield 36, 3)) ∧ (decode prog_1_method_1_code 130 = .ok (.iload_n 1, 1)) ∧ (decode prog_1_method_1_code 131 = .ok (.new 34, 3)) ∧ (decode prog_1_method_1_code 134 = .ok (.dup, 1)) ∧ (decode prog_1_method_1_code 135 = .ok (.invokespecial 61, 3)) ∧ (decode prog_1_method_1_code 138 = .ok (.aastore, 1)) ∧ (decode prog_1_method_1_code 139 = .ok (.iinc 1 1, 3)) ∧ (decode prog_1_method_1_code 142 = .ok (.goto (-21), 3)) := by
  have h : List.drop 97 prog_1_method_1_code.data.toList = 0xa2 :: _ := rfl
  refine ⟨zq_k_s2 162 (fun z => .if_icmp .ge z) 22 h rfl (zq_o_162 _) (by decide +kernel), ?_⟩
  replace h := zq_nx3 (q := 100) h rfl
  refine ⟨zq_k_n 42 h rfl (zq_o_42 _), ?_⟩
  replace h := zq_nx1 (q := 101) h rfl
  refine ⟨zq_k_u2 180 (fun z => .getfield z) 26 h rfl (zq_o_180 _) (by decide +kernel), ?_⟩
  replace h := zq_nx3 (q := 104) h rfl
  refine ⟨zq_k_n 27 h rfl (zq_o_27 _), ?_⟩
  replace h := zq_nx1 (q := 105) h rfl
  refine ⟨zq_k_u2 187 (fun z => .new z) 16 h rfl (zq_o_187 _) (by decide +kernel), ?_⟩
  replace h := zq_nx3 (q := 108) h rfl
  refine ⟨zq_k_n 89 h rfl (zq_o_89 _), ?_⟩
  replace h := zq_nx1 (q := 109) h rfl
  refine ⟨zq_k_u2 183 (fun z => .invokespecial z) 18 h rfl (zq_o_183 _) (by decide +kernel), ?_⟩
  replace h := zq_nx3 (q := 112) h rfl
  refine ⟨zq_k_n 83 h rfl (zq_o_83 _), ?_⟩
  replace h := zq_nx1 (q := 113) h rfl
  refine ⟨zq_k_iinc 1 1 h rfl (zq_o_132 _) (by decide +kernel) (by decide +kernel), ?_⟩
  replace h := zq_nx3 (q := 116) h rfl
  refine ⟨zq_k_s2 167 (fun z => .goto z) (-21) h rfl (zq_o_167 _) (by decide +kernel), ?_⟩
  replace h := zq_nx3 (q := 119) h rfl
  refine ⟨zq_k_n 3 h rfl (zq_o_3 _), ?_⟩
  replace h := zq_nx1 (q := 120) h rfl
  refine ⟨zq_k_n 60 h rfl (zq_o_60 _), ?_⟩
  replace h := zq_nx1 (q := 121) h rfl
  refine ⟨zq_k_n 27 h rfl (zq_o_27 _), ?_⟩
  replace h := zq_nx1 (q := 122) h rfl
  refine ⟨zq_k_n 7 h rfl (zq_o_7 _), ?_⟩
  replace h := zq_nx1 (q := 123) h rfl
  refine ⟨zq_k_s2 162 (fun z => .if_icmp .ge z) 22 h rfl (zq_o_162 _) (by decide +kernel), ?_⟩
  replace h := zq_nx3 (q := 126) h rfl
  refine ⟨zq_k_n 42 h rfl (zq_o_42 _), ?_⟩
  replace h := zq_nx1 (q := 127) h rfl
  refine ⟨zq_k_u2 180 (fun z => .getfield z) 36 h rfl (zq_o_180 _) (by decide +kernel), ?_⟩
  replace h := zq_nx3 (q := 130) h rfl
  refine ⟨zq_k_n 27 h rfl (zq_o_27 _), ?_⟩
  replace h := zq_nx1 (q := 131) h rfl
  refine ⟨zq_k_u2 187 (fun z => .new z) 34 h rfl (zq_o_187 _) (by decide +kernel), ?_⟩
  replace h := zq_nx3 (q := 134) h rfl
  refine ⟨zq_k_n 89 h rfl (zq_o_89 _), ?_⟩
  replace h := zq_nx1 (q := 135) h rfl
  refine ⟨zq_k_u2 183 (fun z => .invokespecial z) 61 h rfl (zq_o_183 _) (by decide +kernel), ?_⟩
  replace h := zq_nx3 (q := 138) h rfl
  refine ⟨zq_k_n 83 h rfl (zq_o_83 _), ?_⟩
  replace h := zq_nx1 (q := 139) h rfl
  refine ⟨zq_k_iinc 1 1 h rfl (zq_o_132 _) (by decide +kernel) (by decide +kernel), ?_⟩
  replace h := zq_nx3 (q := 142) h rfl
  exact zq_k_s2 167 (fun z => .goto z) (-21) h rfl (zq_o_167 _) (by decide +kernel)
theorem d_Q_new_97 : decode prog_1_method_1_code 97 = .ok (.if_icmp .ge 22, 3) := dd_Q_new_97.1
theorem d_Q_new_100 : decode prog_1_method_1_code 100 = .ok (.aload_n 0, 1) := dd_Q_new_97.2.1
theorem d_Q_new_101 : decode prog_1_method_1_code 101 = .ok (.getfield 26, 3) := dd_Q_new_97.2.2.1
theorem d_Q_new_104 : decode prog_1_method_1_code 104 = .ok (.iload_n 1, 1) := dd_Q_new_97.2.2.2.1
theorem d_Q_new_105 : decode prog_1_method_1_code 105 = .ok (.new 16, 3) := dd_Q_new_97.2.2.2.2.1
theorem d_Q_new_108 : decode prog_1_method_1_code 108 = .ok (.dup, 1) := dd_Q_new_97.2.2.2.2.2.1
theorem d_Q_new_109 : decode prog_1_method_1_code 109 = .ok (.invokespecial 18, 3) := dd_Q_new_97.2.2.2.2.2.2.1
theorem d_Q_new_112 : decode prog_1_method_1_code 112 = .ok (.aastore, 1) := dd_Q_new_97.2.2.2.2.2.2.2.1
theorem d_Q_new_113 : decode prog_1_method_1_code 113 = .ok (.iinc 1 1, 3) := dd_Q_new_97.2.2.2.2.2.2.2.2.1
theorem d_Q_new_116 : decode prog_1_method_1_code 116 = .ok (.goto (-21), 3) := dd_Q_new_97.2.2.2.2.2.2.2.2.2.1
theorem d_Q_new_119 : decode prog_1_method_1_code 119 = .ok (.iconst 0, 1) := dd_Q_new_97.2.2.2.2.2.2.2.2.2.2.1
theorem d_Q_new_120 : decode prog_1_method_1_code 120 = .ok (.istore_n 1, 1) := dd_Q_new_97.2.2.2.2.2.2.2.2.2.2.2.1
theorem d_Q_new_121 : decode prog_1_method_1_code 121 = .ok (.iload_n 1, 1) := dd_Q_new_97.2.2.2.2.2.2.2.2.2.2.2.2.1
theorem d_Q_new_122 : decode prog_1_method_1_code 122 = .ok (.iconst 4, 1) := dd_Q_new_97.2.2.2.2.2.2.2.2.2.2.2.2.2.1
theorem d_Q_new_123 : decode prog_1_method_1_code 123 = .ok (.if_icmp .ge 22, 3) := dd_Q_new_97.2.2.2.2.2.2.2.2.2.2.2.2.2.2.1
theorem d_Q_new_126 : decode prog_1_method_1_code 126 = .ok (.aload_n 0, 1) := dd_Q_new_97.2.2.2.2.2.2.2.2.2.2.2.2.2.2.2.1
theorem d_Q_new_127 : decode prog_1_method_1_code 127 = .ok (.getfield 36, 3) := dd_Q_new_97.2.2.2.2.2.2.2.2.2.2.2.2.2.2.2.2.1
theorem d_Q_new_130 : decode prog_1_method_1_code 130 = .ok (.iload_n 1, 1) := dd_Q_new_97.2.2.2.2.2.2.2.2.2.2.2.2.2.2.2.2.2.1
theorem d_Q_new_131 : decode prog_1_method_1_code 131 = .ok (.new 34, 3) := dd_Q_new_97.2.2.2.2.2.2.2.2.2.2.2.2.2.2.2.2.2.2.1
theorem d_Q_new_134 : decode prog_1_method_1_code 134 = .ok (.dup, 1) := dd_Q_new_97.2.2.2.2.2.2.2.2.2.2.2.2.2.2.2.2.2.2.2.1
theorem d_Q_new_135 : decode prog_1_method_1_code 135 = .ok (.invokespecial 61, 3) := dd_Q_new_97.2.2.2.2.2.2.2.2.2.2.2.2.2.2.2.2.2.2.2.2.1
theorem d_Q_new_138 : decode prog_1_method_1_code 138 = .ok (.aastore, 1) := dd_Q_new_97.2.2.2.2.2.2.2.2.2.2.2.2.2.2.2.2.2.2.2.2.2.1
theorem d_Q_new_139 : decode prog_1_method_1_code 139 = .ok (.iinc 1 1, 3) := dd_Q_new_97.2.2.2.2.2.2.2.2.2.2.2.2.2.2.2.2.2.2.2.2.2.2.1
theorem d_Q_new_142 : decode prog_1_method_1_code 142 = .ok (.goto (-21), 3) := dd_Q_new_97.2.2.2.2.2.2.2.2.2.2.2.2.2.2.2.2.2.2.2.2.2.2.2
set_option maxRecDepth 100000 in
theorem dd_Q_new_145 : decode prog_1_method_1_code 145 = .ok (.return_, 1) := by
  have h : List.drop 145 prog_1_method_1_code.data.toList = 0xb1 :: _ := rfl
  exact zq_k_n 177 h rfl (zq_o_177 _)
theorem d_Q_new_145 : decode prog_1_method_1_code 145 = .ok (.return_, 1) := dd_Q_new_145
def f_Q_new_121b (rec121 : Nat → Int32 → mH → Option mH) (b0 : Nat) (b1 : Int32) (h : mH) : Option mH :=
  if (4 : Int32) ≤ b1 then
    some h
  else
    bd1 (gR h b0 0 5) fun x113 =>
    grd (¬ b0 = h.1 ∧ ¬ x113 = h.1) <|
    bd1 (mkn h 3 (.inr (5, [.int 0, .int 0, .null]))) fun h117 =>
    grd (b0 < h117.1 ∧ h.1 < h117.1 ∧ x113 < h117.1) <|
    bd1 (f_Sheet_new h.1 h117) fun h124 =>
    bd1 (sR h124 5 x113 5 b1 h.1) fun h126 =>
    rec121 b0 (b1 + (1 : Int32)) h126
set_option maxRecDepth 20000 in
theorem t_Q_new_121b {sc : Nat × (Nat → Int32)} (rec121 : Nat → Int32 → mH → Option mH) (hrec121 : ∀ (b0 : Nat) (b1 : Int32) (h : mH) (h' : mH), rec121 b0 b1 h = some h' → G sc y_Q_new prog_1_method_1_code 2 none 3 60 121 [(0, .ref b0), (1, .int b1)] [] h none h') (b0 : Nat) (b1 : Int32) (h : mH) (h' : mH) (hf : f_Q_new_121b rec121 b0 b1 h = some h') : G sc y_Q_new prog_1_method_1_code 2 none 3 60 121 [(0, .ref b0), (1, .int b1)] [] h none h' := by
  unfold f_Q_new_121b at hf
  refine g_iload_n (pc := 121) 1 d_Q_new_121 rfl rfl ?_
  refine g_iconst (pc := 122) (4 : Int32) d_Q_new_122 (by decide) ?_
  refine g_icmpge (pc := 123) 145 d_Q_new_123 (by decide) (fun c128 => ?_) (fun c128 => ?_)
  · replace hf := (if_pos c128).symm.trans hf
    obtain rfl := ret1 hf
    exact g_vret (pc := 145) rfl d_Q_new_145
  · replace hf := (if_neg c128).symm.trans hf
    refine g_aload_n (pc := 126) 0 d_Q_new_126 rfl rfl ?_
    obtain ⟨x113, e114, hf⟩ := bd1_e hf
    refine g_get (pc := 127) (ci := 0) (kk := 5) d_Q_new_127 rfl in_Q (by decide) wd_301 (gR_spec e114) ?_
    refine g_iload_n (pc := 130) 1 d_Q_new_130 rfl rfl ?_
    obtain ⟨⟨g115, g116⟩, hf⟩ := grd_e hf
    obtain ⟨h117, e118, hf⟩ := bd1_e hf
    obtain ⟨g119, e120⟩ := mkn_e e118
    refine g_new (pc := 131) (ci := 5) rfl [.int 0, .int 0, .null] ty_Sheet tyok_Sheet d_Q_new_131 rfl in_Sheet wd_196 wd_280 wd_8 (by decide) (by simp) g119 (okl_cons (okv_r (by omega)) (okl_cons (fun _ z => by cases z) (okl_nil))) (oks_cons (fun _ z => by cases z) (oks_cons (okv_r (by omega)) (oks_nil))) ?_
    rw [← e120]
    have h117_n : h117.1 = h.1 + 1 := by rw [e120]; rfl
    refine g_dup (pc := 134) d_Q_new_134 rfl ?_
    obtain ⟨⟨g121, g122, g123⟩, hf⟩ := grd_e hf
    obtain ⟨h124, e125, hf⟩ := bd1_e hf
    refine g_callIN (pc := 135) "QuotaLaws" [] (site_of si_Sheet_new (by decide) (by decide)) rfl wd_281 wd_282 d_Q_new_135 (Nat.le_of_ble_eq_true rfl) (fun _ => rfl) (fun _ => (okl_cons (okv_r (by omega)) (okl_cons (fun _ z => by cases z) (okl_nil)))) (fun _ => (oks_cons (okv_r (by omega)) (oks_cons (fun _ z => by cases z) (oks_cons (okv_r (by omega)) (oks_nil))))) (c_Sheet_new e125) rfl ?_
    refine g_st [.ref h.1, .int b1, .ref x113] rfl ?_
    obtain ⟨h126, e127, hf⟩ := bd1_e hf
    refine g_aast (pc := 138) d_Q_new_138 (ci := 5) rfl (fun _ => rfl) e127 ?_
    refine g_iinc (pc := 139) 1 (b1 + (1 : Int32)) [(1, .int (b1 + (1 : Int32))), (0, .ref b0)] d_Q_new_139 rfl rfl (Nat.le_of_ble_eq_true rfl) rfl ?_
    refine g_goto (pc := 142) 121 d_Q_new_142 (by decide) ?_
    refine g_lv [1, 0] rfl ?_
    exact hrec121 _ _ _ _  hf
def f_Q_new_121  : Nat → Nat → Int32 → mH → Option mH
  | 0 => fun _ _ _ => none
  | n + 1 => f_Q_new_121b  (f_Q_new_121  n)
theorem t_Q_new_121 {sc : Nat × (Nat → Int32)}  : ∀ (n : Nat) (b0 : Nat) (b1 : Int32) (h : mH) (h' : mH) (hf : f_Q_new_121  n b0 b1 h = some h'), G sc y_Q_new prog_1_method_1_code 2 none 3 60 121 [(0, .ref b0), (1, .int b1)] [] h none h'
  | 0, _, _, _, _, hf => by cases hf
  | n + 1, _, _, _, _, hf => t_Q_new_121b  (f_Q_new_121  n) (t_Q_new_121  n) _ _ _ _ hf
def f_Q_new_95b (rec95 : Nat → Int32 → mH → Option mH) (b0 : Nat) (b1 : Int32) (h : mH) : Option mH :=
  if (2 : Int32) ≤ b1 then
    f_Q_new_121  FU b0 (0 : Int32) h
  else
    bd1 (gR h b0 0 3) fun x97 =>
    grd (¬ b0 = h.1 ∧ ¬ x97 = h.1) <|
    bd1 (mkn h 19 (.inr (4, [.int 0, .int 0, .int 0, .int 0, .int 0, .int 0, .null, .null, .null, .null, .null, .null, .null, .null, .null, .null, .null, .null, .null]))) fun h101 =>
    grd (b0 < h101.1 ∧ h.1 < h101.1 ∧ x97 < h101.1) <|
    bd1 (f_Realm_new h.1 h101) fun h108 =>
    bd1 (sR h108 4 x97 4 b1 h.1) fun h110 =>
    rec95 b0 (b1 + (1 : Int32)) h110
set_option maxRecDepth 20000 in
theorem t_Q_new_95b {sc : Nat × (Nat → Int32)} (rec95 : Nat → Int32 → mH → Option mH) (hrec95 : ∀ (b0 : Nat) (b1 : Int32) (h : mH) (h' : mH), rec95 b0 b1 h = some h' → G sc y_Q_new prog_1_method_1_code 2 none 3 60 95 [(0, .ref b0), (1, .int b1)] [] h none h') (b0 : Nat) (b1 : Int32) (h : mH) (h' : mH) (hf : f_Q_new_95b rec95 b0 b1 h = some h') : G sc y_Q_new prog_1_method_1_code 2 none 3 60 95 [(0, .ref b0), (1, .int b1)] [] h none h' := by
  unfold f_Q_new_95b at hf
  refine g_iload_n (pc := 95) 1 d_Q_new_95 rfl rfl ?_
  refine g_iconst (pc := 96) (2 : Int32) d_Q_new_96 (by decide) ?_
  refine g_icmpge (pc := 97) 119 d_Q_new_97 (by decide) (fun c112 => ?_) (fun c112 => ?_)
  · replace hf := (if_pos c112).symm.trans hf
    refine g_iconst (pc := 119) (0 : Int32) d_Q_new_119 (by decide) ?_
    refine g_istore_n (pc := 120) [(1, .int (0 : Int32)), (0, .ref b0)] d_Q_new_120 rfl (Nat.le_of_ble_eq_true rfl) rfl ?_
    refine g_lv [1, 0] rfl ?_
    exact t_Q_new_121  FU _ _ _ _  hf
  · replace hf := (if_neg c112).symm.trans hf
    refine g_aload_n (pc := 100) 0 d_Q_new_100 rfl rfl ?_
    obtain ⟨x97, e98, hf⟩ := bd1_e hf
    refine g_get (pc := 101) (ci := 0) (kk := 3) d_Q_new_101 rfl in_Q (by decide) wd_299 (gR_spec e98) ?_
    refine g_iload_n (pc := 104) 1 d_Q_new_104 rfl rfl ?_
    obtain ⟨⟨g99, g100⟩, hf⟩ := grd_e hf
    obtain ⟨h101, e102, hf⟩ := bd1_e hf
    obtain ⟨g103, e104⟩ := mkn_e e102
    refine g_new (pc := 105) (ci := 4) rfl [.int 0, .int 0, .int 0, .int 0, .int 0, .int 0, .null, .null, .null, .null, .null, .null, .null, .null, .null, .null, .null, .null, .null] ty_Realm tyok_Realm d_Q_new_105 rfl in_Realm wd_65 wd_66 wd_3 (by decide) (by simp) g103 (okl_cons (okv_r (by omega)) (okl_cons (fun _ z => by cases z) (okl_nil))) (oks_cons (fun _ z => by cases z) (oks_cons (okv_r (by omega)) (oks_nil))) ?_
    rw [← e104]
    have h101_n : h101.1 = h.1 + 1 := by rw [e104]; rfl
    refine g_dup (pc := 108) d_Q_new_108 rfl ?_
    obtain ⟨⟨g105, g106, g107⟩, hf⟩ := grd_e hf
    obtain ⟨h108, e109, hf⟩ := bd1_e hf
    refine g_callIN (pc := 109) "QuotaLaws" [] (site_of si_Realm_new (by decide) (by decide)) rfl wd_67 wd_68 d_Q_new_109 (Nat.le_of_ble_eq_true rfl) (fun _ => rfl) (fun _ => (okl_cons (okv_r (by omega)) (okl_cons (fun _ z => by cases z) (okl_nil)))) (fun _ => (oks_cons (okv_r (by omega)) (oks_cons (fun _ z => by cases z) (oks_cons (okv_r (by omega)) (oks_nil))))) (c_Realm_new e109) rfl ?_
    refine g_st [.ref h.1, .int b1, .ref x97] rfl ?_
    obtain ⟨h110, e111, hf⟩ := bd1_e hf
    refine g_aast (pc := 112) d_Q_new_112 (ci := 4) rfl (fun _ => rfl) e111 ?_
    refine g_iinc (pc := 113) 1 (b1 + (1 : Int32)) [(1, .int (b1 + (1 : Int32))), (0, .ref b0)] d_Q_new_113 rfl rfl (Nat.le_of_ble_eq_true rfl) rfl ?_
    refine g_goto (pc := 116) 95 d_Q_new_116 (by decide) ?_
    refine g_lv [1, 0] rfl ?_
    exact hrec95 _ _ _ _  hf
def f_Q_new_95  : Nat → Nat → Int32 → mH → Option mH
  | 0 => fun _ _ _ => none
  | n + 1 => f_Q_new_95b  (f_Q_new_95  n)
theorem t_Q_new_95 {sc : Nat × (Nat → Int32)}  : ∀ (n : Nat) (b0 : Nat) (b1 : Int32) (h : mH) (h' : mH) (hf : f_Q_new_95  n b0 b1 h = some h'), G sc y_Q_new prog_1_method_1_code 2 none 3 60 95 [(0, .ref b0), (1, .int b1)] [] h none h'
  | 0, _, _, _, _, hf => by cases hf
  | n + 1, _, _, _, _, hf => t_Q_new_95b  (f_Q_new_95  n) (t_Q_new_95  n) _ _ _ _ hf
def f_Q_new_0  (a0 : Nat) (h : mH) : Option mH :=
  grd (¬ a0 = h.1) <|
  bd1 (mkn h 9 (.inr (3, [.null, .int 0, .int 0, .int 0, .int 0, .int 0, .int 0, .int 0, .int 0]))) fun h2 =>
  grd (a0 < h2.1 ∧ h.1 < h2.1) <|
  bd1 (f_Reader_new h.1 h2) fun h8 =>
  grd (h.1 < h8.1) <|
  bd1 (pV h8 a0 0 0 (.ref h.1)) fun h10 =>
  grd (¬ a0 = h10.1) <|
  bd1 (mkn h10 19 (.inr (4, [.int 0, .int 0, .int 0, .int 0, .int 0, .int 0, .null, .null, .null, .null, .null, .null, .null, .null, .null, .null, .null, .null, .null]))) fun h14 =>
  grd (a0 < h14.1 ∧ h10.1 < h14.1) <|
  bd1 (f_Realm_new h10.1 h14) fun h20 =>
  grd (h10.1 < h20.1) <|
  bd1 (pV h20 a0 0 1 (.ref h10.1)) fun h22 =>
  grd (¬ a0 = h22.1) <|
  bd1 (mkn h22 19 (.inr (4, [.int 0, .int 0, .int 0, .int 0, .int 0, .int 0, .null, .null, .null, .null, .null, .null, .null, .null, .null, .null, .null, .null, .null]))) fun h26 =>
  grd (a0 < h26.1 ∧ h22.1 < h26.1) <|
  bd1 (f_Realm_new h22.1 h26) fun h32 =>
  grd (h22.1 < h32.1) <|
  bd1 (pV h32 a0 0 2 (.ref h22.1)) fun h34 =>
  grd (¬ a0 = h34.1) <|
  bd1 (mkn h34 2 (.inl (4, 2, .inr (.inr (.inr (.inr (fun _ => none))))))) fun h38 =>
  grd (h34.1 < h38.1) <|
  bd1 (pV h38 a0 0 3 (.ref h34.1)) fun h42 =>
  grd (¬ a0 = h42.1) <|
  bd1 (mkn h42 2 (.inl (2, (2, .inl (fun _ => 0))))) fun h46 =>
  grd (h42.1 < h46.1) <|
  bd1 (pV h46 a0 0 4 (.ref h42.1)) fun h50 =>
  grd (¬ a0 = h50.1) <|
  bd1 (mkn h50 4 (.inl (5, 4, .inr (.inr (.inr (.inr (fun _ => none))))))) fun h54 =>
  grd (h50.1 < h54.1) <|
  bd1 (pV h54 a0 0 5 (.ref h50.1)) fun h58 =>
  grd (¬ a0 = h58.1) <|
  bd1 (mkn h58 8 (.inr (2, [.int 0, .null, .null, .null, .null, .null, .null, .null]))) fun h62 =>
  grd (a0 < h62.1 ∧ h58.1 < h62.1) <|
  bd1 (f_Planner_new h58.1 h62) fun h68 =>
  grd (h58.1 < h68.1) <|
  bd1 (pV h68 a0 0 6 (.ref h58.1)) fun h70 =>
  grd (¬ a0 = h70.1) <|
  bd1 (mkn h70 8 (.inr (7, [.int 0, .null, .null, .null, .null, .null, .null, .null]))) fun h74 =>
  grd (a0 < h74.1 ∧ h70.1 < h74.1) <|
  bd1 (f_Tables_new h70.1 h74) fun h80 =>
  grd (h70.1 < h80.1) <|
  bd1 (pV h80 a0 0 7 (.ref h70.1)) fun h82 =>
  grd (¬ a0 = h82.1) <|
  bd1 (mkn h82 3 (.inr (1, [.long 0, .long 0, .null]))) fun h86 =>
  grd (a0 < h86.1 ∧ h82.1 < h86.1) <|
  bd1 (f_Odds_new h82.1 h86) fun h92 =>
  grd (h82.1 < h92.1) <|
  bd1 (pV h92 a0 0 8 (.ref h82.1)) fun h94 =>
  f_Q_new_95  FU a0 (0 : Int32) h94
set_option maxRecDepth 20000 in
theorem t_Q_new_0 {sc : Nat × (Nat → Int32)}  (a0 : Nat) (h : mH) (h' : mH) (hf : f_Q_new_0  a0 h = some h') : G sc y_Q_new prog_1_method_1_code 2 none 3 60 0 [(0, .ref a0)] [] h none h' := by
  unfold f_Q_new_0 at hf
  refine g_aload_n (pc := 0) 0 d_Q_new_0 rfl rfl ?_
  refine g_objInit (pc := 1) d_Q_new_1 wd_23 wd_24 wd_25 (by decide) (Nat.le_of_ble_eq_true rfl) ?_
  refine g_aload_n (pc := 4) 0 d_Q_new_4 rfl rfl ?_
  obtain ⟨g1, hf⟩ := grd_e hf
  obtain ⟨h2, e3, hf⟩ := bd1_e hf
  obtain ⟨g4, e5⟩ := mkn_e e3
  refine g_new (pc := 5) (ci := 3) rfl [.null, .int 0, .int 0, .int 0, .int 0, .int 0, .int 0, .int 0, .int 0] ty_Reader tyok_Reader d_Q_new_5 rfl in_Reader wd_26 wd_27 wd_2 (by decide) (by simp) g4 (okl_cons (okv_r (by omega)) (okl_nil)) (oks_cons (okv_r (by omega)) (oks_nil)) ?_
  rw [← e5]
  have h2_n : h2.1 = h.1 + 1 := by rw [e5]; rfl
  refine g_dup (pc := 8) d_Q_new_8 rfl ?_
  obtain ⟨⟨g6, g7⟩, hf⟩ := grd_e hf
  obtain ⟨h8, e9, hf⟩ := bd1_e hf
  refine g_callIN (pc := 9) "QuotaLaws" [] (site_of si_Reader_new (by decide) (by decide)) rfl wd_28 wd_29 d_Q_new_9 (Nat.le_of_ble_eq_true rfl) (fun _ => rfl) (fun _ => (okl_cons (okv_r (by omega)) (okl_nil))) (fun _ => (oks_cons (okv_r (by omega)) (oks_cons (okv_r (by omega)) (oks_nil)))) (c_Reader_new e9) rfl ?_
  refine g_st [.ref h.1, .ref a0] rfl ?_
  obtain ⟨g12, hf⟩ := grd_e hf
  obtain ⟨h10, e11, hf⟩ := bd1_e hf
  refine g_putF (pc := 12) (ci := 0) (kk := 0) ty_Q tyok_Q nm_Q d_Q_new_12 rfl in_Q (by decide) wd_296 rfl rfl rfl (fun _ => rfl) (fun _ => rfl) (fun _ z => by cases z; omega) e11 ?_
  refine g_aload_n (pc := 15) 0 d_Q_new_15 rfl rfl ?_
  obtain ⟨g13, hf⟩ := grd_e hf
  obtain ⟨h14, e15, hf⟩ := bd1_e hf
  obtain ⟨g16, e17⟩ := mkn_e e15
  refine g_new (pc := 16) (ci := 4) rfl [.int 0, .int 0, .int 0, .int 0, .int 0, .int 0, .null, .null, .null, .null, .null, .null, .null, .null, .null, .null, .null, .null, .null] ty_Realm tyok_Realm d_Q_new_16 rfl in_Realm wd_65 wd_66 wd_3 (by decide) (by simp) g16 (okl_cons (okv_r (by omega)) (okl_nil)) (oks_cons (okv_r (by omega)) (oks_nil)) ?_
  rw [← e17]
  have h14_n : h14.1 = h10.1 + 1 := by rw [e17]; rfl
  refine g_dup (pc := 19) d_Q_new_19 rfl ?_
  obtain ⟨⟨g18, g19⟩, hf⟩ := grd_e hf
  obtain ⟨h20, e21, hf⟩ := bd1_e hf
  refine g_callIN (pc := 20) "QuotaLaws" [] (site_of si_Realm_new (by decide) (by decide)) rfl wd_67 wd_68 d_Q_new_20 (Nat.le_of_ble_eq_true rfl) (fun _ => rfl) (fun _ => (okl_cons (okv_r (by omega)) (okl_nil))) (fun _ => (oks_cons (okv_r (by omega)) (oks_cons (okv_r (by omega)) (oks_nil)))) (c_Realm_new e21) rfl ?_
  refine g_st [.ref h10.1, .ref a0] rfl ?_
  obtain ⟨g24, hf⟩ := grd_e hf
  obtain ⟨h22, e23, hf⟩ := bd1_e hf
  refine g_putF (pc := 23) (ci := 0) (kk := 1) ty_Q tyok_Q nm_Q d_Q_new_23 rfl in_Q (by decide) wd_297 rfl rfl rfl (fun _ => rfl) (fun _ => rfl) (fun _ z => by cases z; omega) e23 ?_
  refine g_aload_n (pc := 26) 0 d_Q_new_26 rfl rfl ?_
  obtain ⟨g25, hf⟩ := grd_e hf
  obtain ⟨h26, e27, hf⟩ := bd1_e hf
  obtain ⟨g28, e29⟩ := mkn_e e27
  refine g_new (pc := 27) (ci := 4) rfl [.int 0, .int 0, .int 0, .int 0, .int 0, .int 0, .null, .null, .null, .null, .null, .null, .null, .null, .null, .null, .null, .null, .null] ty_Realm tyok_Realm d_Q_new_27 rfl in_Realm wd_65 wd_66 wd_3 (by decide) (by simp) g28 (okl_cons (okv_r (by omega)) (okl_nil)) (oks_cons (okv_r (by omega)) (oks_nil)) ?_
  rw [← e29]
  have h26_n : h26.1 = h22.1 + 1 := by rw [e29]; rfl
  refine g_dup (pc := 30) d_Q_new_30 rfl ?_
  obtain ⟨⟨g30, g31⟩, hf⟩ := grd_e hf
  obtain ⟨h32, e33, hf⟩ := bd1_e hf
  refine g_callIN (pc := 31) "QuotaLaws" [] (site_of si_Realm_new (by decide) (by decide)) rfl wd_67 wd_68 d_Q_new_31 (Nat.le_of_ble_eq_true rfl) (fun _ => rfl) (fun _ => (okl_cons (okv_r (by omega)) (okl_nil))) (fun _ => (oks_cons (okv_r (by omega)) (oks_cons (okv_r (by omega)) (oks_nil)))) (c_Realm_new e33) rfl ?_
  refine g_st [.ref h22.1, .ref a0] rfl ?_
  obtain ⟨g36, hf⟩ := grd_e hf
  obtain ⟨h34, e35, hf⟩ := bd1_e hf
  refine g_putF (pc := 34) (ci := 0) (kk := 2) ty_Q tyok_Q nm_Q d_Q_new_34 rfl in_Q (by decide) wd_298 rfl rfl rfl (fun _ => rfl) (fun _ => rfl) (fun _ z => by cases z; omega) e35 ?_
  refine g_aload_n (pc := 37) 0 d_Q_new_37 rfl rfl ?_
  refine g_iconst (pc := 38) (2 : Int32) d_Q_new_38 (by decide) ?_
  obtain ⟨g37, hf⟩ := grd_e hf
  obtain ⟨h38, e39, hf⟩ := bd1_e hf
  obtain ⟨g40, e41⟩ := mkn_e e39
  refine g_newq (pc := 39) rfl 4 2 "QuotaLaws$Realm" wd_65 (by decide) (fun _ => rfl) (by decide) (by decide) (by decide) d_Q_new_39 g40 (okl_cons (okv_r (by omega)) (okl_nil)) (oks_cons (okv_r (by omega)) (oks_nil)) ?_
  rw [← e41]
  have h38_n : h38.1 = h34.1 + 1 := by rw [e41]; rfl
  obtain ⟨g44, hf⟩ := grd_e hf
  obtain ⟨h42, e43, hf⟩ := bd1_e hf
  refine g_putF (pc := 42) (ci := 0) (kk := 3) ty_Q tyok_Q nm_Q d_Q_new_42 rfl in_Q (by decide) wd_299 rfl rfl rfl (fun _ => rfl) (fun _ => rfl) (fun _ z => by cases z; omega) e43 ?_
  refine g_aload_n (pc := 45) 0 d_Q_new_45 rfl rfl ?_
  refine g_iconst (pc := 46) (2 : Int32) d_Q_new_46 (by decide) ?_
  obtain ⟨g45, hf⟩ := grd_e hf
  obtain ⟨h46, e47, hf⟩ := bd1_e hf
  obtain ⟨g48, e49⟩ := mkn_e e47
  refine g_newa (pc := 47) rfl 2 2 .boolean (2, .inl (fun _ => 0)) wd_229 rfl (fun _ => rfl) (fun _ _ _ a b => Option.some.inj (a.symm.trans b)) (fun _ => rfl) (fun _ => rfl) (fun _ z => absurd z id) (by decide) (by decide) (by decide) d_Q_new_47 g48 (okl_cons (okv_r (by omega)) (okl_nil)) (oks_cons (okv_r (by omega)) (oks_nil)) ?_
  rw [← e49]
  have h46_n : h46.1 = h42.1 + 1 := by rw [e49]; rfl
  obtain ⟨g52, hf⟩ := grd_e hf
  obtain ⟨h50, e51, hf⟩ := bd1_e hf
  refine g_putF (pc := 49) (ci := 0) (kk := 4) ty_Q tyok_Q nm_Q d_Q_new_49 rfl in_Q (by decide) wd_300 rfl rfl rfl (fun _ => rfl) (fun _ => rfl) (fun _ z => by cases z; omega) e51 ?_
  refine g_aload_n (pc := 52) 0 d_Q_new_52 rfl rfl ?_
  refine g_iconst (pc := 53) (4 : Int32) d_Q_new_53 (by decide) ?_
  obtain ⟨g53, hf⟩ := grd_e hf
  obtain ⟨h54, e55, hf⟩ := bd1_e hf
  obtain ⟨g56, e57⟩ := mkn_e e55
  refine g_newq (pc := 54) rfl 5 4 "QuotaLaws$Sheet" wd_196 (by decide) (fun _ => rfl) (by decide) (by decide) (by decide) d_Q_new_54 g56 (okl_cons (okv_r (by omega)) (okl_nil)) (oks_cons (okv_r (by omega)) (oks_nil)) ?_
  rw [← e57]
  have h54_n : h54.1 = h50.1 + 1 := by rw [e57]; rfl
  obtain ⟨g60, hf⟩ := grd_e hf
  obtain ⟨h58, e59, hf⟩ := bd1_e hf
  refine g_putF (pc := 57) (ci := 0) (kk := 5) ty_Q tyok_Q nm_Q d_Q_new_57 rfl in_Q (by decide) wd_301 rfl rfl rfl (fun _ => rfl) (fun _ => rfl) (fun _ z => by cases z; omega) e59 ?_
  refine g_aload_n (pc := 60) 0 d_Q_new_60 rfl rfl ?_
  obtain ⟨g61, hf⟩ := grd_e hf
  obtain ⟨h62, e63, hf⟩ := bd1_e hf
  obtain ⟨g64, e65⟩ := mkn_e e63
  refine g_new (pc := 61) (ci := 2) rfl [.int 0, .null, .null, .null, .null, .null, .null, .null] ty_Planner tyok_Planner d_Q_new_61 rfl in_Planner wd_198 wd_199 wd_5 (by decide) (by simp) g64 (okl_cons (okv_r (by omega)) (okl_nil)) (oks_cons (okv_r (by omega)) (oks_nil)) ?_
  rw [← e65]
  have h62_n : h62.1 = h58.1 + 1 := by rw [e65]; rfl
  refine g_dup (pc := 64) d_Q_new_64 rfl ?_
  obtain ⟨⟨g66, g67⟩, hf⟩ := grd_e hf
  obtain ⟨h68, e69, hf⟩ := bd1_e hf
  refine g_callIN (pc := 65) "QuotaLaws" [] (site_of si_Planner_new (by decide) (by decide)) rfl wd_200 wd_201 d_Q_new_65 (Nat.le_of_ble_eq_true rfl) (fun _ => rfl) (fun _ => (okl_cons (okv_r (by omega)) (okl_nil))) (fun _ => (oks_cons (okv_r (by omega)) (oks_cons (okv_r (by omega)) (oks_nil)))) (c_Planner_new e69) rfl ?_
  refine g_st [.ref h58.1, .ref a0] rfl ?_
  obtain ⟨g72, hf⟩ := grd_e hf
  obtain ⟨h70, e71, hf⟩ := bd1_e hf
  refine g_putF (pc := 68) (ci := 0) (kk := 6) ty_Q tyok_Q nm_Q d_Q_new_68 rfl in_Q (by decide) wd_302 rfl rfl rfl (fun _ => rfl) (fun _ => rfl) (fun _ z => by cases z; omega) e71 ?_
  refine g_aload_n (pc := 71) 0 d_Q_new_71 rfl rfl ?_
  obtain ⟨g73, hf⟩ := grd_e hf
  obtain ⟨h74, e75, hf⟩ := bd1_e hf
  obtain ⟨g76, e77⟩ := mkn_e e75
  refine g_new (pc := 72) (ci := 7) rfl [.int 0, .null, .null, .null, .null, .null, .null, .null] ty_Tables tyok_Tables d_Q_new_72 rfl in_Tables wd_230 wd_231 wd_6 (by decide) (by simp) g76 (okl_cons (okv_r (by omega)) (okl_nil)) (oks_cons (okv_r (by omega)) (oks_nil)) ?_
  rw [← e77]
  have h74_n : h74.1 = h70.1 + 1 := by rw [e77]; rfl
  refine g_dup (pc := 75) d_Q_new_75 rfl ?_
  obtain ⟨⟨g78, g79⟩, hf⟩ := grd_e hf
  obtain ⟨h80, e81, hf⟩ := bd1_e hf
  refine g_callIN (pc := 76) "QuotaLaws" [] (site_of si_Tables_new (by decide) (by decide)) rfl wd_232 wd_233 d_Q_new_76 (Nat.le_of_ble_eq_true rfl) (fun _ => rfl) (fun _ => (okl_cons (okv_r (by omega)) (okl_nil))) (fun _ => (oks_cons (okv_r (by omega)) (oks_cons (okv_r (by omega)) (oks_nil)))) (c_Tables_new e81) rfl ?_
  refine g_st [.ref h70.1, .ref a0] rfl ?_
  obtain ⟨g84, hf⟩ := grd_e hf
  obtain ⟨h82, e83, hf⟩ := bd1_e hf
  refine g_putF (pc := 79) (ci := 0) (kk := 7) ty_Q tyok_Q nm_Q d_Q_new_79 rfl in_Q (by decide) wd_303 rfl rfl rfl (fun _ => rfl) (fun _ => rfl) (fun _ z => by cases z; omega) e83 ?_
  refine g_aload_n (pc := 82) 0 d_Q_new_82 rfl rfl ?_
  obtain ⟨g85, hf⟩ := grd_e hf
  obtain ⟨h86, e87, hf⟩ := bd1_e hf
  obtain ⟨g88, e89⟩ := mkn_e e87
  refine g_new (pc := 83) (ci := 1) rfl [.long 0, .long 0, .null] ty_Odds tyok_Odds d_Q_new_83 rfl in_Odds wd_262 wd_263 wd_7 (by decide) (by simp) g88 (okl_cons (okv_r (by omega)) (okl_nil)) (oks_cons (okv_r (by omega)) (oks_nil)) ?_
  rw [← e89]
  have h86_n : h86.1 = h82.1 + 1 := by rw [e89]; rfl
  refine g_dup (pc := 86) d_Q_new_86 rfl ?_
  obtain ⟨⟨g90, g91⟩, hf⟩ := grd_e hf
  obtain ⟨h92, e93, hf⟩ := bd1_e hf
  refine g_callIN (pc := 87) "QuotaLaws" [] (site_of si_Odds_new (by decide) (by decide)) rfl wd_264 wd_265 d_Q_new_87 (Nat.le_of_ble_eq_true rfl) (fun _ => rfl) (fun _ => (okl_cons (okv_r (by omega)) (okl_nil))) (fun _ => (oks_cons (okv_r (by omega)) (oks_cons (okv_r (by omega)) (oks_nil)))) (c_Odds_new e93) rfl ?_
  refine g_st [.ref h82.1, .ref a0] rfl ?_
  obtain ⟨g96, hf⟩ := grd_e hf
  obtain ⟨h94, e95, hf⟩ := bd1_e hf
  refine g_putF (pc := 90) (ci := 0) (kk := 8) ty_Q tyok_Q nm_Q d_Q_new_90 rfl in_Q (by decide) wd_304 rfl rfl rfl (fun _ => rfl) (fun _ => rfl) (fun _ z => by cases z; omega) e95 ?_
  refine g_iconst (pc := 93) (0 : Int32) d_Q_new_93 (by decide) ?_
  refine g_istore_n (pc := 94) [(1, .int (0 : Int32)), (0, .ref a0)] d_Q_new_94 rfl (Nat.le_of_ble_eq_true rfl) rfl ?_
  refine g_lv [1, 0] rfl ?_
  exact t_Q_new_95  FU _ _ _ _  hf
def f_Q_new (a0 : Nat) (h : mH) : Option mH := f_Q_new_0 a0 h
theorem c_Q_new {sc : Nat × (Nat → Int32)} {a0 : Nat} {h : mH} {h' : mH} (hf : f_Q_new a0 h = some h') : MM sc y_Q_new prog_1_method_1_code 2 none 3 60 [.ref a0] h none h' :=
  mm_of_G (by decide) (Nat.le_of_ble_eq_true rfl) (t_Q_new_0 _ _ _ hf)
/-! M init ()V -/
set_option maxRecDepth 100000 in
theorem dd_M_new_0 : (decode prog_10_method_1_code 0 = .ok (.aload_n 0, 1)) ∧ (decode prog_10_method_1_code 1 = .ok (.invokespecial 1, 3)) ∧ (decode prog_10_method_1_code 4 = .ok (.aload_n 0, 1)) ∧ (decode prog_10_method_1_code 5 = .ok (.sipush 198, 3)) ∧ (decode prog_10_method_1_code 8 = .ok (.newarray .int, 2)) ∧ (decode prog_10_method_1_code 10 = .ok (.putfield 7, 3)) ∧ (decode prog_10_method_1_code 13 = .ok (.aload_n 0, 1)) ∧ (decode prog_10_method_1_code 14 = .ok (.iconst 2, 1)) ∧ (decode prog_10_method_1_code 15 = .ok (.newarray .boolean, 2)) ∧ (decode prog_10_method_1_code 17 = .ok (.putfield 13, 3)) ∧ (decode prog_10_method_1_code 20 = .ok (.aload_n 0, 1)) ∧ (decode prog_10_method_1_code 21 = .ok (.iconst 5, 1)) ∧ (decode prog_10_method_1_code 22 = .ok (.newarray .int, 2)) ∧ (decode prog_10_method_1_code 24 = .ok (.putfield 17, 3)) ∧ (decode prog_10_method_1_code 27 = .ok (.aload_n 0, 1)) ∧ (decode prog_10_method_1_code 28 = .ok (.iconst 5, 1)) ∧ (decode prog_10_method_1_code 29 = .ok (.newarray .int, 2)) ∧ (decode prog_10_method_1_code 31 = .ok (.putfield 20, 3)) ∧ (decode prog_10_method_1_code 34 = .ok (.aload_n 0, 1)) ∧ (decode prog_10_method_1_code 35 = .ok (.iconst 5, 1)) ∧ (decode prog_10_method_1_code 36 = .ok (.newarray .int, 2)) ∧ (decode prog_10_method_1_code 38 = .ok (.putfield 23, 3)) ∧ (decode prog_10_method_1_code 41 = .ok (.aload_n 0, 1)) ∧ (decode prog_10_method_1_code 42 = .ok (.iconst 3, 1)) := by
  have h : List.drop 0 prog_10_method_1_code.data.toList = 0x2a :: _ := rfl
  refine ⟨zq_k_n 42 h rfl (zq_o_42 _), ?_⟩
  replace h := zq_nx1 (q := 1) h rfl
  refine ⟨zq_k_u2 183 (fun z => .invokespecial z) 1 h rfl (zq_o_183 _) (by decide +kernel), ?_⟩
  replace h := zq_nx3 (q := 4) h rfl
  refine ⟨zq_k_n 42 h rfl (zq_o_42 _), ?_⟩
  replace h := zq_nx1 (q := 5) h rfl
  refine ⟨zq_k_s2 17 (fun z => .sipush z) 198 h rfl (zq_o_17 _) (by decide +kernel), ?_⟩
  replace h := zq_nx3 (q := 8) h rfl
  refine ⟨by decide +kernel, ?_⟩
  have h : List.drop 10 prog_10_method_1_code.data.toList = 0xb5 :: _ := rfl
  refine ⟨zq_k_u2 181 (fun z => .putfield z) 7 h rfl (zq_o_181 _) (by decide +kernel), ?_⟩
  replace h := zq_nx3 (q := 13) h rfl
  refine ⟨zq_k_n 42 h rfl (zq_o_42 _), ?_⟩
  replace h := zq_nx1 (q := 14) h rfl
  refine ⟨zq_k_n 5 h rfl (zq_o_5 _), ?_⟩
  replace h := zq_nx1 (q := 15) h rfl
  refine ⟨by decide +kernel, ?_⟩
  have h : List.drop 17 prog_10_method_1_code.data.toList = 0xb5 :: _ := rfl
  refine ⟨zq_k_u2 181 (fun z => .putfield z) 13 h rfl (zq_o_181 _) (by decide +kernel), ?_⟩
  replace h := zq_nx3 (q := 20) h rfl
  refine ⟨zq_k_n 42 h rfl (zq_o_42 _), ?_⟩
  replace h := zq_nx1 (q := 21) h rfl
  refine ⟨zq_k_n 8 h rfl (zq_o_8 _), ?_⟩
  replace h := zq_nx1 (q := 22) h rfl
  refine ⟨by decide +kernel, ?_⟩
  have h : List.drop 24 prog_10_method_1_code.data.toList = 0xb5 :: _ := rfl
  refine ⟨zq_k_u2 181 (fun z => .putfield z) 17 h rfl (zq_o_181 _) (by decide +kernel), ?_⟩
  replace h := zq_nx3 (q := 27) h rfl
  refine ⟨zq_k_n 42 h rfl (zq_o_42 _), ?_⟩
  replace h := zq_nx1 (q := 28) h rfl
  refine ⟨zq_k_n 8 h rfl (zq_o_8 _), ?_⟩
  replace h := zq_nx1 (q := 29) h rfl
  refine ⟨by decide +kernel, ?_⟩
  have h : List.drop 31 prog_10_method_1_code.data.toList = 0xb5 :: _ := rfl
  refine ⟨zq_k_u2 181 (fun z => .putfield z) 20 h rfl (zq_o_181 _) (by decide +kernel), ?_⟩
  replace h := zq_nx3 (q := 34) h rfl
  refine ⟨zq_k_n 42 h rfl (zq_o_42 _), ?_⟩
  replace h := zq_nx1 (q := 35) h rfl
  refine ⟨zq_k_n 8 h rfl (zq_o_8 _), ?_⟩
  replace h := zq_nx1 (q := 36) h rfl
  refine ⟨by decide +kernel, ?_⟩
  have h : List.drop 38 prog_10_method_1_code.data.toList = 0xb5 :: _ := rfl
  refine ⟨zq_k_u2 181 (fun z => .putfield z) 23 h rfl (zq_o_181 _) (by decide +kernel), ?_⟩
  replace h := zq_nx3 (q := 41) h rfl
  refine ⟨zq_k_n 42 h rfl (zq_o_42 _), ?_⟩
  replace h := zq_nx1 (q := 42) h rfl
  exact zq_k_n 6 h rfl (zq_o_6 _)
theorem d_M_new_0 : decode prog_10_method_1_code 0 = .ok (.aload_n 0, 1) := dd_M_new_0.1
theorem d_M_new_1 : decode prog_10_method_1_code 1 = .ok (.invokespecial 1, 3) := dd_M_new_0.2.1
theorem d_M_new_4 : decode prog_10_method_1_code 4 = .ok (.aload_n 0, 1) := dd_M_new_0.2.2.1
theorem d_M_new_5 : decode prog_10_method_1_code 5 = .ok (.sipush 198, 3) := dd_M_new_0.2.2.2.1
theorem d_M_new_8 : decode prog_10_method_1_code 8 = .ok (.newarray .int, 2) := dd_M_new_0.2.2.2.2.1
theorem d_M_new_10 : decode prog_10_method_1_code 10 = .ok (.putfield 7, 3) := dd_M_new_0.2.2.2.2.2.1
theorem d_M_new_13 : decode prog_10_method_1_code 13 = .ok (.aload_n 0, 1) := dd_M_new_0.2.2.2.2.2.2.1
theorem d_M_new_14 : decode prog_10_method_1_code 14 = .ok (.iconst 2, 1) := dd_M_new_0.2.2.2.2.2.2.2.1
theorem d_M_new_15 : decode prog_10_method_1_code 15 = .ok (.newarray .boolean, 2) := dd_M_new_0.2.2.2.2.2.2.2.2.1
theorem d_M_new_17 : decode prog_10_method_1_code 17 = .ok (.putfield 13, 3) := dd_M_new_0.2.2.2.2.2.2.2.2.2.1
theorem d_M_new_20 : decode prog_10_method_1_code 20 = .ok (.aload_n 0, 1) := dd_M_new_0.2.2.2.2.2.2.2.2.2.2.1
theorem d_M_new_21 : decode prog_10_method_1_code 21 = .ok (.iconst 5, 1) := dd_M_new_0.2.2.2.2.2.2.2.2.2.2.2.1
theorem d_M_new_22 : decode prog_10_method_1_code 22 = .ok (.newarray .int, 2) := dd_M_new_0.2.2.2.2.2.2.2.2.2.2.2.2.1
theorem d_M_new_24 : decode prog_10_method_1_code 24 = .ok (.putfield 17, 3) := dd_M_new_0.2.2.2.2.2.2.2.2.2.2.2.2.2.1
theorem d_M_new_27 : decode prog_10_method_1_code 27 = .ok (.aload_n 0, 1) := dd_M_new_0.2.2.2.2.2.2.2.2.2.2.2.2.2.2.1
theorem d_M_new_28 : decode prog_10_method_1_code 28 = .ok (.iconst 5, 1) := dd_M_new_0.2.2.2.2.2.2.2.2.2.2.2.2.2.2.2.1
theorem d_M_new_29 : decode prog_10_method_1_code 29 = .ok (.newarray .int, 2) := dd_M_new_0.2.2.2.2.2.2.2.2.2.2.2.2.2.2.2.2.1
theorem d_M_new_31 : decode prog_10_method_1_code 31 = .ok (.putfield 20, 3) := dd_M_new_0.2.2.2.2.2.2.2.2.2.2.2.2.2.2.2.2.2.1
theorem d_M_new_34 : decode prog_10_method_1_code 34 = .ok (.aload_n 0, 1) := dd_M_new_0.2.2.2.2.2.2.2.2.2.2.2.2.2.2.2.2.2.2.1
theorem d_M_new_35 : decode prog_10_method_1_code 35 = .ok (.iconst 5, 1) := dd_M_new_0.2.2.2.2.2.2.2.2.2.2.2.2.2.2.2.2.2.2.2.1
theorem d_M_new_36 : decode prog_10_method_1_code 36 = .ok (.newarray .int, 2) := dd_M_new_0.2.2.2.2.2.2.2.2.2.2.2.2.2.2.2.2.2.2.2.2.1
theorem d_M_new_38 : decode prog_10_method_1_code 38 = .ok (.putfield 23, 3) := dd_M_new_0.2.2.2.2.2.2.2.2.2.2.2.2.2.2.2.2.2.2.2.2.2.1
theorem d_M_new_41 : decode prog_10_method_1_code 41 = .ok (.aload_n 0, 1) := dd_M_new_0.2.2.2.2.2.2.2.2.2.2.2.2.2.2.2.2.2.2.2.2.2.2.1
theorem d_M_new_42 : decode prog_10_method_1_code 42 = .ok (.iconst 3, 1) := dd_M_new_0.2.2.2.2.2.2.2.2.2.2.2.2.2.2.2.2.2.2.2.2.2.2.2
set_option maxRecDepth 100000 in
theorem dd_M_new_43 : (decode prog_10_method_1_code 43 = .ok (.newarray .int, 2)) ∧ (decode prog_10_method_1_code 45 = .ok (.putfield 26, 3)) ∧ (decode prog_10_method_1_code 48 = .ok (.aload_n 0, 1)) ∧ (decode prog_10_method_1_code 49 = .ok (.iconst 3, 1)) ∧ (decode prog_10_method_1_code 50 = .ok (.newarray .int, 2)) ∧ (decode prog_10_method_1_code 52 = .ok (.putfield 29, 3)) ∧ (decode prog_10_method_1_code 55 = .ok (.aload_n 0, 1)) ∧ (decode prog_10_method_1_code 56 = .ok (.bipush 66, 2)) ∧ (decode prog_10_method_1_code 58 = .ok (.newarray .int, 2)) ∧ (decode prog_10_method_1_code 60 = .ok (.putfield 32, 3)) ∧ (decode prog_10_method_1_code 63 = .ok (.aload_n 0, 1)) ∧ (decode prog_10_method_1_code 64 = .ok (.iconst 5, 1)) ∧ (decode prog_10_method_1_code 65 = .ok (.newarray .int, 2)) ∧ (decode prog_10_method_1_code 67 = .ok (.putfield 35, 3)) ∧ (decode prog_10_method_1_code 70 = .ok (.aload_n 0, 1)) ∧ (decode prog_10_method_1_code 71 = .ok (.iconst 5, 1)) ∧ (decode prog_10_method_1_code 72 = .ok (.newarray .int, 2)) ∧ (decode prog_10_method_1_code 74 = .ok (.putfield 38, 3)) ∧ (decode prog_10_method_1_code 77 = .ok (.aload_n 0, 1)) ∧ (decode prog_10_method_1_code 78 = .ok (.iconst 5, 1)) ∧ (decode prog_10_method_1_code 79 = .ok (.newarray .int, 2)) ∧ (decode prog_10_method_1_code 81 = .ok (.putfield 41, 3)) ∧ (decode prog_10_method_1_code 84 = .ok (.aload_n 0, 1)) ∧ (decode prog_10_method_1_code 85 = .ok (.iconst 3, 1)) := by
  refine ⟨by decide +kernel, ?_⟩
  have h : List.drop 45 prog_10_method_1_code.data.toList = 0xb5 :: _ := rfl
  refine ⟨zq_k_u2 181 (fun z => .putfield z) 26 h rfl (zq_o_181 _) (by decide +kernel), ?_⟩
  replace h := zq_nx3 (q := 48) h rfl
  refine ⟨zq_k_n 42 h rfl (zq_o_42 _), ?_⟩
  replace h := zq_nx1 (q := 49) h rfl
  refine ⟨zq_k_n 6 h rfl (zq_o_6 _), ?_⟩
  replace h := zq_nx1 (q := 50) h rfl
  refine ⟨by decide +kernel, ?_⟩
  have h : List.drop 52 prog_10_method_1_code.data.toList = 0xb5 :: _ := rfl
  refine ⟨zq_k_u2 181 (fun z => .putfield z) 29 h rfl (zq_o_181 _) (by decide +kernel), ?_⟩
  replace h := zq_nx3 (q := 55) h rfl
  refine ⟨zq_k_n 42 h rfl (zq_o_42 _), ?_⟩
  replace h := zq_nx1 (q := 56) h rfl
  refine ⟨zq_k_s1 16 (fun z => .bipush z) 66 h rfl (zq_o_16 _) (by decide +kernel), ?_⟩
  replace h := zq_nx2 (q := 58) h rfl
  refine ⟨by decide +kernel, ?_⟩
  have h : List.drop 60 prog_10_method_1_code.data.toList = 0xb5 :: _ := rfl
  refine ⟨zq_k_u2 181 (fun z => .putfield z) 32 h rfl (zq_o_181 _) (by decide +kernel), ?_⟩
  replace h := zq_nx3 (q := 63) h rfl
  refine ⟨zq_k_n 42 h rfl (zq_o_42 _), ?_⟩
  replace h := zq_nx1 (q := 64) h rfl
  refine ⟨zq_k_n 8 h rfl (zq_o_8 _), ?_⟩
  replace h := zq_nx1 (q := 65) h rfl
  refine ⟨by decide +kernel, ?_⟩
  have h : List.drop 67 prog_10_method_1_code.data.toList = 0xb5 :: _ := rfl
  refine ⟨zq_k_u2 181 (fun z => .putfield z) 35 h rfl (zq_o_181 _) (by decide +kernel), ?_⟩
  replace h := zq_nx3 (q := 70) h rfl
  refine ⟨zq_k_n 42 h rfl (zq_o_42 _), ?_⟩
  replace h := zq_nx1 (q := 71) h rfl
  refine ⟨zq_k_n 8 h rfl (zq_o_8 _), ?_⟩
  replace h := zq_nx1 (q := 72) h rfl
  refine ⟨by decide +kernel, ?_⟩
  have h : List.drop 74 prog_10_method_1_code.data.toList = 0xb5 :: _ := rfl
  refine ⟨zq_k_u2 181 (fun z => .putfield z) 38 h rfl (zq_o_181 _) (by decide +kernel), ?_⟩
  replace h := zq_nx3 (q := 77) h rfl
  refine ⟨zq_k_n 42 h rfl (zq_o_42 _), ?_⟩
  replace h := zq_nx1 (q := 78) h rfl
  refine ⟨zq_k_n 8 h rfl (zq_o_8 _), ?_⟩
  replace h := zq_nx1 (q := 79) h rfl
  refine ⟨by decide +kernel, ?_⟩
  have h : List.drop 81 prog_10_method_1_code.data.toList = 0xb5 :: _ := rfl
  refine ⟨zq_k_u2 181 (fun z => .putfield z) 41 h rfl (zq_o_181 _) (by decide +kernel), ?_⟩
  replace h := zq_nx3 (q := 84) h rfl
  refine ⟨zq_k_n 42 h rfl (zq_o_42 _), ?_⟩
  replace h := zq_nx1 (q := 85) h rfl
  exact zq_k_n 6 h rfl (zq_o_6 _)
theorem d_M_new_43 : decode prog_10_method_1_code 43 = .ok (.newarray .int, 2) := dd_M_new_43.1
theorem d_M_new_45 : decode prog_10_method_1_code 45 = .ok (.putfield 26, 3) := dd_M_new_43.2.1
theorem d_M_new_48 : decode prog_10_method_1_code 48 = .ok (.aload_n 0, 1) := dd_M_new_43.2.2.1
theorem d_M_new_49 : decode prog_10_method_1_code 49 = .ok (.iconst 3, 1) := dd_M_new_43.2.2.2.1
theorem d_M_new_50 : decode prog_10_method_1_code 50 = .ok (.newarray .int, 2) := dd_M_new_43.2.2.2.2.1
theorem d_M_new_52 : decode prog_10_method_1_code 52 = .ok (.putfield 29, 3) := dd_M_new_43.2.2.2.2.2.1
theorem d_M_new_55 : decode prog_10_method_1_code 55 = .ok (.aload_n 0, 1) := dd_M_new_43.2.2.2.2.2.2.1
theorem d_M_new_56 : decode prog_10_method_1_code 56 = .ok (.bipush 66, 2) := dd_M_new_43.2.2.2.2.2.2.2.1
theorem d_M_new_58 : decode prog_10_method_1_code 58 = .ok (.newarray .int, 2) := dd_M_new_43.2.2.2.2.2.2.2.2.1
theorem d_M_new_60 : decode prog_10_method_1_code 60 = .ok (.putfield 32, 3) := dd_M_new_43.2.2.2.2.2.2.2.2.2.1
theorem d_M_new_63 : decode prog_10_method_1_code 63 = .ok (.aload_n 0, 1) := dd_M_new_43.2.2.2.2.2.2.2.2.2.2.1
theorem d_M_new_64 : decode prog_10_method_1_code 64 = .ok (.iconst 5, 1) := dd_M_new_43.2.2.2.2.2.2.2.2.2.2.2.1
theorem d_M_new_65 : decode prog_10_method_1_code 65 = .ok (.newarray .int, 2) := dd_M_new_43.2.2.2.2.2.2.2.2.2.2.2.2.1
theorem d_M_new_67 : decode prog_10_method_1_code 67 = .ok (.putfield 35, 3) := dd_M_new_43.2.2.2.2.2.2.2.2.2.2.2.2.2.1
theorem d_M_new_70 : decode prog_10_method_1_code 70 = .ok (.aload_n 0, 1) := dd_M_new_43.2.2.2.2.2.2.2.2.2.2.2.2.2.2.1
theorem d_M_new_71 : decode prog_10_method_1_code 71 = .ok (.iconst 5, 1) := dd_M_new_43.2.2.2.2.2.2.2.2.2.2.2.2.2.2.2.1
theorem d_M_new_72 : decode prog_10_method_1_code 72 = .ok (.newarray .int, 2) := dd_M_new_43.2.2.2.2.2.2.2.2.2.2.2.2.2.2.2.2.1
theorem d_M_new_74 : decode prog_10_method_1_code 74 = .ok (.putfield 38, 3) := dd_M_new_43.2.2.2.2.2.2.2.2.2.2.2.2.2.2.2.2.2.1
theorem d_M_new_77 : decode prog_10_method_1_code 77 = .ok (.aload_n 0, 1) := dd_M_new_43.2.2.2.2.2.2.2.2.2.2.2.2.2.2.2.2.2.2.1
theorem d_M_new_78 : decode prog_10_method_1_code 78 = .ok (.iconst 5, 1) := dd_M_new_43.2.2.2.2.2.2.2.2.2.2.2.2.2.2.2.2.2.2.2.1
theorem d_M_new_79 : decode prog_10_method_1_code 79 = .ok (.newarray .int, 2) := dd_M_new_43.2.2.2.2.2.2.2.2.2.2.2.2.2.2.2.2.2.2.2.2.1
theorem d_M_new_81 : decode prog_10_method_1_code 81 = .ok (.putfield 41, 3) := dd_M_new_43.2.2.2.2.2.2.2.2.2.2.2.2.2.2.2.2.2.2.2.2.2.1
theorem d_M_new_84 : decode prog_10_method_1_code 84 = .ok (.aload_n 0, 1) := dd_M_new_43.2.2.2.2.2.2.2.2.2.2.2.2.2.2.2.2.2.2.2.2.2.2.1
theorem d_M_new_85 : decode prog_10_method_1_code 85 = .ok (.iconst 3, 1) := dd_M_new_43.2.2.2.2.2.2.2.2.2.2.2.2.2.2.2.2.2.2.2.2.2.2.2
set_option maxRecDepth 100000 in
theorem dd_M_new_86 : (decode prog_10_method_1_code 86 = .ok (.newarray .int, 2)) ∧ (decode prog_10_method_1_code 88 = .ok (.putfield 44, 3)) ∧ (decode prog_10_method_1_code 91 = .ok (.aload_n 0, 1)) ∧ (decode prog_10_method_1_code 92 = .ok (.iconst 3, 1)) ∧ (decode prog_10_method_1_code 93 = .ok (.newarray .int, 2)) ∧ (decode prog_10_method_1_code 95 = .ok (.putfield 47, 3)) ∧ (decode prog_10_method_1_code 98 = .ok (.aload_n 0, 1)) ∧ (decode prog_10_method_1_code 99 = .ok (.sipush 160, 3)) ∧ (decode prog_10_method_1_code 102 = .ok (.newarray .int, 2)) ∧ (decode prog_10_method_1_code 104 = .ok (.putfield 50, 3)) ∧ (decode prog_10_method_1_code 107 = .ok (.aload_n 0, 1)) ∧ (decode prog_10_method_1_code 108 = .ok (.sipush 24576, 3)) ∧ (decode prog_10_method_1_code 111 = .ok (.newarray .int, 2)) ∧ (decode prog_10_method_1_code 113 = .ok (.putfield 53, 3)) ∧ (decode prog_10_method_1_code 116 = .ok (.aload_n 0, 1)) ∧ (decode prog_10_method_1_code 117 = .ok (.iconst 5, 1)) ∧ (decode prog_10_method_1_code 118 = .ok (.newarray .int, 2)) ∧ (decode prog_10_method_1_code 120 = .ok (.putfield 56, 3)) ∧ (decode prog_10_method_1_code 123 = .ok (.aload_n 0, 1)) ∧ (decode prog_10_method_1_code 124 = .ok (.iconst 3, 1)) ∧ (decode prog_10_method_1_code 125 = .ok (.newarray .int, 2)) ∧ (decode prog_10_method_1_code 127 = .ok (.putfield 59, 3)) ∧ (decode prog_10_method_1_code 130 = .ok (.aload_n 0, 1)) ∧ (decode prog_10_method_1_code 131 = .ok (.iconst 3, 1)) := by
  refine ⟨by decide +kernel, ?_⟩
  have h : List.drop 88 prog_10_method_1_code.data.toList = 0xb5 :: _ := rfl
  refine ⟨zq_k_u2 181 (fun z => .putfield z) 44 h rfl (zq_o_181 _) (by decide +kernel), ?_⟩
  replace h := zq_nx3 (q := 91) h rfl
  refine ⟨zq_k_n 42 h rfl (zq_o_42 _), ?_⟩
  replace h := zq_nx1 (q := 92) h rfl
  refine ⟨zq_k_n 6 h rfl (zq_o_6 _), ?_⟩
  replace h := zq_nx1 (q := 93) h rfl
  refine ⟨by decide +kernel, ?_⟩
  have h : List.drop 95 prog_10_method_1_code.data.toList = 0xb5 :: _ := rfl
  refine ⟨zq_k_u2 181 (fun z => .putfield z) 47 h rfl (zq_o_181 _) (by decide +kernel), ?_⟩
  replace h := zq_nx3 (q := 98) h rfl
  refine ⟨zq_k_n 42 h rfl (zq_o_42 _), ?_⟩
  replace h := zq_nx1 (q := 99) h rfl
  refine ⟨zq_k_s2 17 (fun z => .sipush z) 160 h rfl (zq_o_17 _) (by decide +kernel), ?_⟩
  replace h := zq_nx3 (q := 102) h rfl
  refine ⟨by decide +kernel, ?_⟩
  have h : List.drop 104 prog_10_method_1_code.data.toList = 0xb5 :: _ := rfl
  refine ⟨zq_k_u2 181 (fun z => .putfield z) 50 h rfl (zq_o_181 _) (by decide +kernel), ?_⟩
  replace h := zq_nx3 (q := 107) h rfl
  refine ⟨zq_k_n 42 h rfl (zq_o_42 _), ?_⟩
  replace h := zq_nx1 (q := 108) h rfl
  refine ⟨zq_k_s2 17 (fun z => .sipush z) 24576 h rfl (zq_o_17 _) (by decide +kernel), ?_⟩
  replace h := zq_nx3 (q := 111) h rfl
  refine ⟨by decide +kernel, ?_⟩
  have h : List.drop 113 prog_10_method_1_code.data.toList = 0xb5 :: _ := rfl
  refine ⟨zq_k_u2 181 (fun z => .putfield z) 53 h rfl (zq_o_181 _) (by decide +kernel), ?_⟩
  replace h := zq_nx3 (q := 116) h rfl
  refine ⟨zq_k_n 42 h rfl (zq_o_42 _), ?_⟩
  replace h := zq_nx1 (q := 117) h rfl
  refine ⟨zq_k_n 8 h rfl (zq_o_8 _), ?_⟩
  replace h := zq_nx1 (q := 118) h rfl
  refine ⟨by decide +kernel, ?_⟩
  have h : List.drop 120 prog_10_method_1_code.data.toList = 0xb5 :: _ := rfl
  refine ⟨zq_k_u2 181 (fun z => .putfield z) 56 h rfl (zq_o_181 _) (by decide +kernel), ?_⟩
  replace h := zq_nx3 (q := 123) h rfl
  refine ⟨zq_k_n 42 h rfl (zq_o_42 _), ?_⟩
  replace h := zq_nx1 (q := 124) h rfl
  refine ⟨zq_k_n 6 h rfl (zq_o_6 _), ?_⟩
  replace h := zq_nx1 (q := 125) h rfl
  refine ⟨by decide +kernel, ?_⟩
  have h : List.drop 127 prog_10_method_1_code.data.toList = 0xb5 :: _ := rfl
  refine ⟨zq_k_u2 181 (fun z => .putfield z) 59 h rfl (zq_o_181 _) (by decide +kernel), ?_⟩
  replace h := zq_nx3 (q := 130) h rfl
  refine ⟨zq_k_n 42 h rfl (zq_o_42 _), ?_⟩
  replace h := zq_nx1 (q := 131) h rfl
  exact zq_k_n 6 h rfl (zq_o_6 _)
theorem d_M_new_86 : decode prog_10_method_1_code 86 = .ok (.newarray .int, 2) := dd_M_new_86.1
theorem d_M_new_88 : decode prog_10_method_1_code 88 = .ok (.putfield 44, 3) := dd_M_new_86.2.1
theorem d_M_new_91 : decode prog_10_method_1_code 91 = .ok (.aload_n 0, 1) := dd_M_new_86.2.2.1
theorem d_M_new_92 : decode prog_10_method_1_code 92 = .ok (.iconst 3, 1) := dd_M_new_86.2.2.2.1
theorem d_M_new_93 : decode prog_10_method_1_code 93 = .ok (.newarray .int, 2) := dd_M_new_86.2.2.2.2.1
theorem d_M_new_95 : decode prog_10_method_1_code 95 = .ok (.putfield 47, 3) := dd_M_new_86.2.2.2.2.2.1
theorem d_M_new_98 : decode prog_10_method_1_code 98 = .ok (.aload_n 0, 1) := dd_M_new_86.2.2.2.2.2.2.1
theorem d_M_new_99 : decode prog_10_method_1_code 99 = .ok (.sipush 160, 3) := dd_M_new_86.2.2.2.2.2.2.2.1
theorem d_M_new_102 : decode prog_10_method_1_code 102 = .ok (.newarray .int, 2) := dd_M_new_86.2.2.2.2.2.2.2.2.1
theorem d_M_new_104 : decode prog_10_method_1_code 104 = .ok (.putfield 50, 3) := dd_M_new_86.2.2.2.2.2.2.2.2.2.1
theorem d_M_new_107 : decode prog_10_method_1_code 107 = .ok (.aload_n 0, 1) := dd_M_new_86.2.2.2.2.2.2.2.2.2.2.1
theorem d_M_new_108 : decode prog_10_method_1_code 108 = .ok (.sipush 24576, 3) := dd_M_new_86.2.2.2.2.2.2.2.2.2.2.2.1
theorem d_M_new_111 : decode prog_10_method_1_code 111 = .ok (.newarray .int, 2) := dd_M_new_86.2.2.2.2.2.2.2.2.2.2.2.2.1
theorem d_M_new_113 : decode prog_10_method_1_code 113 = .ok (.putfield 53, 3) := dd_M_new_86.2.2.2.2.2.2.2.2.2.2.2.2.2.1
theorem d_M_new_116 : decode prog_10_method_1_code 116 = .ok (.aload_n 0, 1) := dd_M_new_86.2.2.2.2.2.2.2.2.2.2.2.2.2.2.1
theorem d_M_new_117 : decode prog_10_method_1_code 117 = .ok (.iconst 5, 1) := dd_M_new_86.2.2.2.2.2.2.2.2.2.2.2.2.2.2.2.1
theorem d_M_new_118 : decode prog_10_method_1_code 118 = .ok (.newarray .int, 2) := dd_M_new_86.2.2.2.2.2.2.2.2.2.2.2.2.2.2.2.2.1
theorem d_M_new_120 : decode prog_10_method_1_code 120 = .ok (.putfield 56, 3) := dd_M_new_86.2.2.2.2.2.2.2.2.2.2.2.2.2.2.2.2.2.1
theorem d_M_new_123 : decode prog_10_method_1_code 123 = .ok (.aload_n 0, 1) := dd_M_new_86.2.2.2.2.2.2.2.2.2.2.2.2.2.2.2.2.2.2.1
theorem d_M_new_124 : decode prog_10_method_1_code 124 = .ok (.iconst 3, 1) := dd_M_new_86.2.2.2.2.2.2.2.2.2.2.2.2.2.2.2.2.2.2.2.1
theorem d_M_new_125 : decode prog_10_method_1_code 125 = .ok (.newarray .int, 2) := dd_M_new_86.2.2.2.2.2.2.2.2.2.2.2.2.2.2.2.2.2.2.2.2.1
theorem d_M_new_127 : decode prog_10_method_1_code 127 = .ok (.putfield 59, 3) := dd_M_new_86.2.2.2.2.2.2.2.2.2.2.2.2.2.2.2.2.2.2.2.2.2.1
theorem d_M_new_130 : decode prog_10_method_1_code 130 = .ok (.aload_n 0, 1) := dd_M_new_86.2.2.2.2.2.2.2.2.2.2.2.2.2.2.2.2.2.2.2.2.2.2.1
theorem d_M_new_131 : decode prog_10_method_1_code 131 = .ok (.iconst 3, 1) := dd_M_new_86.2.2.2.2.2.2.2.2.2.2.2.2.2.2.2.2.2.2.2.2.2.2.2
set_option maxRecDepth 100000 in
theorem dd_M_new_132 : (decode prog_10_method_1_code 132 = .ok (.newarray .int, 2)) ∧ (decode prog_10_method_1_code 134 = .ok (.putfield 62, 3)) ∧ (decode prog_10_method_1_code 137 = .ok (.aload_n 0, 1)) ∧ (decode prog_10_method_1_code 138 = .ok (.bipush 66, 2)) ∧ (decode prog_10_method_1_code 140 = .ok (.newarray .int, 2)) ∧ (decode prog_10_method_1_code 142 = .ok (.putfield 65, 3)) ∧ (decode prog_10_method_1_code 145 = .ok (.aload_n 0, 1)) ∧ (decode prog_10_method_1_code 146 = .ok (.bipush 16, 2)) ∧ (decode prog_10_method_1_code 148 = .ok (.newarray .long, 2)) ∧ (decode prog_10_method_1_code 150 = .ok (.putfield 68, 3)) ∧ (decode prog_10_method_1_code 153 = .ok (.aload_n 0, 1)) ∧ (decode prog_10_method_1_code 154 = .ok (.sipush 216, 3)) ∧ (decode prog_10_method_1_code 157 = .ok (.newarray .long, 2)) ∧ (decode prog_10_method_1_code 159 = .ok (.putfield 72, 3)) ∧ (decode prog_10_method_1_code 162 = .ok (.aload_n 0, 1)) ∧ (decode prog_10_method_1_code 163 = .ok (.sipush 216, 3)) ∧ (decode prog_10_method_1_code 166 = .ok (.newarray .long, 2)) ∧ (decode prog_10_method_1_code 168 = .ok (.putfield 75, 3)) ∧ (decode prog_10_method_1_code 171 = .ok (.aload_n 0, 1)) ∧ (decode prog_10_method_1_code 172 = .ok (.iconst 4, 1)) ∧ (decode prog_10_method_1_code 173 = .ok (.newarray .int, 2)) ∧ (decode prog_10_method_1_code 175 = .ok (.putfield 78, 3)) ∧ (decode prog_10_method_1_code 178 = .ok (.aload_n 0, 1)) ∧ (decode prog_10_method_1_code 179 = .ok (.iconst 4, 1)) := by
  refine ⟨by decide +kernel, ?_⟩
  have h : List.drop 134 prog_10_method_1_code.data.toList = 0xb5 :: _ := rfl
  refine ⟨zq_k_u2 181 (fun z => .putfield z) 62 h rfl (zq_o_181 _) (by decide +kernel), ?_⟩
  replace h := zq_nx3 (q := 137) h rfl
  refine ⟨zq_k_n 42 h rfl (zq_o_42 _), ?_⟩
  replace h := zq_nx1 (q := 138) h rfl
  refine ⟨zq_k_s1 16 (fun z => .bipush z) 66 h rfl (zq_o_16 _) (by decide +kernel), ?_⟩
  replace h := zq_nx2 (q := 140) h rfl
  refine ⟨by decide +kernel, ?_⟩
  have h : List.drop 142 prog_10_method_1_code.data.toList = 0xb5 :: _ := rfl
  refine ⟨zq_k_u2 181 (fun z => .putfield z) 65 h rfl (zq_o_181 _) (by decide +kernel), ?_⟩
  replace h := zq_nx3 (q := 145) h rfl
  refine ⟨zq_k_n 42 h rfl (zq_o_42 _), ?_⟩
  replace h := zq_nx1 (q := 146) h rfl
  refine ⟨zq_k_s1 16 (fun z => .bipush z) 16 h rfl (zq_o_16 _) (by decide +kernel), ?_⟩
  replace h := zq_nx2 (q := 148) h rfl
  refine ⟨by decide +kernel, ?_⟩
  have h : List.drop 150 prog_10_method_1_code.data.toList = 0xb5 :: _ := rfl
  refine ⟨zq_k_u2 181 (fun z => .putfield z) 68 h rfl (zq_o_181 _) (by decide +kernel), ?_⟩
  replace h := zq_nx3 (q := 153) h rfl
  refine ⟨zq_k_n 42 h rfl (zq_o_42 _), ?_⟩
  replace h := zq_nx1 (q := 154) h rfl
  refine ⟨zq_k_s2 17 (fun z => .sipush z) 216 h rfl (zq_o_17 _) (by decide +kernel), ?_⟩
  replace h := zq_nx3 (q := 157) h rfl
  refine ⟨by decide +kernel, ?_⟩
  have h : List.drop 159 prog_10_method_1_code.data.toList = 0xb5 :: _ := rfl
  refine ⟨zq_k_u2 181 (fun z => .putfield z) 72 h rfl (zq_o_181 _) (by decide +kernel), ?_⟩
  replace h := zq_nx3 (q := 162) h rfl
  refine ⟨zq_k_n 42 h rfl (zq_o_42 _), ?_⟩
  replace h := zq_nx1 (q := 163) h rfl
  refine ⟨zq_k_s2 17 (fun z => .sipush z) 216 h rfl (zq_o_17 _) (by decide +kernel), ?_⟩
  replace h := zq_nx3 (q := 166) h rfl
  refine ⟨by decide +kernel, ?_⟩
  have h : List.drop 168 prog_10_method_1_code.data.toList = 0xb5 :: _ := rfl
  refine ⟨zq_k_u2 181 (fun z => .putfield z) 75 h rfl (zq_o_181 _) (by decide +kernel), ?_⟩
  replace h := zq_nx3 (q := 171) h rfl
  refine ⟨zq_k_n 42 h rfl (zq_o_42 _), ?_⟩
  replace h := zq_nx1 (q := 172) h rfl
  refine ⟨zq_k_n 7 h rfl (zq_o_7 _), ?_⟩
  replace h := zq_nx1 (q := 173) h rfl
  refine ⟨by decide +kernel, ?_⟩
  have h : List.drop 175 prog_10_method_1_code.data.toList = 0xb5 :: _ := rfl
  refine ⟨zq_k_u2 181 (fun z => .putfield z) 78 h rfl (zq_o_181 _) (by decide +kernel), ?_⟩
  replace h := zq_nx3 (q := 178) h rfl
  refine ⟨zq_k_n 42 h rfl (zq_o_42 _), ?_⟩
  replace h := zq_nx1 (q := 179) h rfl
  exact zq_k_n 7 h rfl (zq_o_7 _)
theorem d_M_new_132 : decode prog_10_method_1_code 132 = .ok (.newarray .int, 2) := dd_M_new_132.1
theorem d_M_new_134 : decode prog_10_method_1_code 134 = .ok (.putfield 62, 3) := dd_M_new_132.2.1
theorem d_M_new_137 : decode prog_10_method_1_code 137 = .ok (.aload_n 0, 1) := dd_M_new_132.2.2.1
theorem d_M_new_138 : decode prog_10_method_1_code 138 = .ok (.bipush 66, 2) := dd_M_new_132.2.2.2.1
theorem d_M_new_140 : decode prog_10_method_1_code 140 = .ok (.newarray .int, 2) := dd_M_new_132.2.2.2.2.1
theorem d_M_new_142 : decode prog_10_method_1_code 142 = .ok (.putfield 65, 3) := dd_M_new_132.2.2.2.2.2.1
theorem d_M_new_145 : decode prog_10_method_1_code 145 = .ok (.aload_n 0, 1) := dd_M_new_132.2.2.2.2.2.2.1
theorem d_M_new_146 : decode prog_10_method_1_code 146 = .ok (.bipush 16, 2) := dd_M_new_132.2.2.2.2.2.2.2.1
theorem d_M_new_148 : decode prog_10_method_1_code 148 = .ok (.newarray .long, 2) := dd_M_new_132.2.2.2.2.2.2.2.2.1
theorem d_M_new_150 : decode prog_10_method_1_code 150 = .ok (.putfield 68, 3) := dd_M_new_132.2.2.2.2.2.2.2.2.2.1
theorem d_M_new_153 : decode prog_10_method_1_code 153 = .ok (.aload_n 0, 1) := dd_M_new_132.2.2.2.2.2.2.2.2.2.2.1
theorem d_M_new_154 : decode prog_10_method_1_code 154 = .ok (.sipush 216, 3) := dd_M_new_132.2.2.2.2.2.2.2.2.2.2.2.1
theorem d_M_new_157 : decode prog_10_method_1_code 157 = .ok (.newarray .long, 2) := dd_M_new_132.2.2.2.2.2.2.2.2.2.2.2.2.1
theorem d_M_new_159 : decode prog_10_method_1_code 159 = .ok (.putfield 72, 3) := dd_M_new_132.2.2.2.2.2.2.2.2.2.2.2.2.2.1
theorem d_M_new_162 : decode prog_10_method_1_code 162 = .ok (.aload_n 0, 1) := dd_M_new_132.2.2.2.2.2.2.2.2.2.2.2.2.2.2.1
theorem d_M_new_163 : decode prog_10_method_1_code 163 = .ok (.sipush 216, 3) := dd_M_new_132.2.2.2.2.2.2.2.2.2.2.2.2.2.2.2.1
theorem d_M_new_166 : decode prog_10_method_1_code 166 = .ok (.newarray .long, 2) := dd_M_new_132.2.2.2.2.2.2.2.2.2.2.2.2.2.2.2.2.1
theorem d_M_new_168 : decode prog_10_method_1_code 168 = .ok (.putfield 75, 3) := dd_M_new_132.2.2.2.2.2.2.2.2.2.2.2.2.2.2.2.2.2.1
theorem d_M_new_171 : decode prog_10_method_1_code 171 = .ok (.aload_n 0, 1) := dd_M_new_132.2.2.2.2.2.2.2.2.2.2.2.2.2.2.2.2.2.2.1
theorem d_M_new_172 : decode prog_10_method_1_code 172 = .ok (.iconst 4, 1) := dd_M_new_132.2.2.2.2.2.2.2.2.2.2.2.2.2.2.2.2.2.2.2.1
theorem d_M_new_173 : decode prog_10_method_1_code 173 = .ok (.newarray .int, 2) := dd_M_new_132.2.2.2.2.2.2.2.2.2.2.2.2.2.2.2.2.2.2.2.2.1
theorem d_M_new_175 : decode prog_10_method_1_code 175 = .ok (.putfield 78, 3) := dd_M_new_132.2.2.2.2.2.2.2.2.2.2.2.2.2.2.2.2.2.2.2.2.2.1
theorem d_M_new_178 : decode prog_10_method_1_code 178 = .ok (.aload_n 0, 1) := dd_M_new_132.2.2.2.2.2.2.2.2.2.2.2.2.2.2.2.2.2.2.2.2.2.2.1
theorem d_M_new_179 : decode prog_10_method_1_code 179 = .ok (.iconst 4, 1) := dd_M_new_132.2.2.2.2.2.2.2.2.2.2.2.2.2.2.2.2.2.2.2.2.2.2.2
set_option maxRecDepth 100000 in
theorem dd_M_new_180 : (decode prog_10_method_1_code 180 = .ok (.newarray .int, 2)) ∧ (decode prog_10_method_1_code 182 = .ok (.putfield 81, 3)) ∧ (decode prog_10_method_1_code 185 = .ok (.aload_n 0, 1)) ∧ (decode prog_10_method_1_code 186 = .ok (.sipush 160, 3)) ∧ (decode prog_10_method_1_code 189 = .ok (.newarray .int, 2)) ∧ (decode prog_10_method_1_code 191 = .ok (.putfield 84, 3)) ∧ (decode prog_10_method_1_code 194 = .ok (.iconst 0, 1)) ∧ (decode prog_10_method_1_code 195 = .ok (.istore_n 1, 1)) ∧ (decode prog_10_method_1_code 196 = .ok (.iload_n 1, 1)) ∧ (decode prog_10_method_1_code 197 = .ok (.iconst 4, 1)) ∧ (decode prog_10_method_1_code 198 = .ok (.if_icmp .ge 17, 3)) ∧ (decode prog_10_method_1_code 201 = .ok (.aload_n 0, 1)) ∧ (decode prog_10_method_1_code 202 = .ok (.getfield 78, 3)) ∧ (decode prog_10_method_1_code 205 = .ok (.iload_n 1, 1)) ∧ (decode prog_10_method_1_code 206 = .ok (.bipush (-4), 2)) ∧ (decode prog_10_method_1_code 208 = .ok (.iastore, 1)) ∧ (decode prog_10_method_1_code 209 = .ok (.iinc 1 1, 3)) ∧ (decode prog_10_method_1_code 212 = .ok (.goto (-16), 3)) ∧ (decode prog_10_method_1_code 215 = .ok (.aload_n 0, 1)) ∧ (decode prog_10_method_1_code 216 = .ok (.invokevirtual 87, 3)) ∧ (decode prog_10_method_1_code 219 = .ok (.aload_n 0, 1)) ∧ (decode prog_10_method_1_code 220 = .ok (.invokevirtual 90, 3)) ∧ (decode prog_10_method_1_code 223 = .ok (.return_, 1)) := by
  refine ⟨by decide +kernel, ?_⟩
  have h : List.drop 182 prog_10_method_1_code.data.toList = 0xb5 :: _ := rfl
  refine ⟨zq_k_u2 181 (fun z => .putfield z) 81 h rfl (zq_o_181 _) (by decide +kernel), ?_⟩
  replace h := zq_nx3 (q := 185) h rfl
  refine ⟨zq_k_n 42 h rfl (zq_o_42 _), ?_⟩
  replace h := zq_nx1 (q := 186) h rfl
  refine ⟨zq_k_s2 17 (fun z => .sipush z) 160 h rfl (zq_o_17 _) (by decide +kernel), ?_⟩
  replace h := zq_nx3 (q := 189) h rfl
  refine ⟨by decide +kernel, ?_⟩
  have h : List.drop 191 prog_10_method_1_code.data.toList = 0xb5 :: _ := rfl
  refine ⟨zq_k_u2 181 (fun z => .putfield z) 84 h rfl (zq_o_181 _) (by decide +kernel), ?_⟩
  replace h := zq_nx3 (q := 194) h rfl
  refine ⟨zq_k_n 3 h rfl (zq_o_3 _), ?_⟩
  replace h := zq_nx1 (q := 195) h rfl
  refine ⟨zq_k_n 60 h rfl (zq_o_60 _), ?_⟩
  replace h := zq_nx1 (q := 196) h rfl
  refine ⟨zq_k_n 27 h rfl (zq_o_27 _), ?_⟩
  replace h := zq_nx1 (q := 197) h rfl
  refine ⟨zq_k_n 7 h rfl (zq_o_7 _), ?_⟩
  replace h := zq_nx1 (q := 198) h rfl
  refine ⟨zq_k_s2 162 (fun z => .if_icmp .ge z) 17 h rfl (zq_o_162 _) (by decide +kernel), ?_⟩
  replace h := zq_nx3 (q := 201) h rfl
  refine ⟨zq_k_n 42 h rfl (zq_o_42 _), ?_⟩
  replace h := zq_nx1 (q := 202) h rfl
  refine ⟨zq_k_u2 180 (fun z => .getfield z) 78 h rfl (zq_o_180 _) (by decide +kernel), ?_⟩
  replace h := zq_nx3 (q := 205) h rfl
  refine ⟨zq_k_n 27 h rfl (zq_o_27 _), ?_⟩
  replace h := zq_nx1 (q := 206) h rfl
  refine ⟨zq_k_s1 16 (fun z => .bipush z) (-4) h rfl (zq_o_16 _) (by decide +kernel), ?_⟩
  replace h := zq_nx2 (q := 208) h rfl
  refine ⟨zq_k_n 79 h rfl (zq_o_79 _), ?_⟩
  replace h := zq_nx1 (q := 209) h rfl
  refine ⟨zq_k_iinc 1 1 h rfl (zq_o_132 _) (by decide +kernel) (by decide +kernel), ?_⟩
  replace h := zq_nx3 (q := 212) h rfl
  refine ⟨zq_k_s2 167 (fun z => .goto z) (-16) h rfl (zq_o_167 _) (by decide +kernel), ?_⟩
  replace h := zq_nx3 (q := 215) h rfl
  refine ⟨zq_k_n 42 h rfl (zq_o_42 _), ?_⟩
  replace h := zq_nx1 (q := 216) h rfl
  refine ⟨zq_k_u2 182 (fun z => .invokevirtual z) 87 h rfl (zq_o_182 _) (by decide +kernel), ?_⟩
  replace h := zq_nx3 (q := 219) h rfl
  refine ⟨zq_k_n 42 h rfl (zq_o_42 _), ?_⟩
  replace h := zq_nx1 (q := 220) h rfl
  refine ⟨zq_k_u2 182 (fun z => .invokevirtual z) 90 h rfl (zq_o_182 _) (by decide +kernel), ?_⟩
  replace h := zq_nx3 (q := 223) h rfl
  exact zq_k_n 177 h rfl (zq_o_177 _)
theorem d_M_new_180 : decode prog_10_method_1_code 180 = .ok (.newarray .int, 2) := dd_M_new_180.1
theorem d_M_new_182 : decode prog_10_method_1_code 182 = .ok (.putfield 81, 3) := dd_M_new_180.2.1
theorem d_M_new_185 : decode prog_10_method_1_code 185 = .ok (.aload_n 0, 1) := dd_M_new_180.2.2.1
theorem d_M_new_186 : decode prog_10_method_1_code 186 = .ok (.sipush 160, 3) := dd_M_new_180.2.2.2.1
theorem d_M_new_189 : decode prog_10_method_1_code 189 = .ok (.newarray .int, 2) := dd_M_new_180.2.2.2.2.1
theorem d_M_new_191 : decode prog_10_method_1_code 191 = .ok (.putfield 84, 3) := dd_M_new_180.2.2.2.2.2.1
theorem d_M_new_194 : decode prog_10_method_1_code 194 = .ok (.iconst 0, 1) := dd_M_new_180.2.2.2.2.2.2.1
theorem d_M_new_195 : decode prog_10_method_1_code 195 = .ok (.istore_n 1, 1) := dd_M_new_180.2.2.2.2.2.2.2.1
theorem d_M_new_196 : decode prog_10_method_1_code 196 = .ok (.iload_n 1, 1) := dd_M_new_180.2.2.2.2.2.2.2.2.1
theorem d_M_new_197 : decode prog_10_method_1_code 197 = .ok (.iconst 4, 1) := dd_M_new_180.2.2.2.2.2.2.2.2.2.1
theorem d_M_new_198 : decode prog_10_method_1_code 198 = .ok (.if_icmp .ge 17, 3) := dd_M_new_180.2.2.2.2.2.2.2.2.2.2.1
theorem d_M_new_201 : decode prog_10_method_1_code 201 = .ok (.aload_n 0, 1) := dd_M_new_180.2.2.2.2.2.2.2.2.2.2.2.1
theorem d_M_new_202 : decode prog_10_method_1_code 202 = .ok (.getfield 78, 3) := dd_M_new_180.2.2.2.2.2.2.2.2.2.2.2.2.1
theorem d_M_new_205 : decode prog_10_method_1_code 205 = .ok (.iload_n 1, 1) := dd_M_new_180.2.2.2.2.2.2.2.2.2.2.2.2.2.1
theorem d_M_new_206 : decode prog_10_method_1_code 206 = .ok (.bipush (-4), 2) := dd_M_new_180.2.2.2.2.2.2.2.2.2.2.2.2.2.2.1
theorem d_M_new_208 : decode prog_10_method_1_code 208 = .ok (.iastore, 1) := dd_M_new_180.2.2.2.2.2.2.2.2.2.2.2.2.2.2.2.1
theorem d_M_new_209 : decode prog_10_method_1_code 209 = .ok (.iinc 1 1, 3) := dd_M_new_180.2.2.2.2.2.2.2.2.2.2.2.2.2.2.2.2.1
theorem d_M_new_212 : decode prog_10_method_1_code 212 = .ok (.goto (-16), 3) := dd_M_new_180.2.2.2.2.2.2.2.2.2.2.2.2.2.2.2.2.2.1
theorem d_M_new_215 : decode prog_10_method_1_code 215 = .ok (.aload_n 0, 1) := dd_M_new_180.2.2.2.2.2.2.2.2.2.2.2.2.2.2.2.2.2.2.1
theorem d_M_new_216 : decode prog_10_method_1_code 216 = .ok (.invokevirtual 87, 3) := dd_M_new_180.2.2.2.2.2.2.2.2.2.2.2.2.2.2.2.2.2.2.2.1
theorem d_M_new_219 : decode prog_10_method_1_code 219 = .ok (.aload_n 0, 1) := dd_M_new_180.2.2.2.2.2.2.2.2.2.2.2.2.2.2.2.2.2.2.2.2.1
theorem d_M_new_220 : decode prog_10_method_1_code 220 = .ok (.invokevirtual 90, 3) := dd_M_new_180.2.2.2.2.2.2.2.2.2.2.2.2.2.2.2.2.2.2.2.2.2.1
theorem d_M_new_223 : decode prog_10_method_1_code 223 = .ok (.return_, 1) := dd_M_new_180.2.2.2.2.2.2.2.2.2.2.2.2.2.2.2.2.2.2.2.2.2.2
def f_M_new_196b (rec196 : Nat → Int32 → mH → Option mH) (b0 : Nat) (b1 : Int32) (h : mH) : Option mH :=
  if (4 : Int32) ≤ b1 then
    bd1 (kC h b0 8) fun _ =>
    bd1 (f_M_firstDraft b0 h) fun h203 =>
    bd1 (kC h203 b0 8) fun _ =>
    bd1 (f_M_keepDraft b0 h203) fun h207 =>
    some h207
  else
    bd1 (gR h b0 8 35) fun x209 =>
    bd1 (sI h 0 x209 b1 ((-4) : Int32)) fun h211 =>
    rec196 b0 (b1 + (1 : Int32)) h211
set_option maxRecDepth 20000 in
theorem t_M_new_196b {sc : Nat × (Nat → Int32)} (rec196 : Nat → Int32 → mH → Option mH) (hrec196 : ∀ (b0 : Nat) (b1 : Int32) (h : mH) (h' : mH), rec196 b0 b1 h = some h' → G sc y_M_new prog_10_method_1_code 2 none 1 21 196 [(0, .ref b0), (1, .int b1)] [] h none h') (b0 : Nat) (b1 : Int32) (h : mH) (h' : mH) (hf : f_M_new_196b rec196 b0 b1 h = some h') : G sc y_M_new prog_10_method_1_code 2 none 1 21 196 [(0, .ref b0), (1, .int b1)] [] h none h' := by
  unfold f_M_new_196b at hf
  refine g_iload_n (pc := 196) 1 d_M_new_196 rfl rfl ?_
  refine g_iconst (pc := 197) (4 : Int32) d_M_new_197 (by decide) ?_
  refine g_icmpge (pc := 198) 215 d_M_new_198 (by decide) (fun c213 => ?_) (fun c213 => ?_)
  · replace hf := (if_pos c213).symm.trans hf
    refine g_aload_n (pc := 215) 0 d_M_new_215 rfl rfl ?_
    obtain ⟨u202, e201, hf⟩ := bd1_e hf
    obtain ⟨h203, e204, hf⟩ := bd1_e hf
    refine g_callV (pc := 216) (ci := 8) [] (site_of si_M_firstDraft (by decide) (by decide)) wd_930 wd_932 wp_30 d_M_new_216 rfl e201 (Nat.le_of_ble_eq_true rfl) (fun z => absurd z (by decide)) (fun z => absurd z (by decide)) (fun z => absurd z (by decide)) (c_M_firstDraft e204) rfl ?_
    refine g_st [] rfl ?_
    refine g_aload_n (pc := 219) 0 d_M_new_219 rfl rfl ?_
    obtain ⟨u206, e205, hf⟩ := bd1_e hf
    obtain ⟨h207, e208, hf⟩ := bd1_e hf
    refine g_callV (pc := 220) (ci := 8) [] (site_of si_M_keepDraft (by decide) (by decide)) wd_934 wd_936 wp_31 d_M_new_220 rfl e205 (Nat.le_of_ble_eq_true rfl) (fun z => absurd z (by decide)) (fun z => absurd z (by decide)) (fun z => absurd z (by decide)) (c_M_keepDraft e208) rfl ?_
    refine g_st [] rfl ?_
    obtain rfl := ret1 hf
    exact g_vret (pc := 223) rfl d_M_new_223
  · replace hf := (if_neg c213).symm.trans hf
    refine g_aload_n (pc := 201) 0 d_M_new_201 rfl rfl ?_
    obtain ⟨x209, e210, hf⟩ := bd1_e hf
    refine g_get (pc := 202) (ci := 8) (kk := 35) d_M_new_202 rfl in_M (by decide) wd_973 (gR_spec e210) ?_
    refine g_iload_n (pc := 205) 1 d_M_new_205 rfl rfl ?_
    refine g_bipush (pc := 206) ((-4) : Int32) d_M_new_206 (by decide) ?_
    obtain ⟨h211, e212, hf⟩ := bd1_e hf
    refine g_iast (pc := 208) d_M_new_208 e212 ?_
    refine g_iinc (pc := 209) 1 (b1 + (1 : Int32)) [(1, .int (b1 + (1 : Int32))), (0, .ref b0)] d_M_new_209 rfl rfl (Nat.le_of_ble_eq_true rfl) rfl ?_
    refine g_goto (pc := 212) 196 d_M_new_212 (by decide) ?_
    refine g_lv [1, 0] rfl ?_
    exact hrec196 _ _ _ _  hf
def f_M_new_196  : Nat → Nat → Int32 → mH → Option mH
  | 0 => fun _ _ _ => none
  | n + 1 => f_M_new_196b  (f_M_new_196  n)
theorem t_M_new_196 {sc : Nat × (Nat → Int32)}  : ∀ (n : Nat) (b0 : Nat) (b1 : Int32) (h : mH) (h' : mH) (hf : f_M_new_196  n b0 b1 h = some h'), G sc y_M_new prog_10_method_1_code 2 none 1 21 196 [(0, .ref b0), (1, .int b1)] [] h none h'
  | 0, _, _, _, _, hf => by cases hf
  | n + 1, _, _, _, _, hf => t_M_new_196b  (f_M_new_196  n) (t_M_new_196  n) _ _ _ _ hf
def f_M_new_0  (a0 : Nat) (h : mH) : Option mH :=
  grd (¬ a0 = h.1) <|
  bd1 (mkn h 198 (.inl (0, (198, .inl (fun _ => 0))))) fun h2 =>
  grd (h.1 < h2.1) <|
  bd1 (pV h2 a0 8 0 (.ref h.1)) fun h6 =>
  grd (¬ a0 = h6.1) <|
  bd1 (mkn h6 2 (.inl (2, (2, .inl (fun _ => 0))))) fun h10 =>
  grd (h6.1 < h10.1) <|
  bd1 (pV h10 a0 8 1 (.ref h6.1)) fun h14 =>
  grd (¬ a0 = h14.1) <|
  bd1 (mkn h14 5 (.inl (0, (5, .inl (fun _ => 0))))) fun h18 =>
  grd (h14.1 < h18.1) <|
  bd1 (pV h18 a0 8 4 (.ref h14.1)) fun h22 =>
  grd (¬ a0 = h22.1) <|
  bd1 (mkn h22 5 (.inl (0, (5, .inl (fun _ => 0))))) fun h26 =>
  grd (h22.1 < h26.1) <|
  bd1 (pV h26 a0 8 5 (.ref h22.1)) fun h30 =>
  grd (¬ a0 = h30.1) <|
  bd1 (mkn h30 5 (.inl (0, (5, .inl (fun _ => 0))))) fun h34 =>
  grd (h30.1 < h34.1) <|
  bd1 (pV h34 a0 8 6 (.ref h30.1)) fun h38 =>
  grd (¬ a0 = h38.1) <|
  bd1 (mkn h38 3 (.inl (0, (3, .inl (fun _ => 0))))) fun h42 =>
  grd (h38.1 < h42.1) <|
  bd1 (pV h42 a0 8 7 (.ref h38.1)) fun h46 =>
  grd (¬ a0 = h46.1) <|
  bd1 (mkn h46 3 (.inl (0, (3, .inl (fun _ => 0))))) fun h50 =>
  grd (h46.1 < h50.1) <|
  bd1 (pV h50 a0 8 8 (.ref h46.1)) fun h54 =>
  grd (¬ a0 = h54.1) <|
  bd1 (mkn h54 66 (.inl (0, (66, .inl (fun _ => 0))))) fun h58 =>
  grd (h54.1 < h58.1) <|
  bd1 (pV h58 a0 8 9 (.ref h54.1)) fun h62 =>
  grd (¬ a0 = h62.1) <|
  bd1 (mkn h62 5 (.inl (0, (5, .inl (fun _ => 0))))) fun h66 =>
  grd (h62.1 < h66.1) <|
  bd1 (pV h66 a0 8 12 (.ref h62.1)) fun h70 =>
  grd (¬ a0 = h70.1) <|
  bd1 (mkn h70 5 (.inl (0, (5, .inl (fun _ => 0))))) fun h74 =>
  grd (h70.1 < h74.1) <|
  bd1 (pV h74 a0 8 13 (.ref h70.1)) fun h78 =>
  grd (¬ a0 = h78.1) <|
  bd1 (mkn h78 5 (.inl (0, (5, .inl (fun _ => 0))))) fun h82 =>
  grd (h78.1 < h82.1) <|
  bd1 (pV h82 a0 8 14 (.ref h78.1)) fun h86 =>
  grd (¬ a0 = h86.1) <|
  bd1 (mkn h86 3 (.inl (0, (3, .inl (fun _ => 0))))) fun h90 =>
  grd (h86.1 < h90.1) <|
  bd1 (pV h90 a0 8 15 (.ref h86.1)) fun h94 =>
  grd (¬ a0 = h94.1) <|
  bd1 (mkn h94 3 (.inl (0, (3, .inl (fun _ => 0))))) fun h98 =>
  grd (h94.1 < h98.1) <|
  bd1 (pV h98 a0 8 16 (.ref h94.1)) fun h102 =>
  grd (¬ a0 = h102.1) <|
  bd1 (mkn h102 160 (.inl (0, (160, .inl (fun _ => 0))))) fun h106 =>
  grd (h102.1 < h106.1) <|
  bd1 (pV h106 a0 8 19 (.ref h102.1)) fun h110 =>
  grd (¬ a0 = h110.1) <|
  bd1 (mkn h110 24576 (.inl (0, (24576, .inl (fun _ => 0))))) fun h114 =>
  grd (h110.1 < h114.1) <|
  bd1 (pV h114 a0 8 27 (.ref h110.1)) fun h118 =>
  grd (¬ a0 = h118.1) <|
  bd1 (mkn h118 5 (.inl (0, (5, .inl (fun _ => 0))))) fun h122 =>
  grd (h118.1 < h122.1) <|
  bd1 (pV h122 a0 8 28 (.ref h118.1)) fun h126 =>
  grd (¬ a0 = h126.1) <|
  bd1 (mkn h126 3 (.inl (0, (3, .inl (fun _ => 0))))) fun h130 =>
  grd (h126.1 < h130.1) <|
  bd1 (pV h130 a0 8 29 (.ref h126.1)) fun h134 =>
  grd (¬ a0 = h134.1) <|
  bd1 (mkn h134 3 (.inl (0, (3, .inl (fun _ => 0))))) fun h138 =>
  grd (h134.1 < h138.1) <|
  bd1 (pV h138 a0 8 30 (.ref h134.1)) fun h142 =>
  grd (¬ a0 = h142.1) <|
  bd1 (mkn h142 66 (.inl (0, (66, .inl (fun _ => 0))))) fun h146 =>
  grd (h142.1 < h146.1) <|
  bd1 (pV h146 a0 8 31 (.ref h142.1)) fun h150 =>
  grd (¬ a0 = h150.1) <|
  bd1 (mkn h150 16 (.inl (3, (16, .inr (.inl (fun _ => 0)))))) fun h154 =>
  grd (h150.1 < h154.1) <|
  bd1 (pV h154 a0 8 32 (.ref h150.1)) fun h158 =>
  grd (¬ a0 = h158.1) <|
  bd1 (mkn h158 216 (.inl (3, (216, .inr (.inl (fun _ => 0)))))) fun h162 =>
  grd (h158.1 < h162.1) <|
  bd1 (pV h162 a0 8 33 (.ref h158.1)) fun h166 =>
  grd (¬ a0 = h166.1) <|
  bd1 (mkn h166 216 (.inl (3, (216, .inr (.inl (fun _ => 0)))))) fun h170 =>
  grd (h166.1 < h170.1) <|
  bd1 (pV h170 a0 8 34 (.ref h166.1)) fun h174 =>
  grd (¬ a0 = h174.1) <|
  bd1 (mkn h174 4 (.inl (0, (4, .inl (fun _ => 0))))) fun h178 =>
  grd (h174.1 < h178.1) <|
  bd1 (pV h178 a0 8 35 (.ref h174.1)) fun h182 =>
  grd (¬ a0 = h182.1) <|
  bd1 (mkn h182 4 (.inl (0, (4, .inl (fun _ => 0))))) fun h186 =>
  grd (h182.1 < h186.1) <|
  bd1 (pV h186 a0 8 36 (.ref h182.1)) fun h190 =>
  grd (¬ a0 = h190.1) <|
  bd1 (mkn h190 160 (.inl (0, (160, .inl (fun _ => 0))))) fun h194 =>
  grd (h190.1 < h194.1) <|
  bd1 (pV h194 a0 8 37 (.ref h190.1)) fun h198 =>
  f_M_new_196  FU a0 (0 : Int32) h198
set_option maxRecDepth 20000 in
theorem t_M_new_0 {sc : Nat × (Nat → Int32)}  (a0 : Nat) (h : mH) (h' : mH) (hf : f_M_new_0  a0 h = some h') : G sc y_M_new prog_10_method_1_code 2 none 1 21 0 [(0, .ref a0)] [] h none h' := by
  unfold f_M_new_0 at hf
  refine g_aload_n (pc := 0) 0 d_M_new_0 rfl rfl ?_
  refine g_objInit (pc := 1) d_M_new_1 wd_929 wd_24 wd_25 (by decide) (Nat.le_of_ble_eq_true rfl) ?_
  refine g_aload_n (pc := 4) 0 d_M_new_4 rfl rfl ?_
  refine g_sipush (pc := 5) (198 : Int32) d_M_new_5 (by decide) ?_
  obtain ⟨g1, hf⟩ := grd_e hf
  obtain ⟨h2, e3, hf⟩ := bd1_e hf
  obtain ⟨g4, e5⟩ := mkn_e e3
  refine g_newa (pc := 8) rfl 0 198 .int (198, .inl (fun _ => 0)) wd_92 rfl (fun _ => rfl) (fun _ _ _ a b => Option.some.inj (a.symm.trans b)) (fun _ => rfl) (fun _ => rfl) (fun _ z => absurd z id) (by decide) (by decide) (by decide) d_M_new_8 g4 (okl_cons (okv_r (by omega)) (okl_nil)) (oks_cons (okv_r (by omega)) (oks_nil)) ?_
  rw [← e5]
  have h2_n : h2.1 = h.1 + 1 := by rw [e5]; rfl
  obtain ⟨g8, hf⟩ := grd_e hf
  obtain ⟨h6, e7, hf⟩ := bd1_e hf
  refine g_putF (pc := 10) (ci := 8) (kk := 0) ty_M tyok_M nm_M d_M_new_10 rfl in_M (by decide) wd_938 rfl rfl rfl (fun _ => rfl) (fun _ => rfl) (fun _ z => by cases z; omega) e7 ?_
  refine g_aload_n (pc := 13) 0 d_M_new_13 rfl rfl ?_
  refine g_iconst (pc := 14) (2 : Int32) d_M_new_14 (by decide) ?_
  obtain ⟨g9, hf⟩ := grd_e hf
  obtain ⟨h10, e11, hf⟩ := bd1_e hf
  obtain ⟨g12, e13⟩ := mkn_e e11
  refine g_newa (pc := 15) rfl 2 2 .boolean (2, .inl (fun _ => 0)) wd_229 rfl (fun _ => rfl) (fun _ _ _ a b => Option.some.inj (a.symm.trans b)) (fun _ => rfl) (fun _ => rfl) (fun _ z => absurd z id) (by decide) (by decide) (by decide) d_M_new_15 g12 (okl_cons (okv_r (by omega)) (okl_nil)) (oks_cons (okv_r (by omega)) (oks_nil)) ?_
  rw [← e13]
  have h10_n : h10.1 = h6.1 + 1 := by rw [e13]; rfl
  obtain ⟨g16, hf⟩ := grd_e hf
  obtain ⟨h14, e15, hf⟩ := bd1_e hf
  refine g_putF (pc := 17) (ci := 8) (kk := 1) ty_M tyok_M nm_M d_M_new_17 rfl in_M (by decide) wd_939 rfl rfl rfl (fun _ => rfl) (fun _ => rfl) (fun _ z => by cases z; omega) e15 ?_
  refine g_aload_n (pc := 20) 0 d_M_new_20 rfl rfl ?_
  refine g_iconst (pc := 21) (5 : Int32) d_M_new_21 (by decide) ?_
  obtain ⟨g17, hf⟩ := grd_e hf
  obtain ⟨h18, e19, hf⟩ := bd1_e hf
  obtain ⟨g20, e21⟩ := mkn_e e19
  refine g_newa (pc := 22) rfl 0 5 .int (5, .inl (fun _ => 0)) wd_92 rfl (fun _ => rfl) (fun _ _ _ a b => Option.some.inj (a.symm.trans b)) (fun _ => rfl) (fun _ => rfl) (fun _ z => absurd z id) (by decide) (by decide) (by decide) d_M_new_22 g20 (okl_cons (okv_r (by omega)) (okl_nil)) (oks_cons (okv_r (by omega)) (oks_nil)) ?_
  rw [← e21]
  have h18_n : h18.1 = h14.1 + 1 := by rw [e21]; rfl
  obtain ⟨g24, hf⟩ := grd_e hf
  obtain ⟨h22, e23, hf⟩ := bd1_e hf
  refine g_putF (pc := 24) (ci := 8) (kk := 4) ty_M tyok_M nm_M d_M_new_24 rfl in_M (by decide) wd_942 rfl rfl rfl (fun _ => rfl) (fun _ => rfl) (fun _ z => by cases z; omega) e23 ?_
  refine g_aload_n (pc := 27) 0 d_M_new_27 rfl rfl ?_
  refine g_iconst (pc := 28) (5 : Int32) d_M_new_28 (by decide) ?_
  obtain ⟨g25, hf⟩ := grd_e hf
  obtain ⟨h26, e27, hf⟩ := bd1_e hf
  obtain ⟨g28, e29⟩ := mkn_e e27
  refine g_newa (pc := 29) rfl 0 5 .int (5, .inl (fun _ => 0)) wd_92 rfl (fun _ => rfl) (fun _ _ _ a b => Option.some.inj (a.symm.trans b)) (fun _ => rfl) (fun _ => rfl) (fun _ z => absurd z id) (by decide) (by decide) (by decide) d_M_new_29 g28 (okl_cons (okv_r (by omega)) (okl_nil)) (oks_cons (okv_r (by omega)) (oks_nil)) ?_
  rw [← e29]
  have h26_n : h26.1 = h22.1 + 1 := by rw [e29]; rfl
  obtain ⟨g32, hf⟩ := grd_e hf
  obtain ⟨h30, e31, hf⟩ := bd1_e hf
  refine g_putF (pc := 31) (ci := 8) (kk := 5) ty_M tyok_M nm_M d_M_new_31 rfl in_M (by decide) wd_943 rfl rfl rfl (fun _ => rfl) (fun _ => rfl) (fun _ z => by cases z; omega) e31 ?_
  refine g_aload_n (pc := 34) 0 d_M_new_34 rfl rfl ?_
  refine g_iconst (pc := 35) (5 : Int32) d_M_new_35 (by decide) ?_
  obtain ⟨g33, hf⟩ := grd_e hf
  obtain ⟨h34, e35, hf⟩ := bd1_e hf
  obtain ⟨g36, e37⟩ := mkn_e e35
  refine g_newa (pc := 36) rfl 0 5 .int (5, .inl (fun _ => 0)) wd_92 rfl (fun _ => rfl) (fun _ _ _ a b => Option.some.inj (a.symm.trans b)) (fun _ => rfl) (fun _ => rfl) (fun _ z => absurd z id) (by decide) (by decide) (by decide) d_M_new_36 g36 (okl_cons (okv_r (by omega)) (okl_nil)) (oks_cons (okv_r (by omega)) (oks_nil)) ?_
  rw [← e37]
  have h34_n : h34.1 = h30.1 + 1 := by rw [e37]; rfl
  obtain ⟨g40, hf⟩ := grd_e hf
  obtain ⟨h38, e39, hf⟩ := bd1_e hf
  refine g_putF (pc := 38) (ci := 8) (kk := 6) ty_M tyok_M nm_M d_M_new_38 rfl in_M (by decide) wd_944 rfl rfl rfl (fun _ => rfl) (fun _ => rfl) (fun _ z => by cases z; omega) e39 ?_
  refine g_aload_n (pc := 41) 0 d_M_new_41 rfl rfl ?_
  refine g_iconst (pc := 42) (3 : Int32) d_M_new_42 (by decide) ?_
  obtain ⟨g41, hf⟩ := grd_e hf
  obtain ⟨h42, e43, hf⟩ := bd1_e hf
  obtain ⟨g44, e45⟩ := mkn_e e43
  refine g_newa (pc := 43) rfl 0 3 .int (3, .inl (fun _ => 0)) wd_92 rfl (fun _ => rfl) (fun _ _ _ a b => Option.some.inj (a.symm.trans b)) (fun _ => rfl) (fun _ => rfl) (fun _ z => absurd z id) (by decide) (by decide) (by decide) d_M_new_43 g44 (okl_cons (okv_r (by omega)) (okl_nil)) (oks_cons (okv_r (by omega)) (oks_nil)) ?_
  rw [← e45]
  have h42_n : h42.1 = h38.1 + 1 := by rw [e45]; rfl
  obtain ⟨g48, hf⟩ := grd_e hf
  obtain ⟨h46, e47, hf⟩ := bd1_e hf
  refine g_putF (pc := 45) (ci := 8) (kk := 7) ty_M tyok_M nm_M d_M_new_45 rfl in_M (by decide) wd_945 rfl rfl rfl (fun _ => rfl) (fun _ => rfl) (fun _ z => by cases z; omega) e47 ?_
  refine g_aload_n (pc := 48) 0 d_M_new_48 rfl rfl ?_
  refine g_iconst (pc := 49) (3 : Int32) d_M_new_49 (by decide) ?_
  obtain ⟨g49, hf⟩ := grd_e hf
  obtain ⟨h50, e51, hf⟩ := bd1_e hf
  obtain ⟨g52, e53⟩ := mkn_e e51
  refine g_newa (pc := 50) rfl 0 3 .int (3, .inl (fun _ => 0)) wd_92 rfl (fun _ => rfl) (fun _ _ _ a b => Option.some.inj (a.symm.trans b)) (fun _ => rfl) (fun _ => rfl) (fun _ z => absurd z id) (by decide) (by decide) (by decide) d_M_new_50 g52 (okl_cons (okv_r (by omega)) (okl_nil)) (oks_cons (okv_r (by omega)) (oks_nil)) ?_
  rw [← e53]
  have h50_n : h50.1 = h46.1 + 1 := by rw [e53]; rfl
  obtain ⟨g56, hf⟩ := grd_e hf
  obtain ⟨h54, e55, hf⟩ := bd1_e hf
  refine g_putF (pc := 52) (ci := 8) (kk := 8) ty_M tyok_M nm_M d_M_new_52 rfl in_M (by decide) wd_946 rfl rfl rfl (fun _ => rfl) (fun _ => rfl) (fun _ z => by cases z; omega) e55 ?_
  refine g_aload_n (pc := 55) 0 d_M_new_55 rfl rfl ?_
  refine g_bipush (pc := 56) (66 : Int32) d_M_new_56 (by decide) ?_
  obtain ⟨g57, hf⟩ := grd_e hf
  obtain ⟨h58, e59, hf⟩ := bd1_e hf
  obtain ⟨g60, e61⟩ := mkn_e e59
  refine g_newa (pc := 58) rfl 0 66 .int (66, .inl (fun _ => 0)) wd_92 rfl (fun _ => rfl) (fun _ _ _ a b => Option.some.inj (a.symm.trans b)) (fun _ => rfl) (fun _ => rfl) (fun _ z => absurd z id) (by decide) (by decide) (by decide) d_M_new_58 g60 (okl_cons (okv_r (by omega)) (okl_nil)) (oks_cons (okv_r (by omega)) (oks_nil)) ?_
  rw [← e61]
  have h58_n : h58.1 = h54.1 + 1 := by rw [e61]; rfl
  obtain ⟨g64, hf⟩ := grd_e hf
  obtain ⟨h62, e63, hf⟩ := bd1_e hf
  refine g_putF (pc := 60) (ci := 8) (kk := 9) ty_M tyok_M nm_M d_M_new_60 rfl in_M (by decide) wd_947 rfl rfl rfl (fun _ => rfl) (fun _ => rfl) (fun _ z => by cases z; omega) e63 ?_
  refine g_aload_n (pc := 63) 0 d_M_new_63 rfl rfl ?_
  refine g_iconst (pc := 64) (5 : Int32) d_M_new_64 (by decide) ?_
  obtain ⟨g65, hf⟩ := grd_e hf
  obtain ⟨h66, e67, hf⟩ := bd1_e hf
  obtain ⟨g68, e69⟩ := mkn_e e67
  refine g_newa (pc := 65) rfl 0 5 .int (5, .inl (fun _ => 0)) wd_92 rfl (fun _ => rfl) (fun _ _ _ a b => Option.some.inj (a.symm.trans b)) (fun _ => rfl) (fun _ => rfl) (fun _ z => absurd z id) (by decide) (by decide) (by decide) d_M_new_65 g68 (okl_cons (okv_r (by omega)) (okl_nil)) (oks_cons (okv_r (by omega)) (oks_nil)) ?_
  rw [← e69]
  have h66_n : h66.1 = h62.1 + 1 := by rw [e69]; rfl
  obtain ⟨g72, hf⟩ := grd_e hf
  obtain ⟨h70, e71, hf⟩ := bd1_e hf
  refine g_putF (pc := 67) (ci := 8) (kk := 12) ty_M tyok_M nm_M d_M_new_67 rfl in_M (by decide) wd_950 rfl rfl rfl (fun _ => rfl) (fun _ => rfl) (fun _ z => by cases z; omega) e71 ?_
  refine g_aload_n (pc := 70) 0 d_M_new_70 rfl rfl ?_
  refine g_iconst (pc := 71) (5 : Int32) d_M_new_71 (by decide) ?_
  obtain ⟨g73, hf⟩ := grd_e hf
  obtain ⟨h74, e75, hf⟩ := bd1_e hf
  obtain ⟨g76, e77⟩ := mkn_e e75
  refine g_newa (pc := 72) rfl 0 5 .int (5, .inl (fun _ => 0)) wd_92 rfl (fun _ => rfl) (fun _ _ _ a b => Option.some.inj (a.symm.trans b)) (fun _ => rfl) (fun _ => rfl) (fun _ z => absurd z id) (by decide) (by decide) (by decide) d_M_new_72 g76 (okl_cons (okv_r (by omega)) (okl_nil)) (oks_cons (okv_r (by omega)) (oks_nil)) ?_
  rw [← e77]
  have h74_n : h74.1 = h70.1 + 1 := by rw [e77]; rfl
  obtain ⟨g80, hf⟩ := grd_e hf
  obtain ⟨h78, e79, hf⟩ := bd1_e hf
  refine g_putF (pc := 74) (ci := 8) (kk := 13) ty_M tyok_M nm_M d_M_new_74 rfl in_M (by decide) wd_951 rfl rfl rfl (fun _ => rfl) (fun _ => rfl) (fun _ z => by cases z; omega) e79 ?_
  refine g_aload_n (pc := 77) 0 d_M_new_77 rfl rfl ?_
  refine g_iconst (pc := 78) (5 : Int32) d_M_new_78 (by decide) ?_
  obtain ⟨g81, hf⟩ := grd_e hf
  obtain ⟨h82, e83, hf⟩ := bd1_e hf
  obtain ⟨g84, e85⟩ := mkn_e e83
  refine g_newa (pc := 79) rfl 0 5 .int (5, .inl (fun _ => 0)) wd_92 rfl (fun _ => rfl) (fun _ _ _ a b => Option.some.inj (a.symm.trans b)) (fun _ => rfl) (fun _ => rfl) (fun _ z => absurd z id) (by decide) (by decide) (by decide) d_M_new_79 g84 (okl_cons (okv_r (by omega)) (okl_nil)) (oks_cons (okv_r (by omega)) (oks_nil)) ?_
  rw [← e85]
  have h82_n : h82.1 = h78.1 + 1 := by rw [e85]; rfl
  obtain ⟨g88, hf⟩ := grd_e hf
  obtain ⟨h86, e87, hf⟩ := bd1_e hf
  refine g_putF (pc := 81) (ci := 8) (kk := 14) ty_M tyok_M nm_M d_M_new_81 rfl in_M (by decide) wd_952 rfl rfl rfl (fun _ => rfl) (fun _ => rfl) (fun _ z => by cases z; omega) e87 ?_
  refine g_aload_n (pc := 84) 0 d_M_new_84 rfl rfl ?_
  refine g_iconst (pc := 85) (3 : Int32) d_M_new_85 (by decide) ?_
  obtain ⟨g89, hf⟩ := grd_e hf
  obtain ⟨h90, e91, hf⟩ := bd1_e hf
  obtain ⟨g92, e93⟩ := mkn_e e91
  refine g_newa (pc := 86) rfl 0 3 .int (3, .inl (fun _ => 0)) wd_92 rfl (fun _ => rfl) (fun _ _ _ a b => Option.some.inj (a.symm.trans b)) (fun _ => rfl) (fun _ => rfl) (fun _ z => absurd z id) (by decide) (by decide) (by decide) d_M_new_86 g92 (okl_cons (okv_r (by omega)) (okl_nil)) (oks_cons (okv_r (by omega)) (oks_nil)) ?_
  rw [← e93]
  have h90_n : h90.1 = h86.1 + 1 := by rw [e93]; rfl
  obtain ⟨g96, hf⟩ := grd_e hf
  obtain ⟨h94, e95, hf⟩ := bd1_e hf
  refine g_putF (pc := 88) (ci := 8) (kk := 15) ty_M tyok_M nm_M d_M_new_88 rfl in_M (by decide) wd_953 rfl rfl rfl (fun _ => rfl) (fun _ => rfl) (fun _ z => by cases z; omega) e95 ?_
  refine g_aload_n (pc := 91) 0 d_M_new_91 rfl rfl ?_
  refine g_iconst (pc := 92) (3 : Int32) d_M_new_92 (by decide) ?_
  obtain ⟨g97, hf⟩ := grd_e hf
  obtain ⟨h98, e99, hf⟩ := bd1_e hf
  obtain ⟨g100, e101⟩ := mkn_e e99
  refine g_newa (pc := 93) rfl 0 3 .int (3, .inl (fun _ => 0)) wd_92 rfl (fun _ => rfl) (fun _ _ _ a b => Option.some.inj (a.symm.trans b)) (fun _ => rfl) (fun _ => rfl) (fun _ z => absurd z id) (by decide) (by decide) (by decide) d_M_new_93 g100 (okl_cons (okv_r (by omega)) (okl_nil)) (oks_cons (okv_r (by omega)) (oks_nil)) ?_
  rw [← e101]
  have h98_n : h98.1 = h94.1 + 1 := by rw [e101]; rfl
  obtain ⟨g104, hf⟩ := grd_e hf
  obtain ⟨h102, e103, hf⟩ := bd1_e hf
  refine g_putF (pc := 95) (ci := 8) (kk := 16) ty_M tyok_M nm_M d_M_new_95 rfl in_M (by decide) wd_954 rfl rfl rfl (fun _ => rfl) (fun _ => rfl) (fun _ z => by cases z; omega) e103 ?_
  refine g_aload_n (pc := 98) 0 d_M_new_98 rfl rfl ?_
  refine g_sipush (pc := 99) (160 : Int32) d_M_new_99 (by decide) ?_
  obtain ⟨g105, hf⟩ := grd_e hf
  obtain ⟨h106, e107, hf⟩ := bd1_e hf
  obtain ⟨g108, e109⟩ := mkn_e e107
  refine g_newa (pc := 102) rfl 0 160 .int (160, .inl (fun _ => 0)) wd_92 rfl (fun _ => rfl) (fun _ _ _ a b => Option.some.inj (a.symm.trans b)) (fun _ => rfl) (fun _ => rfl) (fun _ z => absurd z id) (by decide) (by decide) (by decide) d_M_new_102 g108 (okl_cons (okv_r (by omega)) (okl_nil)) (oks_cons (okv_r (by omega)) (oks_nil)) ?_
  rw [← e109]
  have h106_n : h106.1 = h102.1 + 1 := by rw [e109]; rfl
  obtain ⟨g112, hf⟩ := grd_e hf
  obtain ⟨h110, e111, hf⟩ := bd1_e hf
  refine g_putF (pc := 104) (ci := 8) (kk := 19) ty_M tyok_M nm_M d_M_new_104 rfl in_M (by decide) wd_957 rfl rfl rfl (fun _ => rfl) (fun _ => rfl) (fun _ z => by cases z; omega) e111 ?_
  refine g_aload_n (pc := 107) 0 d_M_new_107 rfl rfl ?_
  refine g_sipush (pc := 108) (24576 : Int32) d_M_new_108 (by decide) ?_
  obtain ⟨g113, hf⟩ := grd_e hf
  obtain ⟨h114, e115, hf⟩ := bd1_e hf
  obtain ⟨g116, e117⟩ := mkn_e e115
  refine g_newa (pc := 111) rfl 0 24576 .int (24576, .inl (fun _ => 0)) wd_92 rfl (fun _ => rfl) (fun _ _ _ a b => Option.some.inj (a.symm.trans b)) (fun _ => rfl) (fun _ => rfl) (fun _ z => absurd z id) (by decide) (by decide) (by decide) d_M_new_111 g116 (okl_cons (okv_r (by omega)) (okl_nil)) (oks_cons (okv_r (by omega)) (oks_nil)) ?_
  rw [← e117]
  have h114_n : h114.1 = h110.1 + 1 := by rw [e117]; rfl
  obtain ⟨g120, hf⟩ := grd_e hf
  obtain ⟨h118, e119, hf⟩ := bd1_e hf
  refine g_putF (pc := 113) (ci := 8) (kk := 27) ty_M tyok_M nm_M d_M_new_113 rfl in_M (by decide) wd_965 rfl rfl rfl (fun _ => rfl) (fun _ => rfl) (fun _ z => by cases z; omega) e119 ?_
  refine g_aload_n (pc := 116) 0 d_M_new_116 rfl rfl ?_
  refine g_iconst (pc := 117) (5 : Int32) d_M_new_117 (by decide) ?_
  obtain ⟨g121, hf⟩ := grd_e hf
  obtain ⟨h122, e123, hf⟩ := bd1_e hf
  obtain ⟨g124, e125⟩ := mkn_e e123
  refine g_newa (pc := 118) rfl 0 5 .int (5, .inl (fun _ => 0)) wd_92 rfl (fun _ => rfl) (fun _ _ _ a b => Option.some.inj (a.symm.trans b)) (fun _ => rfl) (fun _ => rfl) (fun _ z => absurd z id) (by decide) (by decide) (by decide) d_M_new_118 g124 (okl_cons (okv_r (by omega)) (okl_nil)) (oks_cons (okv_r (by omega)) (oks_nil)) ?_
  rw [← e125]
  have h122_n : h122.1 = h118.1 + 1 := by rw [e125]; rfl
  obtain ⟨g128, hf⟩ := grd_e hf
  obtain ⟨h126, e127, hf⟩ := bd1_e hf
  refine g_putF (pc := 120) (ci := 8) (kk := 28) ty_M tyok_M nm_M d_M_new_120 rfl in_M (by decide) wd_966 rfl rfl rfl (fun _ => rfl) (fun _ => rfl) (fun _ z => by cases z; omega) e127 ?_
  refine g_aload_n (pc := 123) 0 d_M_new_123 rfl rfl ?_
  refine g_iconst (pc := 124) (3 : Int32) d_M_new_124 (by decide) ?_
  obtain ⟨g129, hf⟩ := grd_e hf
  obtain ⟨h130, e131, hf⟩ := bd1_e hf
  obtain ⟨g132, e133⟩ := mkn_e e131
  refine g_newa (pc := 125) rfl 0 3 .int (3, .inl (fun _ => 0)) wd_92 rfl (fun _ => rfl) (fun _ _ _ a b => Option.some.inj (a.symm.trans b)) (fun _ => rfl) (fun _ => rfl) (fun _ z => absurd z id) (by decide) (by decide) (by decide) d_M_new_125 g132 (okl_cons (okv_r (by omega)) (okl_nil)) (oks_cons (okv_r (by omega)) (oks_nil)) ?_
  rw [← e133]
  have h130_n : h130.1 = h126.1 + 1 := by rw [e133]; rfl
  obtain ⟨g136, hf⟩ := grd_e hf
  obtain ⟨h134, e135, hf⟩ := bd1_e hf
  refine g_putF (pc := 127) (ci := 8) (kk := 29) ty_M tyok_M nm_M d_M_new_127 rfl in_M (by decide) wd_967 rfl rfl rfl (fun _ => rfl) (fun _ => rfl) (fun _ z => by cases z; omega) e135 ?_
  refine g_aload_n (pc := 130) 0 d_M_new_130 rfl rfl ?_
  refine g_iconst (pc := 131) (3 : Int32) d_M_new_131 (by decide) ?_
  obtain ⟨g137, hf⟩ := grd_e hf
  obtain ⟨h138, e139, hf⟩ := bd1_e hf
  obtain ⟨g140, e141⟩ := mkn_e e139
  refine g_newa (pc := 132) rfl 0 3 .int (3, .inl (fun _ => 0)) wd_92 rfl (fun _ => rfl) (fun _ _ _ a b => Option.some.inj (a.symm.trans b)) (fun _ => rfl) (fun _ => rfl) (fun _ z => absurd z id) (by decide) (by decide) (by decide) d_M_new_132 g140 (okl_cons (okv_r (by omega)) (okl_nil)) (oks_cons (okv_r (by omega)) (oks_nil)) ?_
  rw [← e141]
  have h138_n : h138.1 = h134.1 + 1 := by rw [e141]; rfl
  obtain ⟨g144, hf⟩ := grd_e hf
  obtain ⟨h142, e143, hf⟩ := bd1_e hf
  refine g_putF (pc := 134) (ci := 8) (kk := 30) ty_M tyok_M nm_M d_M_new_134 rfl in_M (by decide) wd_968 rfl rfl rfl (fun _ => rfl) (fun _ => rfl) (fun _ z => by cases z; omega) e143 ?_
  refine g_aload_n (pc := 137) 0 d_M_new_137 rfl rfl ?_
  refine g_bipush (pc := 138) (66 : Int32) d_M_new_138 (by decide) ?_
  obtain ⟨g145, hf⟩ := grd_e hf
  obtain ⟨h146, e147, hf⟩ := bd1_e hf
  obtain ⟨g148, e149⟩ := mkn_e e147
  refine g_newa (pc := 140) rfl 0 66 .int (66, .inl (fun _ => 0)) wd_92 rfl (fun _ => rfl) (fun _ _ _ a b => Option.some.inj (a.symm.trans b)) (fun _ => rfl) (fun _ => rfl) (fun _ z => absurd z id) (by decide) (by decide) (by decide) d_M_new_140 g148 (okl_cons (okv_r (by omega)) (okl_nil)) (oks_cons (okv_r (by omega)) (oks_nil)) ?_
  rw [← e149]
  have h146_n : h146.1 = h142.1 + 1 := by rw [e149]; rfl
  obtain ⟨g152, hf⟩ := grd_e hf
  obtain ⟨h150, e151, hf⟩ := bd1_e hf
  refine g_putF (pc := 142) (ci := 8) (kk := 31) ty_M tyok_M nm_M d_M_new_142 rfl in_M (by decide) wd_969 rfl rfl rfl (fun _ => rfl) (fun _ => rfl) (fun _ z => by cases z; omega) e151 ?_
  refine g_aload_n (pc := 145) 0 d_M_new_145 rfl rfl ?_
  refine g_bipush (pc := 146) (16 : Int32) d_M_new_146 (by decide) ?_
  obtain ⟨g153, hf⟩ := grd_e hf
  obtain ⟨h154, e155, hf⟩ := bd1_e hf
  obtain ⟨g156, e157⟩ := mkn_e e155
  refine g_newa (pc := 148) rfl 3 16 .long (16, .inr (.inl (fun _ => 0))) wd_261 rfl (fun _ => rfl) (fun _ _ _ a b => Option.some.inj (a.symm.trans b)) (fun _ => rfl) (fun _ => rfl) (fun _ z => absurd z id) (by decide) (by decide) (by decide) d_M_new_148 g156 (okl_cons (okv_r (by omega)) (okl_nil)) (oks_cons (okv_r (by omega)) (oks_nil)) ?_
  rw [← e157]
  have h154_n : h154.1 = h150.1 + 1 := by rw [e157]; rfl
  obtain ⟨g160, hf⟩ := grd_e hf
  obtain ⟨h158, e159, hf⟩ := bd1_e hf
  refine g_putF (pc := 150) (ci := 8) (kk := 32) ty_M tyok_M nm_M d_M_new_150 rfl in_M (by decide) wd_970 rfl rfl rfl (fun _ => rfl) (fun _ => rfl) (fun _ z => by cases z; omega) e159 ?_
  refine g_aload_n (pc := 153) 0 d_M_new_153 rfl rfl ?_
  refine g_sipush (pc := 154) (216 : Int32) d_M_new_154 (by decide) ?_
  obtain ⟨g161, hf⟩ := grd_e hf
  obtain ⟨h162, e163, hf⟩ := bd1_e hf
  obtain ⟨g164, e165⟩ := mkn_e e163
  refine g_newa (pc := 157) rfl 3 216 .long (216, .inr (.inl (fun _ => 0))) wd_261 rfl (fun _ => rfl) (fun _ _ _ a b => Option.some.inj (a.symm.trans b)) (fun _ => rfl) (fun _ => rfl) (fun _ z => absurd z id) (by decide) (by decide) (by decide) d_M_new_157 g164 (okl_cons (okv_r (by omega)) (okl_nil)) (oks_cons (okv_r (by omega)) (oks_nil)) ?_
  rw [← e165]
  have h162_n : h162.1 = h158.1 + 1 := by rw [e165]; rfl
  obtain ⟨g168, hf⟩ := grd_e hf
  obtain ⟨h166, e167, hf⟩ := bd1_e hf
  refine g_putF (pc := 159) (ci := 8) (kk := 33) ty_M tyok_M nm_M d_M_new_159 rfl in_M (by decide) wd_971 rfl rfl rfl (fun _ => rfl) (fun _ => rfl) (fun _ z => by cases z; omega) e167 ?_
  refine g_aload_n (pc := 162) 0 d_M_new_162 rfl rfl ?_
  refine g_sipush (pc := 163) (216 : Int32) d_M_new_163 (by decide) ?_
  obtain ⟨g169, hf⟩ := grd_e hf
  obtain ⟨h170, e171, hf⟩ := bd1_e hf
  obtain ⟨g172, e173⟩ := mkn_e e171
  refine g_newa (pc := 166) rfl 3 216 .long (216, .inr (.inl (fun _ => 0))) wd_261 rfl (fun _ => rfl) (fun _ _ _ a b => Option.some.inj (a.symm.trans b)) (fun _ => rfl) (fun _ => rfl) (fun _ z => absurd z id) (by decide) (by decide) (by decide) d_M_new_166 g172 (okl_cons (okv_r (by omega)) (okl_nil)) (oks_cons (okv_r (by omega)) (oks_nil)) ?_
  rw [← e173]
  have h170_n : h170.1 = h166.1 + 1 := by rw [e173]; rfl
  obtain ⟨g176, hf⟩ := grd_e hf
  obtain ⟨h174, e175, hf⟩ := bd1_e hf
  refine g_putF (pc := 168) (ci := 8) (kk := 34) ty_M tyok_M nm_M d_M_new_168 rfl in_M (by decide) wd_972 rfl rfl rfl (fun _ => rfl) (fun _ => rfl) (fun _ z => by cases z; omega) e175 ?_
  refine g_aload_n (pc := 171) 0 d_M_new_171 rfl rfl ?_
  refine g_iconst (pc := 172) (4 : Int32) d_M_new_172 (by decide) ?_
  obtain ⟨g177, hf⟩ := grd_e hf
  obtain ⟨h178, e179, hf⟩ := bd1_e hf
  obtain ⟨g180, e181⟩ := mkn_e e179
  refine g_newa (pc := 173) rfl 0 4 .int (4, .inl (fun _ => 0)) wd_92 rfl (fun _ => rfl) (fun _ _ _ a b => Option.some.inj (a.symm.trans b)) (fun _ => rfl) (fun _ => rfl) (fun _ z => absurd z id) (by decide) (by decide) (by decide) d_M_new_173 g180 (okl_cons (okv_r (by omega)) (okl_nil)) (oks_cons (okv_r (by omega)) (oks_nil)) ?_
  rw [← e181]
  have h178_n : h178.1 = h174.1 + 1 := by rw [e181]; rfl
  obtain ⟨g184, hf⟩ := grd_e hf
  obtain ⟨h182, e183, hf⟩ := bd1_e hf
  refine g_putF (pc := 175) (ci := 8) (kk := 35) ty_M tyok_M nm_M d_M_new_175 rfl in_M (by decide) wd_973 rfl rfl rfl (fun _ => rfl) (fun _ => rfl) (fun _ z => by cases z; omega) e183 ?_
  refine g_aload_n (pc := 178) 0 d_M_new_178 rfl rfl ?_
  refine g_iconst (pc := 179) (4 : Int32) d_M_new_179 (by decide) ?_
  obtain ⟨g185, hf⟩ := grd_e hf
  obtain ⟨h186, e187, hf⟩ := bd1_e hf
  obtain ⟨g188, e189⟩ := mkn_e e187
  refine g_newa (pc := 180) rfl 0 4 .int (4, .inl (fun _ => 0)) wd_92 rfl (fun _ => rfl) (fun _ _ _ a b => Option.some.inj (a.symm.trans b)) (fun _ => rfl) (fun _ => rfl) (fun _ z => absurd z id) (by decide) (by decide) (by decide) d_M_new_180 g188 (okl_cons (okv_r (by omega)) (okl_nil)) (oks_cons (okv_r (by omega)) (oks_nil)) ?_
  rw [← e189]
  have h186_n : h186.1 = h182.1 + 1 := by rw [e189]; rfl
  obtain ⟨g192, hf⟩ := grd_e hf
  obtain ⟨h190, e191, hf⟩ := bd1_e hf
  refine g_putF (pc := 182) (ci := 8) (kk := 36) ty_M tyok_M nm_M d_M_new_182 rfl in_M (by decide) wd_974 rfl rfl rfl (fun _ => rfl) (fun _ => rfl) (fun _ z => by cases z; omega) e191 ?_
  refine g_aload_n (pc := 185) 0 d_M_new_185 rfl rfl ?_
  refine g_sipush (pc := 186) (160 : Int32) d_M_new_186 (by decide) ?_
  obtain ⟨g193, hf⟩ := grd_e hf
  obtain ⟨h194, e195, hf⟩ := bd1_e hf
  obtain ⟨g196, e197⟩ := mkn_e e195
  refine g_newa (pc := 189) rfl 0 160 .int (160, .inl (fun _ => 0)) wd_92 rfl (fun _ => rfl) (fun _ _ _ a b => Option.some.inj (a.symm.trans b)) (fun _ => rfl) (fun _ => rfl) (fun _ z => absurd z id) (by decide) (by decide) (by decide) d_M_new_189 g196 (okl_cons (okv_r (by omega)) (okl_nil)) (oks_cons (okv_r (by omega)) (oks_nil)) ?_
  rw [← e197]
  have h194_n : h194.1 = h190.1 + 1 := by rw [e197]; rfl
  obtain ⟨g200, hf⟩ := grd_e hf
  obtain ⟨h198, e199, hf⟩ := bd1_e hf
  refine g_putF (pc := 191) (ci := 8) (kk := 37) ty_M tyok_M nm_M d_M_new_191 rfl in_M (by decide) wd_975 rfl rfl rfl (fun _ => rfl) (fun _ => rfl) (fun _ z => by cases z; omega) e199 ?_
  refine g_iconst (pc := 194) (0 : Int32) d_M_new_194 (by decide) ?_
  refine g_istore_n (pc := 195) [(1, .int (0 : Int32)), (0, .ref a0)] d_M_new_195 rfl (Nat.le_of_ble_eq_true rfl) rfl ?_
  refine g_lv [1, 0] rfl ?_
  exact t_M_new_196  FU _ _ _ _  hf
def f_M_new (a0 : Nat) (h : mH) : Option mH := f_M_new_0 a0 h
theorem c_M_new {sc : Nat × (Nat → Int32)} {a0 : Nat} {h : mH} {h' : mH} (hf : f_M_new a0 h = some h') : MM sc y_M_new prog_10_method_1_code 2 none 1 21 [.ref a0] h none h' :=
  mm_of_G (by decide) (Nat.le_of_ble_eq_true rfl) (t_M_new_0 _ _ _ hf)
