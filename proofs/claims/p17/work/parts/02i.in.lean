/-! words by their place in one of the six lists -/
theorem lw_eq : lw_tbl = k2_sels lw_privs ++ tables_1 := rfl
theorem lw_right {w : Cond} (h : w ∈ tables_1) : w ∈ lw_tbl := by
  rw [lw_eq]
  exact List.mem_append.mpr (Or.inr h)
theorem lw_left {w : Cond} (h : w ∈ k2_sels lw_privs) : w ∈ lw_tbl := by
  rw [lw_eq]
  exact List.mem_append.mpr (Or.inl h)
theorem tbg_c1 {w : Cond} (i : Nat) (h : tables_1_1[i]? = some w) (hg : goodWord w = true) : w ∈ tbg := List.mem_filter.mpr ⟨lw_right (tb_1 (List.mem_of_getElem? h)), hg⟩
theorem nests_c1 {w : Cond} (i : Nat) (h : tables_1_1[i]? = some w) (hg : isNest w = true) : w ∈ nests := List.mem_filter.mpr ⟨lw_right (tb_1 (List.mem_of_getElem? h)), hg⟩
theorem lw_c1 {w : Cond} (i : Nat) (h : tables_1_1[i]? = some w) : w ∈ lw_tbl := lw_right (tb_1 (List.mem_of_getElem? h))
theorem tbg_c2 {w : Cond} (i : Nat) (h : tables_1_2[i]? = some w) (hg : goodWord w = true) : w ∈ tbg := List.mem_filter.mpr ⟨lw_right (tb_2 (List.mem_of_getElem? h)), hg⟩
theorem nests_c2 {w : Cond} (i : Nat) (h : tables_1_2[i]? = some w) (hg : isNest w = true) : w ∈ nests := List.mem_filter.mpr ⟨lw_right (tb_2 (List.mem_of_getElem? h)), hg⟩
theorem lw_c2 {w : Cond} (i : Nat) (h : tables_1_2[i]? = some w) : w ∈ lw_tbl := lw_right (tb_2 (List.mem_of_getElem? h))
theorem tbg_c3 {w : Cond} (i : Nat) (h : tables_1_3[i]? = some w) (hg : goodWord w = true) : w ∈ tbg := List.mem_filter.mpr ⟨lw_right (tb_3 (List.mem_of_getElem? h)), hg⟩
theorem nests_c3 {w : Cond} (i : Nat) (h : tables_1_3[i]? = some w) (hg : isNest w = true) : w ∈ nests := List.mem_filter.mpr ⟨lw_right (tb_3 (List.mem_of_getElem? h)), hg⟩
theorem lw_c3 {w : Cond} (i : Nat) (h : tables_1_3[i]? = some w) : w ∈ lw_tbl := lw_right (tb_3 (List.mem_of_getElem? h))
theorem tbg_c4 {w : Cond} (i : Nat) (h : tables_1_4[i]? = some w) (hg : goodWord w = true) : w ∈ tbg := List.mem_filter.mpr ⟨lw_right (tb_4 (List.mem_of_getElem? h)), hg⟩
theorem nests_c4 {w : Cond} (i : Nat) (h : tables_1_4[i]? = some w) (hg : isNest w = true) : w ∈ nests := List.mem_filter.mpr ⟨lw_right (tb_4 (List.mem_of_getElem? h)), hg⟩
theorem lw_c4 {w : Cond} (i : Nat) (h : tables_1_4[i]? = some w) : w ∈ lw_tbl := lw_right (tb_4 (List.mem_of_getElem? h))
theorem tbg_c5 {w : Cond} (i : Nat) (h : tables_1_5[i]? = some w) (hg : goodWord w = true) : w ∈ tbg := List.mem_filter.mpr ⟨lw_right (tb_5 (List.mem_of_getElem? h)), hg⟩
theorem nests_c5 {w : Cond} (i : Nat) (h : tables_1_5[i]? = some w) (hg : isNest w = true) : w ∈ nests := List.mem_filter.mpr ⟨lw_right (tb_5 (List.mem_of_getElem? h)), hg⟩
theorem lw_c5 {w : Cond} (i : Nat) (h : tables_1_5[i]? = some w) : w ∈ lw_tbl := lw_right (tb_5 (List.mem_of_getElem? h))
theorem tbg_c6 {w : Cond} (i : Nat) (h : tables_1_6[i]? = some w) (hg : goodWord w = true) : w ∈ tbg := List.mem_filter.mpr ⟨lw_right (tb_6 (List.mem_of_getElem? h)), hg⟩
theorem nests_c6 {w : Cond} (i : Nat) (h : tables_1_6[i]? = some w) (hg : isNest w = true) : w ∈ nests := List.mem_filter.mpr ⟨lw_right (tb_6 (List.mem_of_getElem? h)), hg⟩
theorem lw_c6 {w : Cond} (i : Nat) (h : tables_1_6[i]? = some w) : w ∈ lw_tbl := lw_right (tb_6 (List.mem_of_getElem? h))
theorem tbg_in3 {w : Cond} (i : Nat) (h : (k2_sels lw_privs)[i]? = some w) (hg : goodWord w = true) : w ∈ tbg := List.mem_filter.mpr ⟨lw_left (List.mem_of_getElem? h), hg⟩
theorem tbg_m1 {w : Cond} (h : w ∈ tables_1_1) (hg : goodWord w = true) : w ∈ tbg := List.mem_filter.mpr ⟨lw_right (tb_1 h), hg⟩
theorem nests_m1 {w : Cond} (h : w ∈ tables_1_1) (hg : isNest w = true) : w ∈ nests := List.mem_filter.mpr ⟨lw_right (tb_1 h), hg⟩
theorem tbg_m2 {w : Cond} (h : w ∈ tables_1_2) (hg : goodWord w = true) : w ∈ tbg := List.mem_filter.mpr ⟨lw_right (tb_2 h), hg⟩
theorem nests_m2 {w : Cond} (h : w ∈ tables_1_2) (hg : isNest w = true) : w ∈ nests := List.mem_filter.mpr ⟨lw_right (tb_2 h), hg⟩
theorem tbg_m3 {w : Cond} (h : w ∈ tables_1_3) (hg : goodWord w = true) : w ∈ tbg := List.mem_filter.mpr ⟨lw_right (tb_3 h), hg⟩
theorem nests_m3 {w : Cond} (h : w ∈ tables_1_3) (hg : isNest w = true) : w ∈ nests := List.mem_filter.mpr ⟨lw_right (tb_3 h), hg⟩
theorem tbg_m4 {w : Cond} (h : w ∈ tables_1_4) (hg : goodWord w = true) : w ∈ tbg := List.mem_filter.mpr ⟨lw_right (tb_4 h), hg⟩
theorem nests_m4 {w : Cond} (h : w ∈ tables_1_4) (hg : isNest w = true) : w ∈ nests := List.mem_filter.mpr ⟨lw_right (tb_4 h), hg⟩
theorem tbg_m5 {w : Cond} (h : w ∈ tables_1_5) (hg : goodWord w = true) : w ∈ tbg := List.mem_filter.mpr ⟨lw_right (tb_5 h), hg⟩
theorem nests_m5 {w : Cond} (h : w ∈ tables_1_5) (hg : isNest w = true) : w ∈ nests := List.mem_filter.mpr ⟨lw_right (tb_5 h), hg⟩
theorem tbg_m6 {w : Cond} (h : w ∈ tables_1_6) (hg : goodWord w = true) : w ∈ tbg := List.mem_filter.mpr ⟨lw_right (tb_6 h), hg⟩
theorem nests_m6 {w : Cond} (h : w ∈ tables_1_6) (hg : isNest w = true) : w ∈ nests := List.mem_filter.mpr ⟨lw_right (tb_6 h), hg⟩
theorem ws_in {C : String} {T : u_T} {N : Nat} (tb : List Cond) (ht : ∀ {w}, w ∈ tb → w ∈ tables_1) (a : Nat) (h : ∀ k, k < N → tb[a + 2 * k]? = some (u_lay C T k)) : ∀ w ∈ u_ws C T N, w ∈ tbg := by
  intro w hw
  obtain ⟨k, hk, rfl⟩ := List.mem_map.mp hw
  have hk := List.mem_range.mp hk
  refine List.mem_filter.mpr ⟨lw_right (ht (List.mem_of_getElem? (h k hk))), ?_⟩
  unfold u_lay
  split <;> rfl
