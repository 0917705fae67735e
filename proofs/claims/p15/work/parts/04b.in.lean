/-! words by their place in one of the six lists -/
theorem tb_eq : tables_1 = tables_1_1 ++ (tables_1_2 ++ (tables_1_3 ++ (tables_1_4 ++ (tables_1_5 ++ tables_1_6)))) := rfl
theorem lw_eq : lw_tbl = k2_sels lw_privs ++ tables_1 := rfl
theorem lw_right {w : Cond} (h : w ∈ tables_1) : w ∈ lw_tbl := by
  rw [lw_eq]
  exact List.mem_append.mpr (Or.inr h)
theorem lw_left {w : Cond} (h : w ∈ k2_sels lw_privs) : w ∈ lw_tbl := by
  rw [lw_eq]
  exact List.mem_append.mpr (Or.inl h)
theorem tb_1 {w : Cond} (h : w ∈ tables_1_1) : w ∈ tables_1 := by
  rw [tb_eq]
  exact List.mem_append.mpr (Or.inl h)
theorem tbg_c1 {w : Cond} (i : Nat) (h : tables_1_1[i]? = some w) (hg : goodWord w = true) : w ∈ tbg := List.mem_filter.mpr ⟨lw_right (tb_1 (List.mem_of_getElem? h)), hg⟩
theorem nests_c1 {w : Cond} (i : Nat) (h : tables_1_1[i]? = some w) (hg : isNest w = true) : w ∈ nests := List.mem_filter.mpr ⟨lw_right (tb_1 (List.mem_of_getElem? h)), hg⟩
theorem lw_c1 {w : Cond} (i : Nat) (h : tables_1_1[i]? = some w) : w ∈ lw_tbl := lw_right (tb_1 (List.mem_of_getElem? h))
theorem tb_2 {w : Cond} (h : w ∈ tables_1_2) : w ∈ tables_1 := by
  rw [tb_eq]
  exact List.mem_append.mpr (Or.inr (List.mem_append.mpr (Or.inl h)))
theorem tbg_c2 {w : Cond} (i : Nat) (h : tables_1_2[i]? = some w) (hg : goodWord w = true) : w ∈ tbg := List.mem_filter.mpr ⟨lw_right (tb_2 (List.mem_of_getElem? h)), hg⟩
theorem nests_c2 {w : Cond} (i : Nat) (h : tables_1_2[i]? = some w) (hg : isNest w = true) : w ∈ nests := List.mem_filter.mpr ⟨lw_right (tb_2 (List.mem_of_getElem? h)), hg⟩
theorem lw_c2 {w : Cond} (i : Nat) (h : tables_1_2[i]? = some w) : w ∈ lw_tbl := lw_right (tb_2 (List.mem_of_getElem? h))
theorem tb_3 {w : Cond} (h : w ∈ tables_1_3) : w ∈ tables_1 := by
  rw [tb_eq]
  exact List.mem_append.mpr (Or.inr (List.mem_append.mpr (Or.inr (List.mem_append.mpr (Or.inl h)))))
theorem tbg_c3 {w : Cond} (i : Nat) (h : tables_1_3[i]? = some w) (hg : goodWord w = true) : w ∈ tbg := List.mem_filter.mpr ⟨lw_right (tb_3 (List.mem_of_getElem? h)), hg⟩
theorem nests_c3 {w : Cond} (i : Nat) (h : tables_1_3[i]? = some w) (hg : isNest w = true) : w ∈ nests := List.mem_filter.mpr ⟨lw_right (tb_3 (List.mem_of_getElem? h)), hg⟩
theorem lw_c3 {w : Cond} (i : Nat) (h : tables_1_3[i]? = some w) : w ∈ lw_tbl := lw_right (tb_3 (List.mem_of_getElem? h))
theorem tb_4 {w : Cond} (h : w ∈ tables_1_4) : w ∈ tables_1 := by
  rw [tb_eq]
  exact List.mem_append.mpr (Or.inr (List.mem_append.mpr (Or.inr (List.mem_append.mpr (Or.inr (List.mem_append.mpr (Or.inl h)))))))
theorem tbg_c4 {w : Cond} (i : Nat) (h : tables_1_4[i]? = some w) (hg : goodWord w = true) : w ∈ tbg := List.mem_filter.mpr ⟨lw_right (tb_4 (List.mem_of_getElem? h)), hg⟩
theorem nests_c4 {w : Cond} (i : Nat) (h : tables_1_4[i]? = some w) (hg : isNest w = true) : w ∈ nests := List.mem_filter.mpr ⟨lw_right (tb_4 (List.mem_of_getElem? h)), hg⟩
theorem lw_c4 {w : Cond} (i : Nat) (h : tables_1_4[i]? = some w) : w ∈ lw_tbl := lw_right (tb_4 (List.mem_of_getElem? h))
theorem tb_5 {w : Cond} (h : w ∈ tables_1_5) : w ∈ tables_1 := by
  rw [tb_eq]
  exact List.mem_append.mpr (Or.inr (List.mem_append.mpr (Or.inr (List.mem_append.mpr (Or.inr (List.mem_append.mpr (Or.inr (List.mem_append.mpr (Or.inl h)))))))))
theorem tbg_c5 {w : Cond} (i : Nat) (h : tables_1_5[i]? = some w) (hg : goodWord w = true) : w ∈ tbg := List.mem_filter.mpr ⟨lw_right (tb_5 (List.mem_of_getElem? h)), hg⟩
theorem nests_c5 {w : Cond} (i : Nat) (h : tables_1_5[i]? = some w) (hg : isNest w = true) : w ∈ nests := List.mem_filter.mpr ⟨lw_right (tb_5 (List.mem_of_getElem? h)), hg⟩
theorem lw_c5 {w : Cond} (i : Nat) (h : tables_1_5[i]? = some w) : w ∈ lw_tbl := lw_right (tb_5 (List.mem_of_getElem? h))
theorem tb_6 {w : Cond} (h : w ∈ tables_1_6) : w ∈ tables_1 := by
  rw [tb_eq]
  exact List.mem_append.mpr (Or.inr (List.mem_append.mpr (Or.inr (List.mem_append.mpr (Or.inr (List.mem_append.mpr (Or.inr (List.mem_append.mpr (Or.inr (h))))))))))
theorem tbg_c6 {w : Cond} (i : Nat) (h : tables_1_6[i]? = some w) (hg : goodWord w = true) : w ∈ tbg := List.mem_filter.mpr ⟨lw_right (tb_6 (List.mem_of_getElem? h)), hg⟩
theorem nests_c6 {w : Cond} (i : Nat) (h : tables_1_6[i]? = some w) (hg : isNest w = true) : w ∈ nests := List.mem_filter.mpr ⟨lw_right (tb_6 (List.mem_of_getElem? h)), hg⟩
theorem lw_c6 {w : Cond} (i : Nat) (h : tables_1_6[i]? = some w) : w ∈ lw_tbl := lw_right (tb_6 (List.mem_of_getElem? h))
theorem tbg_in3 {w : Cond} (i : Nat) (h : (k2_sels lw_privs)[i]? = some w) (hg : goodWord w = true) : w ∈ tbg := List.mem_filter.mpr ⟨lw_left (List.mem_of_getElem? h), hg⟩
