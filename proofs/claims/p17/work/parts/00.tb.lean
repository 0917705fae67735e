/-! a word of one of the six lists is a word; rows of words -/
theorem tb_eq : tables_1 = tables_1_1 ++ (tables_1_2 ++ (tables_1_3 ++ (tables_1_4 ++ (tables_1_5 ++ tables_1_6)))) := rfl
theorem tb_1 {w : Cond} (h : w ∈ tables_1_1) : w ∈ tables_1 := by
  rw [tb_eq]
  exact List.mem_append.mpr (Or.inl h)
theorem tb_2 {w : Cond} (h : w ∈ tables_1_2) : w ∈ tables_1 := by
  rw [tb_eq]
  exact List.mem_append.mpr (Or.inr (List.mem_append.mpr (Or.inl h)))
theorem tb_3 {w : Cond} (h : w ∈ tables_1_3) : w ∈ tables_1 := by
  rw [tb_eq]
  exact List.mem_append.mpr (Or.inr (List.mem_append.mpr (Or.inr (List.mem_append.mpr (Or.inl h)))))
theorem tb_4 {w : Cond} (h : w ∈ tables_1_4) : w ∈ tables_1 := by
  rw [tb_eq]
  exact List.mem_append.mpr (Or.inr (List.mem_append.mpr (Or.inr (List.mem_append.mpr (Or.inr (List.mem_append.mpr (Or.inl h)))))))
theorem tb_5 {w : Cond} (h : w ∈ tables_1_5) : w ∈ tables_1 := by
  rw [tb_eq]
  exact List.mem_append.mpr (Or.inr (List.mem_append.mpr (Or.inr (List.mem_append.mpr (Or.inr (List.mem_append.mpr (Or.inr (List.mem_append.mpr (Or.inl h)))))))))
theorem tb_6 {w : Cond} (h : w ∈ tables_1_6) : w ∈ tables_1 := by
  rw [tb_eq]
  exact List.mem_append.mpr (Or.inr (List.mem_append.mpr (Or.inr (List.mem_append.mpr (Or.inr (List.mem_append.mpr (Or.inr (List.mem_append.mpr (Or.inr (h))))))))))
def zw_A (T : List Cond) : List (Option Cond) → Prop
  | [] => True
  | none :: r => zw_A T r
  | some w :: r => w ∈ T ∧ zw_A T r
def zw_M : List (Option Cond) → List Cond → Prop
  | [], _ => True
  | none :: r, _ :: t => zw_M r t
  | some w :: r, x :: t => x = w ∧ zw_M r t
  | _ :: _, [] => False
theorem zw_of {T : List Cond} : ∀ (r : List (Option Cond)) (l : List Cond), zw_M r l → (∀ x, x ∈ l → x ∈ T) → zw_A T r
  | [], _, _, _ => trivial
  | none :: r, _ :: t, h, hT => zw_of r t h (fun x hx => hT x (List.mem_cons_of_mem _ hx))
  | some _ :: r, x :: t, h, hT => ⟨h.1 ▸ hT x (List.mem_cons_self ..), zw_of r t h.2 (fun x hx => hT x (List.mem_cons_of_mem _ hx))⟩
  | none :: _, [], h, _ => h.elim
  | some _ :: _, [], h, _ => h.elim
theorem zw_dr {T : List Cond} (n : Nat) (x : Cond) (h : x ∈ T.drop n) : x ∈ T := List.mem_of_mem_drop h
