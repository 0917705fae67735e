/-! facts of the names: printed by wip/gen/gen_names.py -/
theorem nm_Q : ∀ a, a < 10 → ∀ b, b < 10 → a ≠ b → (T_Q a).2.1 ≠ (T_Q b).2.1 := by decide +kernel
theorem tyok_Q : ∀ k, k < 10 → parseFieldDescriptor (T_Q k).2.2.1 = some (ty_Q k) := by decide +kernel
theorem in_Q : ∀ w ∈ u_ws "QuotaLaws" T_Q 10, w ∈ tbg := ws_in tables_1_2 tb_2 66 (by decide +kernel)
theorem nm_Odds : ∀ a, a < 3 → ∀ b, b < 3 → a ≠ b → (T_Odds a).2.1 ≠ (T_Odds b).2.1 := by decide +kernel
theorem tyok_Odds : ∀ k, k < 3 → parseFieldDescriptor (T_Odds k).2.2.1 = some (ty_Odds k) := by decide +kernel
theorem in_Odds : ∀ w ∈ u_ws "QuotaLaws$Odds" T_Odds 3, w ∈ tbg := ws_in tables_1_2 tb_2 33 (by decide +kernel)
theorem nm_Planner : ∀ a, a < 8 → ∀ b, b < 8 → a ≠ b → (T_Planner a).2.1 ≠ (T_Planner b).2.1 := by decide +kernel
theorem tyok_Planner : ∀ k, k < 8 → parseFieldDescriptor (T_Planner k).2.2.1 = some (ty_Planner k) := by decide +kernel
theorem in_Planner : ∀ w ∈ u_ws "QuotaLaws$Planner" T_Planner 8, w ∈ tbg := ws_in tables_1_1 tb_1 212 (by decide +kernel)
theorem nm_Reader : ∀ a, a < 9 → ∀ b, b < 9 → a ≠ b → (T_Reader a).2.1 ≠ (T_Reader b).2.1 := by decide +kernel
theorem tyok_Reader : ∀ k, k < 9 → parseFieldDescriptor (T_Reader k).2.2.1 = some (ty_Reader k) := by decide +kernel
theorem in_Reader : ∀ w ∈ u_ws "QuotaLaws$Reader" T_Reader 9, w ∈ tbg := ws_in tables_1_1 tb_1 45 (by decide +kernel)
theorem nm_Realm : ∀ a, a < 19 → ∀ b, b < 19 → a ≠ b → (T_Realm a).2.1 ≠ (T_Realm b).2.1 := by decide +kernel
theorem tyok_Realm : ∀ k, k < 19 → parseFieldDescriptor (T_Realm k).2.2.1 = some (ty_Realm k) := by decide +kernel
theorem in_Realm : ∀ w ∈ u_ws "QuotaLaws$Realm" T_Realm 19, w ∈ tbg := ws_in tables_1_1 tb_1 156 (by decide +kernel)
theorem nm_Sheet : ∀ a, a < 3 → ∀ b, b < 3 → a ≠ b → (T_Sheet a).2.1 ≠ (T_Sheet b).2.1 := by decide +kernel
theorem tyok_Sheet : ∀ k, k < 3 → parseFieldDescriptor (T_Sheet k).2.2.1 = some (ty_Sheet k) := by decide +kernel
theorem in_Sheet : ∀ w ∈ u_ws "QuotaLaws$Sheet" T_Sheet 3, w ∈ tbg := ws_in tables_1_2 tb_2 49 (by decide +kernel)
theorem nm_Sightings : ∀ a, a < 4 → ∀ b, b < 4 → a ≠ b → (T_Sightings a).2.1 ≠ (T_Sightings b).2.1 := by decide +kernel
theorem tyok_Sightings : ∀ k, k < 4 → parseFieldDescriptor (T_Sightings k).2.2.1 = some (ty_Sightings k) := by decide +kernel
theorem in_Sightings : ∀ w ∈ u_ws "QuotaLaws$Sightings" T_Sightings 4, w ∈ tbg := ws_in tables_1_1 tb_1 83 (by decide +kernel)
theorem nm_Tables : ∀ a, a < 8 → ∀ b, b < 8 → a ≠ b → (T_Tables a).2.1 ≠ (T_Tables b).2.1 := by decide +kernel
theorem tyok_Tables : ∀ k, k < 8 → parseFieldDescriptor (T_Tables k).2.2.1 = some (ty_Tables k) := by decide +kernel
theorem in_Tables : ∀ w ∈ u_ws "QuotaLaws$Tables" T_Tables 8, w ∈ tbg := ws_in tables_1_2 tb_2 4 (by decide +kernel)
theorem nm_M : ∀ a, a < 39 → ∀ b, b < 39 → a ≠ b → (T_M a).2.1 ≠ (T_M b).2.1 := by decide +kernel
theorem tyok_M : ∀ k, k < 39 → parseFieldDescriptor (T_M k).2.2.1 = some (ty_M k) := by decide +kernel
theorem in_M : ∀ w ∈ u_ws "QuotaLawsModel" T_M 39, w ∈ tbg := ws_in tables_1_5 tb_5 17 (by decide +kernel)
