/-! 50.law -/
section
/-! QuotaLawsLaw law ([I)Z -/
set_option maxRecDepth 100000 in
theorem dd_QuotaLawsLaw_law_0 : (decode code 0 = .ok (.new 7, 3)) ∧ (decode code 3 = .ok (.dup, 1)) ∧ (decode code 4 = .ok (.invokespecial 9, 3)) ∧ (decode code 7 = .ok (.astore_n 1, 1)) ∧ (decode code 8 = .ok (.new 10, 3)) ∧ (decode code 11 = .ok (.dup, 1)) ∧ (decode code 12 = .ok (.invokespecial 12, 3)) ∧ (decode code 15 = .ok (.astore_n 2, 1)) ∧ (decode code 16 = .ok (.iconst 0, 1)) ∧ (decode code 17 = .ok (.istore_n 3, 1)) ∧ (decode code 18 = .ok (.iload_n 3, 1)) ∧ (decode code 19 = .ok (.aload_n 0, 1)) ∧ (decode code 20 = .ok (.arraylength, 1)) ∧ (decode code 21 = .ok (.iconst 5, 1)) ∧ (decode code 22 = .ok (.isub, 1)) ∧ (decode code 23 = .ok (.if_icmp .gt 1325, 3)) ∧ (decode code 26 = .ok (.aload_n 0, 1)) ∧ (decode code 27 = .ok (.iload_n 3, 1)) ∧ (decode code 28 = .ok (.iaload, 1)) ∧ (decode code 29 = .ok (.bipush 63, 2)) ∧ (decode code 31 = .ok (.iand, 1)) ∧ (decode code 32 = .ok (.tableswitch 1310 0 37 #[168, 191, 214, 227, 240, 263, 296, 329, 362, 395, 428, 477, 510, 569, 628, 661, 684, 717, 730, 743, 766, 789, 812, 835, 868, 891, 924, 967, 990, 1003, 1046, 1089, 1112, 1135, 1178, 1221, 1274, 1287], 168)) ∧ (decode code 200 = .ok (.aload_n 1, 1)) ∧ (decode code 201 = .ok (.aload_n 0, 1)) := by
  have h : List.drop 0 code.data.toList = 0xbb :: _ := rfl
  refine ⟨zq_k_u2 187 (fun z => .new z) 7 h rfl (zq_o_187 _) (by decide +kernel), ?_⟩
  replace h := zq_nx3 (q := 3) h rfl
  refine ⟨zq_k_n 89 h rfl (zq_o_89 _), ?_⟩
  replace h := zq_nx1 (q := 4) h rfl
  refine ⟨zq_k_u2 183 (fun z => .invokespecial z) 9 h rfl (zq_o_183 _) (by decide +kernel), ?_⟩
  replace h := zq_nx3 (q := 7) h rfl
  refine ⟨zq_k_n 76 h rfl (zq_o_76 _), ?_⟩
  replace h := zq_nx1 (q := 8) h rfl
  refine ⟨zq_k_u2 187 (fun z => .new z) 10 h rfl (zq_o_187 _) (by decide +kernel), ?_⟩
  replace h := zq_nx3 (q := 11) h rfl
  refine ⟨zq_k_n 89 h rfl (zq_o_89 _), ?_⟩
  replace h := zq_nx1 (q := 12) h rfl
  refine ⟨zq_k_u2 183 (fun z => .invokespecial z) 12 h rfl (zq_o_183 _) (by decide +kernel), ?_⟩
  replace h := zq_nx3 (q := 15) h rfl
  refine ⟨zq_k_n 77 h rfl (zq_o_77 _), ?_⟩
  replace h := zq_nx1 (q := 16) h rfl
  refine ⟨zq_k_n 3 h rfl (zq_o_3 _), ?_⟩
  replace h := zq_nx1 (q := 17) h rfl
  refine ⟨zq_k_n 62 h rfl (zq_o_62 _), ?_⟩
  replace h := zq_nx1 (q := 18) h rfl
  refine ⟨zq_k_n 29 h rfl (zq_o_29 _), ?_⟩
  replace h := zq_nx1 (q := 19) h rfl
  refine ⟨zq_k_n 42 h rfl (zq_o_42 _), ?_⟩
  replace h := zq_nx1 (q := 20) h rfl
  refine ⟨zq_k_n 190 h rfl (zq_o_190 _), ?_⟩
  replace h := zq_nx1 (q := 21) h rfl
  refine ⟨zq_k_n 8 h rfl (zq_o_8 _), ?_⟩
  replace h := zq_nx1 (q := 22) h rfl
  refine ⟨zq_k_n 100 h rfl (zq_o_100 _), ?_⟩
  replace h := zq_nx1 (q := 23) h rfl
  refine ⟨zq_k_s2 163 (fun z => .if_icmp .gt z) 1325 h rfl (zq_o_163 _) (by decide +kernel), ?_⟩
  replace h := zq_nx3 (q := 26) h rfl
  refine ⟨zq_k_n 42 h rfl (zq_o_42 _), ?_⟩
  replace h := zq_nx1 (q := 27) h rfl
  refine ⟨zq_k_n 29 h rfl (zq_o_29 _), ?_⟩
  replace h := zq_nx1 (q := 28) h rfl
  refine ⟨zq_k_n 46 h rfl (zq_o_46 _), ?_⟩
  replace h := zq_nx1 (q := 29) h rfl
  refine ⟨zq_k_s1 16 (fun z => .bipush z) 63 h rfl (zq_o_16 _) (by decide +kernel), ?_⟩
  replace h := zq_nx2 (q := 31) h rfl
  refine ⟨zq_k_n 126 h rfl (zq_o_126 _), ?_⟩
  replace h := zq_nx1 (q := 32) h rfl
  refine ⟨by decide +kernel, ?_⟩
  have h : List.drop 200 code.data.toList = 0x2b :: _ := rfl
  refine ⟨zq_k_n 43 h rfl (zq_o_43 _), ?_⟩
  replace h := zq_nx1 (q := 201) h rfl
  exact zq_k_n 42 h rfl (zq_o_42 _)
set_option maxRecDepth 100000 in
theorem dd_QuotaLawsLaw_law_202 : (decode code 202 = .ok (.iload_n 3, 1)) ∧ (decode code 203 = .ok (.iconst 1, 1)) ∧ (decode code 204 = .ok (.iadd, 1)) ∧ (decode code 205 = .ok (.iaload, 1)) ∧ (decode code 206 = .ok (.invokevirtual 13, 3)) ∧ (decode code 209 = .ok (.pop, 1)) ∧ (decode code 210 = .ok (.aload_n 2, 1)) ∧ (decode code 211 = .ok (.aload_n 0, 1)) ∧ (decode code 212 = .ok (.iload_n 3, 1)) ∧ (decode code 213 = .ok (.iconst 1, 1)) ∧ (decode code 214 = .ok (.iadd, 1)) ∧ (decode code 215 = .ok (.iaload, 1)) ∧ (decode code 216 = .ok (.invokevirtual 17, 3)) ∧ (decode code 219 = .ok (.pop, 1)) ∧ (decode code 220 = .ok (.goto 1122, 3)) ∧ (decode code 223 = .ok (.aload_n 1, 1)) ∧ (decode code 224 = .ok (.aload_n 0, 1)) ∧ (decode code 225 = .ok (.iload_n 3, 1)) ∧ (decode code 226 = .ok (.iconst 1, 1)) ∧ (decode code 227 = .ok (.iadd, 1)) ∧ (decode code 228 = .ok (.iaload, 1)) ∧ (decode code 229 = .ok (.invokevirtual 18, 3)) ∧ (decode code 232 = .ok (.pop, 1)) ∧ (decode code 233 = .ok (.aload_n 2, 1)) := by
  have h : List.drop 202 code.data.toList = 0x1d :: _ := rfl
  refine ⟨zq_k_n 29 h rfl (zq_o_29 _), ?_⟩
  replace h := zq_nx1 (q := 203) h rfl
  refine ⟨zq_k_n 4 h rfl (zq_o_4 _), ?_⟩
  replace h := zq_nx1 (q := 204) h rfl
  refine ⟨zq_k_n 96 h rfl (zq_o_96 _), ?_⟩
  replace h := zq_nx1 (q := 205) h rfl
  refine ⟨zq_k_n 46 h rfl (zq_o_46 _), ?_⟩
  replace h := zq_nx1 (q := 206) h rfl
  refine ⟨zq_k_u2 182 (fun z => .invokevirtual z) 13 h rfl (zq_o_182 _) (by decide +kernel), ?_⟩
  replace h := zq_nx3 (q := 209) h rfl
  refine ⟨zq_k_n 87 h rfl (zq_o_87 _), ?_⟩
  replace h := zq_nx1 (q := 210) h rfl
  refine ⟨zq_k_n 44 h rfl (zq_o_44 _), ?_⟩
  replace h := zq_nx1 (q := 211) h rfl
  refine ⟨zq_k_n 42 h rfl (zq_o_42 _), ?_⟩
  replace h := zq_nx1 (q := 212) h rfl
  refine ⟨zq_k_n 29 h rfl (zq_o_29 _), ?_⟩
  replace h := zq_nx1 (q := 213) h rfl
  refine ⟨zq_k_n 4 h rfl (zq_o_4 _), ?_⟩
  replace h := zq_nx1 (q := 214) h rfl
  refine ⟨zq_k_n 96 h rfl (zq_o_96 _), ?_⟩
  replace h := zq_nx1 (q := 215) h rfl
  refine ⟨zq_k_n 46 h rfl (zq_o_46 _), ?_⟩
  replace h := zq_nx1 (q := 216) h rfl
  refine ⟨zq_k_u2 182 (fun z => .invokevirtual z) 17 h rfl (zq_o_182 _) (by decide +kernel), ?_⟩
  replace h := zq_nx3 (q := 219) h rfl
  refine ⟨zq_k_n 87 h rfl (zq_o_87 _), ?_⟩
  replace h := zq_nx1 (q := 220) h rfl
  refine ⟨zq_k_s2 167 (fun z => .goto z) 1122 h rfl (zq_o_167 _) (by decide +kernel), ?_⟩
  replace h := zq_nx3 (q := 223) h rfl
  refine ⟨zq_k_n 43 h rfl (zq_o_43 _), ?_⟩
  replace h := zq_nx1 (q := 224) h rfl
  refine ⟨zq_k_n 42 h rfl (zq_o_42 _), ?_⟩
  replace h := zq_nx1 (q := 225) h rfl
  refine ⟨zq_k_n 29 h rfl (zq_o_29 _), ?_⟩
  replace h := zq_nx1 (q := 226) h rfl
  refine ⟨zq_k_n 4 h rfl (zq_o_4 _), ?_⟩
  replace h := zq_nx1 (q := 227) h rfl
  refine ⟨zq_k_n 96 h rfl (zq_o_96 _), ?_⟩
  replace h := zq_nx1 (q := 228) h rfl
  refine ⟨zq_k_n 46 h rfl (zq_o_46 _), ?_⟩
  replace h := zq_nx1 (q := 229) h rfl
  refine ⟨zq_k_u2 182 (fun z => .invokevirtual z) 18 h rfl (zq_o_182 _) (by decide +kernel), ?_⟩
  replace h := zq_nx3 (q := 232) h rfl
  refine ⟨zq_k_n 87 h rfl (zq_o_87 _), ?_⟩
  replace h := zq_nx1 (q := 233) h rfl
  exact zq_k_n 44 h rfl (zq_o_44 _)
set_option maxRecDepth 100000 in
theorem dd_QuotaLawsLaw_law_234 : (decode code 234 = .ok (.aload_n 0, 1)) ∧ (decode code 235 = .ok (.iload_n 3, 1)) ∧ (decode code 236 = .ok (.iconst 1, 1)) ∧ (decode code 237 = .ok (.iadd, 1)) ∧ (decode code 238 = .ok (.iaload, 1)) ∧ (decode code 239 = .ok (.invokevirtual 21, 3)) ∧ (decode code 242 = .ok (.pop, 1)) ∧ (decode code 243 = .ok (.goto 1099, 3)) ∧ (decode code 246 = .ok (.aload_n 1, 1)) ∧ (decode code 247 = .ok (.invokevirtual 22, 3)) ∧ (decode code 250 = .ok (.pop, 1)) ∧ (decode code 251 = .ok (.aload_n 2, 1)) ∧ (decode code 252 = .ok (.invokevirtual 26, 3)) ∧ (decode code 255 = .ok (.pop, 1)) ∧ (decode code 256 = .ok (.goto 1086, 3)) ∧ (decode code 259 = .ok (.aload_n 1, 1)) ∧ (decode code 260 = .ok (.invokevirtual 27, 3)) ∧ (decode code 263 = .ok (.pop, 1)) ∧ (decode code 264 = .ok (.aload_n 2, 1)) ∧ (decode code 265 = .ok (.invokevirtual 30, 3)) ∧ (decode code 268 = .ok (.pop, 1)) ∧ (decode code 269 = .ok (.goto 1073, 3)) ∧ (decode code 272 = .ok (.aload_n 1, 1)) ∧ (decode code 273 = .ok (.aload_n 0, 1)) := by
  have h : List.drop 234 code.data.toList = 0x2a :: _ := rfl
  refine ⟨zq_k_n 42 h rfl (zq_o_42 _), ?_⟩
  replace h := zq_nx1 (q := 235) h rfl
  refine ⟨zq_k_n 29 h rfl (zq_o_29 _), ?_⟩
  replace h := zq_nx1 (q := 236) h rfl
  refine ⟨zq_k_n 4 h rfl (zq_o_4 _), ?_⟩
  replace h := zq_nx1 (q := 237) h rfl
  refine ⟨zq_k_n 96 h rfl (zq_o_96 _), ?_⟩
  replace h := zq_nx1 (q := 238) h rfl
  refine ⟨zq_k_n 46 h rfl (zq_o_46 _), ?_⟩
  replace h := zq_nx1 (q := 239) h rfl
  refine ⟨zq_k_u2 182 (fun z => .invokevirtual z) 21 h rfl (zq_o_182 _) (by decide +kernel), ?_⟩
  replace h := zq_nx3 (q := 242) h rfl
  refine ⟨zq_k_n 87 h rfl (zq_o_87 _), ?_⟩
  replace h := zq_nx1 (q := 243) h rfl
  refine ⟨zq_k_s2 167 (fun z => .goto z) 1099 h rfl (zq_o_167 _) (by decide +kernel), ?_⟩
  replace h := zq_nx3 (q := 246) h rfl
  refine ⟨zq_k_n 43 h rfl (zq_o_43 _), ?_⟩
  replace h := zq_nx1 (q := 247) h rfl
  refine ⟨zq_k_u2 182 (fun z => .invokevirtual z) 22 h rfl (zq_o_182 _) (by decide +kernel), ?_⟩
  replace h := zq_nx3 (q := 250) h rfl
  refine ⟨zq_k_n 87 h rfl (zq_o_87 _), ?_⟩
  replace h := zq_nx1 (q := 251) h rfl
  refine ⟨zq_k_n 44 h rfl (zq_o_44 _), ?_⟩
  replace h := zq_nx1 (q := 252) h rfl
  refine ⟨zq_k_u2 182 (fun z => .invokevirtual z) 26 h rfl (zq_o_182 _) (by decide +kernel), ?_⟩
  replace h := zq_nx3 (q := 255) h rfl
  refine ⟨zq_k_n 87 h rfl (zq_o_87 _), ?_⟩
  replace h := zq_nx1 (q := 256) h rfl
  refine ⟨zq_k_s2 167 (fun z => .goto z) 1086 h rfl (zq_o_167 _) (by decide +kernel), ?_⟩
  replace h := zq_nx3 (q := 259) h rfl
  refine ⟨zq_k_n 43 h rfl (zq_o_43 _), ?_⟩
  replace h := zq_nx1 (q := 260) h rfl
  refine ⟨zq_k_u2 182 (fun z => .invokevirtual z) 27 h rfl (zq_o_182 _) (by decide +kernel), ?_⟩
  replace h := zq_nx3 (q := 263) h rfl
  refine ⟨zq_k_n 87 h rfl (zq_o_87 _), ?_⟩
  replace h := zq_nx1 (q := 264) h rfl
  refine ⟨zq_k_n 44 h rfl (zq_o_44 _), ?_⟩
  replace h := zq_nx1 (q := 265) h rfl
  refine ⟨zq_k_u2 182 (fun z => .invokevirtual z) 30 h rfl (zq_o_182 _) (by decide +kernel), ?_⟩
  replace h := zq_nx3 (q := 268) h rfl
  refine ⟨zq_k_n 87 h rfl (zq_o_87 _), ?_⟩
  replace h := zq_nx1 (q := 269) h rfl
  refine ⟨zq_k_s2 167 (fun z => .goto z) 1073 h rfl (zq_o_167 _) (by decide +kernel), ?_⟩
  replace h := zq_nx3 (q := 272) h rfl
  refine ⟨zq_k_n 43 h rfl (zq_o_43 _), ?_⟩
  replace h := zq_nx1 (q := 273) h rfl
  exact zq_k_n 42 h rfl (zq_o_42 _)
set_option maxRecDepth 100000 in
theorem dd_QuotaLawsLaw_law_274 : (decode code 274 = .ok (.iload_n 3, 1)) ∧ (decode code 275 = .ok (.iconst 1, 1)) ∧ (decode code 276 = .ok (.iadd, 1)) ∧ (decode code 277 = .ok (.iaload, 1)) ∧ (decode code 278 = .ok (.invokevirtual 31, 3)) ∧ (decode code 281 = .ok (.pop, 1)) ∧ (decode code 282 = .ok (.aload_n 2, 1)) ∧ (decode code 283 = .ok (.aload_n 0, 1)) ∧ (decode code 284 = .ok (.iload_n 3, 1)) ∧ (decode code 285 = .ok (.iconst 1, 1)) ∧ (decode code 286 = .ok (.iadd, 1)) ∧ (decode code 287 = .ok (.iaload, 1)) ∧ (decode code 288 = .ok (.invokevirtual 34, 3)) ∧ (decode code 291 = .ok (.pop, 1)) ∧ (decode code 292 = .ok (.goto 1050, 3)) ∧ (decode code 295 = .ok (.aload_n 1, 1)) ∧ (decode code 296 = .ok (.aload_n 0, 1)) ∧ (decode code 297 = .ok (.iload_n 3, 1)) ∧ (decode code 298 = .ok (.iconst 1, 1)) ∧ (decode code 299 = .ok (.iadd, 1)) ∧ (decode code 300 = .ok (.iaload, 1)) ∧ (decode code 301 = .ok (.aload_n 0, 1)) ∧ (decode code 302 = .ok (.iload_n 3, 1)) ∧ (decode code 303 = .ok (.iconst 2, 1)) := by
  have h : List.drop 274 code.data.toList = 0x1d :: _ := rfl
  refine ⟨zq_k_n 29 h rfl (zq_o_29 _), ?_⟩
  replace h := zq_nx1 (q := 275) h rfl
  refine ⟨zq_k_n 4 h rfl (zq_o_4 _), ?_⟩
  replace h := zq_nx1 (q := 276) h rfl
  refine ⟨zq_k_n 96 h rfl (zq_o_96 _), ?_⟩
  replace h := zq_nx1 (q := 277) h rfl
  refine ⟨zq_k_n 46 h rfl (zq_o_46 _), ?_⟩
  replace h := zq_nx1 (q := 278) h rfl
  refine ⟨zq_k_u2 182 (fun z => .invokevirtual z) 31 h rfl (zq_o_182 _) (by decide +kernel), ?_⟩
  replace h := zq_nx3 (q := 281) h rfl
  refine ⟨zq_k_n 87 h rfl (zq_o_87 _), ?_⟩
  replace h := zq_nx1 (q := 282) h rfl
  refine ⟨zq_k_n 44 h rfl (zq_o_44 _), ?_⟩
  replace h := zq_nx1 (q := 283) h rfl
  refine ⟨zq_k_n 42 h rfl (zq_o_42 _), ?_⟩
  replace h := zq_nx1 (q := 284) h rfl
  refine ⟨zq_k_n 29 h rfl (zq_o_29 _), ?_⟩
  replace h := zq_nx1 (q := 285) h rfl
  refine ⟨zq_k_n 4 h rfl (zq_o_4 _), ?_⟩
  replace h := zq_nx1 (q := 286) h rfl
  refine ⟨zq_k_n 96 h rfl (zq_o_96 _), ?_⟩
  replace h := zq_nx1 (q := 287) h rfl
  refine ⟨zq_k_n 46 h rfl (zq_o_46 _), ?_⟩
  replace h := zq_nx1 (q := 288) h rfl
  refine ⟨zq_k_u2 182 (fun z => .invokevirtual z) 34 h rfl (zq_o_182 _) (by decide +kernel), ?_⟩
  replace h := zq_nx3 (q := 291) h rfl
  refine ⟨zq_k_n 87 h rfl (zq_o_87 _), ?_⟩
  replace h := zq_nx1 (q := 292) h rfl
  refine ⟨zq_k_s2 167 (fun z => .goto z) 1050 h rfl (zq_o_167 _) (by decide +kernel), ?_⟩
  replace h := zq_nx3 (q := 295) h rfl
  refine ⟨zq_k_n 43 h rfl (zq_o_43 _), ?_⟩
  replace h := zq_nx1 (q := 296) h rfl
  refine ⟨zq_k_n 42 h rfl (zq_o_42 _), ?_⟩
  replace h := zq_nx1 (q := 297) h rfl
  refine ⟨zq_k_n 29 h rfl (zq_o_29 _), ?_⟩
  replace h := zq_nx1 (q := 298) h rfl
  refine ⟨zq_k_n 4 h rfl (zq_o_4 _), ?_⟩
  replace h := zq_nx1 (q := 299) h rfl
  refine ⟨zq_k_n 96 h rfl (zq_o_96 _), ?_⟩
  replace h := zq_nx1 (q := 300) h rfl
  refine ⟨zq_k_n 46 h rfl (zq_o_46 _), ?_⟩
  replace h := zq_nx1 (q := 301) h rfl
  refine ⟨zq_k_n 42 h rfl (zq_o_42 _), ?_⟩
  replace h := zq_nx1 (q := 302) h rfl
  refine ⟨zq_k_n 29 h rfl (zq_o_29 _), ?_⟩
  replace h := zq_nx1 (q := 303) h rfl
  exact zq_k_n 5 h rfl (zq_o_5 _)
set_option maxRecDepth 100000 in
theorem dd_QuotaLawsLaw_law_304 : (decode code 304 = .ok (.iadd, 1)) ∧ (decode code 305 = .ok (.iaload, 1)) ∧ (decode code 306 = .ok (.invokevirtual 35, 3)) ∧ (decode code 309 = .ok (.pop, 1)) ∧ (decode code 310 = .ok (.aload_n 2, 1)) ∧ (decode code 311 = .ok (.aload_n 0, 1)) ∧ (decode code 312 = .ok (.iload_n 3, 1)) ∧ (decode code 313 = .ok (.iconst 1, 1)) ∧ (decode code 314 = .ok (.iadd, 1)) ∧ (decode code 315 = .ok (.iaload, 1)) ∧ (decode code 316 = .ok (.aload_n 0, 1)) ∧ (decode code 317 = .ok (.iload_n 3, 1)) ∧ (decode code 318 = .ok (.iconst 2, 1)) ∧ (decode code 319 = .ok (.iadd, 1)) ∧ (decode code 320 = .ok (.iaload, 1)) ∧ (decode code 321 = .ok (.invokevirtual 39, 3)) ∧ (decode code 324 = .ok (.pop, 1)) ∧ (decode code 325 = .ok (.goto 1017, 3)) ∧ (decode code 328 = .ok (.aload_n 1, 1)) ∧ (decode code 329 = .ok (.aload_n 0, 1)) ∧ (decode code 330 = .ok (.iload_n 3, 1)) ∧ (decode code 331 = .ok (.iconst 1, 1)) ∧ (decode code 332 = .ok (.iadd, 1)) ∧ (decode code 333 = .ok (.iaload, 1)) := by
  have h : List.drop 304 code.data.toList = 0x60 :: _ := rfl
  refine ⟨zq_k_n 96 h rfl (zq_o_96 _), ?_⟩
  replace h := zq_nx1 (q := 305) h rfl
  refine ⟨zq_k_n 46 h rfl (zq_o_46 _), ?_⟩
  replace h := zq_nx1 (q := 306) h rfl
  refine ⟨zq_k_u2 182 (fun z => .invokevirtual z) 35 h rfl (zq_o_182 _) (by decide +kernel), ?_⟩
  replace h := zq_nx3 (q := 309) h rfl
  refine ⟨zq_k_n 87 h rfl (zq_o_87 _), ?_⟩
  replace h := zq_nx1 (q := 310) h rfl
  refine ⟨zq_k_n 44 h rfl (zq_o_44 _), ?_⟩
  replace h := zq_nx1 (q := 311) h rfl
  refine ⟨zq_k_n 42 h rfl (zq_o_42 _), ?_⟩
  replace h := zq_nx1 (q := 312) h rfl
  refine ⟨zq_k_n 29 h rfl (zq_o_29 _), ?_⟩
  replace h := zq_nx1 (q := 313) h rfl
  refine ⟨zq_k_n 4 h rfl (zq_o_4 _), ?_⟩
  replace h := zq_nx1 (q := 314) h rfl
  refine ⟨zq_k_n 96 h rfl (zq_o_96 _), ?_⟩
  replace h := zq_nx1 (q := 315) h rfl
  refine ⟨zq_k_n 46 h rfl (zq_o_46 _), ?_⟩
  replace h := zq_nx1 (q := 316) h rfl
  refine ⟨zq_k_n 42 h rfl (zq_o_42 _), ?_⟩
  replace h := zq_nx1 (q := 317) h rfl
  refine ⟨zq_k_n 29 h rfl (zq_o_29 _), ?_⟩
  replace h := zq_nx1 (q := 318) h rfl
  refine ⟨zq_k_n 5 h rfl (zq_o_5 _), ?_⟩
  replace h := zq_nx1 (q := 319) h rfl
  refine ⟨zq_k_n 96 h rfl (zq_o_96 _), ?_⟩
  replace h := zq_nx1 (q := 320) h rfl
  refine ⟨zq_k_n 46 h rfl (zq_o_46 _), ?_⟩
  replace h := zq_nx1 (q := 321) h rfl
  refine ⟨zq_k_u2 182 (fun z => .invokevirtual z) 39 h rfl (zq_o_182 _) (by decide +kernel), ?_⟩
  replace h := zq_nx3 (q := 324) h rfl
  refine ⟨zq_k_n 87 h rfl (zq_o_87 _), ?_⟩
  replace h := zq_nx1 (q := 325) h rfl
  refine ⟨zq_k_s2 167 (fun z => .goto z) 1017 h rfl (zq_o_167 _) (by decide +kernel), ?_⟩
  replace h := zq_nx3 (q := 328) h rfl
  refine ⟨zq_k_n 43 h rfl (zq_o_43 _), ?_⟩
  replace h := zq_nx1 (q := 329) h rfl
  refine ⟨zq_k_n 42 h rfl (zq_o_42 _), ?_⟩
  replace h := zq_nx1 (q := 330) h rfl
  refine ⟨zq_k_n 29 h rfl (zq_o_29 _), ?_⟩
  replace h := zq_nx1 (q := 331) h rfl
  refine ⟨zq_k_n 4 h rfl (zq_o_4 _), ?_⟩
  replace h := zq_nx1 (q := 332) h rfl
  refine ⟨zq_k_n 96 h rfl (zq_o_96 _), ?_⟩
  replace h := zq_nx1 (q := 333) h rfl
  exact zq_k_n 46 h rfl (zq_o_46 _)
set_option maxRecDepth 100000 in
theorem dd_QuotaLawsLaw_law_334 : (decode code 334 = .ok (.aload_n 0, 1)) ∧ (decode code 335 = .ok (.iload_n 3, 1)) ∧ (decode code 336 = .ok (.iconst 2, 1)) ∧ (decode code 337 = .ok (.iadd, 1)) ∧ (decode code 338 = .ok (.iaload, 1)) ∧ (decode code 339 = .ok (.invokevirtual 40, 3)) ∧ (decode code 342 = .ok (.pop, 1)) ∧ (decode code 343 = .ok (.aload_n 2, 1)) ∧ (decode code 344 = .ok (.aload_n 0, 1)) ∧ (decode code 345 = .ok (.iload_n 3, 1)) ∧ (decode code 346 = .ok (.iconst 1, 1)) ∧ (decode code 347 = .ok (.iadd, 1)) ∧ (decode code 348 = .ok (.iaload, 1)) ∧ (decode code 349 = .ok (.aload_n 0, 1)) ∧ (decode code 350 = .ok (.iload_n 3, 1)) ∧ (decode code 351 = .ok (.iconst 2, 1)) ∧ (decode code 352 = .ok (.iadd, 1)) ∧ (decode code 353 = .ok (.iaload, 1)) ∧ (decode code 354 = .ok (.invokevirtual 43, 3)) ∧ (decode code 357 = .ok (.pop, 1)) ∧ (decode code 358 = .ok (.goto 984, 3)) ∧ (decode code 361 = .ok (.aload_n 1, 1)) ∧ (decode code 362 = .ok (.aload_n 0, 1)) ∧ (decode code 363 = .ok (.iload_n 3, 1)) := by
  have h : List.drop 334 code.data.toList = 0x2a :: _ := rfl
  refine ⟨zq_k_n 42 h rfl (zq_o_42 _), ?_⟩
  replace h := zq_nx1 (q := 335) h rfl
  refine ⟨zq_k_n 29 h rfl (zq_o_29 _), ?_⟩
  replace h := zq_nx1 (q := 336) h rfl
  refine ⟨zq_k_n 5 h rfl (zq_o_5 _), ?_⟩
  replace h := zq_nx1 (q := 337) h rfl
  refine ⟨zq_k_n 96 h rfl (zq_o_96 _), ?_⟩
  replace h := zq_nx1 (q := 338) h rfl
  refine ⟨zq_k_n 46 h rfl (zq_o_46 _), ?_⟩
  replace h := zq_nx1 (q := 339) h rfl
  refine ⟨zq_k_u2 182 (fun z => .invokevirtual z) 40 h rfl (zq_o_182 _) (by decide +kernel), ?_⟩
  replace h := zq_nx3 (q := 342) h rfl
  refine ⟨zq_k_n 87 h rfl (zq_o_87 _), ?_⟩
  replace h := zq_nx1 (q := 343) h rfl
  refine ⟨zq_k_n 44 h rfl (zq_o_44 _), ?_⟩
  replace h := zq_nx1 (q := 344) h rfl
  refine ⟨zq_k_n 42 h rfl (zq_o_42 _), ?_⟩
  replace h := zq_nx1 (q := 345) h rfl
  refine ⟨zq_k_n 29 h rfl (zq_o_29 _), ?_⟩
  replace h := zq_nx1 (q := 346) h rfl
  refine ⟨zq_k_n 4 h rfl (zq_o_4 _), ?_⟩
  replace h := zq_nx1 (q := 347) h rfl
  refine ⟨zq_k_n 96 h rfl (zq_o_96 _), ?_⟩
  replace h := zq_nx1 (q := 348) h rfl
  refine ⟨zq_k_n 46 h rfl (zq_o_46 _), ?_⟩
  replace h := zq_nx1 (q := 349) h rfl
  refine ⟨zq_k_n 42 h rfl (zq_o_42 _), ?_⟩
  replace h := zq_nx1 (q := 350) h rfl
  refine ⟨zq_k_n 29 h rfl (zq_o_29 _), ?_⟩
  replace h := zq_nx1 (q := 351) h rfl
  refine ⟨zq_k_n 5 h rfl (zq_o_5 _), ?_⟩
  replace h := zq_nx1 (q := 352) h rfl
  refine ⟨zq_k_n 96 h rfl (zq_o_96 _), ?_⟩
  replace h := zq_nx1 (q := 353) h rfl
  refine ⟨zq_k_n 46 h rfl (zq_o_46 _), ?_⟩
  replace h := zq_nx1 (q := 354) h rfl
  refine ⟨zq_k_u2 182 (fun z => .invokevirtual z) 43 h rfl (zq_o_182 _) (by decide +kernel), ?_⟩
  replace h := zq_nx3 (q := 357) h rfl
  refine ⟨zq_k_n 87 h rfl (zq_o_87 _), ?_⟩
  replace h := zq_nx1 (q := 358) h rfl
  refine ⟨zq_k_s2 167 (fun z => .goto z) 984 h rfl (zq_o_167 _) (by decide +kernel), ?_⟩
  replace h := zq_nx3 (q := 361) h rfl
  refine ⟨zq_k_n 43 h rfl (zq_o_43 _), ?_⟩
  replace h := zq_nx1 (q := 362) h rfl
  refine ⟨zq_k_n 42 h rfl (zq_o_42 _), ?_⟩
  replace h := zq_nx1 (q := 363) h rfl
  exact zq_k_n 29 h rfl (zq_o_29 _)
set_option maxRecDepth 100000 in
theorem dd_QuotaLawsLaw_law_364 : (decode code 364 = .ok (.iconst 1, 1)) ∧ (decode code 365 = .ok (.iadd, 1)) ∧ (decode code 366 = .ok (.iaload, 1)) ∧ (decode code 367 = .ok (.aload_n 0, 1)) ∧ (decode code 368 = .ok (.iload_n 3, 1)) ∧ (decode code 369 = .ok (.iconst 2, 1)) ∧ (decode code 370 = .ok (.iadd, 1)) ∧ (decode code 371 = .ok (.iaload, 1)) ∧ (decode code 372 = .ok (.invokevirtual 44, 3)) ∧ (decode code 375 = .ok (.pop, 1)) ∧ (decode code 376 = .ok (.aload_n 2, 1)) ∧ (decode code 377 = .ok (.aload_n 0, 1)) ∧ (decode code 378 = .ok (.iload_n 3, 1)) ∧ (decode code 379 = .ok (.iconst 1, 1)) ∧ (decode code 380 = .ok (.iadd, 1)) ∧ (decode code 381 = .ok (.iaload, 1)) ∧ (decode code 382 = .ok (.aload_n 0, 1)) ∧ (decode code 383 = .ok (.iload_n 3, 1)) ∧ (decode code 384 = .ok (.iconst 2, 1)) ∧ (decode code 385 = .ok (.iadd, 1)) ∧ (decode code 386 = .ok (.iaload, 1)) ∧ (decode code 387 = .ok (.invokevirtual 47, 3)) ∧ (decode code 390 = .ok (.pop, 1)) ∧ (decode code 391 = .ok (.goto 951, 3)) := by
  have h : List.drop 364 code.data.toList = 0x04 :: _ := rfl
  refine ⟨zq_k_n 4 h rfl (zq_o_4 _), ?_⟩
  replace h := zq_nx1 (q := 365) h rfl
  refine ⟨zq_k_n 96 h rfl (zq_o_96 _), ?_⟩
  replace h := zq_nx1 (q := 366) h rfl
  refine ⟨zq_k_n 46 h rfl (zq_o_46 _), ?_⟩
  replace h := zq_nx1 (q := 367) h rfl
  refine ⟨zq_k_n 42 h rfl (zq_o_42 _), ?_⟩
  replace h := zq_nx1 (q := 368) h rfl
  refine ⟨zq_k_n 29 h rfl (zq_o_29 _), ?_⟩
  replace h := zq_nx1 (q := 369) h rfl
  refine ⟨zq_k_n 5 h rfl (zq_o_5 _), ?_⟩
  replace h := zq_nx1 (q := 370) h rfl
  refine ⟨zq_k_n 96 h rfl (zq_o_96 _), ?_⟩
  replace h := zq_nx1 (q := 371) h rfl
  refine ⟨zq_k_n 46 h rfl (zq_o_46 _), ?_⟩
  replace h := zq_nx1 (q := 372) h rfl
  refine ⟨zq_k_u2 182 (fun z => .invokevirtual z) 44 h rfl (zq_o_182 _) (by decide +kernel), ?_⟩
  replace h := zq_nx3 (q := 375) h rfl
  refine ⟨zq_k_n 87 h rfl (zq_o_87 _), ?_⟩
  replace h := zq_nx1 (q := 376) h rfl
  refine ⟨zq_k_n 44 h rfl (zq_o_44 _), ?_⟩
  replace h := zq_nx1 (q := 377) h rfl
  refine ⟨zq_k_n 42 h rfl (zq_o_42 _), ?_⟩
  replace h := zq_nx1 (q := 378) h rfl
  refine ⟨zq_k_n 29 h rfl (zq_o_29 _), ?_⟩
  replace h := zq_nx1 (q := 379) h rfl
  refine ⟨zq_k_n 4 h rfl (zq_o_4 _), ?_⟩
  replace h := zq_nx1 (q := 380) h rfl
  refine ⟨zq_k_n 96 h rfl (zq_o_96 _), ?_⟩
  replace h := zq_nx1 (q := 381) h rfl
  refine ⟨zq_k_n 46 h rfl (zq_o_46 _), ?_⟩
  replace h := zq_nx1 (q := 382) h rfl
  refine ⟨zq_k_n 42 h rfl (zq_o_42 _), ?_⟩
  replace h := zq_nx1 (q := 383) h rfl
  refine ⟨zq_k_n 29 h rfl (zq_o_29 _), ?_⟩
  replace h := zq_nx1 (q := 384) h rfl
  refine ⟨zq_k_n 5 h rfl (zq_o_5 _), ?_⟩
  replace h := zq_nx1 (q := 385) h rfl
  refine ⟨zq_k_n 96 h rfl (zq_o_96 _), ?_⟩
  replace h := zq_nx1 (q := 386) h rfl
  refine ⟨zq_k_n 46 h rfl (zq_o_46 _), ?_⟩
  replace h := zq_nx1 (q := 387) h rfl
  refine ⟨zq_k_u2 182 (fun z => .invokevirtual z) 47 h rfl (zq_o_182 _) (by decide +kernel), ?_⟩
  replace h := zq_nx3 (q := 390) h rfl
  refine ⟨zq_k_n 87 h rfl (zq_o_87 _), ?_⟩
  replace h := zq_nx1 (q := 391) h rfl
  exact zq_k_s2 167 (fun z => .goto z) 951 h rfl (zq_o_167 _) (by decide +kernel)
set_option maxRecDepth 100000 in
theorem dd_QuotaLawsLaw_law_394 : (decode code 394 = .ok (.aload_n 1, 1)) ∧ (decode code 395 = .ok (.aload_n 0, 1)) ∧ (decode code 396 = .ok (.iload_n 3, 1)) ∧ (decode code 397 = .ok (.iconst 1, 1)) ∧ (decode code 398 = .ok (.iadd, 1)) ∧ (decode code 399 = .ok (.iaload, 1)) ∧ (decode code 400 = .ok (.aload_n 0, 1)) ∧ (decode code 401 = .ok (.iload_n 3, 1)) ∧ (decode code 402 = .ok (.iconst 2, 1)) ∧ (decode code 403 = .ok (.iadd, 1)) ∧ (decode code 404 = .ok (.iaload, 1)) ∧ (decode code 405 = .ok (.invokevirtual 48, 3)) ∧ (decode code 408 = .ok (.pop, 1)) ∧ (decode code 409 = .ok (.aload_n 2, 1)) ∧ (decode code 410 = .ok (.aload_n 0, 1)) ∧ (decode code 411 = .ok (.iload_n 3, 1)) ∧ (decode code 412 = .ok (.iconst 1, 1)) ∧ (decode code 413 = .ok (.iadd, 1)) ∧ (decode code 414 = .ok (.iaload, 1)) ∧ (decode code 415 = .ok (.aload_n 0, 1)) ∧ (decode code 416 = .ok (.iload_n 3, 1)) ∧ (decode code 417 = .ok (.iconst 2, 1)) ∧ (decode code 418 = .ok (.iadd, 1)) ∧ (decode code 419 = .ok (.iaload, 1)) := by
  have h : List.drop 394 code.data.toList = 0x2b :: _ := rfl
  refine ⟨zq_k_n 43 h rfl (zq_o_43 _), ?_⟩
  replace h := zq_nx1 (q := 395) h rfl
  refine ⟨zq_k_n 42 h rfl (zq_o_42 _), ?_⟩
  replace h := zq_nx1 (q := 396) h rfl
  refine ⟨zq_k_n 29 h rfl (zq_o_29 _), ?_⟩
  replace h := zq_nx1 (q := 397) h rfl
  refine ⟨zq_k_n 4 h rfl (zq_o_4 _), ?_⟩
  replace h := zq_nx1 (q := 398) h rfl
  refine ⟨zq_k_n 96 h rfl (zq_o_96 _), ?_⟩
  replace h := zq_nx1 (q := 399) h rfl
  refine ⟨zq_k_n 46 h rfl (zq_o_46 _), ?_⟩
  replace h := zq_nx1 (q := 400) h rfl
  refine ⟨zq_k_n 42 h rfl (zq_o_42 _), ?_⟩
  replace h := zq_nx1 (q := 401) h rfl
  refine ⟨zq_k_n 29 h rfl (zq_o_29 _), ?_⟩
  replace h := zq_nx1 (q := 402) h rfl
  refine ⟨zq_k_n 5 h rfl (zq_o_5 _), ?_⟩
  replace h := zq_nx1 (q := 403) h rfl
  refine ⟨zq_k_n 96 h rfl (zq_o_96 _), ?_⟩
  replace h := zq_nx1 (q := 404) h rfl
  refine ⟨zq_k_n 46 h rfl (zq_o_46 _), ?_⟩
  replace h := zq_nx1 (q := 405) h rfl
  refine ⟨zq_k_u2 182 (fun z => .invokevirtual z) 48 h rfl (zq_o_182 _) (by decide +kernel), ?_⟩
  replace h := zq_nx3 (q := 408) h rfl
  refine ⟨zq_k_n 87 h rfl (zq_o_87 _), ?_⟩
  replace h := zq_nx1 (q := 409) h rfl
  refine ⟨zq_k_n 44 h rfl (zq_o_44 _), ?_⟩
  replace h := zq_nx1 (q := 410) h rfl
  refine ⟨zq_k_n 42 h rfl (zq_o_42 _), ?_⟩
  replace h := zq_nx1 (q := 411) h rfl
  refine ⟨zq_k_n 29 h rfl (zq_o_29 _), ?_⟩
  replace h := zq_nx1 (q := 412) h rfl
  refine ⟨zq_k_n 4 h rfl (zq_o_4 _), ?_⟩
  replace h := zq_nx1 (q := 413) h rfl
  refine ⟨zq_k_n 96 h rfl (zq_o_96 _), ?_⟩
  replace h := zq_nx1 (q := 414) h rfl
  refine ⟨zq_k_n 46 h rfl (zq_o_46 _), ?_⟩
  replace h := zq_nx1 (q := 415) h rfl
  refine ⟨zq_k_n 42 h rfl (zq_o_42 _), ?_⟩
  replace h := zq_nx1 (q := 416) h rfl
  refine ⟨zq_k_n 29 h rfl (zq_o_29 _), ?_⟩
  replace h := zq_nx1 (q := 417) h rfl
  refine ⟨zq_k_n 5 h rfl (zq_o_5 _), ?_⟩
  replace h := zq_nx1 (q := 418) h rfl
  refine ⟨zq_k_n 96 h rfl (zq_o_96 _), ?_⟩
  replace h := zq_nx1 (q := 419) h rfl
  exact zq_k_n 46 h rfl (zq_o_46 _)
set_option maxRecDepth 100000 in
theorem dd_QuotaLawsLaw_law_420 : (decode code 420 = .ok (.invokevirtual 51, 3)) ∧ (decode code 423 = .ok (.pop, 1)) ∧ (decode code 424 = .ok (.goto 918, 3)) ∧ (decode code 427 = .ok (.aload_n 1, 1)) ∧ (decode code 428 = .ok (.aload_n 0, 1)) ∧ (decode code 429 = .ok (.iload_n 3, 1)) ∧ (decode code 430 = .ok (.iconst 1, 1)) ∧ (decode code 431 = .ok (.iadd, 1)) ∧ (decode code 432 = .ok (.iaload, 1)) ∧ (decode code 433 = .ok (.aload_n 0, 1)) ∧ (decode code 434 = .ok (.iload_n 3, 1)) ∧ (decode code 435 = .ok (.iconst 2, 1)) ∧ (decode code 436 = .ok (.iadd, 1)) ∧ (decode code 437 = .ok (.iaload, 1)) ∧ (decode code 438 = .ok (.invokevirtual 52, 3)) ∧ (decode code 441 = .ok (.pop, 1)) ∧ (decode code 442 = .ok (.aload_n 2, 1)) ∧ (decode code 443 = .ok (.aload_n 0, 1)) ∧ (decode code 444 = .ok (.iload_n 3, 1)) ∧ (decode code 445 = .ok (.iconst 1, 1)) ∧ (decode code 446 = .ok (.iadd, 1)) ∧ (decode code 447 = .ok (.iaload, 1)) ∧ (decode code 448 = .ok (.aload_n 0, 1)) ∧ (decode code 449 = .ok (.iload_n 3, 1)) := by
  have h : List.drop 420 code.data.toList = 0xb6 :: _ := rfl
  refine ⟨zq_k_u2 182 (fun z => .invokevirtual z) 51 h rfl (zq_o_182 _) (by decide +kernel), ?_⟩
  replace h := zq_nx3 (q := 423) h rfl
  refine ⟨zq_k_n 87 h rfl (zq_o_87 _), ?_⟩
  replace h := zq_nx1 (q := 424) h rfl
  refine ⟨zq_k_s2 167 (fun z => .goto z) 918 h rfl (zq_o_167 _) (by decide +kernel), ?_⟩
  replace h := zq_nx3 (q := 427) h rfl
  refine ⟨zq_k_n 43 h rfl (zq_o_43 _), ?_⟩
  replace h := zq_nx1 (q := 428) h rfl
  refine ⟨zq_k_n 42 h rfl (zq_o_42 _), ?_⟩
  replace h := zq_nx1 (q := 429) h rfl
  refine ⟨zq_k_n 29 h rfl (zq_o_29 _), ?_⟩
  replace h := zq_nx1 (q := 430) h rfl
  refine ⟨zq_k_n 4 h rfl (zq_o_4 _), ?_⟩
  replace h := zq_nx1 (q := 431) h rfl
  refine ⟨zq_k_n 96 h rfl (zq_o_96 _), ?_⟩
  replace h := zq_nx1 (q := 432) h rfl
  refine ⟨zq_k_n 46 h rfl (zq_o_46 _), ?_⟩
  replace h := zq_nx1 (q := 433) h rfl
  refine ⟨zq_k_n 42 h rfl (zq_o_42 _), ?_⟩
  replace h := zq_nx1 (q := 434) h rfl
  refine ⟨zq_k_n 29 h rfl (zq_o_29 _), ?_⟩
  replace h := zq_nx1 (q := 435) h rfl
  refine ⟨zq_k_n 5 h rfl (zq_o_5 _), ?_⟩
  replace h := zq_nx1 (q := 436) h rfl
  refine ⟨zq_k_n 96 h rfl (zq_o_96 _), ?_⟩
  replace h := zq_nx1 (q := 437) h rfl
  refine ⟨zq_k_n 46 h rfl (zq_o_46 _), ?_⟩
  replace h := zq_nx1 (q := 438) h rfl
  refine ⟨zq_k_u2 182 (fun z => .invokevirtual z) 52 h rfl (zq_o_182 _) (by decide +kernel), ?_⟩
  replace h := zq_nx3 (q := 441) h rfl
  refine ⟨zq_k_n 87 h rfl (zq_o_87 _), ?_⟩
  replace h := zq_nx1 (q := 442) h rfl
  refine ⟨zq_k_n 44 h rfl (zq_o_44 _), ?_⟩
  replace h := zq_nx1 (q := 443) h rfl
  refine ⟨zq_k_n 42 h rfl (zq_o_42 _), ?_⟩
  replace h := zq_nx1 (q := 444) h rfl
  refine ⟨zq_k_n 29 h rfl (zq_o_29 _), ?_⟩
  replace h := zq_nx1 (q := 445) h rfl
  refine ⟨zq_k_n 4 h rfl (zq_o_4 _), ?_⟩
  replace h := zq_nx1 (q := 446) h rfl
  refine ⟨zq_k_n 96 h rfl (zq_o_96 _), ?_⟩
  replace h := zq_nx1 (q := 447) h rfl
  refine ⟨zq_k_n 46 h rfl (zq_o_46 _), ?_⟩
  replace h := zq_nx1 (q := 448) h rfl
  refine ⟨zq_k_n 42 h rfl (zq_o_42 _), ?_⟩
  replace h := zq_nx1 (q := 449) h rfl
  exact zq_k_n 29 h rfl (zq_o_29 _)
set_option maxRecDepth 100000 in
theorem dd_QuotaLawsLaw_law_450 : (decode code 450 = .ok (.iconst 2, 1)) ∧ (decode code 451 = .ok (.iadd, 1)) ∧ (decode code 452 = .ok (.iaload, 1)) ∧ (decode code 453 = .ok (.invokevirtual 55, 3)) ∧ (decode code 456 = .ok (.pop, 1)) ∧ (decode code 457 = .ok (.goto 885, 3)) ∧ (decode code 460 = .ok (.aload_n 1, 1)) ∧ (decode code 461 = .ok (.aload_n 0, 1)) ∧ (decode code 462 = .ok (.iload_n 3, 1)) ∧ (decode code 463 = .ok (.iconst 1, 1)) ∧ (decode code 464 = .ok (.iadd, 1)) ∧ (decode code 465 = .ok (.iaload, 1)) ∧ (decode code 466 = .ok (.aload_n 0, 1)) ∧ (decode code 467 = .ok (.iload_n 3, 1)) ∧ (decode code 468 = .ok (.iconst 2, 1)) ∧ (decode code 469 = .ok (.iadd, 1)) ∧ (decode code 470 = .ok (.iaload, 1)) ∧ (decode code 471 = .ok (.ifCond .eq 7, 3)) ∧ (decode code 474 = .ok (.iconst 1, 1)) ∧ (decode code 475 = .ok (.goto 4, 3)) ∧ (decode code 478 = .ok (.iconst 0, 1)) ∧ (decode code 479 = .ok (.invokevirtual 56, 3)) ∧ (decode code 482 = .ok (.pop, 1)) ∧ (decode code 483 = .ok (.aload_n 2, 1)) := by
  have h : List.drop 450 code.data.toList = 0x05 :: _ := rfl
  refine ⟨zq_k_n 5 h rfl (zq_o_5 _), ?_⟩
  replace h := zq_nx1 (q := 451) h rfl
  refine ⟨zq_k_n 96 h rfl (zq_o_96 _), ?_⟩
  replace h := zq_nx1 (q := 452) h rfl
  refine ⟨zq_k_n 46 h rfl (zq_o_46 _), ?_⟩
  replace h := zq_nx1 (q := 453) h rfl
  refine ⟨zq_k_u2 182 (fun z => .invokevirtual z) 55 h rfl (zq_o_182 _) (by decide +kernel), ?_⟩
  replace h := zq_nx3 (q := 456) h rfl
  refine ⟨zq_k_n 87 h rfl (zq_o_87 _), ?_⟩
  replace h := zq_nx1 (q := 457) h rfl
  refine ⟨zq_k_s2 167 (fun z => .goto z) 885 h rfl (zq_o_167 _) (by decide +kernel), ?_⟩
  replace h := zq_nx3 (q := 460) h rfl
  refine ⟨zq_k_n 43 h rfl (zq_o_43 _), ?_⟩
  replace h := zq_nx1 (q := 461) h rfl
  refine ⟨zq_k_n 42 h rfl (zq_o_42 _), ?_⟩
  replace h := zq_nx1 (q := 462) h rfl
  refine ⟨zq_k_n 29 h rfl (zq_o_29 _), ?_⟩
  replace h := zq_nx1 (q := 463) h rfl
  refine ⟨zq_k_n 4 h rfl (zq_o_4 _), ?_⟩
  replace h := zq_nx1 (q := 464) h rfl
  refine ⟨zq_k_n 96 h rfl (zq_o_96 _), ?_⟩
  replace h := zq_nx1 (q := 465) h rfl
  refine ⟨zq_k_n 46 h rfl (zq_o_46 _), ?_⟩
  replace h := zq_nx1 (q := 466) h rfl
  refine ⟨zq_k_n 42 h rfl (zq_o_42 _), ?_⟩
  replace h := zq_nx1 (q := 467) h rfl
  refine ⟨zq_k_n 29 h rfl (zq_o_29 _), ?_⟩
  replace h := zq_nx1 (q := 468) h rfl
  refine ⟨zq_k_n 5 h rfl (zq_o_5 _), ?_⟩
  replace h := zq_nx1 (q := 469) h rfl
  refine ⟨zq_k_n 96 h rfl (zq_o_96 _), ?_⟩
  replace h := zq_nx1 (q := 470) h rfl
  refine ⟨zq_k_n 46 h rfl (zq_o_46 _), ?_⟩
  replace h := zq_nx1 (q := 471) h rfl
  refine ⟨zq_k_s2 153 (fun z => .ifCond .eq z) 7 h rfl (zq_o_153 _) (by decide +kernel), ?_⟩
  replace h := zq_nx3 (q := 474) h rfl
  refine ⟨zq_k_n 4 h rfl (zq_o_4 _), ?_⟩
  replace h := zq_nx1 (q := 475) h rfl
  refine ⟨zq_k_s2 167 (fun z => .goto z) 4 h rfl (zq_o_167 _) (by decide +kernel), ?_⟩
  replace h := zq_nx3 (q := 478) h rfl
  refine ⟨zq_k_n 3 h rfl (zq_o_3 _), ?_⟩
  replace h := zq_nx1 (q := 479) h rfl
  refine ⟨zq_k_u2 182 (fun z => .invokevirtual z) 56 h rfl (zq_o_182 _) (by decide +kernel), ?_⟩
  replace h := zq_nx3 (q := 482) h rfl
  refine ⟨zq_k_n 87 h rfl (zq_o_87 _), ?_⟩
  replace h := zq_nx1 (q := 483) h rfl
  exact zq_k_n 44 h rfl (zq_o_44 _)
set_option maxRecDepth 100000 in
theorem dd_QuotaLawsLaw_law_484 : (decode code 484 = .ok (.aload_n 0, 1)) ∧ (decode code 485 = .ok (.iload_n 3, 1)) ∧ (decode code 486 = .ok (.iconst 1, 1)) ∧ (decode code 487 = .ok (.iadd, 1)) ∧ (decode code 488 = .ok (.iaload, 1)) ∧ (decode code 489 = .ok (.aload_n 0, 1)) ∧ (decode code 490 = .ok (.iload_n 3, 1)) ∧ (decode code 491 = .ok (.iconst 2, 1)) ∧ (decode code 492 = .ok (.iadd, 1)) ∧ (decode code 493 = .ok (.iaload, 1)) ∧ (decode code 494 = .ok (.ifCond .eq 7, 3)) ∧ (decode code 497 = .ok (.iconst 1, 1)) ∧ (decode code 498 = .ok (.goto 4, 3)) ∧ (decode code 501 = .ok (.iconst 0, 1)) ∧ (decode code 502 = .ok (.invokevirtual 60, 3)) ∧ (decode code 505 = .ok (.pop, 1)) ∧ (decode code 506 = .ok (.goto 836, 3)) ∧ (decode code 509 = .ok (.aload_n 1, 1)) ∧ (decode code 510 = .ok (.aload_n 0, 1)) ∧ (decode code 511 = .ok (.iload_n 3, 1)) ∧ (decode code 512 = .ok (.iconst 1, 1)) ∧ (decode code 513 = .ok (.iadd, 1)) ∧ (decode code 514 = .ok (.iaload, 1)) ∧ (decode code 515 = .ok (.aload_n 0, 1)) := by
  have h : List.drop 484 code.data.toList = 0x2a :: _ := rfl
  refine ⟨zq_k_n 42 h rfl (zq_o_42 _), ?_⟩
  replace h := zq_nx1 (q := 485) h rfl
  refine ⟨zq_k_n 29 h rfl (zq_o_29 _), ?_⟩
  replace h := zq_nx1 (q := 486) h rfl
  refine ⟨zq_k_n 4 h rfl (zq_o_4 _), ?_⟩
  replace h := zq_nx1 (q := 487) h rfl
  refine ⟨zq_k_n 96 h rfl (zq_o_96 _), ?_⟩
  replace h := zq_nx1 (q := 488) h rfl
  refine ⟨zq_k_n 46 h rfl (zq_o_46 _), ?_⟩
  replace h := zq_nx1 (q := 489) h rfl
  refine ⟨zq_k_n 42 h rfl (zq_o_42 _), ?_⟩
  replace h := zq_nx1 (q := 490) h rfl
  refine ⟨zq_k_n 29 h rfl (zq_o_29 _), ?_⟩
  replace h := zq_nx1 (q := 491) h rfl
  refine ⟨zq_k_n 5 h rfl (zq_o_5 _), ?_⟩
  replace h := zq_nx1 (q := 492) h rfl
  refine ⟨zq_k_n 96 h rfl (zq_o_96 _), ?_⟩
  replace h := zq_nx1 (q := 493) h rfl
  refine ⟨zq_k_n 46 h rfl (zq_o_46 _), ?_⟩
  replace h := zq_nx1 (q := 494) h rfl
  refine ⟨zq_k_s2 153 (fun z => .ifCond .eq z) 7 h rfl (zq_o_153 _) (by decide +kernel), ?_⟩
  replace h := zq_nx3 (q := 497) h rfl
  refine ⟨zq_k_n 4 h rfl (zq_o_4 _), ?_⟩
  replace h := zq_nx1 (q := 498) h rfl
  refine ⟨zq_k_s2 167 (fun z => .goto z) 4 h rfl (zq_o_167 _) (by decide +kernel), ?_⟩
  replace h := zq_nx3 (q := 501) h rfl
  refine ⟨zq_k_n 3 h rfl (zq_o_3 _), ?_⟩
  replace h := zq_nx1 (q := 502) h rfl
  refine ⟨zq_k_u2 182 (fun z => .invokevirtual z) 60 h rfl (zq_o_182 _) (by decide +kernel), ?_⟩
  replace h := zq_nx3 (q := 505) h rfl
  refine ⟨zq_k_n 87 h rfl (zq_o_87 _), ?_⟩
  replace h := zq_nx1 (q := 506) h rfl
  refine ⟨zq_k_s2 167 (fun z => .goto z) 836 h rfl (zq_o_167 _) (by decide +kernel), ?_⟩
  replace h := zq_nx3 (q := 509) h rfl
  refine ⟨zq_k_n 43 h rfl (zq_o_43 _), ?_⟩
  replace h := zq_nx1 (q := 510) h rfl
  refine ⟨zq_k_n 42 h rfl (zq_o_42 _), ?_⟩
  replace h := zq_nx1 (q := 511) h rfl
  refine ⟨zq_k_n 29 h rfl (zq_o_29 _), ?_⟩
  replace h := zq_nx1 (q := 512) h rfl
  refine ⟨zq_k_n 4 h rfl (zq_o_4 _), ?_⟩
  replace h := zq_nx1 (q := 513) h rfl
  refine ⟨zq_k_n 96 h rfl (zq_o_96 _), ?_⟩
  replace h := zq_nx1 (q := 514) h rfl
  refine ⟨zq_k_n 46 h rfl (zq_o_46 _), ?_⟩
  replace h := zq_nx1 (q := 515) h rfl
  exact zq_k_n 42 h rfl (zq_o_42 _)
set_option maxRecDepth 100000 in
theorem dd_QuotaLawsLaw_law_516 : (decode code 516 = .ok (.iload_n 3, 1)) ∧ (decode code 517 = .ok (.iconst 2, 1)) ∧ (decode code 518 = .ok (.iadd, 1)) ∧ (decode code 519 = .ok (.iaload, 1)) ∧ (decode code 520 = .ok (.invokevirtual 61, 3)) ∧ (decode code 523 = .ok (.pop, 1)) ∧ (decode code 524 = .ok (.aload_n 2, 1)) ∧ (decode code 525 = .ok (.aload_n 0, 1)) ∧ (decode code 526 = .ok (.iload_n 3, 1)) ∧ (decode code 527 = .ok (.iconst 1, 1)) ∧ (decode code 528 = .ok (.iadd, 1)) ∧ (decode code 529 = .ok (.iaload, 1)) ∧ (decode code 530 = .ok (.aload_n 0, 1)) ∧ (decode code 531 = .ok (.iload_n 3, 1)) ∧ (decode code 532 = .ok (.iconst 2, 1)) ∧ (decode code 533 = .ok (.iadd, 1)) ∧ (decode code 534 = .ok (.iaload, 1)) ∧ (decode code 535 = .ok (.invokevirtual 64, 3)) ∧ (decode code 538 = .ok (.pop, 1)) ∧ (decode code 539 = .ok (.goto 803, 3)) ∧ (decode code 542 = .ok (.aload_n 1, 1)) ∧ (decode code 543 = .ok (.aload_n 0, 1)) ∧ (decode code 544 = .ok (.iload_n 3, 1)) ∧ (decode code 545 = .ok (.iconst 1, 1)) := by
  have h : List.drop 516 code.data.toList = 0x1d :: _ := rfl
  refine ⟨zq_k_n 29 h rfl (zq_o_29 _), ?_⟩
  replace h := zq_nx1 (q := 517) h rfl
  refine ⟨zq_k_n 5 h rfl (zq_o_5 _), ?_⟩
  replace h := zq_nx1 (q := 518) h rfl
  refine ⟨zq_k_n 96 h rfl (zq_o_96 _), ?_⟩
  replace h := zq_nx1 (q := 519) h rfl
  refine ⟨zq_k_n 46 h rfl (zq_o_46 _), ?_⟩
  replace h := zq_nx1 (q := 520) h rfl
  refine ⟨zq_k_u2 182 (fun z => .invokevirtual z) 61 h rfl (zq_o_182 _) (by decide +kernel), ?_⟩
  replace h := zq_nx3 (q := 523) h rfl
  refine ⟨zq_k_n 87 h rfl (zq_o_87 _), ?_⟩
  replace h := zq_nx1 (q := 524) h rfl
  refine ⟨zq_k_n 44 h rfl (zq_o_44 _), ?_⟩
  replace h := zq_nx1 (q := 525) h rfl
  refine ⟨zq_k_n 42 h rfl (zq_o_42 _), ?_⟩
  replace h := zq_nx1 (q := 526) h rfl
  refine ⟨zq_k_n 29 h rfl (zq_o_29 _), ?_⟩
  replace h := zq_nx1 (q := 527) h rfl
  refine ⟨zq_k_n 4 h rfl (zq_o_4 _), ?_⟩
  replace h := zq_nx1 (q := 528) h rfl
  refine ⟨zq_k_n 96 h rfl (zq_o_96 _), ?_⟩
  replace h := zq_nx1 (q := 529) h rfl
  refine ⟨zq_k_n 46 h rfl (zq_o_46 _), ?_⟩
  replace h := zq_nx1 (q := 530) h rfl
  refine ⟨zq_k_n 42 h rfl (zq_o_42 _), ?_⟩
  replace h := zq_nx1 (q := 531) h rfl
  refine ⟨zq_k_n 29 h rfl (zq_o_29 _), ?_⟩
  replace h := zq_nx1 (q := 532) h rfl
  refine ⟨zq_k_n 5 h rfl (zq_o_5 _), ?_⟩
  replace h := zq_nx1 (q := 533) h rfl
  refine ⟨zq_k_n 96 h rfl (zq_o_96 _), ?_⟩
  replace h := zq_nx1 (q := 534) h rfl
  refine ⟨zq_k_n 46 h rfl (zq_o_46 _), ?_⟩
  replace h := zq_nx1 (q := 535) h rfl
  refine ⟨zq_k_u2 182 (fun z => .invokevirtual z) 64 h rfl (zq_o_182 _) (by decide +kernel), ?_⟩
  replace h := zq_nx3 (q := 538) h rfl
  refine ⟨zq_k_n 87 h rfl (zq_o_87 _), ?_⟩
  replace h := zq_nx1 (q := 539) h rfl
  refine ⟨zq_k_s2 167 (fun z => .goto z) 803 h rfl (zq_o_167 _) (by decide +kernel), ?_⟩
  replace h := zq_nx3 (q := 542) h rfl
  refine ⟨zq_k_n 43 h rfl (zq_o_43 _), ?_⟩
  replace h := zq_nx1 (q := 543) h rfl
  refine ⟨zq_k_n 42 h rfl (zq_o_42 _), ?_⟩
  replace h := zq_nx1 (q := 544) h rfl
  refine ⟨zq_k_n 29 h rfl (zq_o_29 _), ?_⟩
  replace h := zq_nx1 (q := 545) h rfl
  exact zq_k_n 4 h rfl (zq_o_4 _)
set_option maxRecDepth 100000 in
theorem dd_QuotaLawsLaw_law_546 : (decode code 546 = .ok (.iadd, 1)) ∧ (decode code 547 = .ok (.iaload, 1)) ∧ (decode code 548 = .ok (.aload_n 0, 1)) ∧ (decode code 549 = .ok (.iload_n 3, 1)) ∧ (decode code 550 = .ok (.iconst 2, 1)) ∧ (decode code 551 = .ok (.iadd, 1)) ∧ (decode code 552 = .ok (.iaload, 1)) ∧ (decode code 553 = .ok (.aload_n 0, 1)) ∧ (decode code 554 = .ok (.iload_n 3, 1)) ∧ (decode code 555 = .ok (.iconst 3, 1)) ∧ (decode code 556 = .ok (.iadd, 1)) ∧ (decode code 557 = .ok (.iaload, 1)) ∧ (decode code 558 = .ok (.ifCond .eq 7, 3)) ∧ (decode code 561 = .ok (.iconst 1, 1)) ∧ (decode code 562 = .ok (.goto 4, 3)) ∧ (decode code 565 = .ok (.iconst 0, 1)) ∧ (decode code 566 = .ok (.invokevirtual 65, 3)) ∧ (decode code 569 = .ok (.pop, 1)) ∧ (decode code 570 = .ok (.aload_n 2, 1)) ∧ (decode code 571 = .ok (.aload_n 0, 1)) ∧ (decode code 572 = .ok (.iload_n 3, 1)) ∧ (decode code 573 = .ok (.iconst 1, 1)) ∧ (decode code 574 = .ok (.iadd, 1)) ∧ (decode code 575 = .ok (.iaload, 1)) := by
  have h : List.drop 546 code.data.toList = 0x60 :: _ := rfl
  refine ⟨zq_k_n 96 h rfl (zq_o_96 _), ?_⟩
  replace h := zq_nx1 (q := 547) h rfl
  refine ⟨zq_k_n 46 h rfl (zq_o_46 _), ?_⟩
  replace h := zq_nx1 (q := 548) h rfl
  refine ⟨zq_k_n 42 h rfl (zq_o_42 _), ?_⟩
  replace h := zq_nx1 (q := 549) h rfl
  refine ⟨zq_k_n 29 h rfl (zq_o_29 _), ?_⟩
  replace h := zq_nx1 (q := 550) h rfl
  refine ⟨zq_k_n 5 h rfl (zq_o_5 _), ?_⟩
  replace h := zq_nx1 (q := 551) h rfl
  refine ⟨zq_k_n 96 h rfl (zq_o_96 _), ?_⟩
  replace h := zq_nx1 (q := 552) h rfl
  refine ⟨zq_k_n 46 h rfl (zq_o_46 _), ?_⟩
  replace h := zq_nx1 (q := 553) h rfl
  refine ⟨zq_k_n 42 h rfl (zq_o_42 _), ?_⟩
  replace h := zq_nx1 (q := 554) h rfl
  refine ⟨zq_k_n 29 h rfl (zq_o_29 _), ?_⟩
  replace h := zq_nx1 (q := 555) h rfl
  refine ⟨zq_k_n 6 h rfl (zq_o_6 _), ?_⟩
  replace h := zq_nx1 (q := 556) h rfl
  refine ⟨zq_k_n 96 h rfl (zq_o_96 _), ?_⟩
  replace h := zq_nx1 (q := 557) h rfl
  refine ⟨zq_k_n 46 h rfl (zq_o_46 _), ?_⟩
  replace h := zq_nx1 (q := 558) h rfl
  refine ⟨zq_k_s2 153 (fun z => .ifCond .eq z) 7 h rfl (zq_o_153 _) (by decide +kernel), ?_⟩
  replace h := zq_nx3 (q := 561) h rfl
  refine ⟨zq_k_n 4 h rfl (zq_o_4 _), ?_⟩
  replace h := zq_nx1 (q := 562) h rfl
  refine ⟨zq_k_s2 167 (fun z => .goto z) 4 h rfl (zq_o_167 _) (by decide +kernel), ?_⟩
  replace h := zq_nx3 (q := 565) h rfl
  refine ⟨zq_k_n 3 h rfl (zq_o_3 _), ?_⟩
  replace h := zq_nx1 (q := 566) h rfl
  refine ⟨zq_k_u2 182 (fun z => .invokevirtual z) 65 h rfl (zq_o_182 _) (by decide +kernel), ?_⟩
  replace h := zq_nx3 (q := 569) h rfl
  refine ⟨zq_k_n 87 h rfl (zq_o_87 _), ?_⟩
  replace h := zq_nx1 (q := 570) h rfl
  refine ⟨zq_k_n 44 h rfl (zq_o_44 _), ?_⟩
  replace h := zq_nx1 (q := 571) h rfl
  refine ⟨zq_k_n 42 h rfl (zq_o_42 _), ?_⟩
  replace h := zq_nx1 (q := 572) h rfl
  refine ⟨zq_k_n 29 h rfl (zq_o_29 _), ?_⟩
  replace h := zq_nx1 (q := 573) h rfl
  refine ⟨zq_k_n 4 h rfl (zq_o_4 _), ?_⟩
  replace h := zq_nx1 (q := 574) h rfl
  refine ⟨zq_k_n 96 h rfl (zq_o_96 _), ?_⟩
  replace h := zq_nx1 (q := 575) h rfl
  exact zq_k_n 46 h rfl (zq_o_46 _)
set_option maxRecDepth 100000 in
theorem dd_QuotaLawsLaw_law_576 : (decode code 576 = .ok (.aload_n 0, 1)) ∧ (decode code 577 = .ok (.iload_n 3, 1)) ∧ (decode code 578 = .ok (.iconst 2, 1)) ∧ (decode code 579 = .ok (.iadd, 1)) ∧ (decode code 580 = .ok (.iaload, 1)) ∧ (decode code 581 = .ok (.aload_n 0, 1)) ∧ (decode code 582 = .ok (.iload_n 3, 1)) ∧ (decode code 583 = .ok (.iconst 3, 1)) ∧ (decode code 584 = .ok (.iadd, 1)) ∧ (decode code 585 = .ok (.iaload, 1)) ∧ (decode code 586 = .ok (.ifCond .eq 7, 3)) ∧ (decode code 589 = .ok (.iconst 1, 1)) ∧ (decode code 590 = .ok (.goto 4, 3)) ∧ (decode code 593 = .ok (.iconst 0, 1)) ∧ (decode code 594 = .ok (.invokevirtual 69, 3)) ∧ (decode code 597 = .ok (.pop, 1)) ∧ (decode code 598 = .ok (.goto 744, 3)) ∧ (decode code 601 = .ok (.aload_n 1, 1)) ∧ (decode code 602 = .ok (.aload_n 0, 1)) ∧ (decode code 603 = .ok (.iload_n 3, 1)) ∧ (decode code 604 = .ok (.iconst 1, 1)) ∧ (decode code 605 = .ok (.iadd, 1)) ∧ (decode code 606 = .ok (.iaload, 1)) ∧ (decode code 607 = .ok (.aload_n 0, 1)) := by
  have h : List.drop 576 code.data.toList = 0x2a :: _ := rfl
  refine ⟨zq_k_n 42 h rfl (zq_o_42 _), ?_⟩
  replace h := zq_nx1 (q := 577) h rfl
  refine ⟨zq_k_n 29 h rfl (zq_o_29 _), ?_⟩
  replace h := zq_nx1 (q := 578) h rfl
  refine ⟨zq_k_n 5 h rfl (zq_o_5 _), ?_⟩
  replace h := zq_nx1 (q := 579) h rfl
  refine ⟨zq_k_n 96 h rfl (zq_o_96 _), ?_⟩
  replace h := zq_nx1 (q := 580) h rfl
  refine ⟨zq_k_n 46 h rfl (zq_o_46 _), ?_⟩
  replace h := zq_nx1 (q := 581) h rfl
  refine ⟨zq_k_n 42 h rfl (zq_o_42 _), ?_⟩
  replace h := zq_nx1 (q := 582) h rfl
  refine ⟨zq_k_n 29 h rfl (zq_o_29 _), ?_⟩
  replace h := zq_nx1 (q := 583) h rfl
  refine ⟨zq_k_n 6 h rfl (zq_o_6 _), ?_⟩
  replace h := zq_nx1 (q := 584) h rfl
  refine ⟨zq_k_n 96 h rfl (zq_o_96 _), ?_⟩
  replace h := zq_nx1 (q := 585) h rfl
  refine ⟨zq_k_n 46 h rfl (zq_o_46 _), ?_⟩
  replace h := zq_nx1 (q := 586) h rfl
  refine ⟨zq_k_s2 153 (fun z => .ifCond .eq z) 7 h rfl (zq_o_153 _) (by decide +kernel), ?_⟩
  replace h := zq_nx3 (q := 589) h rfl
  refine ⟨zq_k_n 4 h rfl (zq_o_4 _), ?_⟩
  replace h := zq_nx1 (q := 590) h rfl
  refine ⟨zq_k_s2 167 (fun z => .goto z) 4 h rfl (zq_o_167 _) (by decide +kernel), ?_⟩
  replace h := zq_nx3 (q := 593) h rfl
  refine ⟨zq_k_n 3 h rfl (zq_o_3 _), ?_⟩
  replace h := zq_nx1 (q := 594) h rfl
  refine ⟨zq_k_u2 182 (fun z => .invokevirtual z) 69 h rfl (zq_o_182 _) (by decide +kernel), ?_⟩
  replace h := zq_nx3 (q := 597) h rfl
  refine ⟨zq_k_n 87 h rfl (zq_o_87 _), ?_⟩
  replace h := zq_nx1 (q := 598) h rfl
  refine ⟨zq_k_s2 167 (fun z => .goto z) 744 h rfl (zq_o_167 _) (by decide +kernel), ?_⟩
  replace h := zq_nx3 (q := 601) h rfl
  refine ⟨zq_k_n 43 h rfl (zq_o_43 _), ?_⟩
  replace h := zq_nx1 (q := 602) h rfl
  refine ⟨zq_k_n 42 h rfl (zq_o_42 _), ?_⟩
  replace h := zq_nx1 (q := 603) h rfl
  refine ⟨zq_k_n 29 h rfl (zq_o_29 _), ?_⟩
  replace h := zq_nx1 (q := 604) h rfl
  refine ⟨zq_k_n 4 h rfl (zq_o_4 _), ?_⟩
  replace h := zq_nx1 (q := 605) h rfl
  refine ⟨zq_k_n 96 h rfl (zq_o_96 _), ?_⟩
  replace h := zq_nx1 (q := 606) h rfl
  refine ⟨zq_k_n 46 h rfl (zq_o_46 _), ?_⟩
  replace h := zq_nx1 (q := 607) h rfl
  exact zq_k_n 42 h rfl (zq_o_42 _)
set_option maxRecDepth 100000 in
theorem dd_QuotaLawsLaw_law_608 : (decode code 608 = .ok (.iload_n 3, 1)) ∧ (decode code 609 = .ok (.iconst 2, 1)) ∧ (decode code 610 = .ok (.iadd, 1)) ∧ (decode code 611 = .ok (.iaload, 1)) ∧ (decode code 612 = .ok (.aload_n 0, 1)) ∧ (decode code 613 = .ok (.iload_n 3, 1)) ∧ (decode code 614 = .ok (.iconst 3, 1)) ∧ (decode code 615 = .ok (.iadd, 1)) ∧ (decode code 616 = .ok (.iaload, 1)) ∧ (decode code 617 = .ok (.ifCond .eq 7, 3)) ∧ (decode code 620 = .ok (.iconst 1, 1)) ∧ (decode code 621 = .ok (.goto 4, 3)) ∧ (decode code 624 = .ok (.iconst 0, 1)) ∧ (decode code 625 = .ok (.invokevirtual 70, 3)) ∧ (decode code 628 = .ok (.pop, 1)) ∧ (decode code 629 = .ok (.aload_n 2, 1)) ∧ (decode code 630 = .ok (.aload_n 0, 1)) ∧ (decode code 631 = .ok (.iload_n 3, 1)) ∧ (decode code 632 = .ok (.iconst 1, 1)) ∧ (decode code 633 = .ok (.iadd, 1)) ∧ (decode code 634 = .ok (.iaload, 1)) ∧ (decode code 635 = .ok (.aload_n 0, 1)) ∧ (decode code 636 = .ok (.iload_n 3, 1)) ∧ (decode code 637 = .ok (.iconst 2, 1)) := by
  have h : List.drop 608 code.data.toList = 0x1d :: _ := rfl
  refine ⟨zq_k_n 29 h rfl (zq_o_29 _), ?_⟩
  replace h := zq_nx1 (q := 609) h rfl
  refine ⟨zq_k_n 5 h rfl (zq_o_5 _), ?_⟩
  replace h := zq_nx1 (q := 610) h rfl
  refine ⟨zq_k_n 96 h rfl (zq_o_96 _), ?_⟩
  replace h := zq_nx1 (q := 611) h rfl
  refine ⟨zq_k_n 46 h rfl (zq_o_46 _), ?_⟩
  replace h := zq_nx1 (q := 612) h rfl
  refine ⟨zq_k_n 42 h rfl (zq_o_42 _), ?_⟩
  replace h := zq_nx1 (q := 613) h rfl
  refine ⟨zq_k_n 29 h rfl (zq_o_29 _), ?_⟩
  replace h := zq_nx1 (q := 614) h rfl
  refine ⟨zq_k_n 6 h rfl (zq_o_6 _), ?_⟩
  replace h := zq_nx1 (q := 615) h rfl
  refine ⟨zq_k_n 96 h rfl (zq_o_96 _), ?_⟩
  replace h := zq_nx1 (q := 616) h rfl
  refine ⟨zq_k_n 46 h rfl (zq_o_46 _), ?_⟩
  replace h := zq_nx1 (q := 617) h rfl
  refine ⟨zq_k_s2 153 (fun z => .ifCond .eq z) 7 h rfl (zq_o_153 _) (by decide +kernel), ?_⟩
  replace h := zq_nx3 (q := 620) h rfl
  refine ⟨zq_k_n 4 h rfl (zq_o_4 _), ?_⟩
  replace h := zq_nx1 (q := 621) h rfl
  refine ⟨zq_k_s2 167 (fun z => .goto z) 4 h rfl (zq_o_167 _) (by decide +kernel), ?_⟩
  replace h := zq_nx3 (q := 624) h rfl
  refine ⟨zq_k_n 3 h rfl (zq_o_3 _), ?_⟩
  replace h := zq_nx1 (q := 625) h rfl
  refine ⟨zq_k_u2 182 (fun z => .invokevirtual z) 70 h rfl (zq_o_182 _) (by decide +kernel), ?_⟩
  replace h := zq_nx3 (q := 628) h rfl
  refine ⟨zq_k_n 87 h rfl (zq_o_87 _), ?_⟩
  replace h := zq_nx1 (q := 629) h rfl
  refine ⟨zq_k_n 44 h rfl (zq_o_44 _), ?_⟩
  replace h := zq_nx1 (q := 630) h rfl
  refine ⟨zq_k_n 42 h rfl (zq_o_42 _), ?_⟩
  replace h := zq_nx1 (q := 631) h rfl
  refine ⟨zq_k_n 29 h rfl (zq_o_29 _), ?_⟩
  replace h := zq_nx1 (q := 632) h rfl
  refine ⟨zq_k_n 4 h rfl (zq_o_4 _), ?_⟩
  replace h := zq_nx1 (q := 633) h rfl
  refine ⟨zq_k_n 96 h rfl (zq_o_96 _), ?_⟩
  replace h := zq_nx1 (q := 634) h rfl
  refine ⟨zq_k_n 46 h rfl (zq_o_46 _), ?_⟩
  replace h := zq_nx1 (q := 635) h rfl
  refine ⟨zq_k_n 42 h rfl (zq_o_42 _), ?_⟩
  replace h := zq_nx1 (q := 636) h rfl
  refine ⟨zq_k_n 29 h rfl (zq_o_29 _), ?_⟩
  replace h := zq_nx1 (q := 637) h rfl
  exact zq_k_n 5 h rfl (zq_o_5 _)
set_option maxRecDepth 100000 in
theorem dd_QuotaLawsLaw_law_638 : (decode code 638 = .ok (.iadd, 1)) ∧ (decode code 639 = .ok (.iaload, 1)) ∧ (decode code 640 = .ok (.aload_n 0, 1)) ∧ (decode code 641 = .ok (.iload_n 3, 1)) ∧ (decode code 642 = .ok (.iconst 3, 1)) ∧ (decode code 643 = .ok (.iadd, 1)) ∧ (decode code 644 = .ok (.iaload, 1)) ∧ (decode code 645 = .ok (.ifCond .eq 7, 3)) ∧ (decode code 648 = .ok (.iconst 1, 1)) ∧ (decode code 649 = .ok (.goto 4, 3)) ∧ (decode code 652 = .ok (.iconst 0, 1)) ∧ (decode code 653 = .ok (.invokevirtual 73, 3)) ∧ (decode code 656 = .ok (.pop, 1)) ∧ (decode code 657 = .ok (.goto 685, 3)) ∧ (decode code 660 = .ok (.aload_n 1, 1)) ∧ (decode code 661 = .ok (.aload_n 0, 1)) ∧ (decode code 662 = .ok (.iload_n 3, 1)) ∧ (decode code 663 = .ok (.iconst 1, 1)) ∧ (decode code 664 = .ok (.iadd, 1)) ∧ (decode code 665 = .ok (.iaload, 1)) ∧ (decode code 666 = .ok (.aload_n 0, 1)) ∧ (decode code 667 = .ok (.iload_n 3, 1)) ∧ (decode code 668 = .ok (.iconst 2, 1)) ∧ (decode code 669 = .ok (.iadd, 1)) := by
  have h : List.drop 638 code.data.toList = 0x60 :: _ := rfl
  refine ⟨zq_k_n 96 h rfl (zq_o_96 _), ?_⟩
  replace h := zq_nx1 (q := 639) h rfl
  refine ⟨zq_k_n 46 h rfl (zq_o_46 _), ?_⟩
  replace h := zq_nx1 (q := 640) h rfl
  refine ⟨zq_k_n 42 h rfl (zq_o_42 _), ?_⟩
  replace h := zq_nx1 (q := 641) h rfl
  refine ⟨zq_k_n 29 h rfl (zq_o_29 _), ?_⟩
  replace h := zq_nx1 (q := 642) h rfl
  refine ⟨zq_k_n 6 h rfl (zq_o_6 _), ?_⟩
  replace h := zq_nx1 (q := 643) h rfl
  refine ⟨zq_k_n 96 h rfl (zq_o_96 _), ?_⟩
  replace h := zq_nx1 (q := 644) h rfl
  refine ⟨zq_k_n 46 h rfl (zq_o_46 _), ?_⟩
  replace h := zq_nx1 (q := 645) h rfl
  refine ⟨zq_k_s2 153 (fun z => .ifCond .eq z) 7 h rfl (zq_o_153 _) (by decide +kernel), ?_⟩
  replace h := zq_nx3 (q := 648) h rfl
  refine ⟨zq_k_n 4 h rfl (zq_o_4 _), ?_⟩
  replace h := zq_nx1 (q := 649) h rfl
  refine ⟨zq_k_s2 167 (fun z => .goto z) 4 h rfl (zq_o_167 _) (by decide +kernel), ?_⟩
  replace h := zq_nx3 (q := 652) h rfl
  refine ⟨zq_k_n 3 h rfl (zq_o_3 _), ?_⟩
  replace h := zq_nx1 (q := 653) h rfl
  refine ⟨zq_k_u2 182 (fun z => .invokevirtual z) 73 h rfl (zq_o_182 _) (by decide +kernel), ?_⟩
  replace h := zq_nx3 (q := 656) h rfl
  refine ⟨zq_k_n 87 h rfl (zq_o_87 _), ?_⟩
  replace h := zq_nx1 (q := 657) h rfl
  refine ⟨zq_k_s2 167 (fun z => .goto z) 685 h rfl (zq_o_167 _) (by decide +kernel), ?_⟩
  replace h := zq_nx3 (q := 660) h rfl
  refine ⟨zq_k_n 43 h rfl (zq_o_43 _), ?_⟩
  replace h := zq_nx1 (q := 661) h rfl
  refine ⟨zq_k_n 42 h rfl (zq_o_42 _), ?_⟩
  replace h := zq_nx1 (q := 662) h rfl
  refine ⟨zq_k_n 29 h rfl (zq_o_29 _), ?_⟩
  replace h := zq_nx1 (q := 663) h rfl
  refine ⟨zq_k_n 4 h rfl (zq_o_4 _), ?_⟩
  replace h := zq_nx1 (q := 664) h rfl
  refine ⟨zq_k_n 96 h rfl (zq_o_96 _), ?_⟩
  replace h := zq_nx1 (q := 665) h rfl
  refine ⟨zq_k_n 46 h rfl (zq_o_46 _), ?_⟩
  replace h := zq_nx1 (q := 666) h rfl
  refine ⟨zq_k_n 42 h rfl (zq_o_42 _), ?_⟩
  replace h := zq_nx1 (q := 667) h rfl
  refine ⟨zq_k_n 29 h rfl (zq_o_29 _), ?_⟩
  replace h := zq_nx1 (q := 668) h rfl
  refine ⟨zq_k_n 5 h rfl (zq_o_5 _), ?_⟩
  replace h := zq_nx1 (q := 669) h rfl
  exact zq_k_n 96 h rfl (zq_o_96 _)
set_option maxRecDepth 100000 in
theorem dd_QuotaLawsLaw_law_670 : (decode code 670 = .ok (.iaload, 1)) ∧ (decode code 671 = .ok (.invokevirtual 74, 3)) ∧ (decode code 674 = .ok (.pop, 1)) ∧ (decode code 675 = .ok (.aload_n 2, 1)) ∧ (decode code 676 = .ok (.aload_n 0, 1)) ∧ (decode code 677 = .ok (.iload_n 3, 1)) ∧ (decode code 678 = .ok (.iconst 1, 1)) ∧ (decode code 679 = .ok (.iadd, 1)) ∧ (decode code 680 = .ok (.iaload, 1)) ∧ (decode code 681 = .ok (.aload_n 0, 1)) ∧ (decode code 682 = .ok (.iload_n 3, 1)) ∧ (decode code 683 = .ok (.iconst 2, 1)) ∧ (decode code 684 = .ok (.iadd, 1)) ∧ (decode code 685 = .ok (.iaload, 1)) ∧ (decode code 686 = .ok (.invokevirtual 77, 3)) ∧ (decode code 689 = .ok (.pop, 1)) ∧ (decode code 690 = .ok (.goto 652, 3)) ∧ (decode code 693 = .ok (.aload_n 1, 1)) ∧ (decode code 694 = .ok (.aload_n 0, 1)) ∧ (decode code 695 = .ok (.iload_n 3, 1)) ∧ (decode code 696 = .ok (.iconst 1, 1)) ∧ (decode code 697 = .ok (.iadd, 1)) ∧ (decode code 698 = .ok (.iaload, 1)) ∧ (decode code 699 = .ok (.invokevirtual 78, 3)) := by
  have h : List.drop 670 code.data.toList = 0x2e :: _ := rfl
  refine ⟨zq_k_n 46 h rfl (zq_o_46 _), ?_⟩
  replace h := zq_nx1 (q := 671) h rfl
  refine ⟨zq_k_u2 182 (fun z => .invokevirtual z) 74 h rfl (zq_o_182 _) (by decide +kernel), ?_⟩
  replace h := zq_nx3 (q := 674) h rfl
  refine ⟨zq_k_n 87 h rfl (zq_o_87 _), ?_⟩
  replace h := zq_nx1 (q := 675) h rfl
  refine ⟨zq_k_n 44 h rfl (zq_o_44 _), ?_⟩
  replace h := zq_nx1 (q := 676) h rfl
  refine ⟨zq_k_n 42 h rfl (zq_o_42 _), ?_⟩
  replace h := zq_nx1 (q := 677) h rfl
  refine ⟨zq_k_n 29 h rfl (zq_o_29 _), ?_⟩
  replace h := zq_nx1 (q := 678) h rfl
  refine ⟨zq_k_n 4 h rfl (zq_o_4 _), ?_⟩
  replace h := zq_nx1 (q := 679) h rfl
  refine ⟨zq_k_n 96 h rfl (zq_o_96 _), ?_⟩
  replace h := zq_nx1 (q := 680) h rfl
  refine ⟨zq_k_n 46 h rfl (zq_o_46 _), ?_⟩
  replace h := zq_nx1 (q := 681) h rfl
  refine ⟨zq_k_n 42 h rfl (zq_o_42 _), ?_⟩
  replace h := zq_nx1 (q := 682) h rfl
  refine ⟨zq_k_n 29 h rfl (zq_o_29 _), ?_⟩
  replace h := zq_nx1 (q := 683) h rfl
  refine ⟨zq_k_n 5 h rfl (zq_o_5 _), ?_⟩
  replace h := zq_nx1 (q := 684) h rfl
  refine ⟨zq_k_n 96 h rfl (zq_o_96 _), ?_⟩
  replace h := zq_nx1 (q := 685) h rfl
  refine ⟨zq_k_n 46 h rfl (zq_o_46 _), ?_⟩
  replace h := zq_nx1 (q := 686) h rfl
  refine ⟨zq_k_u2 182 (fun z => .invokevirtual z) 77 h rfl (zq_o_182 _) (by decide +kernel), ?_⟩
  replace h := zq_nx3 (q := 689) h rfl
  refine ⟨zq_k_n 87 h rfl (zq_o_87 _), ?_⟩
  replace h := zq_nx1 (q := 690) h rfl
  refine ⟨zq_k_s2 167 (fun z => .goto z) 652 h rfl (zq_o_167 _) (by decide +kernel), ?_⟩
  replace h := zq_nx3 (q := 693) h rfl
  refine ⟨zq_k_n 43 h rfl (zq_o_43 _), ?_⟩
  replace h := zq_nx1 (q := 694) h rfl
  refine ⟨zq_k_n 42 h rfl (zq_o_42 _), ?_⟩
  replace h := zq_nx1 (q := 695) h rfl
  refine ⟨zq_k_n 29 h rfl (zq_o_29 _), ?_⟩
  replace h := zq_nx1 (q := 696) h rfl
  refine ⟨zq_k_n 4 h rfl (zq_o_4 _), ?_⟩
  replace h := zq_nx1 (q := 697) h rfl
  refine ⟨zq_k_n 96 h rfl (zq_o_96 _), ?_⟩
  replace h := zq_nx1 (q := 698) h rfl
  refine ⟨zq_k_n 46 h rfl (zq_o_46 _), ?_⟩
  replace h := zq_nx1 (q := 699) h rfl
  exact zq_k_u2 182 (fun z => .invokevirtual z) 78 h rfl (zq_o_182 _) (by decide +kernel)
set_option maxRecDepth 100000 in
theorem dd_QuotaLawsLaw_law_702 : (decode code 702 = .ok (.pop, 1)) ∧ (decode code 703 = .ok (.aload_n 2, 1)) ∧ (decode code 704 = .ok (.aload_n 0, 1)) ∧ (decode code 705 = .ok (.iload_n 3, 1)) ∧ (decode code 706 = .ok (.iconst 1, 1)) ∧ (decode code 707 = .ok (.iadd, 1)) ∧ (decode code 708 = .ok (.iaload, 1)) ∧ (decode code 709 = .ok (.invokevirtual 81, 3)) ∧ (decode code 712 = .ok (.pop, 1)) ∧ (decode code 713 = .ok (.goto 629, 3)) ∧ (decode code 716 = .ok (.aload_n 1, 1)) ∧ (decode code 717 = .ok (.aload_n 0, 1)) ∧ (decode code 718 = .ok (.iload_n 3, 1)) ∧ (decode code 719 = .ok (.iconst 1, 1)) ∧ (decode code 720 = .ok (.iadd, 1)) ∧ (decode code 721 = .ok (.iaload, 1)) ∧ (decode code 722 = .ok (.aload_n 0, 1)) ∧ (decode code 723 = .ok (.iload_n 3, 1)) ∧ (decode code 724 = .ok (.iconst 2, 1)) ∧ (decode code 725 = .ok (.iadd, 1)) ∧ (decode code 726 = .ok (.iaload, 1)) ∧ (decode code 727 = .ok (.invokevirtual 82, 3)) ∧ (decode code 730 = .ok (.pop, 1)) ∧ (decode code 731 = .ok (.aload_n 2, 1)) := by
  have h : List.drop 702 code.data.toList = 0x57 :: _ := rfl
  refine ⟨zq_k_n 87 h rfl (zq_o_87 _), ?_⟩
  replace h := zq_nx1 (q := 703) h rfl
  refine ⟨zq_k_n 44 h rfl (zq_o_44 _), ?_⟩
  replace h := zq_nx1 (q := 704) h rfl
  refine ⟨zq_k_n 42 h rfl (zq_o_42 _), ?_⟩
  replace h := zq_nx1 (q := 705) h rfl
  refine ⟨zq_k_n 29 h rfl (zq_o_29 _), ?_⟩
  replace h := zq_nx1 (q := 706) h rfl
  refine ⟨zq_k_n 4 h rfl (zq_o_4 _), ?_⟩
  replace h := zq_nx1 (q := 707) h rfl
  refine ⟨zq_k_n 96 h rfl (zq_o_96 _), ?_⟩
  replace h := zq_nx1 (q := 708) h rfl
  refine ⟨zq_k_n 46 h rfl (zq_o_46 _), ?_⟩
  replace h := zq_nx1 (q := 709) h rfl
  refine ⟨zq_k_u2 182 (fun z => .invokevirtual z) 81 h rfl (zq_o_182 _) (by decide +kernel), ?_⟩
  replace h := zq_nx3 (q := 712) h rfl
  refine ⟨zq_k_n 87 h rfl (zq_o_87 _), ?_⟩
  replace h := zq_nx1 (q := 713) h rfl
  refine ⟨zq_k_s2 167 (fun z => .goto z) 629 h rfl (zq_o_167 _) (by decide +kernel), ?_⟩
  replace h := zq_nx3 (q := 716) h rfl
  refine ⟨zq_k_n 43 h rfl (zq_o_43 _), ?_⟩
  replace h := zq_nx1 (q := 717) h rfl
  refine ⟨zq_k_n 42 h rfl (zq_o_42 _), ?_⟩
  replace h := zq_nx1 (q := 718) h rfl
  refine ⟨zq_k_n 29 h rfl (zq_o_29 _), ?_⟩
  replace h := zq_nx1 (q := 719) h rfl
  refine ⟨zq_k_n 4 h rfl (zq_o_4 _), ?_⟩
  replace h := zq_nx1 (q := 720) h rfl
  refine ⟨zq_k_n 96 h rfl (zq_o_96 _), ?_⟩
  replace h := zq_nx1 (q := 721) h rfl
  refine ⟨zq_k_n 46 h rfl (zq_o_46 _), ?_⟩
  replace h := zq_nx1 (q := 722) h rfl
  refine ⟨zq_k_n 42 h rfl (zq_o_42 _), ?_⟩
  replace h := zq_nx1 (q := 723) h rfl
  refine ⟨zq_k_n 29 h rfl (zq_o_29 _), ?_⟩
  replace h := zq_nx1 (q := 724) h rfl
  refine ⟨zq_k_n 5 h rfl (zq_o_5 _), ?_⟩
  replace h := zq_nx1 (q := 725) h rfl
  refine ⟨zq_k_n 96 h rfl (zq_o_96 _), ?_⟩
  replace h := zq_nx1 (q := 726) h rfl
  refine ⟨zq_k_n 46 h rfl (zq_o_46 _), ?_⟩
  replace h := zq_nx1 (q := 727) h rfl
  refine ⟨zq_k_u2 182 (fun z => .invokevirtual z) 82 h rfl (zq_o_182 _) (by decide +kernel), ?_⟩
  replace h := zq_nx3 (q := 730) h rfl
  refine ⟨zq_k_n 87 h rfl (zq_o_87 _), ?_⟩
  replace h := zq_nx1 (q := 731) h rfl
  exact zq_k_n 44 h rfl (zq_o_44 _)
set_option maxRecDepth 100000 in
theorem dd_QuotaLawsLaw_law_732 : (decode code 732 = .ok (.aload_n 0, 1)) ∧ (decode code 733 = .ok (.iload_n 3, 1)) ∧ (decode code 734 = .ok (.iconst 1, 1)) ∧ (decode code 735 = .ok (.iadd, 1)) ∧ (decode code 736 = .ok (.iaload, 1)) ∧ (decode code 737 = .ok (.aload_n 0, 1)) ∧ (decode code 738 = .ok (.iload_n 3, 1)) ∧ (decode code 739 = .ok (.iconst 2, 1)) ∧ (decode code 740 = .ok (.iadd, 1)) ∧ (decode code 741 = .ok (.iaload, 1)) ∧ (decode code 742 = .ok (.invokevirtual 85, 3)) ∧ (decode code 745 = .ok (.pop, 1)) ∧ (decode code 746 = .ok (.goto 596, 3)) ∧ (decode code 749 = .ok (.aload_n 1, 1)) ∧ (decode code 750 = .ok (.invokevirtual 86, 3)) ∧ (decode code 753 = .ok (.pop, 1)) ∧ (decode code 754 = .ok (.aload_n 2, 1)) ∧ (decode code 755 = .ok (.invokevirtual 89, 3)) ∧ (decode code 758 = .ok (.pop, 1)) ∧ (decode code 759 = .ok (.goto 583, 3)) ∧ (decode code 762 = .ok (.aload_n 1, 1)) ∧ (decode code 763 = .ok (.invokevirtual 90, 3)) ∧ (decode code 766 = .ok (.pop, 1)) ∧ (decode code 767 = .ok (.aload_n 2, 1)) := by
  have h : List.drop 732 code.data.toList = 0x2a :: _ := rfl
  refine ⟨zq_k_n 42 h rfl (zq_o_42 _), ?_⟩
  replace h := zq_nx1 (q := 733) h rfl
  refine ⟨zq_k_n 29 h rfl (zq_o_29 _), ?_⟩
  replace h := zq_nx1 (q := 734) h rfl
  refine ⟨zq_k_n 4 h rfl (zq_o_4 _), ?_⟩
  replace h := zq_nx1 (q := 735) h rfl
  refine ⟨zq_k_n 96 h rfl (zq_o_96 _), ?_⟩
  replace h := zq_nx1 (q := 736) h rfl
  refine ⟨zq_k_n 46 h rfl (zq_o_46 _), ?_⟩
  replace h := zq_nx1 (q := 737) h rfl
  refine ⟨zq_k_n 42 h rfl (zq_o_42 _), ?_⟩
  replace h := zq_nx1 (q := 738) h rfl
  refine ⟨zq_k_n 29 h rfl (zq_o_29 _), ?_⟩
  replace h := zq_nx1 (q := 739) h rfl
  refine ⟨zq_k_n 5 h rfl (zq_o_5 _), ?_⟩
  replace h := zq_nx1 (q := 740) h rfl
  refine ⟨zq_k_n 96 h rfl (zq_o_96 _), ?_⟩
  replace h := zq_nx1 (q := 741) h rfl
  refine ⟨zq_k_n 46 h rfl (zq_o_46 _), ?_⟩
  replace h := zq_nx1 (q := 742) h rfl
  refine ⟨zq_k_u2 182 (fun z => .invokevirtual z) 85 h rfl (zq_o_182 _) (by decide +kernel), ?_⟩
  replace h := zq_nx3 (q := 745) h rfl
  refine ⟨zq_k_n 87 h rfl (zq_o_87 _), ?_⟩
  replace h := zq_nx1 (q := 746) h rfl
  refine ⟨zq_k_s2 167 (fun z => .goto z) 596 h rfl (zq_o_167 _) (by decide +kernel), ?_⟩
  replace h := zq_nx3 (q := 749) h rfl
  refine ⟨zq_k_n 43 h rfl (zq_o_43 _), ?_⟩
  replace h := zq_nx1 (q := 750) h rfl
  refine ⟨zq_k_u2 182 (fun z => .invokevirtual z) 86 h rfl (zq_o_182 _) (by decide +kernel), ?_⟩
  replace h := zq_nx3 (q := 753) h rfl
  refine ⟨zq_k_n 87 h rfl (zq_o_87 _), ?_⟩
  replace h := zq_nx1 (q := 754) h rfl
  refine ⟨zq_k_n 44 h rfl (zq_o_44 _), ?_⟩
  replace h := zq_nx1 (q := 755) h rfl
  refine ⟨zq_k_u2 182 (fun z => .invokevirtual z) 89 h rfl (zq_o_182 _) (by decide +kernel), ?_⟩
  replace h := zq_nx3 (q := 758) h rfl
  refine ⟨zq_k_n 87 h rfl (zq_o_87 _), ?_⟩
  replace h := zq_nx1 (q := 759) h rfl
  refine ⟨zq_k_s2 167 (fun z => .goto z) 583 h rfl (zq_o_167 _) (by decide +kernel), ?_⟩
  replace h := zq_nx3 (q := 762) h rfl
  refine ⟨zq_k_n 43 h rfl (zq_o_43 _), ?_⟩
  replace h := zq_nx1 (q := 763) h rfl
  refine ⟨zq_k_u2 182 (fun z => .invokevirtual z) 90 h rfl (zq_o_182 _) (by decide +kernel), ?_⟩
  replace h := zq_nx3 (q := 766) h rfl
  refine ⟨zq_k_n 87 h rfl (zq_o_87 _), ?_⟩
  replace h := zq_nx1 (q := 767) h rfl
  exact zq_k_n 44 h rfl (zq_o_44 _)
set_option maxRecDepth 100000 in
theorem dd_QuotaLawsLaw_law_768 : (decode code 768 = .ok (.invokevirtual 93, 3)) ∧ (decode code 771 = .ok (.pop, 1)) ∧ (decode code 772 = .ok (.goto 570, 3)) ∧ (decode code 775 = .ok (.aload_n 1, 1)) ∧ (decode code 776 = .ok (.aload_n 0, 1)) ∧ (decode code 777 = .ok (.iload_n 3, 1)) ∧ (decode code 778 = .ok (.iconst 1, 1)) ∧ (decode code 779 = .ok (.iadd, 1)) ∧ (decode code 780 = .ok (.iaload, 1)) ∧ (decode code 781 = .ok (.invokevirtual 94, 3)) ∧ (decode code 784 = .ok (.pop, 1)) ∧ (decode code 785 = .ok (.aload_n 2, 1)) ∧ (decode code 786 = .ok (.aload_n 0, 1)) ∧ (decode code 787 = .ok (.iload_n 3, 1)) ∧ (decode code 788 = .ok (.iconst 1, 1)) ∧ (decode code 789 = .ok (.iadd, 1)) ∧ (decode code 790 = .ok (.iaload, 1)) ∧ (decode code 791 = .ok (.invokevirtual 97, 3)) ∧ (decode code 794 = .ok (.pop, 1)) ∧ (decode code 795 = .ok (.goto 547, 3)) ∧ (decode code 798 = .ok (.aload_n 1, 1)) ∧ (decode code 799 = .ok (.aload_n 0, 1)) ∧ (decode code 800 = .ok (.iload_n 3, 1)) ∧ (decode code 801 = .ok (.iconst 1, 1)) := by
  have h : List.drop 768 code.data.toList = 0xb6 :: _ := rfl
  refine ⟨zq_k_u2 182 (fun z => .invokevirtual z) 93 h rfl (zq_o_182 _) (by decide +kernel), ?_⟩
  replace h := zq_nx3 (q := 771) h rfl
  refine ⟨zq_k_n 87 h rfl (zq_o_87 _), ?_⟩
  replace h := zq_nx1 (q := 772) h rfl
  refine ⟨zq_k_s2 167 (fun z => .goto z) 570 h rfl (zq_o_167 _) (by decide +kernel), ?_⟩
  replace h := zq_nx3 (q := 775) h rfl
  refine ⟨zq_k_n 43 h rfl (zq_o_43 _), ?_⟩
  replace h := zq_nx1 (q := 776) h rfl
  refine ⟨zq_k_n 42 h rfl (zq_o_42 _), ?_⟩
  replace h := zq_nx1 (q := 777) h rfl
  refine ⟨zq_k_n 29 h rfl (zq_o_29 _), ?_⟩
  replace h := zq_nx1 (q := 778) h rfl
  refine ⟨zq_k_n 4 h rfl (zq_o_4 _), ?_⟩
  replace h := zq_nx1 (q := 779) h rfl
  refine ⟨zq_k_n 96 h rfl (zq_o_96 _), ?_⟩
  replace h := zq_nx1 (q := 780) h rfl
  refine ⟨zq_k_n 46 h rfl (zq_o_46 _), ?_⟩
  replace h := zq_nx1 (q := 781) h rfl
  refine ⟨zq_k_u2 182 (fun z => .invokevirtual z) 94 h rfl (zq_o_182 _) (by decide +kernel), ?_⟩
  replace h := zq_nx3 (q := 784) h rfl
  refine ⟨zq_k_n 87 h rfl (zq_o_87 _), ?_⟩
  replace h := zq_nx1 (q := 785) h rfl
  refine ⟨zq_k_n 44 h rfl (zq_o_44 _), ?_⟩
  replace h := zq_nx1 (q := 786) h rfl
  refine ⟨zq_k_n 42 h rfl (zq_o_42 _), ?_⟩
  replace h := zq_nx1 (q := 787) h rfl
  refine ⟨zq_k_n 29 h rfl (zq_o_29 _), ?_⟩
  replace h := zq_nx1 (q := 788) h rfl
  refine ⟨zq_k_n 4 h rfl (zq_o_4 _), ?_⟩
  replace h := zq_nx1 (q := 789) h rfl
  refine ⟨zq_k_n 96 h rfl (zq_o_96 _), ?_⟩
  replace h := zq_nx1 (q := 790) h rfl
  refine ⟨zq_k_n 46 h rfl (zq_o_46 _), ?_⟩
  replace h := zq_nx1 (q := 791) h rfl
  refine ⟨zq_k_u2 182 (fun z => .invokevirtual z) 97 h rfl (zq_o_182 _) (by decide +kernel), ?_⟩
  replace h := zq_nx3 (q := 794) h rfl
  refine ⟨zq_k_n 87 h rfl (zq_o_87 _), ?_⟩
  replace h := zq_nx1 (q := 795) h rfl
  refine ⟨zq_k_s2 167 (fun z => .goto z) 547 h rfl (zq_o_167 _) (by decide +kernel), ?_⟩
  replace h := zq_nx3 (q := 798) h rfl
  refine ⟨zq_k_n 43 h rfl (zq_o_43 _), ?_⟩
  replace h := zq_nx1 (q := 799) h rfl
  refine ⟨zq_k_n 42 h rfl (zq_o_42 _), ?_⟩
  replace h := zq_nx1 (q := 800) h rfl
  refine ⟨zq_k_n 29 h rfl (zq_o_29 _), ?_⟩
  replace h := zq_nx1 (q := 801) h rfl
  exact zq_k_n 4 h rfl (zq_o_4 _)
set_option maxRecDepth 100000 in
theorem dd_QuotaLawsLaw_law_802 : (decode code 802 = .ok (.iadd, 1)) ∧ (decode code 803 = .ok (.iaload, 1)) ∧ (decode code 804 = .ok (.invokevirtual 98, 3)) ∧ (decode code 807 = .ok (.pop, 1)) ∧ (decode code 808 = .ok (.aload_n 2, 1)) ∧ (decode code 809 = .ok (.aload_n 0, 1)) ∧ (decode code 810 = .ok (.iload_n 3, 1)) ∧ (decode code 811 = .ok (.iconst 1, 1)) ∧ (decode code 812 = .ok (.iadd, 1)) ∧ (decode code 813 = .ok (.iaload, 1)) ∧ (decode code 814 = .ok (.invokevirtual 101, 3)) ∧ (decode code 817 = .ok (.pop, 1)) ∧ (decode code 818 = .ok (.goto 524, 3)) ∧ (decode code 821 = .ok (.aload_n 1, 1)) ∧ (decode code 822 = .ok (.aload_n 0, 1)) ∧ (decode code 823 = .ok (.iload_n 3, 1)) ∧ (decode code 824 = .ok (.iconst 1, 1)) ∧ (decode code 825 = .ok (.iadd, 1)) ∧ (decode code 826 = .ok (.iaload, 1)) ∧ (decode code 827 = .ok (.invokevirtual 102, 3)) ∧ (decode code 830 = .ok (.pop, 1)) ∧ (decode code 831 = .ok (.aload_n 2, 1)) ∧ (decode code 832 = .ok (.aload_n 0, 1)) ∧ (decode code 833 = .ok (.iload_n 3, 1)) := by
  have h : List.drop 802 code.data.toList = 0x60 :: _ := rfl
  refine ⟨zq_k_n 96 h rfl (zq_o_96 _), ?_⟩
  replace h := zq_nx1 (q := 803) h rfl
  refine ⟨zq_k_n 46 h rfl (zq_o_46 _), ?_⟩
  replace h := zq_nx1 (q := 804) h rfl
  refine ⟨zq_k_u2 182 (fun z => .invokevirtual z) 98 h rfl (zq_o_182 _) (by decide +kernel), ?_⟩
  replace h := zq_nx3 (q := 807) h rfl
  refine ⟨zq_k_n 87 h rfl (zq_o_87 _), ?_⟩
  replace h := zq_nx1 (q := 808) h rfl
  refine ⟨zq_k_n 44 h rfl (zq_o_44 _), ?_⟩
  replace h := zq_nx1 (q := 809) h rfl
  refine ⟨zq_k_n 42 h rfl (zq_o_42 _), ?_⟩
  replace h := zq_nx1 (q := 810) h rfl
  refine ⟨zq_k_n 29 h rfl (zq_o_29 _), ?_⟩
  replace h := zq_nx1 (q := 811) h rfl
  refine ⟨zq_k_n 4 h rfl (zq_o_4 _), ?_⟩
  replace h := zq_nx1 (q := 812) h rfl
  refine ⟨zq_k_n 96 h rfl (zq_o_96 _), ?_⟩
  replace h := zq_nx1 (q := 813) h rfl
  refine ⟨zq_k_n 46 h rfl (zq_o_46 _), ?_⟩
  replace h := zq_nx1 (q := 814) h rfl
  refine ⟨zq_k_u2 182 (fun z => .invokevirtual z) 101 h rfl (zq_o_182 _) (by decide +kernel), ?_⟩
  replace h := zq_nx3 (q := 817) h rfl
  refine ⟨zq_k_n 87 h rfl (zq_o_87 _), ?_⟩
  replace h := zq_nx1 (q := 818) h rfl
  refine ⟨zq_k_s2 167 (fun z => .goto z) 524 h rfl (zq_o_167 _) (by decide +kernel), ?_⟩
  replace h := zq_nx3 (q := 821) h rfl
  refine ⟨zq_k_n 43 h rfl (zq_o_43 _), ?_⟩
  replace h := zq_nx1 (q := 822) h rfl
  refine ⟨zq_k_n 42 h rfl (zq_o_42 _), ?_⟩
  replace h := zq_nx1 (q := 823) h rfl
  refine ⟨zq_k_n 29 h rfl (zq_o_29 _), ?_⟩
  replace h := zq_nx1 (q := 824) h rfl
  refine ⟨zq_k_n 4 h rfl (zq_o_4 _), ?_⟩
  replace h := zq_nx1 (q := 825) h rfl
  refine ⟨zq_k_n 96 h rfl (zq_o_96 _), ?_⟩
  replace h := zq_nx1 (q := 826) h rfl
  refine ⟨zq_k_n 46 h rfl (zq_o_46 _), ?_⟩
  replace h := zq_nx1 (q := 827) h rfl
  refine ⟨zq_k_u2 182 (fun z => .invokevirtual z) 102 h rfl (zq_o_182 _) (by decide +kernel), ?_⟩
  replace h := zq_nx3 (q := 830) h rfl
  refine ⟨zq_k_n 87 h rfl (zq_o_87 _), ?_⟩
  replace h := zq_nx1 (q := 831) h rfl
  refine ⟨zq_k_n 44 h rfl (zq_o_44 _), ?_⟩
  replace h := zq_nx1 (q := 832) h rfl
  refine ⟨zq_k_n 42 h rfl (zq_o_42 _), ?_⟩
  replace h := zq_nx1 (q := 833) h rfl
  exact zq_k_n 29 h rfl (zq_o_29 _)
set_option maxRecDepth 100000 in
theorem dd_QuotaLawsLaw_law_834 : (decode code 834 = .ok (.iconst 1, 1)) ∧ (decode code 835 = .ok (.iadd, 1)) ∧ (decode code 836 = .ok (.iaload, 1)) ∧ (decode code 837 = .ok (.invokevirtual 105, 3)) ∧ (decode code 840 = .ok (.pop, 1)) ∧ (decode code 841 = .ok (.goto 501, 3)) ∧ (decode code 844 = .ok (.aload_n 1, 1)) ∧ (decode code 845 = .ok (.aload_n 0, 1)) ∧ (decode code 846 = .ok (.iload_n 3, 1)) ∧ (decode code 847 = .ok (.iconst 1, 1)) ∧ (decode code 848 = .ok (.iadd, 1)) ∧ (decode code 849 = .ok (.iaload, 1)) ∧ (decode code 850 = .ok (.invokevirtual 106, 3)) ∧ (decode code 853 = .ok (.pop, 1)) ∧ (decode code 854 = .ok (.aload_n 2, 1)) ∧ (decode code 855 = .ok (.aload_n 0, 1)) ∧ (decode code 856 = .ok (.iload_n 3, 1)) ∧ (decode code 857 = .ok (.iconst 1, 1)) ∧ (decode code 858 = .ok (.iadd, 1)) ∧ (decode code 859 = .ok (.iaload, 1)) ∧ (decode code 860 = .ok (.invokevirtual 109, 3)) ∧ (decode code 863 = .ok (.pop, 1)) ∧ (decode code 864 = .ok (.goto 478, 3)) ∧ (decode code 867 = .ok (.aload_n 1, 1)) := by
  have h : List.drop 834 code.data.toList = 0x04 :: _ := rfl
  refine ⟨zq_k_n 4 h rfl (zq_o_4 _), ?_⟩
  replace h := zq_nx1 (q := 835) h rfl
  refine ⟨zq_k_n 96 h rfl (zq_o_96 _), ?_⟩
  replace h := zq_nx1 (q := 836) h rfl
  refine ⟨zq_k_n 46 h rfl (zq_o_46 _), ?_⟩
  replace h := zq_nx1 (q := 837) h rfl
  refine ⟨zq_k_u2 182 (fun z => .invokevirtual z) 105 h rfl (zq_o_182 _) (by decide +kernel), ?_⟩
  replace h := zq_nx3 (q := 840) h rfl
  refine ⟨zq_k_n 87 h rfl (zq_o_87 _), ?_⟩
  replace h := zq_nx1 (q := 841) h rfl
  refine ⟨zq_k_s2 167 (fun z => .goto z) 501 h rfl (zq_o_167 _) (by decide +kernel), ?_⟩
  replace h := zq_nx3 (q := 844) h rfl
  refine ⟨zq_k_n 43 h rfl (zq_o_43 _), ?_⟩
  replace h := zq_nx1 (q := 845) h rfl
  refine ⟨zq_k_n 42 h rfl (zq_o_42 _), ?_⟩
  replace h := zq_nx1 (q := 846) h rfl
  refine ⟨zq_k_n 29 h rfl (zq_o_29 _), ?_⟩
  replace h := zq_nx1 (q := 847) h rfl
  refine ⟨zq_k_n 4 h rfl (zq_o_4 _), ?_⟩
  replace h := zq_nx1 (q := 848) h rfl
  refine ⟨zq_k_n 96 h rfl (zq_o_96 _), ?_⟩
  replace h := zq_nx1 (q := 849) h rfl
  refine ⟨zq_k_n 46 h rfl (zq_o_46 _), ?_⟩
  replace h := zq_nx1 (q := 850) h rfl
  refine ⟨zq_k_u2 182 (fun z => .invokevirtual z) 106 h rfl (zq_o_182 _) (by decide +kernel), ?_⟩
  replace h := zq_nx3 (q := 853) h rfl
  refine ⟨zq_k_n 87 h rfl (zq_o_87 _), ?_⟩
  replace h := zq_nx1 (q := 854) h rfl
  refine ⟨zq_k_n 44 h rfl (zq_o_44 _), ?_⟩
  replace h := zq_nx1 (q := 855) h rfl
  refine ⟨zq_k_n 42 h rfl (zq_o_42 _), ?_⟩
  replace h := zq_nx1 (q := 856) h rfl
  refine ⟨zq_k_n 29 h rfl (zq_o_29 _), ?_⟩
  replace h := zq_nx1 (q := 857) h rfl
  refine ⟨zq_k_n 4 h rfl (zq_o_4 _), ?_⟩
  replace h := zq_nx1 (q := 858) h rfl
  refine ⟨zq_k_n 96 h rfl (zq_o_96 _), ?_⟩
  replace h := zq_nx1 (q := 859) h rfl
  refine ⟨zq_k_n 46 h rfl (zq_o_46 _), ?_⟩
  replace h := zq_nx1 (q := 860) h rfl
  refine ⟨zq_k_u2 182 (fun z => .invokevirtual z) 109 h rfl (zq_o_182 _) (by decide +kernel), ?_⟩
  replace h := zq_nx3 (q := 863) h rfl
  refine ⟨zq_k_n 87 h rfl (zq_o_87 _), ?_⟩
  replace h := zq_nx1 (q := 864) h rfl
  refine ⟨zq_k_s2 167 (fun z => .goto z) 478 h rfl (zq_o_167 _) (by decide +kernel), ?_⟩
  replace h := zq_nx3 (q := 867) h rfl
  exact zq_k_n 43 h rfl (zq_o_43 _)
set_option maxRecDepth 100000 in
theorem dd_QuotaLawsLaw_law_868 : (decode code 868 = .ok (.aload_n 0, 1)) ∧ (decode code 869 = .ok (.iload_n 3, 1)) ∧ (decode code 870 = .ok (.iconst 1, 1)) ∧ (decode code 871 = .ok (.iadd, 1)) ∧ (decode code 872 = .ok (.iaload, 1)) ∧ (decode code 873 = .ok (.aload_n 0, 1)) ∧ (decode code 874 = .ok (.iload_n 3, 1)) ∧ (decode code 875 = .ok (.iconst 2, 1)) ∧ (decode code 876 = .ok (.iadd, 1)) ∧ (decode code 877 = .ok (.iaload, 1)) ∧ (decode code 878 = .ok (.invokevirtual 110, 3)) ∧ (decode code 881 = .ok (.pop, 1)) ∧ (decode code 882 = .ok (.aload_n 2, 1)) ∧ (decode code 883 = .ok (.aload_n 0, 1)) ∧ (decode code 884 = .ok (.iload_n 3, 1)) ∧ (decode code 885 = .ok (.iconst 1, 1)) ∧ (decode code 886 = .ok (.iadd, 1)) ∧ (decode code 887 = .ok (.iaload, 1)) ∧ (decode code 888 = .ok (.aload_n 0, 1)) ∧ (decode code 889 = .ok (.iload_n 3, 1)) ∧ (decode code 890 = .ok (.iconst 2, 1)) ∧ (decode code 891 = .ok (.iadd, 1)) ∧ (decode code 892 = .ok (.iaload, 1)) ∧ (decode code 893 = .ok (.invokevirtual 113, 3)) := by
  have h : List.drop 868 code.data.toList = 0x2a :: _ := rfl
  refine ⟨zq_k_n 42 h rfl (zq_o_42 _), ?_⟩
  replace h := zq_nx1 (q := 869) h rfl
  refine ⟨zq_k_n 29 h rfl (zq_o_29 _), ?_⟩
  replace h := zq_nx1 (q := 870) h rfl
  refine ⟨zq_k_n 4 h rfl (zq_o_4 _), ?_⟩
  replace h := zq_nx1 (q := 871) h rfl
  refine ⟨zq_k_n 96 h rfl (zq_o_96 _), ?_⟩
  replace h := zq_nx1 (q := 872) h rfl
  refine ⟨zq_k_n 46 h rfl (zq_o_46 _), ?_⟩
  replace h := zq_nx1 (q := 873) h rfl
  refine ⟨zq_k_n 42 h rfl (zq_o_42 _), ?_⟩
  replace h := zq_nx1 (q := 874) h rfl
  refine ⟨zq_k_n 29 h rfl (zq_o_29 _), ?_⟩
  replace h := zq_nx1 (q := 875) h rfl
  refine ⟨zq_k_n 5 h rfl (zq_o_5 _), ?_⟩
  replace h := zq_nx1 (q := 876) h rfl
  refine ⟨zq_k_n 96 h rfl (zq_o_96 _), ?_⟩
  replace h := zq_nx1 (q := 877) h rfl
  refine ⟨zq_k_n 46 h rfl (zq_o_46 _), ?_⟩
  replace h := zq_nx1 (q := 878) h rfl
  refine ⟨zq_k_u2 182 (fun z => .invokevirtual z) 110 h rfl (zq_o_182 _) (by decide +kernel), ?_⟩
  replace h := zq_nx3 (q := 881) h rfl
  refine ⟨zq_k_n 87 h rfl (zq_o_87 _), ?_⟩
  replace h := zq_nx1 (q := 882) h rfl
  refine ⟨zq_k_n 44 h rfl (zq_o_44 _), ?_⟩
  replace h := zq_nx1 (q := 883) h rfl
  refine ⟨zq_k_n 42 h rfl (zq_o_42 _), ?_⟩
  replace h := zq_nx1 (q := 884) h rfl
  refine ⟨zq_k_n 29 h rfl (zq_o_29 _), ?_⟩
  replace h := zq_nx1 (q := 885) h rfl
  refine ⟨zq_k_n 4 h rfl (zq_o_4 _), ?_⟩
  replace h := zq_nx1 (q := 886) h rfl
  refine ⟨zq_k_n 96 h rfl (zq_o_96 _), ?_⟩
  replace h := zq_nx1 (q := 887) h rfl
  refine ⟨zq_k_n 46 h rfl (zq_o_46 _), ?_⟩
  replace h := zq_nx1 (q := 888) h rfl
  refine ⟨zq_k_n 42 h rfl (zq_o_42 _), ?_⟩
  replace h := zq_nx1 (q := 889) h rfl
  refine ⟨zq_k_n 29 h rfl (zq_o_29 _), ?_⟩
  replace h := zq_nx1 (q := 890) h rfl
  refine ⟨zq_k_n 5 h rfl (zq_o_5 _), ?_⟩
  replace h := zq_nx1 (q := 891) h rfl
  refine ⟨zq_k_n 96 h rfl (zq_o_96 _), ?_⟩
  replace h := zq_nx1 (q := 892) h rfl
  refine ⟨zq_k_n 46 h rfl (zq_o_46 _), ?_⟩
  replace h := zq_nx1 (q := 893) h rfl
  exact zq_k_u2 182 (fun z => .invokevirtual z) 113 h rfl (zq_o_182 _) (by decide +kernel)
set_option maxRecDepth 100000 in
theorem dd_QuotaLawsLaw_law_896 : (decode code 896 = .ok (.pop, 1)) ∧ (decode code 897 = .ok (.goto 445, 3)) ∧ (decode code 900 = .ok (.aload_n 1, 1)) ∧ (decode code 901 = .ok (.aload_n 0, 1)) ∧ (decode code 902 = .ok (.iload_n 3, 1)) ∧ (decode code 903 = .ok (.iconst 1, 1)) ∧ (decode code 904 = .ok (.iadd, 1)) ∧ (decode code 905 = .ok (.iaload, 1)) ∧ (decode code 906 = .ok (.invokevirtual 114, 3)) ∧ (decode code 909 = .ok (.pop, 1)) ∧ (decode code 910 = .ok (.aload_n 2, 1)) ∧ (decode code 911 = .ok (.aload_n 0, 1)) ∧ (decode code 912 = .ok (.iload_n 3, 1)) ∧ (decode code 913 = .ok (.iconst 1, 1)) ∧ (decode code 914 = .ok (.iadd, 1)) ∧ (decode code 915 = .ok (.iaload, 1)) ∧ (decode code 916 = .ok (.invokevirtual 117, 3)) ∧ (decode code 919 = .ok (.pop, 1)) ∧ (decode code 920 = .ok (.goto 422, 3)) ∧ (decode code 923 = .ok (.aload_n 1, 1)) ∧ (decode code 924 = .ok (.aload_n 0, 1)) ∧ (decode code 925 = .ok (.iload_n 3, 1)) ∧ (decode code 926 = .ok (.iconst 1, 1)) ∧ (decode code 927 = .ok (.iadd, 1)) := by
  have h : List.drop 896 code.data.toList = 0x57 :: _ := rfl
  refine ⟨zq_k_n 87 h rfl (zq_o_87 _), ?_⟩
  replace h := zq_nx1 (q := 897) h rfl
  refine ⟨zq_k_s2 167 (fun z => .goto z) 445 h rfl (zq_o_167 _) (by decide +kernel), ?_⟩
  replace h := zq_nx3 (q := 900) h rfl
  refine ⟨zq_k_n 43 h rfl (zq_o_43 _), ?_⟩
  replace h := zq_nx1 (q := 901) h rfl
  refine ⟨zq_k_n 42 h rfl (zq_o_42 _), ?_⟩
  replace h := zq_nx1 (q := 902) h rfl
  refine ⟨zq_k_n 29 h rfl (zq_o_29 _), ?_⟩
  replace h := zq_nx1 (q := 903) h rfl
  refine ⟨zq_k_n 4 h rfl (zq_o_4 _), ?_⟩
  replace h := zq_nx1 (q := 904) h rfl
  refine ⟨zq_k_n 96 h rfl (zq_o_96 _), ?_⟩
  replace h := zq_nx1 (q := 905) h rfl
  refine ⟨zq_k_n 46 h rfl (zq_o_46 _), ?_⟩
  replace h := zq_nx1 (q := 906) h rfl
  refine ⟨zq_k_u2 182 (fun z => .invokevirtual z) 114 h rfl (zq_o_182 _) (by decide +kernel), ?_⟩
  replace h := zq_nx3 (q := 909) h rfl
  refine ⟨zq_k_n 87 h rfl (zq_o_87 _), ?_⟩
  replace h := zq_nx1 (q := 910) h rfl
  refine ⟨zq_k_n 44 h rfl (zq_o_44 _), ?_⟩
  replace h := zq_nx1 (q := 911) h rfl
  refine ⟨zq_k_n 42 h rfl (zq_o_42 _), ?_⟩
  replace h := zq_nx1 (q := 912) h rfl
  refine ⟨zq_k_n 29 h rfl (zq_o_29 _), ?_⟩
  replace h := zq_nx1 (q := 913) h rfl
  refine ⟨zq_k_n 4 h rfl (zq_o_4 _), ?_⟩
  replace h := zq_nx1 (q := 914) h rfl
  refine ⟨zq_k_n 96 h rfl (zq_o_96 _), ?_⟩
  replace h := zq_nx1 (q := 915) h rfl
  refine ⟨zq_k_n 46 h rfl (zq_o_46 _), ?_⟩
  replace h := zq_nx1 (q := 916) h rfl
  refine ⟨zq_k_u2 182 (fun z => .invokevirtual z) 117 h rfl (zq_o_182 _) (by decide +kernel), ?_⟩
  replace h := zq_nx3 (q := 919) h rfl
  refine ⟨zq_k_n 87 h rfl (zq_o_87 _), ?_⟩
  replace h := zq_nx1 (q := 920) h rfl
  refine ⟨zq_k_s2 167 (fun z => .goto z) 422 h rfl (zq_o_167 _) (by decide +kernel), ?_⟩
  replace h := zq_nx3 (q := 923) h rfl
  refine ⟨zq_k_n 43 h rfl (zq_o_43 _), ?_⟩
  replace h := zq_nx1 (q := 924) h rfl
  refine ⟨zq_k_n 42 h rfl (zq_o_42 _), ?_⟩
  replace h := zq_nx1 (q := 925) h rfl
  refine ⟨zq_k_n 29 h rfl (zq_o_29 _), ?_⟩
  replace h := zq_nx1 (q := 926) h rfl
  refine ⟨zq_k_n 4 h rfl (zq_o_4 _), ?_⟩
  replace h := zq_nx1 (q := 927) h rfl
  exact zq_k_n 96 h rfl (zq_o_96 _)
set_option maxRecDepth 100000 in
theorem dd_QuotaLawsLaw_law_928 : (decode code 928 = .ok (.iaload, 1)) ∧ (decode code 929 = .ok (.aload_n 0, 1)) ∧ (decode code 930 = .ok (.iload_n 3, 1)) ∧ (decode code 931 = .ok (.iconst 2, 1)) ∧ (decode code 932 = .ok (.iadd, 1)) ∧ (decode code 933 = .ok (.iaload, 1)) ∧ (decode code 934 = .ok (.invokevirtual 118, 3)) ∧ (decode code 937 = .ok (.pop2, 1)) ∧ (decode code 938 = .ok (.aload_n 2, 1)) ∧ (decode code 939 = .ok (.aload_n 0, 1)) ∧ (decode code 940 = .ok (.iload_n 3, 1)) ∧ (decode code 941 = .ok (.iconst 1, 1)) ∧ (decode code 942 = .ok (.iadd, 1)) ∧ (decode code 943 = .ok (.iaload, 1)) ∧ (decode code 944 = .ok (.aload_n 0, 1)) ∧ (decode code 945 = .ok (.iload_n 3, 1)) ∧ (decode code 946 = .ok (.iconst 2, 1)) ∧ (decode code 947 = .ok (.iadd, 1)) ∧ (decode code 948 = .ok (.iaload, 1)) ∧ (decode code 949 = .ok (.invokevirtual 122, 3)) ∧ (decode code 952 = .ok (.pop2, 1)) ∧ (decode code 953 = .ok (.goto 389, 3)) ∧ (decode code 956 = .ok (.aload_n 1, 1)) ∧ (decode code 957 = .ok (.aload_n 0, 1)) := by
  have h : List.drop 928 code.data.toList = 0x2e :: _ := rfl
  refine ⟨zq_k_n 46 h rfl (zq_o_46 _), ?_⟩
  replace h := zq_nx1 (q := 929) h rfl
  refine ⟨zq_k_n 42 h rfl (zq_o_42 _), ?_⟩
  replace h := zq_nx1 (q := 930) h rfl
  refine ⟨zq_k_n 29 h rfl (zq_o_29 _), ?_⟩
  replace h := zq_nx1 (q := 931) h rfl
  refine ⟨zq_k_n 5 h rfl (zq_o_5 _), ?_⟩
  replace h := zq_nx1 (q := 932) h rfl
  refine ⟨zq_k_n 96 h rfl (zq_o_96 _), ?_⟩
  replace h := zq_nx1 (q := 933) h rfl
  refine ⟨zq_k_n 46 h rfl (zq_o_46 _), ?_⟩
  replace h := zq_nx1 (q := 934) h rfl
  refine ⟨zq_k_u2 182 (fun z => .invokevirtual z) 118 h rfl (zq_o_182 _) (by decide +kernel), ?_⟩
  replace h := zq_nx3 (q := 937) h rfl
  refine ⟨zq_k_n 88 h rfl (zq_o_88 _), ?_⟩
  replace h := zq_nx1 (q := 938) h rfl
  refine ⟨zq_k_n 44 h rfl (zq_o_44 _), ?_⟩
  replace h := zq_nx1 (q := 939) h rfl
  refine ⟨zq_k_n 42 h rfl (zq_o_42 _), ?_⟩
  replace h := zq_nx1 (q := 940) h rfl
  refine ⟨zq_k_n 29 h rfl (zq_o_29 _), ?_⟩
  replace h := zq_nx1 (q := 941) h rfl
  refine ⟨zq_k_n 4 h rfl (zq_o_4 _), ?_⟩
  replace h := zq_nx1 (q := 942) h rfl
  refine ⟨zq_k_n 96 h rfl (zq_o_96 _), ?_⟩
  replace h := zq_nx1 (q := 943) h rfl
  refine ⟨zq_k_n 46 h rfl (zq_o_46 _), ?_⟩
  replace h := zq_nx1 (q := 944) h rfl
  refine ⟨zq_k_n 42 h rfl (zq_o_42 _), ?_⟩
  replace h := zq_nx1 (q := 945) h rfl
  refine ⟨zq_k_n 29 h rfl (zq_o_29 _), ?_⟩
  replace h := zq_nx1 (q := 946) h rfl
  refine ⟨zq_k_n 5 h rfl (zq_o_5 _), ?_⟩
  replace h := zq_nx1 (q := 947) h rfl
  refine ⟨zq_k_n 96 h rfl (zq_o_96 _), ?_⟩
  replace h := zq_nx1 (q := 948) h rfl
  refine ⟨zq_k_n 46 h rfl (zq_o_46 _), ?_⟩
  replace h := zq_nx1 (q := 949) h rfl
  refine ⟨zq_k_u2 182 (fun z => .invokevirtual z) 122 h rfl (zq_o_182 _) (by decide +kernel), ?_⟩
  replace h := zq_nx3 (q := 952) h rfl
  refine ⟨zq_k_n 88 h rfl (zq_o_88 _), ?_⟩
  replace h := zq_nx1 (q := 953) h rfl
  refine ⟨zq_k_s2 167 (fun z => .goto z) 389 h rfl (zq_o_167 _) (by decide +kernel), ?_⟩
  replace h := zq_nx3 (q := 956) h rfl
  refine ⟨zq_k_n 43 h rfl (zq_o_43 _), ?_⟩
  replace h := zq_nx1 (q := 957) h rfl
  exact zq_k_n 42 h rfl (zq_o_42 _)
set_option maxRecDepth 100000 in
theorem dd_QuotaLawsLaw_law_958 : (decode code 958 = .ok (.iload_n 3, 1)) ∧ (decode code 959 = .ok (.iconst 1, 1)) ∧ (decode code 960 = .ok (.iadd, 1)) ∧ (decode code 961 = .ok (.iaload, 1)) ∧ (decode code 962 = .ok (.aload_n 0, 1)) ∧ (decode code 963 = .ok (.iload_n 3, 1)) ∧ (decode code 964 = .ok (.iconst 2, 1)) ∧ (decode code 965 = .ok (.iadd, 1)) ∧ (decode code 966 = .ok (.iaload, 1)) ∧ (decode code 967 = .ok (.aload_n 0, 1)) ∧ (decode code 968 = .ok (.iload_n 3, 1)) ∧ (decode code 969 = .ok (.iconst 3, 1)) ∧ (decode code 970 = .ok (.iadd, 1)) ∧ (decode code 971 = .ok (.iaload, 1)) ∧ (decode code 972 = .ok (.invokevirtual 123, 3)) ∧ (decode code 975 = .ok (.pop, 1)) ∧ (decode code 976 = .ok (.aload_n 2, 1)) ∧ (decode code 977 = .ok (.aload_n 0, 1)) ∧ (decode code 978 = .ok (.iload_n 3, 1)) ∧ (decode code 979 = .ok (.iconst 1, 1)) ∧ (decode code 980 = .ok (.iadd, 1)) ∧ (decode code 981 = .ok (.iaload, 1)) ∧ (decode code 982 = .ok (.aload_n 0, 1)) ∧ (decode code 983 = .ok (.iload_n 3, 1)) := by
  have h : List.drop 958 code.data.toList = 0x1d :: _ := rfl
  refine ⟨zq_k_n 29 h rfl (zq_o_29 _), ?_⟩
  replace h := zq_nx1 (q := 959) h rfl
  refine ⟨zq_k_n 4 h rfl (zq_o_4 _), ?_⟩
  replace h := zq_nx1 (q := 960) h rfl
  refine ⟨zq_k_n 96 h rfl (zq_o_96 _), ?_⟩
  replace h := zq_nx1 (q := 961) h rfl
  refine ⟨zq_k_n 46 h rfl (zq_o_46 _), ?_⟩
  replace h := zq_nx1 (q := 962) h rfl
  refine ⟨zq_k_n 42 h rfl (zq_o_42 _), ?_⟩
  replace h := zq_nx1 (q := 963) h rfl
  refine ⟨zq_k_n 29 h rfl (zq_o_29 _), ?_⟩
  replace h := zq_nx1 (q := 964) h rfl
  refine ⟨zq_k_n 5 h rfl (zq_o_5 _), ?_⟩
  replace h := zq_nx1 (q := 965) h rfl
  refine ⟨zq_k_n 96 h rfl (zq_o_96 _), ?_⟩
  replace h := zq_nx1 (q := 966) h rfl
  refine ⟨zq_k_n 46 h rfl (zq_o_46 _), ?_⟩
  replace h := zq_nx1 (q := 967) h rfl
  refine ⟨zq_k_n 42 h rfl (zq_o_42 _), ?_⟩
  replace h := zq_nx1 (q := 968) h rfl
  refine ⟨zq_k_n 29 h rfl (zq_o_29 _), ?_⟩
  replace h := zq_nx1 (q := 969) h rfl
  refine ⟨zq_k_n 6 h rfl (zq_o_6 _), ?_⟩
  replace h := zq_nx1 (q := 970) h rfl
  refine ⟨zq_k_n 96 h rfl (zq_o_96 _), ?_⟩
  replace h := zq_nx1 (q := 971) h rfl
  refine ⟨zq_k_n 46 h rfl (zq_o_46 _), ?_⟩
  replace h := zq_nx1 (q := 972) h rfl
  refine ⟨zq_k_u2 182 (fun z => .invokevirtual z) 123 h rfl (zq_o_182 _) (by decide +kernel), ?_⟩
  replace h := zq_nx3 (q := 975) h rfl
  refine ⟨zq_k_n 87 h rfl (zq_o_87 _), ?_⟩
  replace h := zq_nx1 (q := 976) h rfl
  refine ⟨zq_k_n 44 h rfl (zq_o_44 _), ?_⟩
  replace h := zq_nx1 (q := 977) h rfl
  refine ⟨zq_k_n 42 h rfl (zq_o_42 _), ?_⟩
  replace h := zq_nx1 (q := 978) h rfl
  refine ⟨zq_k_n 29 h rfl (zq_o_29 _), ?_⟩
  replace h := zq_nx1 (q := 979) h rfl
  refine ⟨zq_k_n 4 h rfl (zq_o_4 _), ?_⟩
  replace h := zq_nx1 (q := 980) h rfl
  refine ⟨zq_k_n 96 h rfl (zq_o_96 _), ?_⟩
  replace h := zq_nx1 (q := 981) h rfl
  refine ⟨zq_k_n 46 h rfl (zq_o_46 _), ?_⟩
  replace h := zq_nx1 (q := 982) h rfl
  refine ⟨zq_k_n 42 h rfl (zq_o_42 _), ?_⟩
  replace h := zq_nx1 (q := 983) h rfl
  exact zq_k_n 29 h rfl (zq_o_29 _)
set_option maxRecDepth 100000 in
theorem dd_QuotaLawsLaw_law_984 : (decode code 984 = .ok (.iconst 2, 1)) ∧ (decode code 985 = .ok (.iadd, 1)) ∧ (decode code 986 = .ok (.iaload, 1)) ∧ (decode code 987 = .ok (.aload_n 0, 1)) ∧ (decode code 988 = .ok (.iload_n 3, 1)) ∧ (decode code 989 = .ok (.iconst 3, 1)) ∧ (decode code 990 = .ok (.iadd, 1)) ∧ (decode code 991 = .ok (.iaload, 1)) ∧ (decode code 992 = .ok (.invokevirtual 127, 3)) ∧ (decode code 995 = .ok (.pop, 1)) ∧ (decode code 996 = .ok (.goto 346, 3)) ∧ (decode code 999 = .ok (.aload_n 1, 1)) ∧ (decode code 1000 = .ok (.aload_n 0, 1)) ∧ (decode code 1001 = .ok (.iload_n 3, 1)) ∧ (decode code 1002 = .ok (.iconst 1, 1)) ∧ (decode code 1003 = .ok (.iadd, 1)) ∧ (decode code 1004 = .ok (.iaload, 1)) ∧ (decode code 1005 = .ok (.invokevirtual 128, 3)) ∧ (decode code 1008 = .ok (.pop, 1)) ∧ (decode code 1009 = .ok (.aload_n 2, 1)) ∧ (decode code 1010 = .ok (.aload_n 0, 1)) ∧ (decode code 1011 = .ok (.iload_n 3, 1)) ∧ (decode code 1012 = .ok (.iconst 1, 1)) ∧ (decode code 1013 = .ok (.iadd, 1)) := by
  have h : List.drop 984 code.data.toList = 0x05 :: _ := rfl
  refine ⟨zq_k_n 5 h rfl (zq_o_5 _), ?_⟩
  replace h := zq_nx1 (q := 985) h rfl
  refine ⟨zq_k_n 96 h rfl (zq_o_96 _), ?_⟩
  replace h := zq_nx1 (q := 986) h rfl
  refine ⟨zq_k_n 46 h rfl (zq_o_46 _), ?_⟩
  replace h := zq_nx1 (q := 987) h rfl
  refine ⟨zq_k_n 42 h rfl (zq_o_42 _), ?_⟩
  replace h := zq_nx1 (q := 988) h rfl
  refine ⟨zq_k_n 29 h rfl (zq_o_29 _), ?_⟩
  replace h := zq_nx1 (q := 989) h rfl
  refine ⟨zq_k_n 6 h rfl (zq_o_6 _), ?_⟩
  replace h := zq_nx1 (q := 990) h rfl
  refine ⟨zq_k_n 96 h rfl (zq_o_96 _), ?_⟩
  replace h := zq_nx1 (q := 991) h rfl
  refine ⟨zq_k_n 46 h rfl (zq_o_46 _), ?_⟩
  replace h := zq_nx1 (q := 992) h rfl
  refine ⟨zq_k_u2 182 (fun z => .invokevirtual z) 127 h rfl (zq_o_182 _) (by decide +kernel), ?_⟩
  replace h := zq_nx3 (q := 995) h rfl
  refine ⟨zq_k_n 87 h rfl (zq_o_87 _), ?_⟩
  replace h := zq_nx1 (q := 996) h rfl
  refine ⟨zq_k_s2 167 (fun z => .goto z) 346 h rfl (zq_o_167 _) (by decide +kernel), ?_⟩
  replace h := zq_nx3 (q := 999) h rfl
  refine ⟨zq_k_n 43 h rfl (zq_o_43 _), ?_⟩
  replace h := zq_nx1 (q := 1000) h rfl
  refine ⟨zq_k_n 42 h rfl (zq_o_42 _), ?_⟩
  replace h := zq_nx1 (q := 1001) h rfl
  refine ⟨zq_k_n 29 h rfl (zq_o_29 _), ?_⟩
  replace h := zq_nx1 (q := 1002) h rfl
  refine ⟨zq_k_n 4 h rfl (zq_o_4 _), ?_⟩
  replace h := zq_nx1 (q := 1003) h rfl
  refine ⟨zq_k_n 96 h rfl (zq_o_96 _), ?_⟩
  replace h := zq_nx1 (q := 1004) h rfl
  refine ⟨zq_k_n 46 h rfl (zq_o_46 _), ?_⟩
  replace h := zq_nx1 (q := 1005) h rfl
  refine ⟨zq_k_u2 182 (fun z => .invokevirtual z) 128 h rfl (zq_o_182 _) (by decide +kernel), ?_⟩
  replace h := zq_nx3 (q := 1008) h rfl
  refine ⟨zq_k_n 87 h rfl (zq_o_87 _), ?_⟩
  replace h := zq_nx1 (q := 1009) h rfl
  refine ⟨zq_k_n 44 h rfl (zq_o_44 _), ?_⟩
  replace h := zq_nx1 (q := 1010) h rfl
  refine ⟨zq_k_n 42 h rfl (zq_o_42 _), ?_⟩
  replace h := zq_nx1 (q := 1011) h rfl
  refine ⟨zq_k_n 29 h rfl (zq_o_29 _), ?_⟩
  replace h := zq_nx1 (q := 1012) h rfl
  refine ⟨zq_k_n 4 h rfl (zq_o_4 _), ?_⟩
  replace h := zq_nx1 (q := 1013) h rfl
  exact zq_k_n 96 h rfl (zq_o_96 _)
set_option maxRecDepth 100000 in
theorem dd_QuotaLawsLaw_law_1014 : (decode code 1014 = .ok (.iaload, 1)) ∧ (decode code 1015 = .ok (.invokevirtual 131, 3)) ∧ (decode code 1018 = .ok (.pop, 1)) ∧ (decode code 1019 = .ok (.goto 323, 3)) ∧ (decode code 1022 = .ok (.aload_n 1, 1)) ∧ (decode code 1023 = .ok (.invokevirtual 132, 3)) ∧ (decode code 1026 = .ok (.pop2, 1)) ∧ (decode code 1027 = .ok (.aload_n 2, 1)) ∧ (decode code 1028 = .ok (.invokevirtual 136, 3)) ∧ (decode code 1031 = .ok (.pop2, 1)) ∧ (decode code 1032 = .ok (.goto 310, 3)) ∧ (decode code 1035 = .ok (.aload_n 1, 1)) ∧ (decode code 1036 = .ok (.aload_n 0, 1)) ∧ (decode code 1037 = .ok (.iload_n 3, 1)) ∧ (decode code 1038 = .ok (.iconst 1, 1)) ∧ (decode code 1039 = .ok (.iadd, 1)) ∧ (decode code 1040 = .ok (.iaload, 1)) ∧ (decode code 1041 = .ok (.aload_n 0, 1)) ∧ (decode code 1042 = .ok (.iload_n 3, 1)) ∧ (decode code 1043 = .ok (.iconst 2, 1)) ∧ (decode code 1044 = .ok (.iadd, 1)) ∧ (decode code 1045 = .ok (.iaload, 1)) ∧ (decode code 1046 = .ok (.aload_n 0, 1)) ∧ (decode code 1047 = .ok (.iload_n 3, 1)) := by
  have h : List.drop 1014 code.data.toList = 0x2e :: _ := rfl
  refine ⟨zq_k_n 46 h rfl (zq_o_46 _), ?_⟩
  replace h := zq_nx1 (q := 1015) h rfl
  refine ⟨zq_k_u2 182 (fun z => .invokevirtual z) 131 h rfl (zq_o_182 _) (by decide +kernel), ?_⟩
  replace h := zq_nx3 (q := 1018) h rfl
  refine ⟨zq_k_n 87 h rfl (zq_o_87 _), ?_⟩
  replace h := zq_nx1 (q := 1019) h rfl
  refine ⟨zq_k_s2 167 (fun z => .goto z) 323 h rfl (zq_o_167 _) (by decide +kernel), ?_⟩
  replace h := zq_nx3 (q := 1022) h rfl
  refine ⟨zq_k_n 43 h rfl (zq_o_43 _), ?_⟩
  replace h := zq_nx1 (q := 1023) h rfl
  refine ⟨zq_k_u2 182 (fun z => .invokevirtual z) 132 h rfl (zq_o_182 _) (by decide +kernel), ?_⟩
  replace h := zq_nx3 (q := 1026) h rfl
  refine ⟨zq_k_n 88 h rfl (zq_o_88 _), ?_⟩
  replace h := zq_nx1 (q := 1027) h rfl
  refine ⟨zq_k_n 44 h rfl (zq_o_44 _), ?_⟩
  replace h := zq_nx1 (q := 1028) h rfl
  refine ⟨zq_k_u2 182 (fun z => .invokevirtual z) 136 h rfl (zq_o_182 _) (by decide +kernel), ?_⟩
  replace h := zq_nx3 (q := 1031) h rfl
  refine ⟨zq_k_n 88 h rfl (zq_o_88 _), ?_⟩
  replace h := zq_nx1 (q := 1032) h rfl
  refine ⟨zq_k_s2 167 (fun z => .goto z) 310 h rfl (zq_o_167 _) (by decide +kernel), ?_⟩
  replace h := zq_nx3 (q := 1035) h rfl
  refine ⟨zq_k_n 43 h rfl (zq_o_43 _), ?_⟩
  replace h := zq_nx1 (q := 1036) h rfl
  refine ⟨zq_k_n 42 h rfl (zq_o_42 _), ?_⟩
  replace h := zq_nx1 (q := 1037) h rfl
  refine ⟨zq_k_n 29 h rfl (zq_o_29 _), ?_⟩
  replace h := zq_nx1 (q := 1038) h rfl
  refine ⟨zq_k_n 4 h rfl (zq_o_4 _), ?_⟩
  replace h := zq_nx1 (q := 1039) h rfl
  refine ⟨zq_k_n 96 h rfl (zq_o_96 _), ?_⟩
  replace h := zq_nx1 (q := 1040) h rfl
  refine ⟨zq_k_n 46 h rfl (zq_o_46 _), ?_⟩
  replace h := zq_nx1 (q := 1041) h rfl
  refine ⟨zq_k_n 42 h rfl (zq_o_42 _), ?_⟩
  replace h := zq_nx1 (q := 1042) h rfl
  refine ⟨zq_k_n 29 h rfl (zq_o_29 _), ?_⟩
  replace h := zq_nx1 (q := 1043) h rfl
  refine ⟨zq_k_n 5 h rfl (zq_o_5 _), ?_⟩
  replace h := zq_nx1 (q := 1044) h rfl
  refine ⟨zq_k_n 96 h rfl (zq_o_96 _), ?_⟩
  replace h := zq_nx1 (q := 1045) h rfl
  refine ⟨zq_k_n 46 h rfl (zq_o_46 _), ?_⟩
  replace h := zq_nx1 (q := 1046) h rfl
  refine ⟨zq_k_n 42 h rfl (zq_o_42 _), ?_⟩
  replace h := zq_nx1 (q := 1047) h rfl
  exact zq_k_n 29 h rfl (zq_o_29 _)
set_option maxRecDepth 100000 in
theorem dd_QuotaLawsLaw_law_1048 : (decode code 1048 = .ok (.iconst 3, 1)) ∧ (decode code 1049 = .ok (.iadd, 1)) ∧ (decode code 1050 = .ok (.iaload, 1)) ∧ (decode code 1051 = .ok (.invokevirtual 137, 3)) ∧ (decode code 1054 = .ok (.pop, 1)) ∧ (decode code 1055 = .ok (.aload_n 2, 1)) ∧ (decode code 1056 = .ok (.aload_n 0, 1)) ∧ (decode code 1057 = .ok (.iload_n 3, 1)) ∧ (decode code 1058 = .ok (.iconst 1, 1)) ∧ (decode code 1059 = .ok (.iadd, 1)) ∧ (decode code 1060 = .ok (.iaload, 1)) ∧ (decode code 1061 = .ok (.aload_n 0, 1)) ∧ (decode code 1062 = .ok (.iload_n 3, 1)) ∧ (decode code 1063 = .ok (.iconst 2, 1)) ∧ (decode code 1064 = .ok (.iadd, 1)) ∧ (decode code 1065 = .ok (.iaload, 1)) ∧ (decode code 1066 = .ok (.aload_n 0, 1)) ∧ (decode code 1067 = .ok (.iload_n 3, 1)) ∧ (decode code 1068 = .ok (.iconst 3, 1)) ∧ (decode code 1069 = .ok (.iadd, 1)) ∧ (decode code 1070 = .ok (.iaload, 1)) ∧ (decode code 1071 = .ok (.invokevirtual 140, 3)) ∧ (decode code 1074 = .ok (.pop, 1)) ∧ (decode code 1075 = .ok (.goto 267, 3)) := by
  have h : List.drop 1048 code.data.toList = 0x06 :: _ := rfl
  refine ⟨zq_k_n 6 h rfl (zq_o_6 _), ?_⟩
  replace h := zq_nx1 (q := 1049) h rfl
  refine ⟨zq_k_n 96 h rfl (zq_o_96 _), ?_⟩
  replace h := zq_nx1 (q := 1050) h rfl
  refine ⟨zq_k_n 46 h rfl (zq_o_46 _), ?_⟩
  replace h := zq_nx1 (q := 1051) h rfl
  refine ⟨zq_k_u2 182 (fun z => .invokevirtual z) 137 h rfl (zq_o_182 _) (by decide +kernel), ?_⟩
  replace h := zq_nx3 (q := 1054) h rfl
  refine ⟨zq_k_n 87 h rfl (zq_o_87 _), ?_⟩
  replace h := zq_nx1 (q := 1055) h rfl
  refine ⟨zq_k_n 44 h rfl (zq_o_44 _), ?_⟩
  replace h := zq_nx1 (q := 1056) h rfl
  refine ⟨zq_k_n 42 h rfl (zq_o_42 _), ?_⟩
  replace h := zq_nx1 (q := 1057) h rfl
  refine ⟨zq_k_n 29 h rfl (zq_o_29 _), ?_⟩
  replace h := zq_nx1 (q := 1058) h rfl
  refine ⟨zq_k_n 4 h rfl (zq_o_4 _), ?_⟩
  replace h := zq_nx1 (q := 1059) h rfl
  refine ⟨zq_k_n 96 h rfl (zq_o_96 _), ?_⟩
  replace h := zq_nx1 (q := 1060) h rfl
  refine ⟨zq_k_n 46 h rfl (zq_o_46 _), ?_⟩
  replace h := zq_nx1 (q := 1061) h rfl
  refine ⟨zq_k_n 42 h rfl (zq_o_42 _), ?_⟩
  replace h := zq_nx1 (q := 1062) h rfl
  refine ⟨zq_k_n 29 h rfl (zq_o_29 _), ?_⟩
  replace h := zq_nx1 (q := 1063) h rfl
  refine ⟨zq_k_n 5 h rfl (zq_o_5 _), ?_⟩
  replace h := zq_nx1 (q := 1064) h rfl
  refine ⟨zq_k_n 96 h rfl (zq_o_96 _), ?_⟩
  replace h := zq_nx1 (q := 1065) h rfl
  refine ⟨zq_k_n 46 h rfl (zq_o_46 _), ?_⟩
  replace h := zq_nx1 (q := 1066) h rfl
  refine ⟨zq_k_n 42 h rfl (zq_o_42 _), ?_⟩
  replace h := zq_nx1 (q := 1067) h rfl
  refine ⟨zq_k_n 29 h rfl (zq_o_29 _), ?_⟩
  replace h := zq_nx1 (q := 1068) h rfl
  refine ⟨zq_k_n 6 h rfl (zq_o_6 _), ?_⟩
  replace h := zq_nx1 (q := 1069) h rfl
  refine ⟨zq_k_n 96 h rfl (zq_o_96 _), ?_⟩
  replace h := zq_nx1 (q := 1070) h rfl
  refine ⟨zq_k_n 46 h rfl (zq_o_46 _), ?_⟩
  replace h := zq_nx1 (q := 1071) h rfl
  refine ⟨zq_k_u2 182 (fun z => .invokevirtual z) 140 h rfl (zq_o_182 _) (by decide +kernel), ?_⟩
  replace h := zq_nx3 (q := 1074) h rfl
  refine ⟨zq_k_n 87 h rfl (zq_o_87 _), ?_⟩
  replace h := zq_nx1 (q := 1075) h rfl
  exact zq_k_s2 167 (fun z => .goto z) 267 h rfl (zq_o_167 _) (by decide +kernel)
set_option maxRecDepth 100000 in
theorem dd_QuotaLawsLaw_law_1078 : (decode code 1078 = .ok (.aload_n 1, 1)) ∧ (decode code 1079 = .ok (.aload_n 0, 1)) ∧ (decode code 1080 = .ok (.iload_n 3, 1)) ∧ (decode code 1081 = .ok (.iconst 1, 1)) ∧ (decode code 1082 = .ok (.iadd, 1)) ∧ (decode code 1083 = .ok (.iaload, 1)) ∧ (decode code 1084 = .ok (.aload_n 0, 1)) ∧ (decode code 1085 = .ok (.iload_n 3, 1)) ∧ (decode code 1086 = .ok (.iconst 2, 1)) ∧ (decode code 1087 = .ok (.iadd, 1)) ∧ (decode code 1088 = .ok (.iaload, 1)) ∧ (decode code 1089 = .ok (.aload_n 0, 1)) ∧ (decode code 1090 = .ok (.iload_n 3, 1)) ∧ (decode code 1091 = .ok (.iconst 3, 1)) ∧ (decode code 1092 = .ok (.iadd, 1)) ∧ (decode code 1093 = .ok (.iaload, 1)) ∧ (decode code 1094 = .ok (.invokevirtual 141, 3)) ∧ (decode code 1097 = .ok (.pop, 1)) ∧ (decode code 1098 = .ok (.aload_n 2, 1)) ∧ (decode code 1099 = .ok (.aload_n 0, 1)) ∧ (decode code 1100 = .ok (.iload_n 3, 1)) ∧ (decode code 1101 = .ok (.iconst 1, 1)) ∧ (decode code 1102 = .ok (.iadd, 1)) ∧ (decode code 1103 = .ok (.iaload, 1)) := by
  have h : List.drop 1078 code.data.toList = 0x2b :: _ := rfl
  refine ⟨zq_k_n 43 h rfl (zq_o_43 _), ?_⟩
  replace h := zq_nx1 (q := 1079) h rfl
  refine ⟨zq_k_n 42 h rfl (zq_o_42 _), ?_⟩
  replace h := zq_nx1 (q := 1080) h rfl
  refine ⟨zq_k_n 29 h rfl (zq_o_29 _), ?_⟩
  replace h := zq_nx1 (q := 1081) h rfl
  refine ⟨zq_k_n 4 h rfl (zq_o_4 _), ?_⟩
  replace h := zq_nx1 (q := 1082) h rfl
  refine ⟨zq_k_n 96 h rfl (zq_o_96 _), ?_⟩
  replace h := zq_nx1 (q := 1083) h rfl
  refine ⟨zq_k_n 46 h rfl (zq_o_46 _), ?_⟩
  replace h := zq_nx1 (q := 1084) h rfl
  refine ⟨zq_k_n 42 h rfl (zq_o_42 _), ?_⟩
  replace h := zq_nx1 (q := 1085) h rfl
  refine ⟨zq_k_n 29 h rfl (zq_o_29 _), ?_⟩
  replace h := zq_nx1 (q := 1086) h rfl
  refine ⟨zq_k_n 5 h rfl (zq_o_5 _), ?_⟩
  replace h := zq_nx1 (q := 1087) h rfl
  refine ⟨zq_k_n 96 h rfl (zq_o_96 _), ?_⟩
  replace h := zq_nx1 (q := 1088) h rfl
  refine ⟨zq_k_n 46 h rfl (zq_o_46 _), ?_⟩
  replace h := zq_nx1 (q := 1089) h rfl
  refine ⟨zq_k_n 42 h rfl (zq_o_42 _), ?_⟩
  replace h := zq_nx1 (q := 1090) h rfl
  refine ⟨zq_k_n 29 h rfl (zq_o_29 _), ?_⟩
  replace h := zq_nx1 (q := 1091) h rfl
  refine ⟨zq_k_n 6 h rfl (zq_o_6 _), ?_⟩
  replace h := zq_nx1 (q := 1092) h rfl
  refine ⟨zq_k_n 96 h rfl (zq_o_96 _), ?_⟩
  replace h := zq_nx1 (q := 1093) h rfl
  refine ⟨zq_k_n 46 h rfl (zq_o_46 _), ?_⟩
  replace h := zq_nx1 (q := 1094) h rfl
  refine ⟨zq_k_u2 182 (fun z => .invokevirtual z) 141 h rfl (zq_o_182 _) (by decide +kernel), ?_⟩
  replace h := zq_nx3 (q := 1097) h rfl
  refine ⟨zq_k_n 87 h rfl (zq_o_87 _), ?_⟩
  replace h := zq_nx1 (q := 1098) h rfl
  refine ⟨zq_k_n 44 h rfl (zq_o_44 _), ?_⟩
  replace h := zq_nx1 (q := 1099) h rfl
  refine ⟨zq_k_n 42 h rfl (zq_o_42 _), ?_⟩
  replace h := zq_nx1 (q := 1100) h rfl
  refine ⟨zq_k_n 29 h rfl (zq_o_29 _), ?_⟩
  replace h := zq_nx1 (q := 1101) h rfl
  refine ⟨zq_k_n 4 h rfl (zq_o_4 _), ?_⟩
  replace h := zq_nx1 (q := 1102) h rfl
  refine ⟨zq_k_n 96 h rfl (zq_o_96 _), ?_⟩
  replace h := zq_nx1 (q := 1103) h rfl
  exact zq_k_n 46 h rfl (zq_o_46 _)
set_option maxRecDepth 100000 in
theorem dd_QuotaLawsLaw_law_1104 : (decode code 1104 = .ok (.aload_n 0, 1)) ∧ (decode code 1105 = .ok (.iload_n 3, 1)) ∧ (decode code 1106 = .ok (.iconst 2, 1)) ∧ (decode code 1107 = .ok (.iadd, 1)) ∧ (decode code 1108 = .ok (.iaload, 1)) ∧ (decode code 1109 = .ok (.aload_n 0, 1)) ∧ (decode code 1110 = .ok (.iload_n 3, 1)) ∧ (decode code 1111 = .ok (.iconst 3, 1)) ∧ (decode code 1112 = .ok (.iadd, 1)) ∧ (decode code 1113 = .ok (.iaload, 1)) ∧ (decode code 1114 = .ok (.invokevirtual 144, 3)) ∧ (decode code 1117 = .ok (.pop, 1)) ∧ (decode code 1118 = .ok (.goto 224, 3)) ∧ (decode code 1121 = .ok (.aload_n 1, 1)) ∧ (decode code 1122 = .ok (.aload_n 0, 1)) ∧ (decode code 1123 = .ok (.iload_n 3, 1)) ∧ (decode code 1124 = .ok (.iconst 1, 1)) ∧ (decode code 1125 = .ok (.iadd, 1)) ∧ (decode code 1126 = .ok (.iaload, 1)) ∧ (decode code 1127 = .ok (.invokevirtual 145, 3)) ∧ (decode code 1130 = .ok (.pop, 1)) ∧ (decode code 1131 = .ok (.aload_n 2, 1)) ∧ (decode code 1132 = .ok (.aload_n 0, 1)) ∧ (decode code 1133 = .ok (.iload_n 3, 1)) := by
  have h : List.drop 1104 code.data.toList = 0x2a :: _ := rfl
  refine ⟨zq_k_n 42 h rfl (zq_o_42 _), ?_⟩
  replace h := zq_nx1 (q := 1105) h rfl
  refine ⟨zq_k_n 29 h rfl (zq_o_29 _), ?_⟩
  replace h := zq_nx1 (q := 1106) h rfl
  refine ⟨zq_k_n 5 h rfl (zq_o_5 _), ?_⟩
  replace h := zq_nx1 (q := 1107) h rfl
  refine ⟨zq_k_n 96 h rfl (zq_o_96 _), ?_⟩
  replace h := zq_nx1 (q := 1108) h rfl
  refine ⟨zq_k_n 46 h rfl (zq_o_46 _), ?_⟩
  replace h := zq_nx1 (q := 1109) h rfl
  refine ⟨zq_k_n 42 h rfl (zq_o_42 _), ?_⟩
  replace h := zq_nx1 (q := 1110) h rfl
  refine ⟨zq_k_n 29 h rfl (zq_o_29 _), ?_⟩
  replace h := zq_nx1 (q := 1111) h rfl
  refine ⟨zq_k_n 6 h rfl (zq_o_6 _), ?_⟩
  replace h := zq_nx1 (q := 1112) h rfl
  refine ⟨zq_k_n 96 h rfl (zq_o_96 _), ?_⟩
  replace h := zq_nx1 (q := 1113) h rfl
  refine ⟨zq_k_n 46 h rfl (zq_o_46 _), ?_⟩
  replace h := zq_nx1 (q := 1114) h rfl
  refine ⟨zq_k_u2 182 (fun z => .invokevirtual z) 144 h rfl (zq_o_182 _) (by decide +kernel), ?_⟩
  replace h := zq_nx3 (q := 1117) h rfl
  refine ⟨zq_k_n 87 h rfl (zq_o_87 _), ?_⟩
  replace h := zq_nx1 (q := 1118) h rfl
  refine ⟨zq_k_s2 167 (fun z => .goto z) 224 h rfl (zq_o_167 _) (by decide +kernel), ?_⟩
  replace h := zq_nx3 (q := 1121) h rfl
  refine ⟨zq_k_n 43 h rfl (zq_o_43 _), ?_⟩
  replace h := zq_nx1 (q := 1122) h rfl
  refine ⟨zq_k_n 42 h rfl (zq_o_42 _), ?_⟩
  replace h := zq_nx1 (q := 1123) h rfl
  refine ⟨zq_k_n 29 h rfl (zq_o_29 _), ?_⟩
  replace h := zq_nx1 (q := 1124) h rfl
  refine ⟨zq_k_n 4 h rfl (zq_o_4 _), ?_⟩
  replace h := zq_nx1 (q := 1125) h rfl
  refine ⟨zq_k_n 96 h rfl (zq_o_96 _), ?_⟩
  replace h := zq_nx1 (q := 1126) h rfl
  refine ⟨zq_k_n 46 h rfl (zq_o_46 _), ?_⟩
  replace h := zq_nx1 (q := 1127) h rfl
  refine ⟨zq_k_u2 182 (fun z => .invokevirtual z) 145 h rfl (zq_o_182 _) (by decide +kernel), ?_⟩
  replace h := zq_nx3 (q := 1130) h rfl
  refine ⟨zq_k_n 87 h rfl (zq_o_87 _), ?_⟩
  replace h := zq_nx1 (q := 1131) h rfl
  refine ⟨zq_k_n 44 h rfl (zq_o_44 _), ?_⟩
  replace h := zq_nx1 (q := 1132) h rfl
  refine ⟨zq_k_n 42 h rfl (zq_o_42 _), ?_⟩
  replace h := zq_nx1 (q := 1133) h rfl
  exact zq_k_n 29 h rfl (zq_o_29 _)
set_option maxRecDepth 100000 in
theorem dd_QuotaLawsLaw_law_1134 : (decode code 1134 = .ok (.iconst 1, 1)) ∧ (decode code 1135 = .ok (.iadd, 1)) ∧ (decode code 1136 = .ok (.iaload, 1)) ∧ (decode code 1137 = .ok (.invokevirtual 148, 3)) ∧ (decode code 1140 = .ok (.pop, 1)) ∧ (decode code 1141 = .ok (.goto 201, 3)) ∧ (decode code 1144 = .ok (.aload_n 1, 1)) ∧ (decode code 1145 = .ok (.aload_n 0, 1)) ∧ (decode code 1146 = .ok (.iload_n 3, 1)) ∧ (decode code 1147 = .ok (.iconst 1, 1)) ∧ (decode code 1148 = .ok (.iadd, 1)) ∧ (decode code 1149 = .ok (.iaload, 1)) ∧ (decode code 1150 = .ok (.invokevirtual 149, 3)) ∧ (decode code 1153 = .ok (.pop, 1)) ∧ (decode code 1154 = .ok (.aload_n 2, 1)) ∧ (decode code 1155 = .ok (.aload_n 0, 1)) ∧ (decode code 1156 = .ok (.iload_n 3, 1)) ∧ (decode code 1157 = .ok (.iconst 1, 1)) ∧ (decode code 1158 = .ok (.iadd, 1)) ∧ (decode code 1159 = .ok (.iaload, 1)) ∧ (decode code 1160 = .ok (.invokevirtual 152, 3)) ∧ (decode code 1163 = .ok (.pop, 1)) ∧ (decode code 1164 = .ok (.goto 178, 3)) ∧ (decode code 1167 = .ok (.aload_n 1, 1)) := by
  have h : List.drop 1134 code.data.toList = 0x04 :: _ := rfl
  refine ⟨zq_k_n 4 h rfl (zq_o_4 _), ?_⟩
  replace h := zq_nx1 (q := 1135) h rfl
  refine ⟨zq_k_n 96 h rfl (zq_o_96 _), ?_⟩
  replace h := zq_nx1 (q := 1136) h rfl
  refine ⟨zq_k_n 46 h rfl (zq_o_46 _), ?_⟩
  replace h := zq_nx1 (q := 1137) h rfl
  refine ⟨zq_k_u2 182 (fun z => .invokevirtual z) 148 h rfl (zq_o_182 _) (by decide +kernel), ?_⟩
  replace h := zq_nx3 (q := 1140) h rfl
  refine ⟨zq_k_n 87 h rfl (zq_o_87 _), ?_⟩
  replace h := zq_nx1 (q := 1141) h rfl
  refine ⟨zq_k_s2 167 (fun z => .goto z) 201 h rfl (zq_o_167 _) (by decide +kernel), ?_⟩
  replace h := zq_nx3 (q := 1144) h rfl
  refine ⟨zq_k_n 43 h rfl (zq_o_43 _), ?_⟩
  replace h := zq_nx1 (q := 1145) h rfl
  refine ⟨zq_k_n 42 h rfl (zq_o_42 _), ?_⟩
  replace h := zq_nx1 (q := 1146) h rfl
  refine ⟨zq_k_n 29 h rfl (zq_o_29 _), ?_⟩
  replace h := zq_nx1 (q := 1147) h rfl
  refine ⟨zq_k_n 4 h rfl (zq_o_4 _), ?_⟩
  replace h := zq_nx1 (q := 1148) h rfl
  refine ⟨zq_k_n 96 h rfl (zq_o_96 _), ?_⟩
  replace h := zq_nx1 (q := 1149) h rfl
  refine ⟨zq_k_n 46 h rfl (zq_o_46 _), ?_⟩
  replace h := zq_nx1 (q := 1150) h rfl
  refine ⟨zq_k_u2 182 (fun z => .invokevirtual z) 149 h rfl (zq_o_182 _) (by decide +kernel), ?_⟩
  replace h := zq_nx3 (q := 1153) h rfl
  refine ⟨zq_k_n 87 h rfl (zq_o_87 _), ?_⟩
  replace h := zq_nx1 (q := 1154) h rfl
  refine ⟨zq_k_n 44 h rfl (zq_o_44 _), ?_⟩
  replace h := zq_nx1 (q := 1155) h rfl
  refine ⟨zq_k_n 42 h rfl (zq_o_42 _), ?_⟩
  replace h := zq_nx1 (q := 1156) h rfl
  refine ⟨zq_k_n 29 h rfl (zq_o_29 _), ?_⟩
  replace h := zq_nx1 (q := 1157) h rfl
  refine ⟨zq_k_n 4 h rfl (zq_o_4 _), ?_⟩
  replace h := zq_nx1 (q := 1158) h rfl
  refine ⟨zq_k_n 96 h rfl (zq_o_96 _), ?_⟩
  replace h := zq_nx1 (q := 1159) h rfl
  refine ⟨zq_k_n 46 h rfl (zq_o_46 _), ?_⟩
  replace h := zq_nx1 (q := 1160) h rfl
  refine ⟨zq_k_u2 182 (fun z => .invokevirtual z) 152 h rfl (zq_o_182 _) (by decide +kernel), ?_⟩
  replace h := zq_nx3 (q := 1163) h rfl
  refine ⟨zq_k_n 87 h rfl (zq_o_87 _), ?_⟩
  replace h := zq_nx1 (q := 1164) h rfl
  refine ⟨zq_k_s2 167 (fun z => .goto z) 178 h rfl (zq_o_167 _) (by decide +kernel), ?_⟩
  replace h := zq_nx3 (q := 1167) h rfl
  exact zq_k_n 43 h rfl (zq_o_43 _)
set_option maxRecDepth 100000 in
theorem dd_QuotaLawsLaw_law_1168 : (decode code 1168 = .ok (.aload_n 0, 1)) ∧ (decode code 1169 = .ok (.iload_n 3, 1)) ∧ (decode code 1170 = .ok (.iconst 1, 1)) ∧ (decode code 1171 = .ok (.iadd, 1)) ∧ (decode code 1172 = .ok (.iaload, 1)) ∧ (decode code 1173 = .ok (.aload_n 0, 1)) ∧ (decode code 1174 = .ok (.iload_n 3, 1)) ∧ (decode code 1175 = .ok (.iconst 2, 1)) ∧ (decode code 1176 = .ok (.iadd, 1)) ∧ (decode code 1177 = .ok (.iaload, 1)) ∧ (decode code 1178 = .ok (.aload_n 0, 1)) ∧ (decode code 1179 = .ok (.iload_n 3, 1)) ∧ (decode code 1180 = .ok (.iconst 3, 1)) ∧ (decode code 1181 = .ok (.iadd, 1)) ∧ (decode code 1182 = .ok (.iaload, 1)) ∧ (decode code 1183 = .ok (.invokevirtual 153, 3)) ∧ (decode code 1186 = .ok (.pop, 1)) ∧ (decode code 1187 = .ok (.aload_n 2, 1)) ∧ (decode code 1188 = .ok (.aload_n 0, 1)) ∧ (decode code 1189 = .ok (.iload_n 3, 1)) ∧ (decode code 1190 = .ok (.iconst 1, 1)) ∧ (decode code 1191 = .ok (.iadd, 1)) ∧ (decode code 1192 = .ok (.iaload, 1)) ∧ (decode code 1193 = .ok (.aload_n 0, 1)) := by
  have h : List.drop 1168 code.data.toList = 0x2a :: _ := rfl
  refine ⟨zq_k_n 42 h rfl (zq_o_42 _), ?_⟩
  replace h := zq_nx1 (q := 1169) h rfl
  refine ⟨zq_k_n 29 h rfl (zq_o_29 _), ?_⟩
  replace h := zq_nx1 (q := 1170) h rfl
  refine ⟨zq_k_n 4 h rfl (zq_o_4 _), ?_⟩
  replace h := zq_nx1 (q := 1171) h rfl
  refine ⟨zq_k_n 96 h rfl (zq_o_96 _), ?_⟩
  replace h := zq_nx1 (q := 1172) h rfl
  refine ⟨zq_k_n 46 h rfl (zq_o_46 _), ?_⟩
  replace h := zq_nx1 (q := 1173) h rfl
  refine ⟨zq_k_n 42 h rfl (zq_o_42 _), ?_⟩
  replace h := zq_nx1 (q := 1174) h rfl
  refine ⟨zq_k_n 29 h rfl (zq_o_29 _), ?_⟩
  replace h := zq_nx1 (q := 1175) h rfl
  refine ⟨zq_k_n 5 h rfl (zq_o_5 _), ?_⟩
  replace h := zq_nx1 (q := 1176) h rfl
  refine ⟨zq_k_n 96 h rfl (zq_o_96 _), ?_⟩
  replace h := zq_nx1 (q := 1177) h rfl
  refine ⟨zq_k_n 46 h rfl (zq_o_46 _), ?_⟩
  replace h := zq_nx1 (q := 1178) h rfl
  refine ⟨zq_k_n 42 h rfl (zq_o_42 _), ?_⟩
  replace h := zq_nx1 (q := 1179) h rfl
  refine ⟨zq_k_n 29 h rfl (zq_o_29 _), ?_⟩
  replace h := zq_nx1 (q := 1180) h rfl
  refine ⟨zq_k_n 6 h rfl (zq_o_6 _), ?_⟩
  replace h := zq_nx1 (q := 1181) h rfl
  refine ⟨zq_k_n 96 h rfl (zq_o_96 _), ?_⟩
  replace h := zq_nx1 (q := 1182) h rfl
  refine ⟨zq_k_n 46 h rfl (zq_o_46 _), ?_⟩
  replace h := zq_nx1 (q := 1183) h rfl
  refine ⟨zq_k_u2 182 (fun z => .invokevirtual z) 153 h rfl (zq_o_182 _) (by decide +kernel), ?_⟩
  replace h := zq_nx3 (q := 1186) h rfl
  refine ⟨zq_k_n 87 h rfl (zq_o_87 _), ?_⟩
  replace h := zq_nx1 (q := 1187) h rfl
  refine ⟨zq_k_n 44 h rfl (zq_o_44 _), ?_⟩
  replace h := zq_nx1 (q := 1188) h rfl
  refine ⟨zq_k_n 42 h rfl (zq_o_42 _), ?_⟩
  replace h := zq_nx1 (q := 1189) h rfl
  refine ⟨zq_k_n 29 h rfl (zq_o_29 _), ?_⟩
  replace h := zq_nx1 (q := 1190) h rfl
  refine ⟨zq_k_n 4 h rfl (zq_o_4 _), ?_⟩
  replace h := zq_nx1 (q := 1191) h rfl
  refine ⟨zq_k_n 96 h rfl (zq_o_96 _), ?_⟩
  replace h := zq_nx1 (q := 1192) h rfl
  refine ⟨zq_k_n 46 h rfl (zq_o_46 _), ?_⟩
  replace h := zq_nx1 (q := 1193) h rfl
  exact zq_k_n 42 h rfl (zq_o_42 _)
set_option maxRecDepth 100000 in
theorem dd_QuotaLawsLaw_law_1194 : (decode code 1194 = .ok (.iload_n 3, 1)) ∧ (decode code 1195 = .ok (.iconst 2, 1)) ∧ (decode code 1196 = .ok (.iadd, 1)) ∧ (decode code 1197 = .ok (.iaload, 1)) ∧ (decode code 1198 = .ok (.aload_n 0, 1)) ∧ (decode code 1199 = .ok (.iload_n 3, 1)) ∧ (decode code 1200 = .ok (.iconst 3, 1)) ∧ (decode code 1201 = .ok (.iadd, 1)) ∧ (decode code 1202 = .ok (.iaload, 1)) ∧ (decode code 1203 = .ok (.invokevirtual 156, 3)) ∧ (decode code 1206 = .ok (.pop, 1)) ∧ (decode code 1207 = .ok (.goto 135, 3)) ∧ (decode code 1210 = .ok (.aload_n 1, 1)) ∧ (decode code 1211 = .ok (.aload_n 0, 1)) ∧ (decode code 1212 = .ok (.iload_n 3, 1)) ∧ (decode code 1213 = .ok (.iconst 1, 1)) ∧ (decode code 1214 = .ok (.iadd, 1)) ∧ (decode code 1215 = .ok (.iaload, 1)) ∧ (decode code 1216 = .ok (.aload_n 0, 1)) ∧ (decode code 1217 = .ok (.iload_n 3, 1)) ∧ (decode code 1218 = .ok (.iconst 2, 1)) ∧ (decode code 1219 = .ok (.iadd, 1)) ∧ (decode code 1220 = .ok (.iaload, 1)) ∧ (decode code 1221 = .ok (.aload_n 0, 1)) := by
  have h : List.drop 1194 code.data.toList = 0x1d :: _ := rfl
  refine ⟨zq_k_n 29 h rfl (zq_o_29 _), ?_⟩
  replace h := zq_nx1 (q := 1195) h rfl
  refine ⟨zq_k_n 5 h rfl (zq_o_5 _), ?_⟩
  replace h := zq_nx1 (q := 1196) h rfl
  refine ⟨zq_k_n 96 h rfl (zq_o_96 _), ?_⟩
  replace h := zq_nx1 (q := 1197) h rfl
  refine ⟨zq_k_n 46 h rfl (zq_o_46 _), ?_⟩
  replace h := zq_nx1 (q := 1198) h rfl
  refine ⟨zq_k_n 42 h rfl (zq_o_42 _), ?_⟩
  replace h := zq_nx1 (q := 1199) h rfl
  refine ⟨zq_k_n 29 h rfl (zq_o_29 _), ?_⟩
  replace h := zq_nx1 (q := 1200) h rfl
  refine ⟨zq_k_n 6 h rfl (zq_o_6 _), ?_⟩
  replace h := zq_nx1 (q := 1201) h rfl
  refine ⟨zq_k_n 96 h rfl (zq_o_96 _), ?_⟩
  replace h := zq_nx1 (q := 1202) h rfl
  refine ⟨zq_k_n 46 h rfl (zq_o_46 _), ?_⟩
  replace h := zq_nx1 (q := 1203) h rfl
  refine ⟨zq_k_u2 182 (fun z => .invokevirtual z) 156 h rfl (zq_o_182 _) (by decide +kernel), ?_⟩
  replace h := zq_nx3 (q := 1206) h rfl
  refine ⟨zq_k_n 87 h rfl (zq_o_87 _), ?_⟩
  replace h := zq_nx1 (q := 1207) h rfl
  refine ⟨zq_k_s2 167 (fun z => .goto z) 135 h rfl (zq_o_167 _) (by decide +kernel), ?_⟩
  replace h := zq_nx3 (q := 1210) h rfl
  refine ⟨zq_k_n 43 h rfl (zq_o_43 _), ?_⟩
  replace h := zq_nx1 (q := 1211) h rfl
  refine ⟨zq_k_n 42 h rfl (zq_o_42 _), ?_⟩
  replace h := zq_nx1 (q := 1212) h rfl
  refine ⟨zq_k_n 29 h rfl (zq_o_29 _), ?_⟩
  replace h := zq_nx1 (q := 1213) h rfl
  refine ⟨zq_k_n 4 h rfl (zq_o_4 _), ?_⟩
  replace h := zq_nx1 (q := 1214) h rfl
  refine ⟨zq_k_n 96 h rfl (zq_o_96 _), ?_⟩
  replace h := zq_nx1 (q := 1215) h rfl
  refine ⟨zq_k_n 46 h rfl (zq_o_46 _), ?_⟩
  replace h := zq_nx1 (q := 1216) h rfl
  refine ⟨zq_k_n 42 h rfl (zq_o_42 _), ?_⟩
  replace h := zq_nx1 (q := 1217) h rfl
  refine ⟨zq_k_n 29 h rfl (zq_o_29 _), ?_⟩
  replace h := zq_nx1 (q := 1218) h rfl
  refine ⟨zq_k_n 5 h rfl (zq_o_5 _), ?_⟩
  replace h := zq_nx1 (q := 1219) h rfl
  refine ⟨zq_k_n 96 h rfl (zq_o_96 _), ?_⟩
  replace h := zq_nx1 (q := 1220) h rfl
  refine ⟨zq_k_n 46 h rfl (zq_o_46 _), ?_⟩
  replace h := zq_nx1 (q := 1221) h rfl
  exact zq_k_n 42 h rfl (zq_o_42 _)
set_option maxRecDepth 100000 in
theorem dd_QuotaLawsLaw_law_1222 : (decode code 1222 = .ok (.iload_n 3, 1)) ∧ (decode code 1223 = .ok (.iconst 3, 1)) ∧ (decode code 1224 = .ok (.iadd, 1)) ∧ (decode code 1225 = .ok (.iaload, 1)) ∧ (decode code 1226 = .ok (.invokevirtual 157, 3)) ∧ (decode code 1229 = .ok (.pop, 1)) ∧ (decode code 1230 = .ok (.aload_n 2, 1)) ∧ (decode code 1231 = .ok (.aload_n 0, 1)) ∧ (decode code 1232 = .ok (.iload_n 3, 1)) ∧ (decode code 1233 = .ok (.iconst 1, 1)) ∧ (decode code 1234 = .ok (.iadd, 1)) ∧ (decode code 1235 = .ok (.iaload, 1)) ∧ (decode code 1236 = .ok (.aload_n 0, 1)) ∧ (decode code 1237 = .ok (.iload_n 3, 1)) ∧ (decode code 1238 = .ok (.iconst 2, 1)) ∧ (decode code 1239 = .ok (.iadd, 1)) ∧ (decode code 1240 = .ok (.iaload, 1)) ∧ (decode code 1241 = .ok (.aload_n 0, 1)) ∧ (decode code 1242 = .ok (.iload_n 3, 1)) ∧ (decode code 1243 = .ok (.iconst 3, 1)) ∧ (decode code 1244 = .ok (.iadd, 1)) ∧ (decode code 1245 = .ok (.iaload, 1)) ∧ (decode code 1246 = .ok (.invokevirtual 160, 3)) ∧ (decode code 1249 = .ok (.pop, 1)) := by
  have h : List.drop 1222 code.data.toList = 0x1d :: _ := rfl
  refine ⟨zq_k_n 29 h rfl (zq_o_29 _), ?_⟩
  replace h := zq_nx1 (q := 1223) h rfl
  refine ⟨zq_k_n 6 h rfl (zq_o_6 _), ?_⟩
  replace h := zq_nx1 (q := 1224) h rfl
  refine ⟨zq_k_n 96 h rfl (zq_o_96 _), ?_⟩
  replace h := zq_nx1 (q := 1225) h rfl
  refine ⟨zq_k_n 46 h rfl (zq_o_46 _), ?_⟩
  replace h := zq_nx1 (q := 1226) h rfl
  refine ⟨zq_k_u2 182 (fun z => .invokevirtual z) 157 h rfl (zq_o_182 _) (by decide +kernel), ?_⟩
  replace h := zq_nx3 (q := 1229) h rfl
  refine ⟨zq_k_n 87 h rfl (zq_o_87 _), ?_⟩
  replace h := zq_nx1 (q := 1230) h rfl
  refine ⟨zq_k_n 44 h rfl (zq_o_44 _), ?_⟩
  replace h := zq_nx1 (q := 1231) h rfl
  refine ⟨zq_k_n 42 h rfl (zq_o_42 _), ?_⟩
  replace h := zq_nx1 (q := 1232) h rfl
  refine ⟨zq_k_n 29 h rfl (zq_o_29 _), ?_⟩
  replace h := zq_nx1 (q := 1233) h rfl
  refine ⟨zq_k_n 4 h rfl (zq_o_4 _), ?_⟩
  replace h := zq_nx1 (q := 1234) h rfl
  refine ⟨zq_k_n 96 h rfl (zq_o_96 _), ?_⟩
  replace h := zq_nx1 (q := 1235) h rfl
  refine ⟨zq_k_n 46 h rfl (zq_o_46 _), ?_⟩
  replace h := zq_nx1 (q := 1236) h rfl
  refine ⟨zq_k_n 42 h rfl (zq_o_42 _), ?_⟩
  replace h := zq_nx1 (q := 1237) h rfl
  refine ⟨zq_k_n 29 h rfl (zq_o_29 _), ?_⟩
  replace h := zq_nx1 (q := 1238) h rfl
  refine ⟨zq_k_n 5 h rfl (zq_o_5 _), ?_⟩
  replace h := zq_nx1 (q := 1239) h rfl
  refine ⟨zq_k_n 96 h rfl (zq_o_96 _), ?_⟩
  replace h := zq_nx1 (q := 1240) h rfl
  refine ⟨zq_k_n 46 h rfl (zq_o_46 _), ?_⟩
  replace h := zq_nx1 (q := 1241) h rfl
  refine ⟨zq_k_n 42 h rfl (zq_o_42 _), ?_⟩
  replace h := zq_nx1 (q := 1242) h rfl
  refine ⟨zq_k_n 29 h rfl (zq_o_29 _), ?_⟩
  replace h := zq_nx1 (q := 1243) h rfl
  refine ⟨zq_k_n 6 h rfl (zq_o_6 _), ?_⟩
  replace h := zq_nx1 (q := 1244) h rfl
  refine ⟨zq_k_n 96 h rfl (zq_o_96 _), ?_⟩
  replace h := zq_nx1 (q := 1245) h rfl
  refine ⟨zq_k_n 46 h rfl (zq_o_46 _), ?_⟩
  replace h := zq_nx1 (q := 1246) h rfl
  refine ⟨zq_k_u2 182 (fun z => .invokevirtual z) 160 h rfl (zq_o_182 _) (by decide +kernel), ?_⟩
  replace h := zq_nx3 (q := 1249) h rfl
  exact zq_k_n 87 h rfl (zq_o_87 _)
set_option maxRecDepth 100000 in
theorem dd_QuotaLawsLaw_law_1250 : (decode code 1250 = .ok (.goto 92, 3)) ∧ (decode code 1253 = .ok (.aload_n 1, 1)) ∧ (decode code 1254 = .ok (.aload_n 0, 1)) ∧ (decode code 1255 = .ok (.iload_n 3, 1)) ∧ (decode code 1256 = .ok (.iconst 1, 1)) ∧ (decode code 1257 = .ok (.iadd, 1)) ∧ (decode code 1258 = .ok (.iaload, 1)) ∧ (decode code 1259 = .ok (.aload_n 0, 1)) ∧ (decode code 1260 = .ok (.iload_n 3, 1)) ∧ (decode code 1261 = .ok (.iconst 2, 1)) ∧ (decode code 1262 = .ok (.iadd, 1)) ∧ (decode code 1263 = .ok (.iaload, 1)) ∧ (decode code 1264 = .ok (.aload_n 0, 1)) ∧ (decode code 1265 = .ok (.iload_n 3, 1)) ∧ (decode code 1266 = .ok (.iconst 3, 1)) ∧ (decode code 1267 = .ok (.iadd, 1)) ∧ (decode code 1268 = .ok (.iaload, 1)) ∧ (decode code 1269 = .ok (.aload_n 0, 1)) ∧ (decode code 1270 = .ok (.iload_n 3, 1)) ∧ (decode code 1271 = .ok (.iconst 4, 1)) ∧ (decode code 1272 = .ok (.iadd, 1)) ∧ (decode code 1273 = .ok (.iaload, 1)) ∧ (decode code 1274 = .ok (.invokevirtual 161, 3)) ∧ (decode code 1277 = .ok (.pop, 1)) := by
  have h : List.drop 1250 code.data.toList = 0xa7 :: _ := rfl
  refine ⟨zq_k_s2 167 (fun z => .goto z) 92 h rfl (zq_o_167 _) (by decide +kernel), ?_⟩
  replace h := zq_nx3 (q := 1253) h rfl
  refine ⟨zq_k_n 43 h rfl (zq_o_43 _), ?_⟩
  replace h := zq_nx1 (q := 1254) h rfl
  refine ⟨zq_k_n 42 h rfl (zq_o_42 _), ?_⟩
  replace h := zq_nx1 (q := 1255) h rfl
  refine ⟨zq_k_n 29 h rfl (zq_o_29 _), ?_⟩
  replace h := zq_nx1 (q := 1256) h rfl
  refine ⟨zq_k_n 4 h rfl (zq_o_4 _), ?_⟩
  replace h := zq_nx1 (q := 1257) h rfl
  refine ⟨zq_k_n 96 h rfl (zq_o_96 _), ?_⟩
  replace h := zq_nx1 (q := 1258) h rfl
  refine ⟨zq_k_n 46 h rfl (zq_o_46 _), ?_⟩
  replace h := zq_nx1 (q := 1259) h rfl
  refine ⟨zq_k_n 42 h rfl (zq_o_42 _), ?_⟩
  replace h := zq_nx1 (q := 1260) h rfl
  refine ⟨zq_k_n 29 h rfl (zq_o_29 _), ?_⟩
  replace h := zq_nx1 (q := 1261) h rfl
  refine ⟨zq_k_n 5 h rfl (zq_o_5 _), ?_⟩
  replace h := zq_nx1 (q := 1262) h rfl
  refine ⟨zq_k_n 96 h rfl (zq_o_96 _), ?_⟩
  replace h := zq_nx1 (q := 1263) h rfl
  refine ⟨zq_k_n 46 h rfl (zq_o_46 _), ?_⟩
  replace h := zq_nx1 (q := 1264) h rfl
  refine ⟨zq_k_n 42 h rfl (zq_o_42 _), ?_⟩
  replace h := zq_nx1 (q := 1265) h rfl
  refine ⟨zq_k_n 29 h rfl (zq_o_29 _), ?_⟩
  replace h := zq_nx1 (q := 1266) h rfl
  refine ⟨zq_k_n 6 h rfl (zq_o_6 _), ?_⟩
  replace h := zq_nx1 (q := 1267) h rfl
  refine ⟨zq_k_n 96 h rfl (zq_o_96 _), ?_⟩
  replace h := zq_nx1 (q := 1268) h rfl
  refine ⟨zq_k_n 46 h rfl (zq_o_46 _), ?_⟩
  replace h := zq_nx1 (q := 1269) h rfl
  refine ⟨zq_k_n 42 h rfl (zq_o_42 _), ?_⟩
  replace h := zq_nx1 (q := 1270) h rfl
  refine ⟨zq_k_n 29 h rfl (zq_o_29 _), ?_⟩
  replace h := zq_nx1 (q := 1271) h rfl
  refine ⟨zq_k_n 7 h rfl (zq_o_7 _), ?_⟩
  replace h := zq_nx1 (q := 1272) h rfl
  refine ⟨zq_k_n 96 h rfl (zq_o_96 _), ?_⟩
  replace h := zq_nx1 (q := 1273) h rfl
  refine ⟨zq_k_n 46 h rfl (zq_o_46 _), ?_⟩
  replace h := zq_nx1 (q := 1274) h rfl
  refine ⟨zq_k_u2 182 (fun z => .invokevirtual z) 161 h rfl (zq_o_182 _) (by decide +kernel), ?_⟩
  replace h := zq_nx3 (q := 1277) h rfl
  exact zq_k_n 87 h rfl (zq_o_87 _)
set_option maxRecDepth 100000 in
theorem dd_QuotaLawsLaw_law_1278 : (decode code 1278 = .ok (.aload_n 2, 1)) ∧ (decode code 1279 = .ok (.aload_n 0, 1)) ∧ (decode code 1280 = .ok (.iload_n 3, 1)) ∧ (decode code 1281 = .ok (.iconst 1, 1)) ∧ (decode code 1282 = .ok (.iadd, 1)) ∧ (decode code 1283 = .ok (.iaload, 1)) ∧ (decode code 1284 = .ok (.aload_n 0, 1)) ∧ (decode code 1285 = .ok (.iload_n 3, 1)) ∧ (decode code 1286 = .ok (.iconst 2, 1)) ∧ (decode code 1287 = .ok (.iadd, 1)) ∧ (decode code 1288 = .ok (.iaload, 1)) ∧ (decode code 1289 = .ok (.aload_n 0, 1)) ∧ (decode code 1290 = .ok (.iload_n 3, 1)) ∧ (decode code 1291 = .ok (.iconst 3, 1)) ∧ (decode code 1292 = .ok (.iadd, 1)) ∧ (decode code 1293 = .ok (.iaload, 1)) ∧ (decode code 1294 = .ok (.aload_n 0, 1)) ∧ (decode code 1295 = .ok (.iload_n 3, 1)) ∧ (decode code 1296 = .ok (.iconst 4, 1)) ∧ (decode code 1297 = .ok (.iadd, 1)) ∧ (decode code 1298 = .ok (.iaload, 1)) ∧ (decode code 1299 = .ok (.invokevirtual 165, 3)) ∧ (decode code 1302 = .ok (.pop, 1)) ∧ (decode code 1303 = .ok (.goto 39, 3)) := by
  have h : List.drop 1278 code.data.toList = 0x2c :: _ := rfl
  refine ⟨zq_k_n 44 h rfl (zq_o_44 _), ?_⟩
  replace h := zq_nx1 (q := 1279) h rfl
  refine ⟨zq_k_n 42 h rfl (zq_o_42 _), ?_⟩
  replace h := zq_nx1 (q := 1280) h rfl
  refine ⟨zq_k_n 29 h rfl (zq_o_29 _), ?_⟩
  replace h := zq_nx1 (q := 1281) h rfl
  refine ⟨zq_k_n 4 h rfl (zq_o_4 _), ?_⟩
  replace h := zq_nx1 (q := 1282) h rfl
  refine ⟨zq_k_n 96 h rfl (zq_o_96 _), ?_⟩
  replace h := zq_nx1 (q := 1283) h rfl
  refine ⟨zq_k_n 46 h rfl (zq_o_46 _), ?_⟩
  replace h := zq_nx1 (q := 1284) h rfl
  refine ⟨zq_k_n 42 h rfl (zq_o_42 _), ?_⟩
  replace h := zq_nx1 (q := 1285) h rfl
  refine ⟨zq_k_n 29 h rfl (zq_o_29 _), ?_⟩
  replace h := zq_nx1 (q := 1286) h rfl
  refine ⟨zq_k_n 5 h rfl (zq_o_5 _), ?_⟩
  replace h := zq_nx1 (q := 1287) h rfl
  refine ⟨zq_k_n 96 h rfl (zq_o_96 _), ?_⟩
  replace h := zq_nx1 (q := 1288) h rfl
  refine ⟨zq_k_n 46 h rfl (zq_o_46 _), ?_⟩
  replace h := zq_nx1 (q := 1289) h rfl
  refine ⟨zq_k_n 42 h rfl (zq_o_42 _), ?_⟩
  replace h := zq_nx1 (q := 1290) h rfl
  refine ⟨zq_k_n 29 h rfl (zq_o_29 _), ?_⟩
  replace h := zq_nx1 (q := 1291) h rfl
  refine ⟨zq_k_n 6 h rfl (zq_o_6 _), ?_⟩
  replace h := zq_nx1 (q := 1292) h rfl
  refine ⟨zq_k_n 96 h rfl (zq_o_96 _), ?_⟩
  replace h := zq_nx1 (q := 1293) h rfl
  refine ⟨zq_k_n 46 h rfl (zq_o_46 _), ?_⟩
  replace h := zq_nx1 (q := 1294) h rfl
  refine ⟨zq_k_n 42 h rfl (zq_o_42 _), ?_⟩
  replace h := zq_nx1 (q := 1295) h rfl
  refine ⟨zq_k_n 29 h rfl (zq_o_29 _), ?_⟩
  replace h := zq_nx1 (q := 1296) h rfl
  refine ⟨zq_k_n 7 h rfl (zq_o_7 _), ?_⟩
  replace h := zq_nx1 (q := 1297) h rfl
  refine ⟨zq_k_n 96 h rfl (zq_o_96 _), ?_⟩
  replace h := zq_nx1 (q := 1298) h rfl
  refine ⟨zq_k_n 46 h rfl (zq_o_46 _), ?_⟩
  replace h := zq_nx1 (q := 1299) h rfl
  refine ⟨zq_k_u2 182 (fun z => .invokevirtual z) 165 h rfl (zq_o_182 _) (by decide +kernel), ?_⟩
  replace h := zq_nx3 (q := 1302) h rfl
  refine ⟨zq_k_n 87 h rfl (zq_o_87 _), ?_⟩
  replace h := zq_nx1 (q := 1303) h rfl
  exact zq_k_s2 167 (fun z => .goto z) 39 h rfl (zq_o_167 _) (by decide +kernel)
set_option maxRecDepth 100000 in
theorem dd_QuotaLawsLaw_law_1306 : (decode code 1306 = .ok (.aload_n 1, 1)) ∧ (decode code 1307 = .ok (.invokevirtual 166, 3)) ∧ (decode code 1310 = .ok (.pop, 1)) ∧ (decode code 1311 = .ok (.aload_n 2, 1)) ∧ (decode code 1312 = .ok (.invokevirtual 169, 3)) ∧ (decode code 1315 = .ok (.pop, 1)) ∧ (decode code 1316 = .ok (.goto 26, 3)) ∧ (decode code 1319 = .ok (.aload_n 1, 1)) ∧ (decode code 1320 = .ok (.aload_n 0, 1)) ∧ (decode code 1321 = .ok (.iload_n 3, 1)) ∧ (decode code 1322 = .ok (.iconst 1, 1)) ∧ (decode code 1323 = .ok (.iadd, 1)) ∧ (decode code 1324 = .ok (.iaload, 1)) ∧ (decode code 1325 = .ok (.invokevirtual 170, 3)) ∧ (decode code 1328 = .ok (.aload_n 2, 1)) ∧ (decode code 1329 = .ok (.aload_n 0, 1)) ∧ (decode code 1330 = .ok (.iload_n 3, 1)) ∧ (decode code 1331 = .ok (.iconst 1, 1)) ∧ (decode code 1332 = .ok (.iadd, 1)) ∧ (decode code 1333 = .ok (.iaload, 1)) ∧ (decode code 1334 = .ok (.invokevirtual 173, 3)) ∧ (decode code 1337 = .ok (.if_icmp .eq 5, 3)) ∧ (decode code 1340 = .ok (.iconst 0, 1)) ∧ (decode code 1341 = .ok (.ireturn, 1)) := by
  have h : List.drop 1306 code.data.toList = 0x2b :: _ := rfl
  refine ⟨zq_k_n 43 h rfl (zq_o_43 _), ?_⟩
  replace h := zq_nx1 (q := 1307) h rfl
  refine ⟨zq_k_u2 182 (fun z => .invokevirtual z) 166 h rfl (zq_o_182 _) (by decide +kernel), ?_⟩
  replace h := zq_nx3 (q := 1310) h rfl
  refine ⟨zq_k_n 87 h rfl (zq_o_87 _), ?_⟩
  replace h := zq_nx1 (q := 1311) h rfl
  refine ⟨zq_k_n 44 h rfl (zq_o_44 _), ?_⟩
  replace h := zq_nx1 (q := 1312) h rfl
  refine ⟨zq_k_u2 182 (fun z => .invokevirtual z) 169 h rfl (zq_o_182 _) (by decide +kernel), ?_⟩
  replace h := zq_nx3 (q := 1315) h rfl
  refine ⟨zq_k_n 87 h rfl (zq_o_87 _), ?_⟩
  replace h := zq_nx1 (q := 1316) h rfl
  refine ⟨zq_k_s2 167 (fun z => .goto z) 26 h rfl (zq_o_167 _) (by decide +kernel), ?_⟩
  replace h := zq_nx3 (q := 1319) h rfl
  refine ⟨zq_k_n 43 h rfl (zq_o_43 _), ?_⟩
  replace h := zq_nx1 (q := 1320) h rfl
  refine ⟨zq_k_n 42 h rfl (zq_o_42 _), ?_⟩
  replace h := zq_nx1 (q := 1321) h rfl
  refine ⟨zq_k_n 29 h rfl (zq_o_29 _), ?_⟩
  replace h := zq_nx1 (q := 1322) h rfl
  refine ⟨zq_k_n 4 h rfl (zq_o_4 _), ?_⟩
  replace h := zq_nx1 (q := 1323) h rfl
  refine ⟨zq_k_n 96 h rfl (zq_o_96 _), ?_⟩
  replace h := zq_nx1 (q := 1324) h rfl
  refine ⟨zq_k_n 46 h rfl (zq_o_46 _), ?_⟩
  replace h := zq_nx1 (q := 1325) h rfl
  refine ⟨zq_k_u2 182 (fun z => .invokevirtual z) 170 h rfl (zq_o_182 _) (by decide +kernel), ?_⟩
  replace h := zq_nx3 (q := 1328) h rfl
  refine ⟨zq_k_n 44 h rfl (zq_o_44 _), ?_⟩
  replace h := zq_nx1 (q := 1329) h rfl
  refine ⟨zq_k_n 42 h rfl (zq_o_42 _), ?_⟩
  replace h := zq_nx1 (q := 1330) h rfl
  refine ⟨zq_k_n 29 h rfl (zq_o_29 _), ?_⟩
  replace h := zq_nx1 (q := 1331) h rfl
  refine ⟨zq_k_n 4 h rfl (zq_o_4 _), ?_⟩
  replace h := zq_nx1 (q := 1332) h rfl
  refine ⟨zq_k_n 96 h rfl (zq_o_96 _), ?_⟩
  replace h := zq_nx1 (q := 1333) h rfl
  refine ⟨zq_k_n 46 h rfl (zq_o_46 _), ?_⟩
  replace h := zq_nx1 (q := 1334) h rfl
  refine ⟨zq_k_u2 182 (fun z => .invokevirtual z) 173 h rfl (zq_o_182 _) (by decide +kernel), ?_⟩
  replace h := zq_nx3 (q := 1337) h rfl
  refine ⟨zq_k_s2 159 (fun z => .if_icmp .eq z) 5 h rfl (zq_o_159 _) (by decide +kernel), ?_⟩
  replace h := zq_nx3 (q := 1340) h rfl
  refine ⟨zq_k_n 3 h rfl (zq_o_3 _), ?_⟩
  replace h := zq_nx1 (q := 1341) h rfl
  exact zq_k_n 172 h rfl (zq_o_172 _)
set_option maxRecDepth 100000 in
theorem dd_QuotaLawsLaw_law_1342 : (decode code 1342 = .ok (.iinc 3 5, 3)) ∧ (decode code 1345 = .ok (.goto (-1327), 3)) ∧ (decode code 1348 = .ok (.iconst 1, 1)) ∧ (decode code 1349 = .ok (.ireturn, 1)) := by
  have h : List.drop 1342 code.data.toList = 0x84 :: _ := rfl
  refine ⟨zq_k_iinc 3 5 h rfl (zq_o_132 _) (by decide +kernel) (by decide +kernel), ?_⟩
  replace h := zq_nx3 (q := 1345) h rfl
  refine ⟨zq_k_s2 167 (fun z => .goto z) (-1327) h rfl (zq_o_167 _) (by decide +kernel), ?_⟩
  replace h := zq_nx3 (q := 1348) h rfl
  refine ⟨zq_k_n 4 h rfl (zq_o_4 _), ?_⟩
  replace h := zq_nx1 (q := 1349) h rfl
  exact zq_k_n 172 h rfl (zq_o_172 _)
def f_QuotaLawsLaw_law_1342 (sc : Nat × (Nat → Int32)) (rec18 : Nat → Nat → Int32 → mH → Option (Int32 × mH)) (b1 : Nat) (b2 : Nat) (b3 : Int32) (h : mH) : Option (Int32 × mH) :=
  rec18 b1 b2 (b3 + (5 : Int32)) h
set_option maxRecDepth 20000 in
theorem t_QuotaLawsLaw_law_1342 {sc : Nat × (Nat → Int32)} (rec18 : Nat → Nat → Int32 → mH → Option (Int32 × mH)) (hrec18 : ∀ (b1 : Nat) (b2 : Nat) (b3 : Int32) (h : mH) (r : Int32) (h' : mH), rec18 b1 b2 b3 h = some (r, h') → G sc y_QuotaLawsLaw_law code 4 (some .boolean) 8 176 18 [(0, .ref 1300), (1, .ref b1), (2, .ref b2), (3, .int b3)] [] h (some (.int r)) h') (b1 : Nat) (b2 : Nat) (b3 : Int32) (h : mH) (r : Int32) (h' : mH) (hf : f_QuotaLawsLaw_law_1342 sc rec18 b1 b2 b3 h = some (r, h')) : G sc y_QuotaLawsLaw_law code 4 (some .boolean) 8 176 1342 [(0, .ref 1300), (1, .ref b1), (2, .ref b2), (3, .int b3)] [] h (some (.int r)) h' := by
  unfold f_QuotaLawsLaw_law_1342 at hf
  refine g_iinc (pc := 1342) 3 (b3 + (5 : Int32)) [(3, .int (b3 + (5 : Int32))), (0, .ref 1300), (1, .ref b1), (2, .ref b2)] dd_QuotaLawsLaw_law_1342.1 rfl rfl (Nat.le_of_ble_eq_true rfl) rfl ?_
  refine g_goto (pc := 1345) 18 dd_QuotaLawsLaw_law_1342.2.1 (by decide) ?_
  refine g_lv [1, 2, 3, 0] rfl ?_
  exact hrec18 _ _ _ _ _ _  hf
def f_QuotaLawsLaw_law_653 (sc : Nat × (Nat → Int32)) (rec18 : Nat → Nat → Int32 → mH → Option (Int32 × mH)) (b1 : Nat) (b2 : Nat) (b3 : Int32) (s0 : Nat) (s1 : Int32) (s2 : Int32) (s3 : Int32) (h : mH) : Option (Int32 × mH) :=
  bd1 (kC h s0 8) fun _ =>
  bd2 (f_M_want s0 s1 s2 s3 h) fun x654 h652 =>
  f_QuotaLawsLaw_law_1342 sc rec18 b1 b2 b3 h652
set_option maxRecDepth 20000 in
theorem t_QuotaLawsLaw_law_653 {sc : Nat × (Nat → Int32)} (rec18 : Nat → Nat → Int32 → mH → Option (Int32 × mH)) (hrec18 : ∀ (b1 : Nat) (b2 : Nat) (b3 : Int32) (h : mH) (r : Int32) (h' : mH), rec18 b1 b2 b3 h = some (r, h') → G sc y_QuotaLawsLaw_law code 4 (some .boolean) 8 176 18 [(0, .ref 1300), (1, .ref b1), (2, .ref b2), (3, .int b3)] [] h (some (.int r)) h') (b1 : Nat) (b2 : Nat) (b3 : Int32) (s0 : Nat) (s1 : Int32) (s2 : Int32) (s3 : Int32) (h : mH) (r : Int32) (h' : mH) (hf : f_QuotaLawsLaw_law_653 sc rec18 b1 b2 b3 s0 s1 s2 s3 h = some (r, h')) : G sc y_QuotaLawsLaw_law code 4 (some .boolean) 8 176 653 [(0, .ref 1300), (1, .ref b1), (2, .ref b2), (3, .int b3)] [.int s3, .int s2, .int s1, .ref s0] h (some (.int r)) h' := by
  unfold f_QuotaLawsLaw_law_653 at hf
  obtain ⟨u651, e650, hf⟩ := bd1_e hf
  obtain ⟨x654, h652, e653, hf⟩ := bd2_e hf
  refine g_callV (pc := 653) (ci := 8) [.int s1, .int s2, .int s3] (site_of si_M_want (by decide) (by decide)) wd_1217 wd_1218 wd_1219 dd_QuotaLawsLaw_law_638.2.2.2.2.2.2.2.2.2.2.2.1 rfl e650 (Nat.le_of_ble_eq_true rfl) (fun z => absurd z si_na_M_want) (fun z => absurd z si_na_M_want) (fun z => absurd z si_na_M_want) (c_M_want e653) rfl ?_
  refine g_st [.int x654] rfl ?_
  refine g_pop (pc := 656) dd_QuotaLawsLaw_law_638.2.2.2.2.2.2.2.2.2.2.2.2.1 rfl ?_
  refine g_goto (pc := 657) 1342 dd_QuotaLawsLaw_law_638.2.2.2.2.2.2.2.2.2.2.2.2.2.1 (by decide) ?_
  refine g_lv [0, 1, 2, 3] rfl ?_
  exact t_QuotaLawsLaw_law_1342 rec18 hrec18 _ _ _ _ _ _  hf
def f_QuotaLawsLaw_law_625 (sc : Nat × (Nat → Int32)) (rec18 : Nat → Nat → Int32 → mH → Option (Int32 × mH)) (b1 : Nat) (b2 : Nat) (b3 : Int32) (s0 : Nat) (s1 : Int32) (s2 : Int32) (s3 : Int32) (h : mH) : Option (Int32 × mH) :=
  bd1 (kC h s0 0) fun _ =>
  bd2 (f_Q_want s0 s1 s2 s3 h) fun x642 h640 =>
  bd1 (sX sc (b3 + (1 : Int32))) fun x643 =>
  bd1 (sX sc (b3 + (2 : Int32))) fun x645 =>
  bd1 (sX sc (b3 + (3 : Int32))) fun x647 =>
  if x647 = 0 then
    f_QuotaLawsLaw_law_653 sc rec18 b1 b2 b3 b2 x643 x645 (0 : Int32) h640
  else
    f_QuotaLawsLaw_law_653 sc rec18 b1 b2 b3 b2 x643 x645 (1 : Int32) h640
set_option maxRecDepth 20000 in
theorem t_QuotaLawsLaw_law_625 {sc : Nat × (Nat → Int32)} (rec18 : Nat → Nat → Int32 → mH → Option (Int32 × mH)) (hrec18 : ∀ (b1 : Nat) (b2 : Nat) (b3 : Int32) (h : mH) (r : Int32) (h' : mH), rec18 b1 b2 b3 h = some (r, h') → G sc y_QuotaLawsLaw_law code 4 (some .boolean) 8 176 18 [(0, .ref 1300), (1, .ref b1), (2, .ref b2), (3, .int b3)] [] h (some (.int r)) h') (b1 : Nat) (b2 : Nat) (b3 : Int32) (s0 : Nat) (s1 : Int32) (s2 : Int32) (s3 : Int32) (h : mH) (r : Int32) (h' : mH) (hf : f_QuotaLawsLaw_law_625 sc rec18 b1 b2 b3 s0 s1 s2 s3 h = some (r, h')) : G sc y_QuotaLawsLaw_law code 4 (some .boolean) 8 176 625 [(0, .ref 1300), (1, .ref b1), (2, .ref b2), (3, .int b3)] [.int s3, .int s2, .int s1, .ref s0] h (some (.int r)) h' := by
  unfold f_QuotaLawsLaw_law_625 at hf
  obtain ⟨u639, e638, hf⟩ := bd1_e hf
  obtain ⟨x642, h640, e641, hf⟩ := bd2_e hf
  refine g_callV (pc := 625) (ci := 0) [.int s1, .int s2, .int s3] (site_of si_Q_want (by decide) (by decide)) wd_602 wd_603 wd_604 dd_QuotaLawsLaw_law_608.2.2.2.2.2.2.2.2.2.2.2.2.2.1 rfl e638 (Nat.le_of_ble_eq_true rfl) (fun z => absurd z si_na_Q_want) (fun z => absurd z si_na_Q_want) (fun z => absurd z si_na_Q_want) (c_Q_want e641) rfl ?_
  refine g_st [.int x642] rfl ?_
  refine g_pop (pc := 628) dd_QuotaLawsLaw_law_608.2.2.2.2.2.2.2.2.2.2.2.2.2.2.1 rfl ?_
  refine g_aload_n (pc := 629) 2 dd_QuotaLawsLaw_law_608.2.2.2.2.2.2.2.2.2.2.2.2.2.2.2.1 rfl rfl ?_
  refine g_aload_n (pc := 630) 0 dd_QuotaLawsLaw_law_608.2.2.2.2.2.2.2.2.2.2.2.2.2.2.2.2.1 rfl rfl ?_
  refine g_iload_n (pc := 631) 3 dd_QuotaLawsLaw_law_608.2.2.2.2.2.2.2.2.2.2.2.2.2.2.2.2.2.1 rfl rfl ?_
  refine g_iconst (pc := 632) (1 : Int32) dd_QuotaLawsLaw_law_608.2.2.2.2.2.2.2.2.2.2.2.2.2.2.2.2.2.2.1 (by decide) ?_
  refine g_iadd (pc := 633) dd_QuotaLawsLaw_law_608.2.2.2.2.2.2.2.2.2.2.2.2.2.2.2.2.2.2.2.1 ?_
  obtain ⟨x643, e644, hf⟩ := bd1_e hf
  refine g_sld (pc := 634) dd_QuotaLawsLaw_law_608.2.2.2.2.2.2.2.2.2.2.2.2.2.2.2.2.2.2.2.2.1 e644 ?_
  refine g_aload_n (pc := 635) 0 dd_QuotaLawsLaw_law_608.2.2.2.2.2.2.2.2.2.2.2.2.2.2.2.2.2.2.2.2.2.1 rfl rfl ?_
  refine g_iload_n (pc := 636) 3 dd_QuotaLawsLaw_law_608.2.2.2.2.2.2.2.2.2.2.2.2.2.2.2.2.2.2.2.2.2.2.1 rfl rfl ?_
  refine g_iconst (pc := 637) (2 : Int32) dd_QuotaLawsLaw_law_608.2.2.2.2.2.2.2.2.2.2.2.2.2.2.2.2.2.2.2.2.2.2.2 (by decide) ?_
  refine g_iadd (pc := 638) dd_QuotaLawsLaw_law_638.1 ?_
  obtain ⟨x645, e646, hf⟩ := bd1_e hf
  refine g_sld (pc := 639) dd_QuotaLawsLaw_law_638.2.1 e646 ?_
  refine g_aload_n (pc := 640) 0 dd_QuotaLawsLaw_law_638.2.2.1 rfl rfl ?_
  refine g_iload_n (pc := 641) 3 dd_QuotaLawsLaw_law_638.2.2.2.1 rfl rfl ?_
  refine g_iconst (pc := 642) (3 : Int32) dd_QuotaLawsLaw_law_638.2.2.2.2.1 (by decide) ?_
  refine g_iadd (pc := 643) dd_QuotaLawsLaw_law_638.2.2.2.2.2.1 ?_
  obtain ⟨x647, e648, hf⟩ := bd1_e hf
  refine g_sld (pc := 644) dd_QuotaLawsLaw_law_638.2.2.2.2.2.2.1 e648 ?_
  refine g_ifeq (pc := 645) 652 dd_QuotaLawsLaw_law_638.2.2.2.2.2.2.2.1 (by decide) (fun c649 => ?_) (fun c649 => ?_)
  · replace hf := (if_pos c649).symm.trans hf
    refine g_iconst (pc := 652) (0 : Int32) dd_QuotaLawsLaw_law_638.2.2.2.2.2.2.2.2.2.2.1 (by decide) ?_
    refine g_lv [0, 1, 2, 3] rfl ?_
    exact t_QuotaLawsLaw_law_653 rec18 hrec18 _ _ _ _ _ _ _ _ _ _  hf
  · replace hf := (if_neg c649).symm.trans hf
    refine g_iconst (pc := 648) (1 : Int32) dd_QuotaLawsLaw_law_638.2.2.2.2.2.2.2.2.1 (by decide) ?_
    refine g_goto (pc := 649) 653 dd_QuotaLawsLaw_law_638.2.2.2.2.2.2.2.2.2.1 (by decide) ?_
    refine g_lv [0, 1, 2, 3] rfl ?_
    exact t_QuotaLawsLaw_law_653 rec18 hrec18 _ _ _ _ _ _ _ _ _ _  hf
def f_QuotaLawsLaw_law_594 (sc : Nat × (Nat → Int32)) (rec18 : Nat → Nat → Int32 → mH → Option (Int32 × mH)) (b1 : Nat) (b2 : Nat) (b3 : Int32) (s0 : Nat) (s1 : Int32) (s2 : Int32) (s3 : Int32) (h : mH) : Option (Int32 × mH) :=
  bd1 (kC h s0 8) fun _ =>
  bd2 (f_M_refuse s0 s1 s2 s3 h) fun x671 h669 =>
  f_QuotaLawsLaw_law_1342 sc rec18 b1 b2 b3 h669
set_option maxRecDepth 20000 in
theorem t_QuotaLawsLaw_law_594 {sc : Nat × (Nat → Int32)} (rec18 : Nat → Nat → Int32 → mH → Option (Int32 × mH)) (hrec18 : ∀ (b1 : Nat) (b2 : Nat) (b3 : Int32) (h : mH) (r : Int32) (h' : mH), rec18 b1 b2 b3 h = some (r, h') → G sc y_QuotaLawsLaw_law code 4 (some .boolean) 8 176 18 [(0, .ref 1300), (1, .ref b1), (2, .ref b2), (3, .int b3)] [] h (some (.int r)) h') (b1 : Nat) (b2 : Nat) (b3 : Int32) (s0 : Nat) (s1 : Int32) (s2 : Int32) (s3 : Int32) (h : mH) (r : Int32) (h' : mH) (hf : f_QuotaLawsLaw_law_594 sc rec18 b1 b2 b3 s0 s1 s2 s3 h = some (r, h')) : G sc y_QuotaLawsLaw_law code 4 (some .boolean) 8 176 594 [(0, .ref 1300), (1, .ref b1), (2, .ref b2), (3, .int b3)] [.int s3, .int s2, .int s1, .ref s0] h (some (.int r)) h' := by
  unfold f_QuotaLawsLaw_law_594 at hf
  obtain ⟨u668, e667, hf⟩ := bd1_e hf
  obtain ⟨x671, h669, e670, hf⟩ := bd2_e hf
  refine g_callV (pc := 594) (ci := 8) [.int s1, .int s2, .int s3] (site_of si_M_refuse (by decide) (by decide)) wd_1213 wd_1214 wd_1215 dd_QuotaLawsLaw_law_576.2.2.2.2.2.2.2.2.2.2.2.2.2.2.1 rfl e667 (Nat.le_of_ble_eq_true rfl) (fun z => absurd z si_na_M_refuse) (fun z => absurd z si_na_M_refuse) (fun z => absurd z si_na_M_refuse) (c_M_refuse e670) rfl ?_
  refine g_st [.int x671] rfl ?_
  refine g_pop (pc := 597) dd_QuotaLawsLaw_law_576.2.2.2.2.2.2.2.2.2.2.2.2.2.2.2.1 rfl ?_
  refine g_goto (pc := 598) 1342 dd_QuotaLawsLaw_law_576.2.2.2.2.2.2.2.2.2.2.2.2.2.2.2.2.1 (by decide) ?_
  refine g_lv [0, 1, 2, 3] rfl ?_
  exact t_QuotaLawsLaw_law_1342 rec18 hrec18 _ _ _ _ _ _  hf
def f_QuotaLawsLaw_law_566 (sc : Nat × (Nat → Int32)) (rec18 : Nat → Nat → Int32 → mH → Option (Int32 × mH)) (b1 : Nat) (b2 : Nat) (b3 : Int32) (s0 : Nat) (s1 : Int32) (s2 : Int32) (s3 : Int32) (h : mH) : Option (Int32 × mH) :=
  bd1 (kC h s0 0) fun _ =>
  bd2 (f_Q_refuse s0 s1 s2 s3 h) fun x659 h657 =>
  bd1 (sX sc (b3 + (1 : Int32))) fun x660 =>
  bd1 (sX sc (b3 + (2 : Int32))) fun x662 =>
  bd1 (sX sc (b3 + (3 : Int32))) fun x664 =>
  if x664 = 0 then
    f_QuotaLawsLaw_law_594 sc rec18 b1 b2 b3 b2 x660 x662 (0 : Int32) h657
  else
    f_QuotaLawsLaw_law_594 sc rec18 b1 b2 b3 b2 x660 x662 (1 : Int32) h657
set_option maxRecDepth 20000 in
theorem t_QuotaLawsLaw_law_566 {sc : Nat × (Nat → Int32)} (rec18 : Nat → Nat → Int32 → mH → Option (Int32 × mH)) (hrec18 : ∀ (b1 : Nat) (b2 : Nat) (b3 : Int32) (h : mH) (r : Int32) (h' : mH), rec18 b1 b2 b3 h = some (r, h') → G sc y_QuotaLawsLaw_law code 4 (some .boolean) 8 176 18 [(0, .ref 1300), (1, .ref b1), (2, .ref b2), (3, .int b3)] [] h (some (.int r)) h') (b1 : Nat) (b2 : Nat) (b3 : Int32) (s0 : Nat) (s1 : Int32) (s2 : Int32) (s3 : Int32) (h : mH) (r : Int32) (h' : mH) (hf : f_QuotaLawsLaw_law_566 sc rec18 b1 b2 b3 s0 s1 s2 s3 h = some (r, h')) : G sc y_QuotaLawsLaw_law code 4 (some .boolean) 8 176 566 [(0, .ref 1300), (1, .ref b1), (2, .ref b2), (3, .int b3)] [.int s3, .int s2, .int s1, .ref s0] h (some (.int r)) h' := by
  unfold f_QuotaLawsLaw_law_566 at hf
  obtain ⟨u656, e655, hf⟩ := bd1_e hf
  obtain ⟨x659, h657, e658, hf⟩ := bd2_e hf
  refine g_callV (pc := 566) (ci := 0) [.int s1, .int s2, .int s3] (site_of si_Q_refuse (by decide) (by decide)) wd_598 wd_599 wd_600 dd_QuotaLawsLaw_law_546.2.2.2.2.2.2.2.2.2.2.2.2.2.2.2.2.1 rfl e655 (Nat.le_of_ble_eq_true rfl) (fun z => absurd z si_na_Q_refuse) (fun z => absurd z si_na_Q_refuse) (fun z => absurd z si_na_Q_refuse) (c_Q_refuse e658) rfl ?_
  refine g_st [.int x659] rfl ?_
  refine g_pop (pc := 569) dd_QuotaLawsLaw_law_546.2.2.2.2.2.2.2.2.2.2.2.2.2.2.2.2.2.1 rfl ?_
  refine g_aload_n (pc := 570) 2 dd_QuotaLawsLaw_law_546.2.2.2.2.2.2.2.2.2.2.2.2.2.2.2.2.2.2.1 rfl rfl ?_
  refine g_aload_n (pc := 571) 0 dd_QuotaLawsLaw_law_546.2.2.2.2.2.2.2.2.2.2.2.2.2.2.2.2.2.2.2.1 rfl rfl ?_
  refine g_iload_n (pc := 572) 3 dd_QuotaLawsLaw_law_546.2.2.2.2.2.2.2.2.2.2.2.2.2.2.2.2.2.2.2.2.1 rfl rfl ?_
  refine g_iconst (pc := 573) (1 : Int32) dd_QuotaLawsLaw_law_546.2.2.2.2.2.2.2.2.2.2.2.2.2.2.2.2.2.2.2.2.2.1 (by decide) ?_
  refine g_iadd (pc := 574) dd_QuotaLawsLaw_law_546.2.2.2.2.2.2.2.2.2.2.2.2.2.2.2.2.2.2.2.2.2.2.1 ?_
  obtain ⟨x660, e661, hf⟩ := bd1_e hf
  refine g_sld (pc := 575) dd_QuotaLawsLaw_law_546.2.2.2.2.2.2.2.2.2.2.2.2.2.2.2.2.2.2.2.2.2.2.2 e661 ?_
  refine g_aload_n (pc := 576) 0 dd_QuotaLawsLaw_law_576.1 rfl rfl ?_
  refine g_iload_n (pc := 577) 3 dd_QuotaLawsLaw_law_576.2.1 rfl rfl ?_
  refine g_iconst (pc := 578) (2 : Int32) dd_QuotaLawsLaw_law_576.2.2.1 (by decide) ?_
  refine g_iadd (pc := 579) dd_QuotaLawsLaw_law_576.2.2.2.1 ?_
  obtain ⟨x662, e663, hf⟩ := bd1_e hf
  refine g_sld (pc := 580) dd_QuotaLawsLaw_law_576.2.2.2.2.1 e663 ?_
  refine g_aload_n (pc := 581) 0 dd_QuotaLawsLaw_law_576.2.2.2.2.2.1 rfl rfl ?_
  refine g_iload_n (pc := 582) 3 dd_QuotaLawsLaw_law_576.2.2.2.2.2.2.1 rfl rfl ?_
  refine g_iconst (pc := 583) (3 : Int32) dd_QuotaLawsLaw_law_576.2.2.2.2.2.2.2.1 (by decide) ?_
  refine g_iadd (pc := 584) dd_QuotaLawsLaw_law_576.2.2.2.2.2.2.2.2.1 ?_
  obtain ⟨x664, e665, hf⟩ := bd1_e hf
  refine g_sld (pc := 585) dd_QuotaLawsLaw_law_576.2.2.2.2.2.2.2.2.2.1 e665 ?_
  refine g_ifeq (pc := 586) 593 dd_QuotaLawsLaw_law_576.2.2.2.2.2.2.2.2.2.2.1 (by decide) (fun c666 => ?_) (fun c666 => ?_)
  · replace hf := (if_pos c666).symm.trans hf
    refine g_iconst (pc := 593) (0 : Int32) dd_QuotaLawsLaw_law_576.2.2.2.2.2.2.2.2.2.2.2.2.2.1 (by decide) ?_
    refine g_lv [0, 1, 2, 3] rfl ?_
    exact t_QuotaLawsLaw_law_594 rec18 hrec18 _ _ _ _ _ _ _ _ _ _  hf
  · replace hf := (if_neg c666).symm.trans hf
    refine g_iconst (pc := 589) (1 : Int32) dd_QuotaLawsLaw_law_576.2.2.2.2.2.2.2.2.2.2.2.1 (by decide) ?_
    refine g_goto (pc := 590) 594 dd_QuotaLawsLaw_law_576.2.2.2.2.2.2.2.2.2.2.2.2.1 (by decide) ?_
    refine g_lv [0, 1, 2, 3] rfl ?_
    exact t_QuotaLawsLaw_law_594 rec18 hrec18 _ _ _ _ _ _ _ _ _ _  hf
def f_QuotaLawsLaw_law_502 (sc : Nat × (Nat → Int32)) (rec18 : Nat → Nat → Int32 → mH → Option (Int32 × mH)) (b1 : Nat) (b2 : Nat) (b3 : Int32) (s0 : Nat) (s1 : Int32) (s2 : Int32) (h : mH) : Option (Int32 × mH) :=
  bd1 (kC h s0 8) fun _ =>
  bd2 (f_M_watch s0 s1 s2 h) fun x686 h684 =>
  f_QuotaLawsLaw_law_1342 sc rec18 b1 b2 b3 h684
set_option maxRecDepth 20000 in
theorem t_QuotaLawsLaw_law_502 {sc : Nat × (Nat → Int32)} (rec18 : Nat → Nat → Int32 → mH → Option (Int32 × mH)) (hrec18 : ∀ (b1 : Nat) (b2 : Nat) (b3 : Int32) (h : mH) (r : Int32) (h' : mH), rec18 b1 b2 b3 h = some (r, h') → G sc y_QuotaLawsLaw_law code 4 (some .boolean) 8 176 18 [(0, .ref 1300), (1, .ref b1), (2, .ref b2), (3, .int b3)] [] h (some (.int r)) h') (b1 : Nat) (b2 : Nat) (b3 : Int32) (s0 : Nat) (s1 : Int32) (s2 : Int32) (h : mH) (r : Int32) (h' : mH) (hf : f_QuotaLawsLaw_law_502 sc rec18 b1 b2 b3 s0 s1 s2 h = some (r, h')) : G sc y_QuotaLawsLaw_law code 4 (some .boolean) 8 176 502 [(0, .ref 1300), (1, .ref b1), (2, .ref b2), (3, .int b3)] [.int s2, .int s1, .ref s0] h (some (.int r)) h' := by
  unfold f_QuotaLawsLaw_law_502 at hf
  obtain ⟨u683, e682, hf⟩ := bd1_e hf
  obtain ⟨x686, h684, e685, hf⟩ := bd2_e hf
  refine g_callV (pc := 502) (ci := 8) [.int s1, .int s2] (site_of si_M_watch (by decide) (by decide)) wd_1200 wd_1201 wd_1202 dd_QuotaLawsLaw_law_484.2.2.2.2.2.2.2.2.2.2.2.2.2.2.1 rfl e682 (Nat.le_of_ble_eq_true rfl) (fun z => absurd z si_na_M_watch) (fun z => absurd z si_na_M_watch) (fun z => absurd z si_na_M_watch) (c_M_watch e685) rfl ?_
  refine g_st [.int x686] rfl ?_
  refine g_pop (pc := 505) dd_QuotaLawsLaw_law_484.2.2.2.2.2.2.2.2.2.2.2.2.2.2.2.1 rfl ?_
  refine g_goto (pc := 506) 1342 dd_QuotaLawsLaw_law_484.2.2.2.2.2.2.2.2.2.2.2.2.2.2.2.2.1 (by decide) ?_
  refine g_lv [0, 1, 2, 3] rfl ?_
  exact t_QuotaLawsLaw_law_1342 rec18 hrec18 _ _ _ _ _ _  hf
def f_QuotaLawsLaw_law_479 (sc : Nat × (Nat → Int32)) (rec18 : Nat → Nat → Int32 → mH → Option (Int32 × mH)) (b1 : Nat) (b2 : Nat) (b3 : Int32) (s0 : Nat) (s1 : Int32) (s2 : Int32) (h : mH) : Option (Int32 × mH) :=
  bd1 (kC h s0 0) fun _ =>
  bd2 (f_Q_watch s0 s1 s2 h) fun x676 h674 =>
  bd1 (sX sc (b3 + (1 : Int32))) fun x677 =>
  bd1 (sX sc (b3 + (2 : Int32))) fun x679 =>
  if x679 = 0 then
    f_QuotaLawsLaw_law_502 sc rec18 b1 b2 b3 b2 x677 (0 : Int32) h674
  else
    f_QuotaLawsLaw_law_502 sc rec18 b1 b2 b3 b2 x677 (1 : Int32) h674
set_option maxRecDepth 20000 in
theorem t_QuotaLawsLaw_law_479 {sc : Nat × (Nat → Int32)} (rec18 : Nat → Nat → Int32 → mH → Option (Int32 × mH)) (hrec18 : ∀ (b1 : Nat) (b2 : Nat) (b3 : Int32) (h : mH) (r : Int32) (h' : mH), rec18 b1 b2 b3 h = some (r, h') → G sc y_QuotaLawsLaw_law code 4 (some .boolean) 8 176 18 [(0, .ref 1300), (1, .ref b1), (2, .ref b2), (3, .int b3)] [] h (some (.int r)) h') (b1 : Nat) (b2 : Nat) (b3 : Int32) (s0 : Nat) (s1 : Int32) (s2 : Int32) (h : mH) (r : Int32) (h' : mH) (hf : f_QuotaLawsLaw_law_479 sc rec18 b1 b2 b3 s0 s1 s2 h = some (r, h')) : G sc y_QuotaLawsLaw_law code 4 (some .boolean) 8 176 479 [(0, .ref 1300), (1, .ref b1), (2, .ref b2), (3, .int b3)] [.int s2, .int s1, .ref s0] h (some (.int r)) h' := by
  unfold f_QuotaLawsLaw_law_479 at hf
  obtain ⟨u673, e672, hf⟩ := bd1_e hf
  obtain ⟨x676, h674, e675, hf⟩ := bd2_e hf
  refine g_callV (pc := 479) (ci := 0) [.int s1, .int s2] (site_of si_Q_watch (by decide) (by decide)) wd_584 wd_585 wd_586 dd_QuotaLawsLaw_law_450.2.2.2.2.2.2.2.2.2.2.2.2.2.2.2.2.2.2.2.2.2.1 rfl e672 (Nat.le_of_ble_eq_true rfl) (fun z => absurd z si_na_Q_watch) (fun z => absurd z si_na_Q_watch) (fun z => absurd z si_na_Q_watch) (c_Q_watch e675) rfl ?_
  refine g_st [.int x676] rfl ?_
  refine g_pop (pc := 482) dd_QuotaLawsLaw_law_450.2.2.2.2.2.2.2.2.2.2.2.2.2.2.2.2.2.2.2.2.2.2.1 rfl ?_
  refine g_aload_n (pc := 483) 2 dd_QuotaLawsLaw_law_450.2.2.2.2.2.2.2.2.2.2.2.2.2.2.2.2.2.2.2.2.2.2.2 rfl rfl ?_
  refine g_aload_n (pc := 484) 0 dd_QuotaLawsLaw_law_484.1 rfl rfl ?_
  refine g_iload_n (pc := 485) 3 dd_QuotaLawsLaw_law_484.2.1 rfl rfl ?_
  refine g_iconst (pc := 486) (1 : Int32) dd_QuotaLawsLaw_law_484.2.2.1 (by decide) ?_
  refine g_iadd (pc := 487) dd_QuotaLawsLaw_law_484.2.2.2.1 ?_
  obtain ⟨x677, e678, hf⟩ := bd1_e hf
  refine g_sld (pc := 488) dd_QuotaLawsLaw_law_484.2.2.2.2.1 e678 ?_
  refine g_aload_n (pc := 489) 0 dd_QuotaLawsLaw_law_484.2.2.2.2.2.1 rfl rfl ?_
  refine g_iload_n (pc := 490) 3 dd_QuotaLawsLaw_law_484.2.2.2.2.2.2.1 rfl rfl ?_
  refine g_iconst (pc := 491) (2 : Int32) dd_QuotaLawsLaw_law_484.2.2.2.2.2.2.2.1 (by decide) ?_
  refine g_iadd (pc := 492) dd_QuotaLawsLaw_law_484.2.2.2.2.2.2.2.2.1 ?_
  obtain ⟨x679, e680, hf⟩ := bd1_e hf
  refine g_sld (pc := 493) dd_QuotaLawsLaw_law_484.2.2.2.2.2.2.2.2.2.1 e680 ?_
  refine g_ifeq (pc := 494) 501 dd_QuotaLawsLaw_law_484.2.2.2.2.2.2.2.2.2.2.1 (by decide) (fun c681 => ?_) (fun c681 => ?_)
  · replace hf := (if_pos c681).symm.trans hf
    refine g_iconst (pc := 501) (0 : Int32) dd_QuotaLawsLaw_law_484.2.2.2.2.2.2.2.2.2.2.2.2.2.1 (by decide) ?_
    refine g_lv [0, 1, 2, 3] rfl ?_
    exact t_QuotaLawsLaw_law_502 rec18 hrec18 _ _ _ _ _ _ _ _ _  hf
  · replace hf := (if_neg c681).symm.trans hf
    refine g_iconst (pc := 497) (1 : Int32) dd_QuotaLawsLaw_law_484.2.2.2.2.2.2.2.2.2.2.2.1 (by decide) ?_
    refine g_goto (pc := 498) 502 dd_QuotaLawsLaw_law_484.2.2.2.2.2.2.2.2.2.2.2.2.1 (by decide) ?_
    refine g_lv [0, 1, 2, 3] rfl ?_
    exact t_QuotaLawsLaw_law_502 rec18 hrec18 _ _ _ _ _ _ _ _ _  hf
def f_QuotaLawsLaw_law_18b (sc : Nat × (Nat → Int32)) (rec18 : Nat → Nat → Int32 → mH → Option (Int32 × mH)) (b1 : Nat) (b2 : Nat) (b3 : Int32) (h : mH) : Option (Int32 × mH) :=
  if ((Int32.ofNat sc.1) - (5 : Int32)) < b3 then
    some ((1 : Int32), h)
  else
    bd1 (sX sc b3) fun x19 =>
    if (x19 &&& (63 : Int32)) = (0 : Int32) then
      bd1 (sX sc (b3 + (1 : Int32))) fun x22 =>
      bd1 (kC h b1 0) fun _ =>
      bd2 (f_Q_feed b1 x22 h) fun x28 h26 =>
      bd1 (sX sc (b3 + (1 : Int32))) fun x29 =>
      bd1 (kC h26 b2 8) fun _ =>
      bd2 (f_M_feed b2 x29 h26) fun x35 h33 =>
      f_QuotaLawsLaw_law_1342 sc rec18 b1 b2 b3 h33
    else
    if (x19 &&& (63 : Int32)) = (1 : Int32) then
      bd1 (sX sc (b3 + (1 : Int32))) fun x37 =>
      bd1 (kC h b1 0) fun _ =>
      bd2 (f_Q_end b1 x37 h) fun x43 h41 =>
      bd1 (sX sc (b3 + (1 : Int32))) fun x44 =>
      bd1 (kC h41 b2 8) fun _ =>
      bd2 (f_M_end b2 x44 h41) fun x50 h48 =>
      f_QuotaLawsLaw_law_1342 sc rec18 b1 b2 b3 h48
    else
    if (x19 &&& (63 : Int32)) = (2 : Int32) then
      bd1 (kC h b1 0) fun _ =>
      bd2 (f_Q_text b1 h) fun x56 h54 =>
      bd1 (kC h54 b2 8) fun _ =>
      bd2 (f_M_text b2 h54) fun x61 h59 =>
      f_QuotaLawsLaw_law_1342 sc rec18 b1 b2 b3 h59
    else
    if (x19 &&& (63 : Int32)) = (3 : Int32) then
      bd1 (kC h b1 0) fun _ =>
      bd2 (f_Q_fault b1 h) fun x67 h65 =>
      bd1 (kC h65 b2 8) fun _ =>
      bd2 (f_M_fault b2 h65) fun x72 h70 =>
      f_QuotaLawsLaw_law_1342 sc rec18 b1 b2 b3 h70
    else
    if (x19 &&& (63 : Int32)) = (4 : Int32) then
      bd1 (sX sc (b3 + (1 : Int32))) fun x74 =>
      bd1 (kC h b1 0) fun _ =>
      bd2 (f_Q_rule b1 x74 h) fun x80 h78 =>
      bd1 (sX sc (b3 + (1 : Int32))) fun x81 =>
      bd1 (kC h78 b2 8) fun _ =>
      bd2 (f_M_rule b2 x81 h78) fun x87 h85 =>
      f_QuotaLawsLaw_law_1342 sc rec18 b1 b2 b3 h85
    else
    if (x19 &&& (63 : Int32)) = (5 : Int32) then
      bd1 (sX sc (b3 + (1 : Int32))) fun x89 =>
      bd1 (sX sc (b3 + (2 : Int32))) fun x91 =>
      bd1 (kC h b1 0) fun _ =>
      bd2 (f_Q_law b1 x89 x91 h) fun x97 h95 =>
      bd1 (sX sc (b3 + (1 : Int32))) fun x98 =>
      bd1 (sX sc (b3 + (2 : Int32))) fun x100 =>
      bd1 (kC h95 b2 8) fun _ =>
      bd2 (f_M_law b2 x98 x100 h95) fun x106 h104 =>
      f_QuotaLawsLaw_law_1342 sc rec18 b1 b2 b3 h104
    else
    if (x19 &&& (63 : Int32)) = (6 : Int32) then
      bd1 (sX sc (b3 + (1 : Int32))) fun x108 =>
      bd1 (sX sc (b3 + (2 : Int32))) fun x110 =>
      bd1 (kC h b1 0) fun _ =>
      bd2 (f_Q_one b1 x108 x110 h) fun x116 h114 =>
      bd1 (sX sc (b3 + (1 : Int32))) fun x117 =>
      bd1 (sX sc (b3 + (2 : Int32))) fun x119 =>
      bd1 (kC h114 b2 8) fun _ =>
      bd2 (f_M_one b2 x117 x119 h114) fun x125 h123 =>
      f_QuotaLawsLaw_law_1342 sc rec18 b1 b2 b3 h123
    else
    if (x19 &&& (63 : Int32)) = (7 : Int32) then
      bd1 (sX sc (b3 + (1 : Int32))) fun x127 =>
      bd1 (sX sc (b3 + (2 : Int32))) fun x129 =>
      bd1 (kC h b1 0) fun _ =>
      bd2 (f_Q_broken b1 x127 x129 h) fun x135 h133 =>
      bd1 (sX sc (b3 + (1 : Int32))) fun x136 =>
      bd1 (sX sc (b3 + (2 : Int32))) fun x138 =>
      bd1 (kC h133 b2 8) fun _ =>
      bd2 (f_M_broken b2 x136 x138 h133) fun x144 h142 =>
      f_QuotaLawsLaw_law_1342 sc rec18 b1 b2 b3 h142
    else
    if (x19 &&& (63 : Int32)) = (8 : Int32) then
      bd1 (sX sc (b3 + (1 : Int32))) fun x146 =>
      bd1 (sX sc (b3 + (2 : Int32))) fun x148 =>
      bd1 (kC h b1 0) fun _ =>
      bd2 (f_Q_quota b1 x146 x148 h) fun x154 h152 =>
      bd1 (sX sc (b3 + (1 : Int32))) fun x155 =>
      bd1 (sX sc (b3 + (2 : Int32))) fun x157 =>
      bd1 (kC h152 b2 8) fun _ =>
      bd2 (f_M_quota b2 x155 x157 h152) fun x163 h161 =>
      f_QuotaLawsLaw_law_1342 sc rec18 b1 b2 b3 h161
    else
    if (x19 &&& (63 : Int32)) = (9 : Int32) then
      bd1 (sX sc (b3 + (1 : Int32))) fun x165 =>
      bd1 (sX sc (b3 + (2 : Int32))) fun x167 =>
      bd1 (kC h b1 0) fun _ =>
      bd2 (f_Q_carry b1 x165 x167 h) fun x173 h171 =>
      bd1 (sX sc (b3 + (1 : Int32))) fun x174 =>
      bd1 (sX sc (b3 + (2 : Int32))) fun x176 =>
      bd1 (kC h171 b2 8) fun _ =>
      bd2 (f_M_carry b2 x174 x176 h171) fun x182 h180 =>
      f_QuotaLawsLaw_law_1342 sc rec18 b1 b2 b3 h180
    else
    if (x19 &&& (63 : Int32)) = (10 : Int32) then
      bd1 (sX sc (b3 + (1 : Int32))) fun x184 =>
      bd1 (sX sc (b3 + (2 : Int32))) fun x186 =>
      if x186 = 0 then
        f_QuotaLawsLaw_law_479 sc rec18 b1 b2 b3 b1 x184 (0 : Int32) h
      else
        f_QuotaLawsLaw_law_479 sc rec18 b1 b2 b3 b1 x184 (1 : Int32) h
    else
    if (x19 &&& (63 : Int32)) = (11 : Int32) then
      bd1 (sX sc (b3 + (1 : Int32))) fun x190 =>
      bd1 (sX sc (b3 + (2 : Int32))) fun x192 =>
      bd1 (kC h b1 0) fun _ =>
      bd2 (f_Q_time b1 x190 x192 h) fun x198 h196 =>
      bd1 (sX sc (b3 + (1 : Int32))) fun x199 =>
      bd1 (sX sc (b3 + (2 : Int32))) fun x201 =>
      bd1 (kC h196 b2 8) fun _ =>
      bd2 (f_M_time b2 x199 x201 h196) fun x207 h205 =>
      f_QuotaLawsLaw_law_1342 sc rec18 b1 b2 b3 h205
    else
    if (x19 &&& (63 : Int32)) = (12 : Int32) then
      bd1 (sX sc (b3 + (1 : Int32))) fun x209 =>
      bd1 (sX sc (b3 + (2 : Int32))) fun x211 =>
      bd1 (sX sc (b3 + (3 : Int32))) fun x213 =>
      if x213 = 0 then
        f_QuotaLawsLaw_law_566 sc rec18 b1 b2 b3 b1 x209 x211 (0 : Int32) h
      else
        f_QuotaLawsLaw_law_566 sc rec18 b1 b2 b3 b1 x209 x211 (1 : Int32) h
    else
    if (x19 &&& (63 : Int32)) = (13 : Int32) then
      bd1 (sX sc (b3 + (1 : Int32))) fun x217 =>
      bd1 (sX sc (b3 + (2 : Int32))) fun x219 =>
      bd1 (sX sc (b3 + (3 : Int32))) fun x221 =>
      if x221 = 0 then
        f_QuotaLawsLaw_law_625 sc rec18 b1 b2 b3 b1 x217 x219 (0 : Int32) h
      else
        f_QuotaLawsLaw_law_625 sc rec18 b1 b2 b3 b1 x217 x219 (1 : Int32) h
    else
    if (x19 &&& (63 : Int32)) = (14 : Int32) then
      bd1 (sX sc (b3 + (1 : Int32))) fun x225 =>
      bd1 (sX sc (b3 + (2 : Int32))) fun x227 =>
      bd1 (kC h b1 0) fun _ =>
      bd2 (f_Q_fund b1 x225 x227 h) fun x233 h231 =>
      bd1 (sX sc (b3 + (1 : Int32))) fun x234 =>
      bd1 (sX sc (b3 + (2 : Int32))) fun x236 =>
      bd1 (kC h231 b2 8) fun _ =>
      bd2 (f_M_fund b2 x234 x236 h231) fun x242 h240 =>
      f_QuotaLawsLaw_law_1342 sc rec18 b1 b2 b3 h240
    else
    if (x19 &&& (63 : Int32)) = (15 : Int32) then
      bd1 (sX sc (b3 + (1 : Int32))) fun x244 =>
      bd1 (kC h b1 0) fun _ =>
      bd2 (f_Q_revive b1 x244 h) fun x250 h248 =>
      bd1 (sX sc (b3 + (1 : Int32))) fun x251 =>
      bd1 (kC h248 b2 8) fun _ =>
      bd2 (f_M_revive b2 x251 h248) fun x257 h255 =>
      f_QuotaLawsLaw_law_1342 sc rec18 b1 b2 b3 h255
    else
    if (x19 &&& (63 : Int32)) = (16 : Int32) then
      bd1 (sX sc (b3 + (1 : Int32))) fun x259 =>
      bd1 (sX sc (b3 + (2 : Int32))) fun x261 =>
      bd1 (kC h b1 0) fun _ =>
      bd2 (f_Q_breaks b1 x259 x261 h) fun x267 h265 =>
      bd1 (sX sc (b3 + (1 : Int32))) fun x268 =>
      bd1 (sX sc (b3 + (2 : Int32))) fun x270 =>
      bd1 (kC h265 b2 8) fun _ =>
      bd2 (f_M_breaks b2 x268 x270 h265) fun x276 h274 =>
      f_QuotaLawsLaw_law_1342 sc rec18 b1 b2 b3 h274
    else
    if (x19 &&& (63 : Int32)) = (17 : Int32) then
      bd1 (kC h b1 0) fun _ =>
      bd2 (f_Q_year b1 h) fun x282 h280 =>
      bd1 (kC h280 b2 8) fun _ =>
      bd2 (f_M_year b2 h280) fun x287 h285 =>
      f_QuotaLawsLaw_law_1342 sc rec18 b1 b2 b3 h285
    else
    if (x19 &&& (63 : Int32)) = (18 : Int32) then
      bd1 (kC h b1 0) fun _ =>
      bd2 (f_Q_falls b1 h) fun x293 h291 =>
      bd1 (kC h291 b2 8) fun _ =>
      bd2 (f_M_falls b2 h291) fun x298 h296 =>
      f_QuotaLawsLaw_law_1342 sc rec18 b1 b2 b3 h296
    else
    if (x19 &&& (63 : Int32)) = (19 : Int32) then
      bd1 (sX sc (b3 + (1 : Int32))) fun x300 =>
      bd1 (kC h b1 0) fun _ =>
      bd2 (f_Q_most b1 x300 h) fun x306 h304 =>
      bd1 (sX sc (b3 + (1 : Int32))) fun x307 =>
      bd1 (kC h304 b2 8) fun _ =>
      bd2 (f_M_most b2 x307 h304) fun x313 h311 =>
      f_QuotaLawsLaw_law_1342 sc rec18 b1 b2 b3 h311
    else
    if (x19 &&& (63 : Int32)) = (20 : Int32) then
      bd1 (sX sc (b3 + (1 : Int32))) fun x315 =>
      bd1 (kC h b1 0) fun _ =>
      bd2 (f_Q_rota b1 x315 h) fun x321 h319 =>
      bd1 (sX sc (b3 + (1 : Int32))) fun x322 =>
      bd1 (kC h319 b2 8) fun _ =>
      bd2 (f_M_rota b2 x322 h319) fun x328 h326 =>
      f_QuotaLawsLaw_law_1342 sc rec18 b1 b2 b3 h326
    else
    if (x19 &&& (63 : Int32)) = (21 : Int32) then
      bd1 (sX sc (b3 + (1 : Int32))) fun x330 =>
      bd1 (kC h b1 0) fun _ =>
      bd2 (f_Q_more b1 x330 h) fun x336 h334 =>
      bd1 (sX sc (b3 + (1 : Int32))) fun x337 =>
      bd1 (kC h334 b2 8) fun _ =>
      bd2 (f_M_more b2 x337 h334) fun x343 h341 =>
      f_QuotaLawsLaw_law_1342 sc rec18 b1 b2 b3 h341
    else
    if (x19 &&& (63 : Int32)) = (22 : Int32) then
      bd1 (sX sc (b3 + (1 : Int32))) fun x345 =>
      bd1 (kC h b1 0) fun _ =>
      bd2 (f_Q_together b1 x345 h) fun x351 h349 =>
      bd1 (sX sc (b3 + (1 : Int32))) fun x352 =>
      bd1 (kC h349 b2 8) fun _ =>
      bd2 (f_M_together b2 x352 h349) fun x358 h356 =>
      f_QuotaLawsLaw_law_1342 sc rec18 b1 b2 b3 h356
    else
    if (x19 &&& (63 : Int32)) = (23 : Int32) then
      bd1 (sX sc (b3 + (1 : Int32))) fun x360 =>
      bd1 (sX sc (b3 + (2 : Int32))) fun x362 =>
      bd1 (kC h b1 0) fun _ =>
      bd2 (f_Q_kill b1 x360 x362 h) fun x368 h366 =>
      bd1 (sX sc (b3 + (1 : Int32))) fun x369 =>
      bd1 (sX sc (b3 + (2 : Int32))) fun x371 =>
      bd1 (kC h366 b2 8) fun _ =>
      bd2 (f_M_kill b2 x369 x371 h366) fun x377 h375 =>
      f_QuotaLawsLaw_law_1342 sc rec18 b1 b2 b3 h375
    else
    if (x19 &&& (63 : Int32)) = (24 : Int32) then
      bd1 (sX sc (b3 + (1 : Int32))) fun x379 =>
      bd1 (kC h b1 0) fun _ =>
      bd2 (f_Q_selfish b1 x379 h) fun x385 h383 =>
      bd1 (sX sc (b3 + (1 : Int32))) fun x386 =>
      bd1 (kC h383 b2 8) fun _ =>
      bd2 (f_M_selfish b2 x386 h383) fun x392 h390 =>
      f_QuotaLawsLaw_law_1342 sc rec18 b1 b2 b3 h390
    else
    if (x19 &&& (63 : Int32)) = (25 : Int32) then
      bd1 (sX sc (b3 + (1 : Int32))) fun x394 =>
      bd1 (sX sc (b3 + (2 : Int32))) fun x396 =>
      bd1 (kC h b1 0) fun _ =>
      bd2 (f_Q_luck b1 x394 x396 h) fun x402 h400 =>
      bd1 (sX sc (b3 + (1 : Int32))) fun x403 =>
      bd1 (sX sc (b3 + (2 : Int32))) fun x405 =>
      bd1 (kC h400 b2 8) fun _ =>
      bd2 (f_M_luck b2 x403 x405 h400) fun x411 h409 =>
      f_QuotaLawsLaw_law_1342 sc rec18 b1 b2 b3 h409
    else
    if (x19 &&& (63 : Int32)) = (26 : Int32) then
      bd1 (sX sc (b3 + (1 : Int32))) fun x413 =>
      bd1 (sX sc (b3 + (2 : Int32))) fun x415 =>
      bd1 (sX sc (b3 + (3 : Int32))) fun x417 =>
      bd1 (kC h b1 0) fun _ =>
      bd2 (f_Q_see b1 x413 x415 x417 h) fun x423 h421 =>
      bd1 (sX sc (b3 + (1 : Int32))) fun x424 =>
      bd1 (sX sc (b3 + (2 : Int32))) fun x426 =>
      bd1 (sX sc (b3 + (3 : Int32))) fun x428 =>
      bd1 (kC h421 b2 8) fun _ =>
      bd2 (f_M_see b2 x424 x426 x428 h421) fun x434 h432 =>
      f_QuotaLawsLaw_law_1342 sc rec18 b1 b2 b3 h432
    else
    if (x19 &&& (63 : Int32)) = (27 : Int32) then
      bd1 (sX sc (b3 + (1 : Int32))) fun x436 =>
      bd1 (kC h b1 0) fun _ =>
      bd2 (f_Q_forget b1 x436 h) fun x442 h440 =>
      bd1 (sX sc (b3 + (1 : Int32))) fun x443 =>
      bd1 (kC h440 b2 8) fun _ =>
      bd2 (f_M_forget b2 x443 h440) fun x449 h447 =>
      f_QuotaLawsLaw_law_1342 sc rec18 b1 b2 b3 h447
    else
    if (x19 &&& (63 : Int32)) = (28 : Int32) then
      bd1 (kC h b1 0) fun _ =>
      bd2 (f_Q_books b1 h) fun x455 h453 =>
      bd1 (kC h453 b2 8) fun _ =>
      bd2 (f_M_books b2 h453) fun x460 h458 =>
      f_QuotaLawsLaw_law_1342 sc rec18 b1 b2 b3 h458
    else
    if (x19 &&& (63 : Int32)) = (29 : Int32) then
      bd1 (sX sc (b3 + (1 : Int32))) fun x462 =>
      bd1 (sX sc (b3 + (2 : Int32))) fun x464 =>
      bd1 (sX sc (b3 + (3 : Int32))) fun x466 =>
      bd1 (kC h b1 0) fun _ =>
      bd2 (f_Q_entry b1 x462 x464 x466 h) fun x472 h470 =>
      bd1 (sX sc (b3 + (1 : Int32))) fun x473 =>
      bd1 (sX sc (b3 + (2 : Int32))) fun x475 =>
      bd1 (sX sc (b3 + (3 : Int32))) fun x477 =>
      bd1 (kC h470 b2 8) fun _ =>
      bd2 (f_M_entry b2 x473 x475 x477 h470) fun x483 h481 =>
      f_QuotaLawsLaw_law_1342 sc rec18 b1 b2 b3 h481
    else
    if (x19 &&& (63 : Int32)) = (30 : Int32) then
      bd1 (sX sc (b3 + (1 : Int32))) fun x485 =>
      bd1 (sX sc (b3 + (2 : Int32))) fun x487 =>
      bd1 (sX sc (b3 + (3 : Int32))) fun x489 =>
      bd1 (kC h b1 0) fun _ =>
      bd2 (f_Q_wild b1 x485 x487 x489 h) fun x495 h493 =>
      bd1 (sX sc (b3 + (1 : Int32))) fun x496 =>
      bd1 (sX sc (b3 + (2 : Int32))) fun x498 =>
      bd1 (sX sc (b3 + (3 : Int32))) fun x500 =>
      bd1 (kC h493 b2 8) fun _ =>
      bd2 (f_M_wild b2 x496 x498 x500 h493) fun x506 h504 =>
      f_QuotaLawsLaw_law_1342 sc rec18 b1 b2 b3 h504
    else
    if (x19 &&& (63 : Int32)) = (31 : Int32) then
      bd1 (sX sc (b3 + (1 : Int32))) fun x508 =>
      bd1 (kC h b1 0) fun _ =>
      bd2 (f_Q_keep b1 x508 h) fun x514 h512 =>
      bd1 (sX sc (b3 + (1 : Int32))) fun x515 =>
      bd1 (kC h512 b2 8) fun _ =>
      bd2 (f_M_keep b2 x515 h512) fun x521 h519 =>
      f_QuotaLawsLaw_law_1342 sc rec18 b1 b2 b3 h519
    else
    if (x19 &&& (63 : Int32)) = (32 : Int32) then
      bd1 (sX sc (b3 + (1 : Int32))) fun x523 =>
      bd1 (kC h b1 0) fun _ =>
      bd2 (f_Q_back b1 x523 h) fun x529 h527 =>
      bd1 (sX sc (b3 + (1 : Int32))) fun x530 =>
      bd1 (kC h527 b2 8) fun _ =>
      bd2 (f_M_back b2 x530 h527) fun x536 h534 =>
      f_QuotaLawsLaw_law_1342 sc rec18 b1 b2 b3 h534
    else
    if (x19 &&& (63 : Int32)) = (33 : Int32) then
      bd1 (sX sc (b3 + (1 : Int32))) fun x538 =>
      bd1 (sX sc (b3 + (2 : Int32))) fun x540 =>
      bd1 (sX sc (b3 + (3 : Int32))) fun x542 =>
      bd1 (kC h b1 0) fun _ =>
      bd2 (f_Q_sheet b1 x538 x540 x542 h) fun x548 h546 =>
      bd1 (sX sc (b3 + (1 : Int32))) fun x549 =>
      bd1 (sX sc (b3 + (2 : Int32))) fun x551 =>
      bd1 (sX sc (b3 + (3 : Int32))) fun x553 =>
      bd1 (kC h546 b2 8) fun _ =>
      bd2 (f_M_sheet b2 x549 x551 x553 h546) fun x559 h557 =>
      f_QuotaLawsLaw_law_1342 sc rec18 b1 b2 b3 h557
    else
    if (x19 &&& (63 : Int32)) = (34 : Int32) then
      bd1 (sX sc (b3 + (1 : Int32))) fun x561 =>
      bd1 (sX sc (b3 + (2 : Int32))) fun x563 =>
      bd1 (sX sc (b3 + (3 : Int32))) fun x565 =>
      bd1 (kC h b1 0) fun _ =>
      bd2 (f_Q_lay b1 x561 x563 x565 h) fun x571 h569 =>
      bd1 (sX sc (b3 + (1 : Int32))) fun x572 =>
      bd1 (sX sc (b3 + (2 : Int32))) fun x574 =>
      bd1 (sX sc (b3 + (3 : Int32))) fun x576 =>
      bd1 (kC h569 b2 8) fun _ =>
      bd2 (f_M_lay b2 x572 x574 x576 h569) fun x582 h580 =>
      f_QuotaLawsLaw_law_1342 sc rec18 b1 b2 b3 h580
    else
    if (x19 &&& (63 : Int32)) = (35 : Int32) then
      bd1 (sX sc (b3 + (1 : Int32))) fun x584 =>
      bd1 (sX sc (b3 + (2 : Int32))) fun x586 =>
      bd1 (sX sc (b3 + (3 : Int32))) fun x588 =>
      bd1 (sX sc (b3 + (4 : Int32))) fun x590 =>
      bd1 (kC h b1 0) fun _ =>
      bd2 (f_Q_read b1 x584 x586 x588 x590 h) fun x596 h594 =>
      bd1 (sX sc (b3 + (1 : Int32))) fun x597 =>
      bd1 (sX sc (b3 + (2 : Int32))) fun x599 =>
      bd1 (sX sc (b3 + (3 : Int32))) fun x601 =>
      bd1 (sX sc (b3 + (4 : Int32))) fun x603 =>
      bd1 (kC h594 b2 8) fun _ =>
      bd2 (f_M_read b2 x597 x599 x601 x603 h594) fun x609 h607 =>
      f_QuotaLawsLaw_law_1342 sc rec18 b1 b2 b3 h607
    else
    if (x19 &&& (63 : Int32)) = (36 : Int32) then
      bd1 (kC h b1 0) fun _ =>
      bd2 (f_Q_torn b1 h) fun x615 h613 =>
      bd1 (kC h613 b2 8) fun _ =>
      bd2 (f_M_torn b2 h613) fun x620 h618 =>
      f_QuotaLawsLaw_law_1342 sc rec18 b1 b2 b3 h618
    else
    if (x19 &&& (63 : Int32)) = (37 : Int32) then
      bd1 (sX sc (b3 + (1 : Int32))) fun x622 =>
      bd1 (kC h b1 0) fun _ =>
      bd2 (f_Q_count b1 x622 h) fun x628 h626 =>
      bd1 (sX sc (b3 + (1 : Int32))) fun x629 =>
      bd1 (kC h626 b2 8) fun _ =>
      bd2 (f_M_count b2 x629 h626) fun x635 h633 =>
      if x628 = x635 then
        f_QuotaLawsLaw_law_1342 sc rec18 b1 b2 b3 h633
      else
        some ((0 : Int32), h633)
    else
    f_QuotaLawsLaw_law_1342 sc rec18 b1 b2 b3 h
set_option maxRecDepth 20000 in
theorem t_QuotaLawsLaw_law_18b {sc : Nat × (Nat → Int32)} (rec18 : Nat → Nat → Int32 → mH → Option (Int32 × mH)) (hrec18 : ∀ (b1 : Nat) (b2 : Nat) (b3 : Int32) (h : mH) (r : Int32) (h' : mH), rec18 b1 b2 b3 h = some (r, h') → G sc y_QuotaLawsLaw_law code 4 (some .boolean) 8 176 18 [(0, .ref 1300), (1, .ref b1), (2, .ref b2), (3, .int b3)] [] h (some (.int r)) h') (b1 : Nat) (b2 : Nat) (b3 : Int32) (h : mH) (r : Int32) (h' : mH) (hf : f_QuotaLawsLaw_law_18b sc rec18 b1 b2 b3 h = some (r, h')) : G sc y_QuotaLawsLaw_law code 4 (some .boolean) 8 176 18 [(0, .ref 1300), (1, .ref b1), (2, .ref b2), (3, .int b3)] [] h (some (.int r)) h' := by
  unfold f_QuotaLawsLaw_law_18b at hf
  refine g_iload_n (pc := 18) 3 dd_QuotaLawsLaw_law_0.2.2.2.2.2.2.2.2.2.2.1 rfl rfl ?_
  refine g_aload_n (pc := 19) 0 dd_QuotaLawsLaw_law_0.2.2.2.2.2.2.2.2.2.2.2.1 rfl rfl ?_
  refine g_slen (pc := 20) dd_QuotaLawsLaw_law_0.2.2.2.2.2.2.2.2.2.2.2.2.1 ?_
  refine g_iconst (pc := 21) (5 : Int32) dd_QuotaLawsLaw_law_0.2.2.2.2.2.2.2.2.2.2.2.2.2.1 (by decide) ?_
  refine g_isub (pc := 22) dd_QuotaLawsLaw_law_0.2.2.2.2.2.2.2.2.2.2.2.2.2.2.1 ?_
  refine g_icmpgt (pc := 23) 1348 dd_QuotaLawsLaw_law_0.2.2.2.2.2.2.2.2.2.2.2.2.2.2.2.1 (by decide) (fun c637 => ?_) (fun c637 => ?_)
  · replace hf := (if_pos c637).symm.trans hf
    refine g_iconst (pc := 1348) (1 : Int32) dd_QuotaLawsLaw_law_1342.2.2.1 (by decide) ?_
    obtain ⟨rfl, rfl⟩ := ret2 hf
    exact g_zret (pc := 1349) rfl rfl dd_QuotaLawsLaw_law_1342.2.2.2
  · replace hf := (if_neg c637).symm.trans hf
    refine g_aload_n (pc := 26) 0 dd_QuotaLawsLaw_law_0.2.2.2.2.2.2.2.2.2.2.2.2.2.2.2.2.1 rfl rfl ?_
    refine g_iload_n (pc := 27) 3 dd_QuotaLawsLaw_law_0.2.2.2.2.2.2.2.2.2.2.2.2.2.2.2.2.2.1 rfl rfl ?_
    obtain ⟨x19, e20, hf⟩ := bd1_e hf
    refine g_sld (pc := 28) dd_QuotaLawsLaw_law_0.2.2.2.2.2.2.2.2.2.2.2.2.2.2.2.2.2.2.1 e20 ?_
    refine g_bipush (pc := 29) (63 : Int32) dd_QuotaLawsLaw_law_0.2.2.2.2.2.2.2.2.2.2.2.2.2.2.2.2.2.2.2.1 (by decide) ?_
    refine g_iand (pc := 31) dd_QuotaLawsLaw_law_0.2.2.2.2.2.2.2.2.2.2.2.2.2.2.2.2.2.2.2.2.1 ?_
    by_cases c21 : (x19 &&& (63 : Int32)) = (0 : Int32)
    · replace hf := (if_pos c21).symm.trans hf
      refine g_tabIn (pc := 32) 200 (0 : Int32) dd_QuotaLawsLaw_law_0.2.2.2.2.2.2.2.2.2.2.2.2.2.2.2.2.2.2.2.2.2.1 c21 (by decide) (by decide) rfl (by decide) ?_
      refine g_aload_n (pc := 200) 1 dd_QuotaLawsLaw_law_0.2.2.2.2.2.2.2.2.2.2.2.2.2.2.2.2.2.2.2.2.2.2.1 rfl rfl ?_
      refine g_aload_n (pc := 201) 0 dd_QuotaLawsLaw_law_0.2.2.2.2.2.2.2.2.2.2.2.2.2.2.2.2.2.2.2.2.2.2.2 rfl rfl ?_
      refine g_iload_n (pc := 202) 3 dd_QuotaLawsLaw_law_202.1 rfl rfl ?_
      refine g_iconst (pc := 203) (1 : Int32) dd_QuotaLawsLaw_law_202.2.1 (by decide) ?_
      refine g_iadd (pc := 204) dd_QuotaLawsLaw_law_202.2.2.1 ?_
      obtain ⟨x22, e23, hf⟩ := bd1_e hf
      refine g_sld (pc := 205) dd_QuotaLawsLaw_law_202.2.2.2.1 e23 ?_
      obtain ⟨u25, e24, hf⟩ := bd1_e hf
      obtain ⟨x28, h26, e27, hf⟩ := bd2_e hf
      refine g_callV (pc := 206) (ci := 0) [.int x22] (site_of si_Q_feed (by decide) (by decide)) wd_327 wd_328 wd_329 dd_QuotaLawsLaw_law_202.2.2.2.2.1 rfl e24 (Nat.le_of_ble_eq_true rfl) (fun z => absurd z si_na_Q_feed) (fun z => absurd z si_na_Q_feed) (fun z => absurd z si_na_Q_feed) (c_Q_feed e27) rfl ?_
      refine g_st [.int x28] rfl ?_
      refine g_pop (pc := 209) dd_QuotaLawsLaw_law_202.2.2.2.2.2.1 rfl ?_
      refine g_aload_n (pc := 210) 2 dd_QuotaLawsLaw_law_202.2.2.2.2.2.2.1 rfl rfl ?_
      refine g_aload_n (pc := 211) 0 dd_QuotaLawsLaw_law_202.2.2.2.2.2.2.2.1 rfl rfl ?_
      refine g_iload_n (pc := 212) 3 dd_QuotaLawsLaw_law_202.2.2.2.2.2.2.2.2.1 rfl rfl ?_
      refine g_iconst (pc := 213) (1 : Int32) dd_QuotaLawsLaw_law_202.2.2.2.2.2.2.2.2.2.1 (by decide) ?_
      refine g_iadd (pc := 214) dd_QuotaLawsLaw_law_202.2.2.2.2.2.2.2.2.2.2.1 ?_
      obtain ⟨x29, e30, hf⟩ := bd1_e hf
      refine g_sld (pc := 215) dd_QuotaLawsLaw_law_202.2.2.2.2.2.2.2.2.2.2.2.1 e30 ?_
      obtain ⟨u32, e31, hf⟩ := bd1_e hf
      obtain ⟨x35, h33, e34, hf⟩ := bd2_e hf
      refine g_callV (pc := 216) (ci := 8) [.int x29] (site_of si_M_feed (by decide) (by decide)) wd_1056 wd_1057 wd_1058 dd_QuotaLawsLaw_law_202.2.2.2.2.2.2.2.2.2.2.2.2.1 rfl e31 (Nat.le_of_ble_eq_true rfl) (fun z => absurd z si_na_M_feed) (fun z => absurd z si_na_M_feed) (fun z => absurd z si_na_M_feed) (c_M_feed e34) rfl ?_
      refine g_st [.int x35] rfl ?_
      refine g_pop (pc := 219) dd_QuotaLawsLaw_law_202.2.2.2.2.2.2.2.2.2.2.2.2.2.1 rfl ?_
      refine g_goto (pc := 220) 1342 dd_QuotaLawsLaw_law_202.2.2.2.2.2.2.2.2.2.2.2.2.2.2.1 (by decide) ?_
      refine g_lv [0, 1, 2, 3] rfl ?_
      exact t_QuotaLawsLaw_law_1342 rec18 hrec18 _ _ _ _ _ _  hf
    replace hf := (if_neg c21).symm.trans hf
    by_cases c36 : (x19 &&& (63 : Int32)) = (1 : Int32)
    · replace hf := (if_pos c36).symm.trans hf
      refine g_tabIn (pc := 32) 223 (1 : Int32) dd_QuotaLawsLaw_law_0.2.2.2.2.2.2.2.2.2.2.2.2.2.2.2.2.2.2.2.2.2.1 c36 (by decide) (by decide) rfl (by decide) ?_
      refine g_aload_n (pc := 223) 1 dd_QuotaLawsLaw_law_202.2.2.2.2.2.2.2.2.2.2.2.2.2.2.2.1 rfl rfl ?_
      refine g_aload_n (pc := 224) 0 dd_QuotaLawsLaw_law_202.2.2.2.2.2.2.2.2.2.2.2.2.2.2.2.2.1 rfl rfl ?_
      refine g_iload_n (pc := 225) 3 dd_QuotaLawsLaw_law_202.2.2.2.2.2.2.2.2.2.2.2.2.2.2.2.2.2.1 rfl rfl ?_
      refine g_iconst (pc := 226) (1 : Int32) dd_QuotaLawsLaw_law_202.2.2.2.2.2.2.2.2.2.2.2.2.2.2.2.2.2.2.1 (by decide) ?_
      refine g_iadd (pc := 227) dd_QuotaLawsLaw_law_202.2.2.2.2.2.2.2.2.2.2.2.2.2.2.2.2.2.2.2.1 ?_
      obtain ⟨x37, e38, hf⟩ := bd1_e hf
      refine g_sld (pc := 228) dd_QuotaLawsLaw_law_202.2.2.2.2.2.2.2.2.2.2.2.2.2.2.2.2.2.2.2.2.1 e38 ?_
      obtain ⟨u40, e39, hf⟩ := bd1_e hf
      obtain ⟨x43, h41, e42, hf⟩ := bd2_e hf
      refine g_callV (pc := 229) (ci := 0) [.int x37] (site_of si_Q_end (by decide) (by decide)) wd_338 wd_339 wd_340 dd_QuotaLawsLaw_law_202.2.2.2.2.2.2.2.2.2.2.2.2.2.2.2.2.2.2.2.2.2.1 rfl e39 (Nat.le_of_ble_eq_true rfl) (fun z => absurd z si_na_Q_end) (fun z => absurd z si_na_Q_end) (fun z => absurd z si_na_Q_end) (c_Q_end e42) rfl ?_
      refine g_st [.int x43] rfl ?_
      refine g_pop (pc := 232) dd_QuotaLawsLaw_law_202.2.2.2.2.2.2.2.2.2.2.2.2.2.2.2.2.2.2.2.2.2.2.1 rfl ?_
      refine g_aload_n (pc := 233) 2 dd_QuotaLawsLaw_law_202.2.2.2.2.2.2.2.2.2.2.2.2.2.2.2.2.2.2.2.2.2.2.2 rfl rfl ?_
      refine g_aload_n (pc := 234) 0 dd_QuotaLawsLaw_law_234.1 rfl rfl ?_
      refine g_iload_n (pc := 235) 3 dd_QuotaLawsLaw_law_234.2.1 rfl rfl ?_
      refine g_iconst (pc := 236) (1 : Int32) dd_QuotaLawsLaw_law_234.2.2.1 (by decide) ?_
      refine g_iadd (pc := 237) dd_QuotaLawsLaw_law_234.2.2.2.1 ?_
      obtain ⟨x44, e45, hf⟩ := bd1_e hf
      refine g_sld (pc := 238) dd_QuotaLawsLaw_law_234.2.2.2.2.1 e45 ?_
      obtain ⟨u47, e46, hf⟩ := bd1_e hf
      obtain ⟨x50, h48, e49, hf⟩ := bd2_e hf
      refine g_callV (pc := 239) (ci := 8) [.int x44] (site_of si_M_end (by decide) (by decide)) wd_1064 wd_1065 wd_1066 dd_QuotaLawsLaw_law_234.2.2.2.2.2.1 rfl e46 (Nat.le_of_ble_eq_true rfl) (fun z => absurd z si_na_M_end) (fun z => absurd z si_na_M_end) (fun z => absurd z si_na_M_end) (c_M_end e49) rfl ?_
      refine g_st [.int x50] rfl ?_
      refine g_pop (pc := 242) dd_QuotaLawsLaw_law_234.2.2.2.2.2.2.1 rfl ?_
      refine g_goto (pc := 243) 1342 dd_QuotaLawsLaw_law_234.2.2.2.2.2.2.2.1 (by decide) ?_
      refine g_lv [0, 1, 2, 3] rfl ?_
      exact t_QuotaLawsLaw_law_1342 rec18 hrec18 _ _ _ _ _ _  hf
    replace hf := (if_neg c36).symm.trans hf
    by_cases c51 : (x19 &&& (63 : Int32)) = (2 : Int32)
    · replace hf := (if_pos c51).symm.trans hf
      refine g_tabIn (pc := 32) 246 (2 : Int32) dd_QuotaLawsLaw_law_0.2.2.2.2.2.2.2.2.2.2.2.2.2.2.2.2.2.2.2.2.2.1 c51 (by decide) (by decide) rfl (by decide) ?_
      refine g_aload_n (pc := 246) 1 dd_QuotaLawsLaw_law_234.2.2.2.2.2.2.2.2.1 rfl rfl ?_
      obtain ⟨u53, e52, hf⟩ := bd1_e hf
      obtain ⟨x56, h54, e55, hf⟩ := bd2_e hf
      refine g_callV (pc := 247) (ci := 0) [] (site_of si_Q_text (by decide) (by decide)) wd_342 wd_343 wd_344 dd_QuotaLawsLaw_law_234.2.2.2.2.2.2.2.2.2.1 rfl e52 (Nat.le_of_ble_eq_true rfl) (fun z => absurd z si_na_Q_text) (fun z => absurd z si_na_Q_text) (fun z => absurd z si_na_Q_text) (c_Q_text e55) rfl ?_
      refine g_st [.int x56] rfl ?_
      refine g_pop (pc := 250) dd_QuotaLawsLaw_law_234.2.2.2.2.2.2.2.2.2.2.1 rfl ?_
      refine g_aload_n (pc := 251) 2 dd_QuotaLawsLaw_law_234.2.2.2.2.2.2.2.2.2.2.2.1 rfl rfl ?_
      obtain ⟨u58, e57, hf⟩ := bd1_e hf
      obtain ⟨x61, h59, e60, hf⟩ := bd2_e hf
      refine g_callV (pc := 252) (ci := 8) [] (site_of si_M_text (by decide) (by decide)) wd_1068 wd_1069 wd_1070 dd_QuotaLawsLaw_law_234.2.2.2.2.2.2.2.2.2.2.2.2.1 rfl e57 (Nat.le_of_ble_eq_true rfl) (fun z => absurd z si_na_M_text) (fun z => absurd z si_na_M_text) (fun z => absurd z si_na_M_text) (c_M_text e60) rfl ?_
      refine g_st [.int x61] rfl ?_
      refine g_pop (pc := 255) dd_QuotaLawsLaw_law_234.2.2.2.2.2.2.2.2.2.2.2.2.2.1 rfl ?_
      refine g_goto (pc := 256) 1342 dd_QuotaLawsLaw_law_234.2.2.2.2.2.2.2.2.2.2.2.2.2.2.1 (by decide) ?_
      refine g_lv [0, 1, 2, 3] rfl ?_
      exact t_QuotaLawsLaw_law_1342 rec18 hrec18 _ _ _ _ _ _  hf
    replace hf := (if_neg c51).symm.trans hf
    by_cases c62 : (x19 &&& (63 : Int32)) = (3 : Int32)
    · replace hf := (if_pos c62).symm.trans hf
      refine g_tabIn (pc := 32) 259 (3 : Int32) dd_QuotaLawsLaw_law_0.2.2.2.2.2.2.2.2.2.2.2.2.2.2.2.2.2.2.2.2.2.1 c62 (by decide) (by decide) rfl (by decide) ?_
      refine g_aload_n (pc := 259) 1 dd_QuotaLawsLaw_law_234.2.2.2.2.2.2.2.2.2.2.2.2.2.2.2.1 rfl rfl ?_
      obtain ⟨u64, e63, hf⟩ := bd1_e hf
      obtain ⟨x67, h65, e66, hf⟩ := bd2_e hf
      refine g_callV (pc := 260) (ci := 0) [] (site_of si_Q_fault (by decide) (by decide)) wd_507 wd_508 wd_509 dd_QuotaLawsLaw_law_234.2.2.2.2.2.2.2.2.2.2.2.2.2.2.2.2.1 rfl e63 (Nat.le_of_ble_eq_true rfl) (fun z => absurd z si_na_Q_fault) (fun z => absurd z si_na_Q_fault) (fun z => absurd z si_na_Q_fault) (c_Q_fault e66) rfl ?_
      refine g_st [.int x67] rfl ?_
      refine g_pop (pc := 263) dd_QuotaLawsLaw_law_234.2.2.2.2.2.2.2.2.2.2.2.2.2.2.2.2.2.1 rfl ?_
      refine g_aload_n (pc := 264) 2 dd_QuotaLawsLaw_law_234.2.2.2.2.2.2.2.2.2.2.2.2.2.2.2.2.2.2.1 rfl rfl ?_
      obtain ⟨u69, e68, hf⟩ := bd1_e hf
      obtain ⟨x72, h70, e71, hf⟩ := bd2_e hf
      refine g_callV (pc := 265) (ci := 8) [] (site_of si_M_fault (by decide) (by decide)) wd_1124 wd_1125 wd_1126 dd_QuotaLawsLaw_law_234.2.2.2.2.2.2.2.2.2.2.2.2.2.2.2.2.2.2.2.1 rfl e68 (Nat.le_of_ble_eq_true rfl) (fun z => absurd z si_na_M_fault) (fun z => absurd z si_na_M_fault) (fun z => absurd z si_na_M_fault) (c_M_fault e71) rfl ?_
      refine g_st [.int x72] rfl ?_
      refine g_pop (pc := 268) dd_QuotaLawsLaw_law_234.2.2.2.2.2.2.2.2.2.2.2.2.2.2.2.2.2.2.2.2.1 rfl ?_
      refine g_goto (pc := 269) 1342 dd_QuotaLawsLaw_law_234.2.2.2.2.2.2.2.2.2.2.2.2.2.2.2.2.2.2.2.2.2.1 (by decide) ?_
      refine g_lv [0, 1, 2, 3] rfl ?_
      exact t_QuotaLawsLaw_law_1342 rec18 hrec18 _ _ _ _ _ _  hf
    replace hf := (if_neg c62).symm.trans hf
    by_cases c73 : (x19 &&& (63 : Int32)) = (4 : Int32)
    · replace hf := (if_pos c73).symm.trans hf
      refine g_tabIn (pc := 32) 272 (4 : Int32) dd_QuotaLawsLaw_law_0.2.2.2.2.2.2.2.2.2.2.2.2.2.2.2.2.2.2.2.2.2.1 c73 (by decide) (by decide) rfl (by decide) ?_
      refine g_aload_n (pc := 272) 1 dd_QuotaLawsLaw_law_234.2.2.2.2.2.2.2.2.2.2.2.2.2.2.2.2.2.2.2.2.2.2.1 rfl rfl ?_
      refine g_aload_n (pc := 273) 0 dd_QuotaLawsLaw_law_234.2.2.2.2.2.2.2.2.2.2.2.2.2.2.2.2.2.2.2.2.2.2.2 rfl rfl ?_
      refine g_iload_n (pc := 274) 3 dd_QuotaLawsLaw_law_274.1 rfl rfl ?_
      refine g_iconst (pc := 275) (1 : Int32) dd_QuotaLawsLaw_law_274.2.1 (by decide) ?_
      refine g_iadd (pc := 276) dd_QuotaLawsLaw_law_274.2.2.1 ?_
      obtain ⟨x74, e75, hf⟩ := bd1_e hf
      refine g_sld (pc := 277) dd_QuotaLawsLaw_law_274.2.2.2.1 e75 ?_
      obtain ⟨u77, e76, hf⟩ := bd1_e hf
      obtain ⟨x80, h78, e79, hf⟩ := bd2_e hf
      refine g_callV (pc := 278) (ci := 0) [.int x74] (site_of si_Q_rule (by decide) (by decide)) wd_511 wd_512 wd_513 dd_QuotaLawsLaw_law_274.2.2.2.2.1 rfl e76 (Nat.le_of_ble_eq_true rfl) (fun z => absurd z si_na_Q_rule) (fun z => absurd z si_na_Q_rule) (fun z => absurd z si_na_Q_rule) (c_Q_rule e79) rfl ?_
      refine g_st [.int x80] rfl ?_
      refine g_pop (pc := 281) dd_QuotaLawsLaw_law_274.2.2.2.2.2.1 rfl ?_
      refine g_aload_n (pc := 282) 2 dd_QuotaLawsLaw_law_274.2.2.2.2.2.2.1 rfl rfl ?_
      refine g_aload_n (pc := 283) 0 dd_QuotaLawsLaw_law_274.2.2.2.2.2.2.2.1 rfl rfl ?_
      refine g_iload_n (pc := 284) 3 dd_QuotaLawsLaw_law_274.2.2.2.2.2.2.2.2.1 rfl rfl ?_
      refine g_iconst (pc := 285) (1 : Int32) dd_QuotaLawsLaw_law_274.2.2.2.2.2.2.2.2.2.1 (by decide) ?_
      refine g_iadd (pc := 286) dd_QuotaLawsLaw_law_274.2.2.2.2.2.2.2.2.2.2.1 ?_
      obtain ⟨x81, e82, hf⟩ := bd1_e hf
      refine g_sld (pc := 287) dd_QuotaLawsLaw_law_274.2.2.2.2.2.2.2.2.2.2.2.1 e82 ?_
      obtain ⟨u84, e83, hf⟩ := bd1_e hf
      obtain ⟨x87, h85, e86, hf⟩ := bd2_e hf
      refine g_callV (pc := 288) (ci := 8) [.int x81] (site_of si_M_rule (by decide) (by decide)) wd_1128 wd_1129 wd_1130 dd_QuotaLawsLaw_law_274.2.2.2.2.2.2.2.2.2.2.2.2.1 rfl e83 (Nat.le_of_ble_eq_true rfl) (fun z => absurd z si_na_M_rule) (fun z => absurd z si_na_M_rule) (fun z => absurd z si_na_M_rule) (c_M_rule e86) rfl ?_
      refine g_st [.int x87] rfl ?_
      refine g_pop (pc := 291) dd_QuotaLawsLaw_law_274.2.2.2.2.2.2.2.2.2.2.2.2.2.1 rfl ?_
      refine g_goto (pc := 292) 1342 dd_QuotaLawsLaw_law_274.2.2.2.2.2.2.2.2.2.2.2.2.2.2.1 (by decide) ?_
      refine g_lv [0, 1, 2, 3] rfl ?_
      exact t_QuotaLawsLaw_law_1342 rec18 hrec18 _ _ _ _ _ _  hf
    replace hf := (if_neg c73).symm.trans hf
    by_cases c88 : (x19 &&& (63 : Int32)) = (5 : Int32)
    · replace hf := (if_pos c88).symm.trans hf
      refine g_tabIn (pc := 32) 295 (5 : Int32) dd_QuotaLawsLaw_law_0.2.2.2.2.2.2.2.2.2.2.2.2.2.2.2.2.2.2.2.2.2.1 c88 (by decide) (by decide) rfl (by decide) ?_
      refine g_aload_n (pc := 295) 1 dd_QuotaLawsLaw_law_274.2.2.2.2.2.2.2.2.2.2.2.2.2.2.2.1 rfl rfl ?_
      refine g_aload_n (pc := 296) 0 dd_QuotaLawsLaw_law_274.2.2.2.2.2.2.2.2.2.2.2.2.2.2.2.2.1 rfl rfl ?_
      refine g_iload_n (pc := 297) 3 dd_QuotaLawsLaw_law_274.2.2.2.2.2.2.2.2.2.2.2.2.2.2.2.2.2.1 rfl rfl ?_
      refine g_iconst (pc := 298) (1 : Int32) dd_QuotaLawsLaw_law_274.2.2.2.2.2.2.2.2.2.2.2.2.2.2.2.2.2.2.1 (by decide) ?_
      refine g_iadd (pc := 299) dd_QuotaLawsLaw_law_274.2.2.2.2.2.2.2.2.2.2.2.2.2.2.2.2.2.2.2.1 ?_
      obtain ⟨x89, e90, hf⟩ := bd1_e hf
      refine g_sld (pc := 300) dd_QuotaLawsLaw_law_274.2.2.2.2.2.2.2.2.2.2.2.2.2.2.2.2.2.2.2.2.1 e90 ?_
      refine g_aload_n (pc := 301) 0 dd_QuotaLawsLaw_law_274.2.2.2.2.2.2.2.2.2.2.2.2.2.2.2.2.2.2.2.2.2.1 rfl rfl ?_
      refine g_iload_n (pc := 302) 3 dd_QuotaLawsLaw_law_274.2.2.2.2.2.2.2.2.2.2.2.2.2.2.2.2.2.2.2.2.2.2.1 rfl rfl ?_
      refine g_iconst (pc := 303) (2 : Int32) dd_QuotaLawsLaw_law_274.2.2.2.2.2.2.2.2.2.2.2.2.2.2.2.2.2.2.2.2.2.2.2 (by decide) ?_
      refine g_iadd (pc := 304) dd_QuotaLawsLaw_law_304.1 ?_
      obtain ⟨x91, e92, hf⟩ := bd1_e hf
      refine g_sld (pc := 305) dd_QuotaLawsLaw_law_304.2.1 e92 ?_
      obtain ⟨u94, e93, hf⟩ := bd1_e hf
      obtain ⟨x97, h95, e96, hf⟩ := bd2_e hf
      refine g_callV (pc := 306) (ci := 0) [.int x89, .int x91] (site_of si_Q_law (by decide) (by decide)) wd_515 wd_516 wd_517 dd_QuotaLawsLaw_law_304.2.2.1 rfl e93 (Nat.le_of_ble_eq_true rfl) (fun z => absurd z si_na_Q_law) (fun z => absurd z si_na_Q_law) (fun z => absurd z si_na_Q_law) (c_Q_law e96) rfl ?_
      refine g_st [.int x97] rfl ?_
      refine g_pop (pc := 309) dd_QuotaLawsLaw_law_304.2.2.2.1 rfl ?_
      refine g_aload_n (pc := 310) 2 dd_QuotaLawsLaw_law_304.2.2.2.2.1 rfl rfl ?_
      refine g_aload_n (pc := 311) 0 dd_QuotaLawsLaw_law_304.2.2.2.2.2.1 rfl rfl ?_
      refine g_iload_n (pc := 312) 3 dd_QuotaLawsLaw_law_304.2.2.2.2.2.2.1 rfl rfl ?_
      refine g_iconst (pc := 313) (1 : Int32) dd_QuotaLawsLaw_law_304.2.2.2.2.2.2.2.1 (by decide) ?_
      refine g_iadd (pc := 314) dd_QuotaLawsLaw_law_304.2.2.2.2.2.2.2.2.1 ?_
      obtain ⟨x98, e99, hf⟩ := bd1_e hf
      refine g_sld (pc := 315) dd_QuotaLawsLaw_law_304.2.2.2.2.2.2.2.2.2.1 e99 ?_
      refine g_aload_n (pc := 316) 0 dd_QuotaLawsLaw_law_304.2.2.2.2.2.2.2.2.2.2.1 rfl rfl ?_
      refine g_iload_n (pc := 317) 3 dd_QuotaLawsLaw_law_304.2.2.2.2.2.2.2.2.2.2.2.1 rfl rfl ?_
      refine g_iconst (pc := 318) (2 : Int32) dd_QuotaLawsLaw_law_304.2.2.2.2.2.2.2.2.2.2.2.2.1 (by decide) ?_
      refine g_iadd (pc := 319) dd_QuotaLawsLaw_law_304.2.2.2.2.2.2.2.2.2.2.2.2.2.1 ?_
      obtain ⟨x100, e101, hf⟩ := bd1_e hf
      refine g_sld (pc := 320) dd_QuotaLawsLaw_law_304.2.2.2.2.2.2.2.2.2.2.2.2.2.2.1 e101 ?_
      obtain ⟨u103, e102, hf⟩ := bd1_e hf
      obtain ⟨x106, h104, e105, hf⟩ := bd2_e hf
      refine g_callV (pc := 321) (ci := 8) [.int x98, .int x100] (site_of si_M_law (by decide) (by decide)) wd_1132 wd_1133 wd_1134 dd_QuotaLawsLaw_law_304.2.2.2.2.2.2.2.2.2.2.2.2.2.2.2.1 rfl e102 (Nat.le_of_ble_eq_true rfl) (fun z => absurd z si_na_M_law) (fun z => absurd z si_na_M_law) (fun z => absurd z si_na_M_law) (c_M_law e105) rfl ?_
      refine g_st [.int x106] rfl ?_
      refine g_pop (pc := 324) dd_QuotaLawsLaw_law_304.2.2.2.2.2.2.2.2.2.2.2.2.2.2.2.2.1 rfl ?_
      refine g_goto (pc := 325) 1342 dd_QuotaLawsLaw_law_304.2.2.2.2.2.2.2.2.2.2.2.2.2.2.2.2.2.1 (by decide) ?_
      refine g_lv [0, 1, 2, 3] rfl ?_
      exact t_QuotaLawsLaw_law_1342 rec18 hrec18 _ _ _ _ _ _  hf
    replace hf := (if_neg c88).symm.trans hf
    by_cases c107 : (x19 &&& (63 : Int32)) = (6 : Int32)
    · replace hf := (if_pos c107).symm.trans hf
      refine g_tabIn (pc := 32) 328 (6 : Int32) dd_QuotaLawsLaw_law_0.2.2.2.2.2.2.2.2.2.2.2.2.2.2.2.2.2.2.2.2.2.1 c107 (by decide) (by decide) rfl (by decide) ?_
      refine g_aload_n (pc := 328) 1 dd_QuotaLawsLaw_law_304.2.2.2.2.2.2.2.2.2.2.2.2.2.2.2.2.2.2.1 rfl rfl ?_
      refine g_aload_n (pc := 329) 0 dd_QuotaLawsLaw_law_304.2.2.2.2.2.2.2.2.2.2.2.2.2.2.2.2.2.2.2.1 rfl rfl ?_
      refine g_iload_n (pc := 330) 3 dd_QuotaLawsLaw_law_304.2.2.2.2.2.2.2.2.2.2.2.2.2.2.2.2.2.2.2.2.1 rfl rfl ?_
      refine g_iconst (pc := 331) (1 : Int32) dd_QuotaLawsLaw_law_304.2.2.2.2.2.2.2.2.2.2.2.2.2.2.2.2.2.2.2.2.2.1 (by decide) ?_
      refine g_iadd (pc := 332) dd_QuotaLawsLaw_law_304.2.2.2.2.2.2.2.2.2.2.2.2.2.2.2.2.2.2.2.2.2.2.1 ?_
      obtain ⟨x108, e109, hf⟩ := bd1_e hf
      refine g_sld (pc := 333) dd_QuotaLawsLaw_law_304.2.2.2.2.2.2.2.2.2.2.2.2.2.2.2.2.2.2.2.2.2.2.2 e109 ?_
      refine g_aload_n (pc := 334) 0 dd_QuotaLawsLaw_law_334.1 rfl rfl ?_
      refine g_iload_n (pc := 335) 3 dd_QuotaLawsLaw_law_334.2.1 rfl rfl ?_
      refine g_iconst (pc := 336) (2 : Int32) dd_QuotaLawsLaw_law_334.2.2.1 (by decide) ?_
      refine g_iadd (pc := 337) dd_QuotaLawsLaw_law_334.2.2.2.1 ?_
      obtain ⟨x110, e111, hf⟩ := bd1_e hf
      refine g_sld (pc := 338) dd_QuotaLawsLaw_law_334.2.2.2.2.1 e111 ?_
      obtain ⟨u113, e112, hf⟩ := bd1_e hf
      obtain ⟨x116, h114, e115, hf⟩ := bd2_e hf
      refine g_callV (pc := 339) (ci := 0) [.int x108, .int x110] (site_of si_Q_one (by decide) (by decide)) wd_537 wd_538 wd_539 dd_QuotaLawsLaw_law_334.2.2.2.2.2.1 rfl e112 (Nat.le_of_ble_eq_true rfl) (fun z => absurd z si_na_Q_one) (fun z => absurd z si_na_Q_one) (fun z => absurd z si_na_Q_one) (c_Q_one e115) rfl ?_
      refine g_st [.int x116] rfl ?_
      refine g_pop (pc := 342) dd_QuotaLawsLaw_law_334.2.2.2.2.2.2.1 rfl ?_
      refine g_aload_n (pc := 343) 2 dd_QuotaLawsLaw_law_334.2.2.2.2.2.2.2.1 rfl rfl ?_
      refine g_aload_n (pc := 344) 0 dd_QuotaLawsLaw_law_334.2.2.2.2.2.2.2.2.1 rfl rfl ?_
      refine g_iload_n (pc := 345) 3 dd_QuotaLawsLaw_law_334.2.2.2.2.2.2.2.2.2.1 rfl rfl ?_
      refine g_iconst (pc := 346) (1 : Int32) dd_QuotaLawsLaw_law_334.2.2.2.2.2.2.2.2.2.2.1 (by decide) ?_
      refine g_iadd (pc := 347) dd_QuotaLawsLaw_law_334.2.2.2.2.2.2.2.2.2.2.2.1 ?_
      obtain ⟨x117, e118, hf⟩ := bd1_e hf
      refine g_sld (pc := 348) dd_QuotaLawsLaw_law_334.2.2.2.2.2.2.2.2.2.2.2.2.1 e118 ?_
      refine g_aload_n (pc := 349) 0 dd_QuotaLawsLaw_law_334.2.2.2.2.2.2.2.2.2.2.2.2.2.1 rfl rfl ?_
      refine g_iload_n (pc := 350) 3 dd_QuotaLawsLaw_law_334.2.2.2.2.2.2.2.2.2.2.2.2.2.2.1 rfl rfl ?_
      refine g_iconst (pc := 351) (2 : Int32) dd_QuotaLawsLaw_law_334.2.2.2.2.2.2.2.2.2.2.2.2.2.2.2.1 (by decide) ?_
      refine g_iadd (pc := 352) dd_QuotaLawsLaw_law_334.2.2.2.2.2.2.2.2.2.2.2.2.2.2.2.2.1 ?_
      obtain ⟨x119, e120, hf⟩ := bd1_e hf
      refine g_sld (pc := 353) dd_QuotaLawsLaw_law_334.2.2.2.2.2.2.2.2.2.2.2.2.2.2.2.2.2.1 e120 ?_
      obtain ⟨u122, e121, hf⟩ := bd1_e hf
      obtain ⟨x125, h123, e124, hf⟩ := bd2_e hf
      refine g_callV (pc := 354) (ci := 8) [.int x117, .int x119] (site_of si_M_one (by decide) (by decide)) wd_1156 wd_1157 wd_1158 dd_QuotaLawsLaw_law_334.2.2.2.2.2.2.2.2.2.2.2.2.2.2.2.2.2.2.1 rfl e121 (Nat.le_of_ble_eq_true rfl) (fun z => absurd z si_na_M_one) (fun z => absurd z si_na_M_one) (fun z => absurd z si_na_M_one) (c_M_one e124) rfl ?_
      refine g_st [.int x125] rfl ?_
      refine g_pop (pc := 357) dd_QuotaLawsLaw_law_334.2.2.2.2.2.2.2.2.2.2.2.2.2.2.2.2.2.2.2.1 rfl ?_
      refine g_goto (pc := 358) 1342 dd_QuotaLawsLaw_law_334.2.2.2.2.2.2.2.2.2.2.2.2.2.2.2.2.2.2.2.2.1 (by decide) ?_
      refine g_lv [0, 1, 2, 3] rfl ?_
      exact t_QuotaLawsLaw_law_1342 rec18 hrec18 _ _ _ _ _ _  hf
    replace hf := (if_neg c107).symm.trans hf
    by_cases c126 : (x19 &&& (63 : Int32)) = (7 : Int32)
    · replace hf := (if_pos c126).symm.trans hf
      refine g_tabIn (pc := 32) 361 (7 : Int32) dd_QuotaLawsLaw_law_0.2.2.2.2.2.2.2.2.2.2.2.2.2.2.2.2.2.2.2.2.2.1 c126 (by decide) (by decide) rfl (by decide) ?_
      refine g_aload_n (pc := 361) 1 dd_QuotaLawsLaw_law_334.2.2.2.2.2.2.2.2.2.2.2.2.2.2.2.2.2.2.2.2.2.1 rfl rfl ?_
      refine g_aload_n (pc := 362) 0 dd_QuotaLawsLaw_law_334.2.2.2.2.2.2.2.2.2.2.2.2.2.2.2.2.2.2.2.2.2.2.1 rfl rfl ?_
      refine g_iload_n (pc := 363) 3 dd_QuotaLawsLaw_law_334.2.2.2.2.2.2.2.2.2.2.2.2.2.2.2.2.2.2.2.2.2.2.2 rfl rfl ?_
      refine g_iconst (pc := 364) (1 : Int32) dd_QuotaLawsLaw_law_364.1 (by decide) ?_
      refine g_iadd (pc := 365) dd_QuotaLawsLaw_law_364.2.1 ?_
      obtain ⟨x127, e128, hf⟩ := bd1_e hf
      refine g_sld (pc := 366) dd_QuotaLawsLaw_law_364.2.2.1 e128 ?_
      refine g_aload_n (pc := 367) 0 dd_QuotaLawsLaw_law_364.2.2.2.1 rfl rfl ?_
      refine g_iload_n (pc := 368) 3 dd_QuotaLawsLaw_law_364.2.2.2.2.1 rfl rfl ?_
      refine g_iconst (pc := 369) (2 : Int32) dd_QuotaLawsLaw_law_364.2.2.2.2.2.1 (by decide) ?_
      refine g_iadd (pc := 370) dd_QuotaLawsLaw_law_364.2.2.2.2.2.2.1 ?_
      obtain ⟨x129, e130, hf⟩ := bd1_e hf
      refine g_sld (pc := 371) dd_QuotaLawsLaw_law_364.2.2.2.2.2.2.2.1 e130 ?_
      obtain ⟨u132, e131, hf⟩ := bd1_e hf
      obtain ⟨x135, h133, e134, hf⟩ := bd2_e hf
      refine g_callV (pc := 372) (ci := 0) [.int x127, .int x129] (site_of si_Q_broken (by decide) (by decide)) wd_566 wd_567 wd_568 dd_QuotaLawsLaw_law_364.2.2.2.2.2.2.2.2.1 rfl e131 (Nat.le_of_ble_eq_true rfl) (fun z => absurd z si_na_Q_broken) (fun z => absurd z si_na_Q_broken) (fun z => absurd z si_na_Q_broken) (c_Q_broken e134) rfl ?_
      refine g_st [.int x135] rfl ?_
      refine g_pop (pc := 375) dd_QuotaLawsLaw_law_364.2.2.2.2.2.2.2.2.2.1 rfl ?_
      refine g_aload_n (pc := 376) 2 dd_QuotaLawsLaw_law_364.2.2.2.2.2.2.2.2.2.2.1 rfl rfl ?_
      refine g_aload_n (pc := 377) 0 dd_QuotaLawsLaw_law_364.2.2.2.2.2.2.2.2.2.2.2.1 rfl rfl ?_
      refine g_iload_n (pc := 378) 3 dd_QuotaLawsLaw_law_364.2.2.2.2.2.2.2.2.2.2.2.2.1 rfl rfl ?_
      refine g_iconst (pc := 379) (1 : Int32) dd_QuotaLawsLaw_law_364.2.2.2.2.2.2.2.2.2.2.2.2.2.1 (by decide) ?_
      refine g_iadd (pc := 380) dd_QuotaLawsLaw_law_364.2.2.2.2.2.2.2.2.2.2.2.2.2.2.1 ?_
      obtain ⟨x136, e137, hf⟩ := bd1_e hf
      refine g_sld (pc := 381) dd_QuotaLawsLaw_law_364.2.2.2.2.2.2.2.2.2.2.2.2.2.2.2.1 e137 ?_
      refine g_aload_n (pc := 382) 0 dd_QuotaLawsLaw_law_364.2.2.2.2.2.2.2.2.2.2.2.2.2.2.2.2.1 rfl rfl ?_
      refine g_iload_n (pc := 383) 3 dd_QuotaLawsLaw_law_364.2.2.2.2.2.2.2.2.2.2.2.2.2.2.2.2.2.1 rfl rfl ?_
      refine g_iconst (pc := 384) (2 : Int32) dd_QuotaLawsLaw_law_364.2.2.2.2.2.2.2.2.2.2.2.2.2.2.2.2.2.2.1 (by decide) ?_
      refine g_iadd (pc := 385) dd_QuotaLawsLaw_law_364.2.2.2.2.2.2.2.2.2.2.2.2.2.2.2.2.2.2.2.1 ?_
      obtain ⟨x138, e139, hf⟩ := bd1_e hf
      refine g_sld (pc := 386) dd_QuotaLawsLaw_law_364.2.2.2.2.2.2.2.2.2.2.2.2.2.2.2.2.2.2.2.2.1 e139 ?_
      obtain ⟨u141, e140, hf⟩ := bd1_e hf
      obtain ⟨x144, h142, e143, hf⟩ := bd2_e hf
      refine g_callV (pc := 387) (ci := 8) [.int x136, .int x138] (site_of si_M_broken (by decide) (by decide)) wd_1183 wd_1184 wd_1185 dd_QuotaLawsLaw_law_364.2.2.2.2.2.2.2.2.2.2.2.2.2.2.2.2.2.2.2.2.2.1 rfl e140 (Nat.le_of_ble_eq_true rfl) (fun z => absurd z si_na_M_broken) (fun z => absurd z si_na_M_broken) (fun z => absurd z si_na_M_broken) (c_M_broken e143) rfl ?_
      refine g_st [.int x144] rfl ?_
      refine g_pop (pc := 390) dd_QuotaLawsLaw_law_364.2.2.2.2.2.2.2.2.2.2.2.2.2.2.2.2.2.2.2.2.2.2.1 rfl ?_
      refine g_goto (pc := 391) 1342 dd_QuotaLawsLaw_law_364.2.2.2.2.2.2.2.2.2.2.2.2.2.2.2.2.2.2.2.2.2.2.2 (by decide) ?_
      refine g_lv [0, 1, 2, 3] rfl ?_
      exact t_QuotaLawsLaw_law_1342 rec18 hrec18 _ _ _ _ _ _  hf
    replace hf := (if_neg c126).symm.trans hf
    by_cases c145 : (x19 &&& (63 : Int32)) = (8 : Int32)
    · replace hf := (if_pos c145).symm.trans hf
      refine g_tabIn (pc := 32) 394 (8 : Int32) dd_QuotaLawsLaw_law_0.2.2.2.2.2.2.2.2.2.2.2.2.2.2.2.2.2.2.2.2.2.1 c145 (by decide) (by decide) rfl (by decide) ?_
      refine g_aload_n (pc := 394) 1 dd_QuotaLawsLaw_law_394.1 rfl rfl ?_
      refine g_aload_n (pc := 395) 0 dd_QuotaLawsLaw_law_394.2.1 rfl rfl ?_
      refine g_iload_n (pc := 396) 3 dd_QuotaLawsLaw_law_394.2.2.1 rfl rfl ?_
      refine g_iconst (pc := 397) (1 : Int32) dd_QuotaLawsLaw_law_394.2.2.2.1 (by decide) ?_
      refine g_iadd (pc := 398) dd_QuotaLawsLaw_law_394.2.2.2.2.1 ?_
      obtain ⟨x146, e147, hf⟩ := bd1_e hf
      refine g_sld (pc := 399) dd_QuotaLawsLaw_law_394.2.2.2.2.2.1 e147 ?_
      refine g_aload_n (pc := 400) 0 dd_QuotaLawsLaw_law_394.2.2.2.2.2.2.1 rfl rfl ?_
      refine g_iload_n (pc := 401) 3 dd_QuotaLawsLaw_law_394.2.2.2.2.2.2.2.1 rfl rfl ?_
      refine g_iconst (pc := 402) (2 : Int32) dd_QuotaLawsLaw_law_394.2.2.2.2.2.2.2.2.1 (by decide) ?_
      refine g_iadd (pc := 403) dd_QuotaLawsLaw_law_394.2.2.2.2.2.2.2.2.2.1 ?_
      obtain ⟨x148, e149, hf⟩ := bd1_e hf
      refine g_sld (pc := 404) dd_QuotaLawsLaw_law_394.2.2.2.2.2.2.2.2.2.2.1 e149 ?_
      obtain ⟨u151, e150, hf⟩ := bd1_e hf
      obtain ⟨x154, h152, e153, hf⟩ := bd2_e hf
      refine g_callV (pc := 405) (ci := 0) [.int x146, .int x148] (site_of si_Q_quota (by decide) (by decide)) wd_576 wd_577 wd_578 dd_QuotaLawsLaw_law_394.2.2.2.2.2.2.2.2.2.2.2.1 rfl e150 (Nat.le_of_ble_eq_true rfl) (fun z => absurd z si_na_Q_quota) (fun z => absurd z si_na_Q_quota) (fun z => absurd z si_na_Q_quota) (c_Q_quota e153) rfl ?_
      refine g_st [.int x154] rfl ?_
      refine g_pop (pc := 408) dd_QuotaLawsLaw_law_394.2.2.2.2.2.2.2.2.2.2.2.2.1 rfl ?_
      refine g_aload_n (pc := 409) 2 dd_QuotaLawsLaw_law_394.2.2.2.2.2.2.2.2.2.2.2.2.2.1 rfl rfl ?_
      refine g_aload_n (pc := 410) 0 dd_QuotaLawsLaw_law_394.2.2.2.2.2.2.2.2.2.2.2.2.2.2.1 rfl rfl ?_
      refine g_iload_n (pc := 411) 3 dd_QuotaLawsLaw_law_394.2.2.2.2.2.2.2.2.2.2.2.2.2.2.2.1 rfl rfl ?_
      refine g_iconst (pc := 412) (1 : Int32) dd_QuotaLawsLaw_law_394.2.2.2.2.2.2.2.2.2.2.2.2.2.2.2.2.1 (by decide) ?_
      refine g_iadd (pc := 413) dd_QuotaLawsLaw_law_394.2.2.2.2.2.2.2.2.2.2.2.2.2.2.2.2.2.1 ?_
      obtain ⟨x155, e156, hf⟩ := bd1_e hf
      refine g_sld (pc := 414) dd_QuotaLawsLaw_law_394.2.2.2.2.2.2.2.2.2.2.2.2.2.2.2.2.2.2.1 e156 ?_
      refine g_aload_n (pc := 415) 0 dd_QuotaLawsLaw_law_394.2.2.2.2.2.2.2.2.2.2.2.2.2.2.2.2.2.2.2.1 rfl rfl ?_
      refine g_iload_n (pc := 416) 3 dd_QuotaLawsLaw_law_394.2.2.2.2.2.2.2.2.2.2.2.2.2.2.2.2.2.2.2.2.1 rfl rfl ?_
      refine g_iconst (pc := 417) (2 : Int32) dd_QuotaLawsLaw_law_394.2.2.2.2.2.2.2.2.2.2.2.2.2.2.2.2.2.2.2.2.2.1 (by decide) ?_
      refine g_iadd (pc := 418) dd_QuotaLawsLaw_law_394.2.2.2.2.2.2.2.2.2.2.2.2.2.2.2.2.2.2.2.2.2.2.1 ?_
      obtain ⟨x157, e158, hf⟩ := bd1_e hf
      refine g_sld (pc := 419) dd_QuotaLawsLaw_law_394.2.2.2.2.2.2.2.2.2.2.2.2.2.2.2.2.2.2.2.2.2.2.2 e158 ?_
      obtain ⟨u160, e159, hf⟩ := bd1_e hf
      obtain ⟨x163, h161, e162, hf⟩ := bd2_e hf
      refine g_callV (pc := 420) (ci := 8) [.int x155, .int x157] (site_of si_M_quota (by decide) (by decide)) wd_1187 wd_1188 wd_1189 dd_QuotaLawsLaw_law_420.1 rfl e159 (Nat.le_of_ble_eq_true rfl) (fun z => absurd z si_na_M_quota) (fun z => absurd z si_na_M_quota) (fun z => absurd z si_na_M_quota) (c_M_quota e162) rfl ?_
      refine g_st [.int x163] rfl ?_
      refine g_pop (pc := 423) dd_QuotaLawsLaw_law_420.2.1 rfl ?_
      refine g_goto (pc := 424) 1342 dd_QuotaLawsLaw_law_420.2.2.1 (by decide) ?_
      refine g_lv [0, 1, 2, 3] rfl ?_
      exact t_QuotaLawsLaw_law_1342 rec18 hrec18 _ _ _ _ _ _  hf
    replace hf := (if_neg c145).symm.trans hf
    by_cases c164 : (x19 &&& (63 : Int32)) = (9 : Int32)
    · replace hf := (if_pos c164).symm.trans hf
      refine g_tabIn (pc := 32) 427 (9 : Int32) dd_QuotaLawsLaw_law_0.2.2.2.2.2.2.2.2.2.2.2.2.2.2.2.2.2.2.2.2.2.1 c164 (by decide) (by decide) rfl (by decide) ?_
      refine g_aload_n (pc := 427) 1 dd_QuotaLawsLaw_law_420.2.2.2.1 rfl rfl ?_
      refine g_aload_n (pc := 428) 0 dd_QuotaLawsLaw_law_420.2.2.2.2.1 rfl rfl ?_
      refine g_iload_n (pc := 429) 3 dd_QuotaLawsLaw_law_420.2.2.2.2.2.1 rfl rfl ?_
      refine g_iconst (pc := 430) (1 : Int32) dd_QuotaLawsLaw_law_420.2.2.2.2.2.2.1 (by decide) ?_
      refine g_iadd (pc := 431) dd_QuotaLawsLaw_law_420.2.2.2.2.2.2.2.1 ?_
      obtain ⟨x165, e166, hf⟩ := bd1_e hf
      refine g_sld (pc := 432) dd_QuotaLawsLaw_law_420.2.2.2.2.2.2.2.2.1 e166 ?_
      refine g_aload_n (pc := 433) 0 dd_QuotaLawsLaw_law_420.2.2.2.2.2.2.2.2.2.1 rfl rfl ?_
      refine g_iload_n (pc := 434) 3 dd_QuotaLawsLaw_law_420.2.2.2.2.2.2.2.2.2.2.1 rfl rfl ?_
      refine g_iconst (pc := 435) (2 : Int32) dd_QuotaLawsLaw_law_420.2.2.2.2.2.2.2.2.2.2.2.1 (by decide) ?_
      refine g_iadd (pc := 436) dd_QuotaLawsLaw_law_420.2.2.2.2.2.2.2.2.2.2.2.2.1 ?_
      obtain ⟨x167, e168, hf⟩ := bd1_e hf
      refine g_sld (pc := 437) dd_QuotaLawsLaw_law_420.2.2.2.2.2.2.2.2.2.2.2.2.2.1 e168 ?_
      obtain ⟨u170, e169, hf⟩ := bd1_e hf
      obtain ⟨x173, h171, e172, hf⟩ := bd2_e hf
      refine g_callV (pc := 438) (ci := 0) [.int x165, .int x167] (site_of si_Q_carry (by decide) (by decide)) wd_580 wd_581 wd_582 dd_QuotaLawsLaw_law_420.2.2.2.2.2.2.2.2.2.2.2.2.2.2.1 rfl e169 (Nat.le_of_ble_eq_true rfl) (fun z => absurd z si_na_Q_carry) (fun z => absurd z si_na_Q_carry) (fun z => absurd z si_na_Q_carry) (c_Q_carry e172) rfl ?_
      refine g_st [.int x173] rfl ?_
      refine g_pop (pc := 441) dd_QuotaLawsLaw_law_420.2.2.2.2.2.2.2.2.2.2.2.2.2.2.2.1 rfl ?_
      refine g_aload_n (pc := 442) 2 dd_QuotaLawsLaw_law_420.2.2.2.2.2.2.2.2.2.2.2.2.2.2.2.2.1 rfl rfl ?_
      refine g_aload_n (pc := 443) 0 dd_QuotaLawsLaw_law_420.2.2.2.2.2.2.2.2.2.2.2.2.2.2.2.2.2.1 rfl rfl ?_
      refine g_iload_n (pc := 444) 3 dd_QuotaLawsLaw_law_420.2.2.2.2.2.2.2.2.2.2.2.2.2.2.2.2.2.2.1 rfl rfl ?_
      refine g_iconst (pc := 445) (1 : Int32) dd_QuotaLawsLaw_law_420.2.2.2.2.2.2.2.2.2.2.2.2.2.2.2.2.2.2.2.1 (by decide) ?_
      refine g_iadd (pc := 446) dd_QuotaLawsLaw_law_420.2.2.2.2.2.2.2.2.2.2.2.2.2.2.2.2.2.2.2.2.1 ?_
      obtain ⟨x174, e175, hf⟩ := bd1_e hf
      refine g_sld (pc := 447) dd_QuotaLawsLaw_law_420.2.2.2.2.2.2.2.2.2.2.2.2.2.2.2.2.2.2.2.2.2.1 e175 ?_
      refine g_aload_n (pc := 448) 0 dd_QuotaLawsLaw_law_420.2.2.2.2.2.2.2.2.2.2.2.2.2.2.2.2.2.2.2.2.2.2.1 rfl rfl ?_
      refine g_iload_n (pc := 449) 3 dd_QuotaLawsLaw_law_420.2.2.2.2.2.2.2.2.2.2.2.2.2.2.2.2.2.2.2.2.2.2.2 rfl rfl ?_
      refine g_iconst (pc := 450) (2 : Int32) dd_QuotaLawsLaw_law_450.1 (by decide) ?_
      refine g_iadd (pc := 451) dd_QuotaLawsLaw_law_450.2.1 ?_
      obtain ⟨x176, e177, hf⟩ := bd1_e hf
      refine g_sld (pc := 452) dd_QuotaLawsLaw_law_450.2.2.1 e177 ?_
      obtain ⟨u179, e178, hf⟩ := bd1_e hf
      obtain ⟨x182, h180, e181, hf⟩ := bd2_e hf
      refine g_callV (pc := 453) (ci := 8) [.int x174, .int x176] (site_of si_M_carry (by decide) (by decide)) wd_1196 wd_1197 wd_1198 dd_QuotaLawsLaw_law_450.2.2.2.1 rfl e178 (Nat.le_of_ble_eq_true rfl) (fun z => absurd z si_na_M_carry) (fun z => absurd z si_na_M_carry) (fun z => absurd z si_na_M_carry) (c_M_carry e181) rfl ?_
      refine g_st [.int x182] rfl ?_
      refine g_pop (pc := 456) dd_QuotaLawsLaw_law_450.2.2.2.2.1 rfl ?_
      refine g_goto (pc := 457) 1342 dd_QuotaLawsLaw_law_450.2.2.2.2.2.1 (by decide) ?_
      refine g_lv [0, 1, 2, 3] rfl ?_
      exact t_QuotaLawsLaw_law_1342 rec18 hrec18 _ _ _ _ _ _  hf
    replace hf := (if_neg c164).symm.trans hf
    by_cases c183 : (x19 &&& (63 : Int32)) = (10 : Int32)
    · replace hf := (if_pos c183).symm.trans hf
      refine g_tabIn (pc := 32) 460 (10 : Int32) dd_QuotaLawsLaw_law_0.2.2.2.2.2.2.2.2.2.2.2.2.2.2.2.2.2.2.2.2.2.1 c183 (by decide) (by decide) rfl (by decide) ?_
      refine g_aload_n (pc := 460) 1 dd_QuotaLawsLaw_law_450.2.2.2.2.2.2.1 rfl rfl ?_
      refine g_aload_n (pc := 461) 0 dd_QuotaLawsLaw_law_450.2.2.2.2.2.2.2.1 rfl rfl ?_
      refine g_iload_n (pc := 462) 3 dd_QuotaLawsLaw_law_450.2.2.2.2.2.2.2.2.1 rfl rfl ?_
      refine g_iconst (pc := 463) (1 : Int32) dd_QuotaLawsLaw_law_450.2.2.2.2.2.2.2.2.2.1 (by decide) ?_
      refine g_iadd (pc := 464) dd_QuotaLawsLaw_law_450.2.2.2.2.2.2.2.2.2.2.1 ?_
      obtain ⟨x184, e185, hf⟩ := bd1_e hf
      refine g_sld (pc := 465) dd_QuotaLawsLaw_law_450.2.2.2.2.2.2.2.2.2.2.2.1 e185 ?_
      refine g_aload_n (pc := 466) 0 dd_QuotaLawsLaw_law_450.2.2.2.2.2.2.2.2.2.2.2.2.1 rfl rfl ?_
      refine g_iload_n (pc := 467) 3 dd_QuotaLawsLaw_law_450.2.2.2.2.2.2.2.2.2.2.2.2.2.1 rfl rfl ?_
      refine g_iconst (pc := 468) (2 : Int32) dd_QuotaLawsLaw_law_450.2.2.2.2.2.2.2.2.2.2.2.2.2.2.1 (by decide) ?_
      refine g_iadd (pc := 469) dd_QuotaLawsLaw_law_450.2.2.2.2.2.2.2.2.2.2.2.2.2.2.2.1 ?_
      obtain ⟨x186, e187, hf⟩ := bd1_e hf
      refine g_sld (pc := 470) dd_QuotaLawsLaw_law_450.2.2.2.2.2.2.2.2.2.2.2.2.2.2.2.2.1 e187 ?_
      refine g_ifeq (pc := 471) 478 dd_QuotaLawsLaw_law_450.2.2.2.2.2.2.2.2.2.2.2.2.2.2.2.2.2.1 (by decide) (fun c188 => ?_) (fun c188 => ?_)
      · replace hf := (if_pos c188).symm.trans hf
        refine g_iconst (pc := 478) (0 : Int32) dd_QuotaLawsLaw_law_450.2.2.2.2.2.2.2.2.2.2.2.2.2.2.2.2.2.2.2.2.1 (by decide) ?_
        refine g_lv [0, 1, 2, 3] rfl ?_
        exact t_QuotaLawsLaw_law_479 rec18 hrec18 _ _ _ _ _ _ _ _ _  hf
      · replace hf := (if_neg c188).symm.trans hf
        refine g_iconst (pc := 474) (1 : Int32) dd_QuotaLawsLaw_law_450.2.2.2.2.2.2.2.2.2.2.2.2.2.2.2.2.2.2.1 (by decide) ?_
        refine g_goto (pc := 475) 479 dd_QuotaLawsLaw_law_450.2.2.2.2.2.2.2.2.2.2.2.2.2.2.2.2.2.2.2.1 (by decide) ?_
        refine g_lv [0, 1, 2, 3] rfl ?_
        exact t_QuotaLawsLaw_law_479 rec18 hrec18 _ _ _ _ _ _ _ _ _  hf
    replace hf := (if_neg c183).symm.trans hf
    by_cases c189 : (x19 &&& (63 : Int32)) = (11 : Int32)
    · replace hf := (if_pos c189).symm.trans hf
      refine g_tabIn (pc := 32) 509 (11 : Int32) dd_QuotaLawsLaw_law_0.2.2.2.2.2.2.2.2.2.2.2.2.2.2.2.2.2.2.2.2.2.1 c189 (by decide) (by decide) rfl (by decide) ?_
      refine g_aload_n (pc := 509) 1 dd_QuotaLawsLaw_law_484.2.2.2.2.2.2.2.2.2.2.2.2.2.2.2.2.2.1 rfl rfl ?_
      refine g_aload_n (pc := 510) 0 dd_QuotaLawsLaw_law_484.2.2.2.2.2.2.2.2.2.2.2.2.2.2.2.2.2.2.1 rfl rfl ?_
      refine g_iload_n (pc := 511) 3 dd_QuotaLawsLaw_law_484.2.2.2.2.2.2.2.2.2.2.2.2.2.2.2.2.2.2.2.1 rfl rfl ?_
      refine g_iconst (pc := 512) (1 : Int32) dd_QuotaLawsLaw_law_484.2.2.2.2.2.2.2.2.2.2.2.2.2.2.2.2.2.2.2.2.1 (by decide) ?_
      refine g_iadd (pc := 513) dd_QuotaLawsLaw_law_484.2.2.2.2.2.2.2.2.2.2.2.2.2.2.2.2.2.2.2.2.2.1 ?_
      obtain ⟨x190, e191, hf⟩ := bd1_e hf
      refine g_sld (pc := 514) dd_QuotaLawsLaw_law_484.2.2.2.2.2.2.2.2.2.2.2.2.2.2.2.2.2.2.2.2.2.2.1 e191 ?_
      refine g_aload_n (pc := 515) 0 dd_QuotaLawsLaw_law_484.2.2.2.2.2.2.2.2.2.2.2.2.2.2.2.2.2.2.2.2.2.2.2 rfl rfl ?_
      refine g_iload_n (pc := 516) 3 dd_QuotaLawsLaw_law_516.1 rfl rfl ?_
      refine g_iconst (pc := 517) (2 : Int32) dd_QuotaLawsLaw_law_516.2.1 (by decide) ?_
      refine g_iadd (pc := 518) dd_QuotaLawsLaw_law_516.2.2.1 ?_
      obtain ⟨x192, e193, hf⟩ := bd1_e hf
      refine g_sld (pc := 519) dd_QuotaLawsLaw_law_516.2.2.2.1 e193 ?_
      obtain ⟨u195, e194, hf⟩ := bd1_e hf
      obtain ⟨x198, h196, e197, hf⟩ := bd2_e hf
      refine g_callV (pc := 520) (ci := 0) [.int x190, .int x192] (site_of si_Q_time (by decide) (by decide)) wd_594 wd_595 wd_596 dd_QuotaLawsLaw_law_516.2.2.2.2.1 rfl e194 (Nat.le_of_ble_eq_true rfl) (fun z => absurd z si_na_Q_time) (fun z => absurd z si_na_Q_time) (fun z => absurd z si_na_Q_time) (c_Q_time e197) rfl ?_
      refine g_st [.int x198] rfl ?_
      refine g_pop (pc := 523) dd_QuotaLawsLaw_law_516.2.2.2.2.2.1 rfl ?_
      refine g_aload_n (pc := 524) 2 dd_QuotaLawsLaw_law_516.2.2.2.2.2.2.1 rfl rfl ?_
      refine g_aload_n (pc := 525) 0 dd_QuotaLawsLaw_law_516.2.2.2.2.2.2.2.1 rfl rfl ?_
      refine g_iload_n (pc := 526) 3 dd_QuotaLawsLaw_law_516.2.2.2.2.2.2.2.2.1 rfl rfl ?_
      refine g_iconst (pc := 527) (1 : Int32) dd_QuotaLawsLaw_law_516.2.2.2.2.2.2.2.2.2.1 (by decide) ?_
      refine g_iadd (pc := 528) dd_QuotaLawsLaw_law_516.2.2.2.2.2.2.2.2.2.2.1 ?_
      obtain ⟨x199, e200, hf⟩ := bd1_e hf
      refine g_sld (pc := 529) dd_QuotaLawsLaw_law_516.2.2.2.2.2.2.2.2.2.2.2.1 e200 ?_
      refine g_aload_n (pc := 530) 0 dd_QuotaLawsLaw_law_516.2.2.2.2.2.2.2.2.2.2.2.2.1 rfl rfl ?_
      refine g_iload_n (pc := 531) 3 dd_QuotaLawsLaw_law_516.2.2.2.2.2.2.2.2.2.2.2.2.2.1 rfl rfl ?_
      refine g_iconst (pc := 532) (2 : Int32) dd_QuotaLawsLaw_law_516.2.2.2.2.2.2.2.2.2.2.2.2.2.2.1 (by decide) ?_
      refine g_iadd (pc := 533) dd_QuotaLawsLaw_law_516.2.2.2.2.2.2.2.2.2.2.2.2.2.2.2.1 ?_
      obtain ⟨x201, e202, hf⟩ := bd1_e hf
      refine g_sld (pc := 534) dd_QuotaLawsLaw_law_516.2.2.2.2.2.2.2.2.2.2.2.2.2.2.2.2.1 e202 ?_
      obtain ⟨u204, e203, hf⟩ := bd1_e hf
      obtain ⟨x207, h205, e206, hf⟩ := bd2_e hf
      refine g_callV (pc := 535) (ci := 8) [.int x199, .int x201] (site_of si_M_time (by decide) (by decide)) wd_1208 wd_1209 wd_1210 dd_QuotaLawsLaw_law_516.2.2.2.2.2.2.2.2.2.2.2.2.2.2.2.2.2.1 rfl e203 (Nat.le_of_ble_eq_true rfl) (fun z => absurd z si_na_M_time) (fun z => absurd z si_na_M_time) (fun z => absurd z si_na_M_time) (c_M_time e206) rfl ?_
      refine g_st [.int x207] rfl ?_
      refine g_pop (pc := 538) dd_QuotaLawsLaw_law_516.2.2.2.2.2.2.2.2.2.2.2.2.2.2.2.2.2.2.1 rfl ?_
      refine g_goto (pc := 539) 1342 dd_QuotaLawsLaw_law_516.2.2.2.2.2.2.2.2.2.2.2.2.2.2.2.2.2.2.2.1 (by decide) ?_
      refine g_lv [0, 1, 2, 3] rfl ?_
      exact t_QuotaLawsLaw_law_1342 rec18 hrec18 _ _ _ _ _ _  hf
    replace hf := (if_neg c189).symm.trans hf
    by_cases c208 : (x19 &&& (63 : Int32)) = (12 : Int32)
    · replace hf := (if_pos c208).symm.trans hf
      refine g_tabIn (pc := 32) 542 (12 : Int32) dd_QuotaLawsLaw_law_0.2.2.2.2.2.2.2.2.2.2.2.2.2.2.2.2.2.2.2.2.2.1 c208 (by decide) (by decide) rfl (by decide) ?_
      refine g_aload_n (pc := 542) 1 dd_QuotaLawsLaw_law_516.2.2.2.2.2.2.2.2.2.2.2.2.2.2.2.2.2.2.2.2.1 rfl rfl ?_
      refine g_aload_n (pc := 543) 0 dd_QuotaLawsLaw_law_516.2.2.2.2.2.2.2.2.2.2.2.2.2.2.2.2.2.2.2.2.2.1 rfl rfl ?_
      refine g_iload_n (pc := 544) 3 dd_QuotaLawsLaw_law_516.2.2.2.2.2.2.2.2.2.2.2.2.2.2.2.2.2.2.2.2.2.2.1 rfl rfl ?_
      refine g_iconst (pc := 545) (1 : Int32) dd_QuotaLawsLaw_law_516.2.2.2.2.2.2.2.2.2.2.2.2.2.2.2.2.2.2.2.2.2.2.2 (by decide) ?_
      refine g_iadd (pc := 546) dd_QuotaLawsLaw_law_546.1 ?_
      obtain ⟨x209, e210, hf⟩ := bd1_e hf
      refine g_sld (pc := 547) dd_QuotaLawsLaw_law_546.2.1 e210 ?_
      refine g_aload_n (pc := 548) 0 dd_QuotaLawsLaw_law_546.2.2.1 rfl rfl ?_
      refine g_iload_n (pc := 549) 3 dd_QuotaLawsLaw_law_546.2.2.2.1 rfl rfl ?_
      refine g_iconst (pc := 550) (2 : Int32) dd_QuotaLawsLaw_law_546.2.2.2.2.1 (by decide) ?_
      refine g_iadd (pc := 551) dd_QuotaLawsLaw_law_546.2.2.2.2.2.1 ?_
      obtain ⟨x211, e212, hf⟩ := bd1_e hf
      refine g_sld (pc := 552) dd_QuotaLawsLaw_law_546.2.2.2.2.2.2.1 e212 ?_
      refine g_aload_n (pc := 553) 0 dd_QuotaLawsLaw_law_546.2.2.2.2.2.2.2.1 rfl rfl ?_
      refine g_iload_n (pc := 554) 3 dd_QuotaLawsLaw_law_546.2.2.2.2.2.2.2.2.1 rfl rfl ?_
      refine g_iconst (pc := 555) (3 : Int32) dd_QuotaLawsLaw_law_546.2.2.2.2.2.2.2.2.2.1 (by decide) ?_
      refine g_iadd (pc := 556) dd_QuotaLawsLaw_law_546.2.2.2.2.2.2.2.2.2.2.1 ?_
      obtain ⟨x213, e214, hf⟩ := bd1_e hf
      refine g_sld (pc := 557) dd_QuotaLawsLaw_law_546.2.2.2.2.2.2.2.2.2.2.2.1 e214 ?_
      refine g_ifeq (pc := 558) 565 dd_QuotaLawsLaw_law_546.2.2.2.2.2.2.2.2.2.2.2.2.1 (by decide) (fun c215 => ?_) (fun c215 => ?_)
      · replace hf := (if_pos c215).symm.trans hf
        refine g_iconst (pc := 565) (0 : Int32) dd_QuotaLawsLaw_law_546.2.2.2.2.2.2.2.2.2.2.2.2.2.2.2.1 (by decide) ?_
        refine g_lv [0, 1, 2, 3] rfl ?_
        exact t_QuotaLawsLaw_law_566 rec18 hrec18 _ _ _ _ _ _ _ _ _ _  hf
      · replace hf := (if_neg c215).symm.trans hf
        refine g_iconst (pc := 561) (1 : Int32) dd_QuotaLawsLaw_law_546.2.2.2.2.2.2.2.2.2.2.2.2.2.1 (by decide) ?_
        refine g_goto (pc := 562) 566 dd_QuotaLawsLaw_law_546.2.2.2.2.2.2.2.2.2.2.2.2.2.2.1 (by decide) ?_
        refine g_lv [0, 1, 2, 3] rfl ?_
        exact t_QuotaLawsLaw_law_566 rec18 hrec18 _ _ _ _ _ _ _ _ _ _  hf
    replace hf := (if_neg c208).symm.trans hf
    by_cases c216 : (x19 &&& (63 : Int32)) = (13 : Int32)
    · replace hf := (if_pos c216).symm.trans hf
      refine g_tabIn (pc := 32) 601 (13 : Int32) dd_QuotaLawsLaw_law_0.2.2.2.2.2.2.2.2.2.2.2.2.2.2.2.2.2.2.2.2.2.1 c216 (by decide) (by decide) rfl (by decide) ?_
      refine g_aload_n (pc := 601) 1 dd_QuotaLawsLaw_law_576.2.2.2.2.2.2.2.2.2.2.2.2.2.2.2.2.2.1 rfl rfl ?_
      refine g_aload_n (pc := 602) 0 dd_QuotaLawsLaw_law_576.2.2.2.2.2.2.2.2.2.2.2.2.2.2.2.2.2.2.1 rfl rfl ?_
      refine g_iload_n (pc := 603) 3 dd_QuotaLawsLaw_law_576.2.2.2.2.2.2.2.2.2.2.2.2.2.2.2.2.2.2.2.1 rfl rfl ?_
      refine g_iconst (pc := 604) (1 : Int32) dd_QuotaLawsLaw_law_576.2.2.2.2.2.2.2.2.2.2.2.2.2.2.2.2.2.2.2.2.1 (by decide) ?_
      refine g_iadd (pc := 605) dd_QuotaLawsLaw_law_576.2.2.2.2.2.2.2.2.2.2.2.2.2.2.2.2.2.2.2.2.2.1 ?_
      obtain ⟨x217, e218, hf⟩ := bd1_e hf
      refine g_sld (pc := 606) dd_QuotaLawsLaw_law_576.2.2.2.2.2.2.2.2.2.2.2.2.2.2.2.2.2.2.2.2.2.2.1 e218 ?_
      refine g_aload_n (pc := 607) 0 dd_QuotaLawsLaw_law_576.2.2.2.2.2.2.2.2.2.2.2.2.2.2.2.2.2.2.2.2.2.2.2 rfl rfl ?_
      refine g_iload_n (pc := 608) 3 dd_QuotaLawsLaw_law_608.1 rfl rfl ?_
      refine g_iconst (pc := 609) (2 : Int32) dd_QuotaLawsLaw_law_608.2.1 (by decide) ?_
      refine g_iadd (pc := 610) dd_QuotaLawsLaw_law_608.2.2.1 ?_
      obtain ⟨x219, e220, hf⟩ := bd1_e hf
      refine g_sld (pc := 611) dd_QuotaLawsLaw_law_608.2.2.2.1 e220 ?_
      refine g_aload_n (pc := 612) 0 dd_QuotaLawsLaw_law_608.2.2.2.2.1 rfl rfl ?_
      refine g_iload_n (pc := 613) 3 dd_QuotaLawsLaw_law_608.2.2.2.2.2.1 rfl rfl ?_
      refine g_iconst (pc := 614) (3 : Int32) dd_QuotaLawsLaw_law_608.2.2.2.2.2.2.1 (by decide) ?_
      refine g_iadd (pc := 615) dd_QuotaLawsLaw_law_608.2.2.2.2.2.2.2.1 ?_
      obtain ⟨x221, e222, hf⟩ := bd1_e hf
      refine g_sld (pc := 616) dd_QuotaLawsLaw_law_608.2.2.2.2.2.2.2.2.1 e222 ?_
      refine g_ifeq (pc := 617) 624 dd_QuotaLawsLaw_law_608.2.2.2.2.2.2.2.2.2.1 (by decide) (fun c223 => ?_) (fun c223 => ?_)
      · replace hf := (if_pos c223).symm.trans hf
        refine g_iconst (pc := 624) (0 : Int32) dd_QuotaLawsLaw_law_608.2.2.2.2.2.2.2.2.2.2.2.2.1 (by decide) ?_
        refine g_lv [0, 1, 2, 3] rfl ?_
        exact t_QuotaLawsLaw_law_625 rec18 hrec18 _ _ _ _ _ _ _ _ _ _  hf
      · replace hf := (if_neg c223).symm.trans hf
        refine g_iconst (pc := 620) (1 : Int32) dd_QuotaLawsLaw_law_608.2.2.2.2.2.2.2.2.2.2.1 (by decide) ?_
        refine g_goto (pc := 621) 625 dd_QuotaLawsLaw_law_608.2.2.2.2.2.2.2.2.2.2.2.1 (by decide) ?_
        refine g_lv [0, 1, 2, 3] rfl ?_
        exact t_QuotaLawsLaw_law_625 rec18 hrec18 _ _ _ _ _ _ _ _ _ _  hf
    replace hf := (if_neg c216).symm.trans hf
    by_cases c224 : (x19 &&& (63 : Int32)) = (14 : Int32)
    · replace hf := (if_pos c224).symm.trans hf
      refine g_tabIn (pc := 32) 660 (14 : Int32) dd_QuotaLawsLaw_law_0.2.2.2.2.2.2.2.2.2.2.2.2.2.2.2.2.2.2.2.2.2.1 c224 (by decide) (by decide) rfl (by decide) ?_
      refine g_aload_n (pc := 660) 1 dd_QuotaLawsLaw_law_638.2.2.2.2.2.2.2.2.2.2.2.2.2.2.1 rfl rfl ?_
      refine g_aload_n (pc := 661) 0 dd_QuotaLawsLaw_law_638.2.2.2.2.2.2.2.2.2.2.2.2.2.2.2.1 rfl rfl ?_
      refine g_iload_n (pc := 662) 3 dd_QuotaLawsLaw_law_638.2.2.2.2.2.2.2.2.2.2.2.2.2.2.2.2.1 rfl rfl ?_
      refine g_iconst (pc := 663) (1 : Int32) dd_QuotaLawsLaw_law_638.2.2.2.2.2.2.2.2.2.2.2.2.2.2.2.2.2.1 (by decide) ?_
      refine g_iadd (pc := 664) dd_QuotaLawsLaw_law_638.2.2.2.2.2.2.2.2.2.2.2.2.2.2.2.2.2.2.1 ?_
      obtain ⟨x225, e226, hf⟩ := bd1_e hf
      refine g_sld (pc := 665) dd_QuotaLawsLaw_law_638.2.2.2.2.2.2.2.2.2.2.2.2.2.2.2.2.2.2.2.1 e226 ?_
      refine g_aload_n (pc := 666) 0 dd_QuotaLawsLaw_law_638.2.2.2.2.2.2.2.2.2.2.2.2.2.2.2.2.2.2.2.2.1 rfl rfl ?_
      refine g_iload_n (pc := 667) 3 dd_QuotaLawsLaw_law_638.2.2.2.2.2.2.2.2.2.2.2.2.2.2.2.2.2.2.2.2.2.1 rfl rfl ?_
      refine g_iconst (pc := 668) (2 : Int32) dd_QuotaLawsLaw_law_638.2.2.2.2.2.2.2.2.2.2.2.2.2.2.2.2.2.2.2.2.2.2.1 (by decide) ?_
      refine g_iadd (pc := 669) dd_QuotaLawsLaw_law_638.2.2.2.2.2.2.2.2.2.2.2.2.2.2.2.2.2.2.2.2.2.2.2 ?_
      obtain ⟨x227, e228, hf⟩ := bd1_e hf
      refine g_sld (pc := 670) dd_QuotaLawsLaw_law_670.1 e228 ?_
      obtain ⟨u230, e229, hf⟩ := bd1_e hf
      obtain ⟨x233, h231, e232, hf⟩ := bd2_e hf
      refine g_callV (pc := 671) (ci := 0) [.int x225, .int x227] (site_of si_Q_fund (by decide) (by decide)) wd_606 wd_607 wd_608 dd_QuotaLawsLaw_law_670.2.1 rfl e229 (Nat.le_of_ble_eq_true rfl) (fun z => absurd z si_na_Q_fund) (fun z => absurd z si_na_Q_fund) (fun z => absurd z si_na_Q_fund) (c_Q_fund e232) rfl ?_
      refine g_st [.int x233] rfl ?_
      refine g_pop (pc := 674) dd_QuotaLawsLaw_law_670.2.2.1 rfl ?_
      refine g_aload_n (pc := 675) 2 dd_QuotaLawsLaw_law_670.2.2.2.1 rfl rfl ?_
      refine g_aload_n (pc := 676) 0 dd_QuotaLawsLaw_law_670.2.2.2.2.1 rfl rfl ?_
      refine g_iload_n (pc := 677) 3 dd_QuotaLawsLaw_law_670.2.2.2.2.2.1 rfl rfl ?_
      refine g_iconst (pc := 678) (1 : Int32) dd_QuotaLawsLaw_law_670.2.2.2.2.2.2.1 (by decide) ?_
      refine g_iadd (pc := 679) dd_QuotaLawsLaw_law_670.2.2.2.2.2.2.2.1 ?_
      obtain ⟨x234, e235, hf⟩ := bd1_e hf
      refine g_sld (pc := 680) dd_QuotaLawsLaw_law_670.2.2.2.2.2.2.2.2.1 e235 ?_
      refine g_aload_n (pc := 681) 0 dd_QuotaLawsLaw_law_670.2.2.2.2.2.2.2.2.2.1 rfl rfl ?_
      refine g_iload_n (pc := 682) 3 dd_QuotaLawsLaw_law_670.2.2.2.2.2.2.2.2.2.2.1 rfl rfl ?_
      refine g_iconst (pc := 683) (2 : Int32) dd_QuotaLawsLaw_law_670.2.2.2.2.2.2.2.2.2.2.2.1 (by decide) ?_
      refine g_iadd (pc := 684) dd_QuotaLawsLaw_law_670.2.2.2.2.2.2.2.2.2.2.2.2.1 ?_
      obtain ⟨x236, e237, hf⟩ := bd1_e hf
      refine g_sld (pc := 685) dd_QuotaLawsLaw_law_670.2.2.2.2.2.2.2.2.2.2.2.2.2.1 e237 ?_
      obtain ⟨u239, e238, hf⟩ := bd1_e hf
      obtain ⟨x242, h240, e241, hf⟩ := bd2_e hf
      refine g_callV (pc := 686) (ci := 8) [.int x234, .int x236] (site_of si_M_fund (by decide) (by decide)) wd_1221 wd_1222 wd_1223 dd_QuotaLawsLaw_law_670.2.2.2.2.2.2.2.2.2.2.2.2.2.2.1 rfl e238 (Nat.le_of_ble_eq_true rfl) (fun z => absurd z si_na_M_fund) (fun z => absurd z si_na_M_fund) (fun z => absurd z si_na_M_fund) (c_M_fund e241) rfl ?_
      refine g_st [.int x242] rfl ?_
      refine g_pop (pc := 689) dd_QuotaLawsLaw_law_670.2.2.2.2.2.2.2.2.2.2.2.2.2.2.2.1 rfl ?_
      refine g_goto (pc := 690) 1342 dd_QuotaLawsLaw_law_670.2.2.2.2.2.2.2.2.2.2.2.2.2.2.2.2.1 (by decide) ?_
      refine g_lv [0, 1, 2, 3] rfl ?_
      exact t_QuotaLawsLaw_law_1342 rec18 hrec18 _ _ _ _ _ _  hf
    replace hf := (if_neg c224).symm.trans hf
    by_cases c243 : (x19 &&& (63 : Int32)) = (15 : Int32)
    · replace hf := (if_pos c243).symm.trans hf
      refine g_tabIn (pc := 32) 693 (15 : Int32) dd_QuotaLawsLaw_law_0.2.2.2.2.2.2.2.2.2.2.2.2.2.2.2.2.2.2.2.2.2.1 c243 (by decide) (by decide) rfl (by decide) ?_
      refine g_aload_n (pc := 693) 1 dd_QuotaLawsLaw_law_670.2.2.2.2.2.2.2.2.2.2.2.2.2.2.2.2.2.1 rfl rfl ?_
      refine g_aload_n (pc := 694) 0 dd_QuotaLawsLaw_law_670.2.2.2.2.2.2.2.2.2.2.2.2.2.2.2.2.2.2.1 rfl rfl ?_
      refine g_iload_n (pc := 695) 3 dd_QuotaLawsLaw_law_670.2.2.2.2.2.2.2.2.2.2.2.2.2.2.2.2.2.2.2.1 rfl rfl ?_
      refine g_iconst (pc := 696) (1 : Int32) dd_QuotaLawsLaw_law_670.2.2.2.2.2.2.2.2.2.2.2.2.2.2.2.2.2.2.2.2.1 (by decide) ?_
      refine g_iadd (pc := 697) dd_QuotaLawsLaw_law_670.2.2.2.2.2.2.2.2.2.2.2.2.2.2.2.2.2.2.2.2.2.1 ?_
      obtain ⟨x244, e245, hf⟩ := bd1_e hf
      refine g_sld (pc := 698) dd_QuotaLawsLaw_law_670.2.2.2.2.2.2.2.2.2.2.2.2.2.2.2.2.2.2.2.2.2.2.1 e245 ?_
      obtain ⟨u247, e246, hf⟩ := bd1_e hf
      obtain ⟨x250, h248, e249, hf⟩ := bd2_e hf
      refine g_callV (pc := 699) (ci := 0) [.int x244] (site_of si_Q_revive (by decide) (by decide)) wd_610 wd_611 wd_612 dd_QuotaLawsLaw_law_670.2.2.2.2.2.2.2.2.2.2.2.2.2.2.2.2.2.2.2.2.2.2.2 rfl e246 (Nat.le_of_ble_eq_true rfl) (fun z => absurd z si_na_Q_revive) (fun z => absurd z si_na_Q_revive) (fun z => absurd z si_na_Q_revive) (c_Q_revive e249) rfl ?_
      refine g_st [.int x250] rfl ?_
      refine g_pop (pc := 702) dd_QuotaLawsLaw_law_702.1 rfl ?_
      refine g_aload_n (pc := 703) 2 dd_QuotaLawsLaw_law_702.2.1 rfl rfl ?_
      refine g_aload_n (pc := 704) 0 dd_QuotaLawsLaw_law_702.2.2.1 rfl rfl ?_
      refine g_iload_n (pc := 705) 3 dd_QuotaLawsLaw_law_702.2.2.2.1 rfl rfl ?_
      refine g_iconst (pc := 706) (1 : Int32) dd_QuotaLawsLaw_law_702.2.2.2.2.1 (by decide) ?_
      refine g_iadd (pc := 707) dd_QuotaLawsLaw_law_702.2.2.2.2.2.1 ?_
      obtain ⟨x251, e252, hf⟩ := bd1_e hf
      refine g_sld (pc := 708) dd_QuotaLawsLaw_law_702.2.2.2.2.2.2.1 e252 ?_
      obtain ⟨u254, e253, hf⟩ := bd1_e hf
      obtain ⟨x257, h255, e256, hf⟩ := bd2_e hf
      refine g_callV (pc := 709) (ci := 8) [.int x251] (site_of si_M_revive (by decide) (by decide)) wd_1226 wd_1227 wd_1228 dd_QuotaLawsLaw_law_702.2.2.2.2.2.2.2.1 rfl e253 (Nat.le_of_ble_eq_true rfl) (fun z => absurd z si_na_M_revive) (fun z => absurd z si_na_M_revive) (fun z => absurd z si_na_M_revive) (c_M_revive e256) rfl ?_
      refine g_st [.int x257] rfl ?_
      refine g_pop (pc := 712) dd_QuotaLawsLaw_law_702.2.2.2.2.2.2.2.2.1 rfl ?_
      refine g_goto (pc := 713) 1342 dd_QuotaLawsLaw_law_702.2.2.2.2.2.2.2.2.2.1 (by decide) ?_
      refine g_lv [0, 1, 2, 3] rfl ?_
      exact t_QuotaLawsLaw_law_1342 rec18 hrec18 _ _ _ _ _ _  hf
    replace hf := (if_neg c243).symm.trans hf
    by_cases c258 : (x19 &&& (63 : Int32)) = (16 : Int32)
    · replace hf := (if_pos c258).symm.trans hf
      refine g_tabIn (pc := 32) 716 (16 : Int32) dd_QuotaLawsLaw_law_0.2.2.2.2.2.2.2.2.2.2.2.2.2.2.2.2.2.2.2.2.2.1 c258 (by decide) (by decide) rfl (by decide) ?_
      refine g_aload_n (pc := 716) 1 dd_QuotaLawsLaw_law_702.2.2.2.2.2.2.2.2.2.2.1 rfl rfl ?_
      refine g_aload_n (pc := 717) 0 dd_QuotaLawsLaw_law_702.2.2.2.2.2.2.2.2.2.2.2.1 rfl rfl ?_
      refine g_iload_n (pc := 718) 3 dd_QuotaLawsLaw_law_702.2.2.2.2.2.2.2.2.2.2.2.2.1 rfl rfl ?_
      refine g_iconst (pc := 719) (1 : Int32) dd_QuotaLawsLaw_law_702.2.2.2.2.2.2.2.2.2.2.2.2.2.1 (by decide) ?_
      refine g_iadd (pc := 720) dd_QuotaLawsLaw_law_702.2.2.2.2.2.2.2.2.2.2.2.2.2.2.1 ?_
      obtain ⟨x259, e260, hf⟩ := bd1_e hf
      refine g_sld (pc := 721) dd_QuotaLawsLaw_law_702.2.2.2.2.2.2.2.2.2.2.2.2.2.2.2.1 e260 ?_
      refine g_aload_n (pc := 722) 0 dd_QuotaLawsLaw_law_702.2.2.2.2.2.2.2.2.2.2.2.2.2.2.2.2.1 rfl rfl ?_
      refine g_iload_n (pc := 723) 3 dd_QuotaLawsLaw_law_702.2.2.2.2.2.2.2.2.2.2.2.2.2.2.2.2.2.1 rfl rfl ?_
      refine g_iconst (pc := 724) (2 : Int32) dd_QuotaLawsLaw_law_702.2.2.2.2.2.2.2.2.2.2.2.2.2.2.2.2.2.2.1 (by decide) ?_
      refine g_iadd (pc := 725) dd_QuotaLawsLaw_law_702.2.2.2.2.2.2.2.2.2.2.2.2.2.2.2.2.2.2.2.1 ?_
      obtain ⟨x261, e262, hf⟩ := bd1_e hf
      refine g_sld (pc := 726) dd_QuotaLawsLaw_law_702.2.2.2.2.2.2.2.2.2.2.2.2.2.2.2.2.2.2.2.2.1 e262 ?_
      obtain ⟨u264, e263, hf⟩ := bd1_e hf
      obtain ⟨x267, h265, e266, hf⟩ := bd2_e hf
      refine g_callV (pc := 727) (ci := 0) [.int x259, .int x261] (site_of si_Q_breaks (by decide) (by decide)) wd_621 wd_622 wd_623 dd_QuotaLawsLaw_law_702.2.2.2.2.2.2.2.2.2.2.2.2.2.2.2.2.2.2.2.2.2.1 rfl e263 (Nat.le_of_ble_eq_true rfl) (fun z => absurd z si_na_Q_breaks) (fun z => absurd z si_na_Q_breaks) (fun z => absurd z si_na_Q_breaks) (c_Q_breaks e266) rfl ?_
      refine g_st [.int x267] rfl ?_
      refine g_pop (pc := 730) dd_QuotaLawsLaw_law_702.2.2.2.2.2.2.2.2.2.2.2.2.2.2.2.2.2.2.2.2.2.2.1 rfl ?_
      refine g_aload_n (pc := 731) 2 dd_QuotaLawsLaw_law_702.2.2.2.2.2.2.2.2.2.2.2.2.2.2.2.2.2.2.2.2.2.2.2 rfl rfl ?_
      refine g_aload_n (pc := 732) 0 dd_QuotaLawsLaw_law_732.1 rfl rfl ?_
      refine g_iload_n (pc := 733) 3 dd_QuotaLawsLaw_law_732.2.1 rfl rfl ?_
      refine g_iconst (pc := 734) (1 : Int32) dd_QuotaLawsLaw_law_732.2.2.1 (by decide) ?_
      refine g_iadd (pc := 735) dd_QuotaLawsLaw_law_732.2.2.2.1 ?_
      obtain ⟨x268, e269, hf⟩ := bd1_e hf
      refine g_sld (pc := 736) dd_QuotaLawsLaw_law_732.2.2.2.2.1 e269 ?_
      refine g_aload_n (pc := 737) 0 dd_QuotaLawsLaw_law_732.2.2.2.2.2.1 rfl rfl ?_
      refine g_iload_n (pc := 738) 3 dd_QuotaLawsLaw_law_732.2.2.2.2.2.2.1 rfl rfl ?_
      refine g_iconst (pc := 739) (2 : Int32) dd_QuotaLawsLaw_law_732.2.2.2.2.2.2.2.1 (by decide) ?_
      refine g_iadd (pc := 740) dd_QuotaLawsLaw_law_732.2.2.2.2.2.2.2.2.1 ?_
      obtain ⟨x270, e271, hf⟩ := bd1_e hf
      refine g_sld (pc := 741) dd_QuotaLawsLaw_law_732.2.2.2.2.2.2.2.2.2.1 e271 ?_
      obtain ⟨u273, e272, hf⟩ := bd1_e hf
      obtain ⟨x276, h274, e275, hf⟩ := bd2_e hf
      refine g_callV (pc := 742) (ci := 8) [.int x268, .int x270] (site_of si_M_breaks (by decide) (by decide)) wd_1233 wd_1234 wd_1235 dd_QuotaLawsLaw_law_732.2.2.2.2.2.2.2.2.2.2.1 rfl e272 (Nat.le_of_ble_eq_true rfl) (fun z => absurd z si_na_M_breaks) (fun z => absurd z si_na_M_breaks) (fun z => absurd z si_na_M_breaks) (c_M_breaks e275) rfl ?_
      refine g_st [.int x276] rfl ?_
      refine g_pop (pc := 745) dd_QuotaLawsLaw_law_732.2.2.2.2.2.2.2.2.2.2.2.1 rfl ?_
      refine g_goto (pc := 746) 1342 dd_QuotaLawsLaw_law_732.2.2.2.2.2.2.2.2.2.2.2.2.1 (by decide) ?_
      refine g_lv [0, 1, 2, 3] rfl ?_
      exact t_QuotaLawsLaw_law_1342 rec18 hrec18 _ _ _ _ _ _  hf
    replace hf := (if_neg c258).symm.trans hf
    by_cases c277 : (x19 &&& (63 : Int32)) = (17 : Int32)
    · replace hf := (if_pos c277).symm.trans hf
      refine g_tabIn (pc := 32) 749 (17 : Int32) dd_QuotaLawsLaw_law_0.2.2.2.2.2.2.2.2.2.2.2.2.2.2.2.2.2.2.2.2.2.1 c277 (by decide) (by decide) rfl (by decide) ?_
      refine g_aload_n (pc := 749) 1 dd_QuotaLawsLaw_law_732.2.2.2.2.2.2.2.2.2.2.2.2.2.1 rfl rfl ?_
      obtain ⟨u279, e278, hf⟩ := bd1_e hf
      obtain ⟨x282, h280, e281, hf⟩ := bd2_e hf
      refine g_callV (pc := 750) (ci := 0) [] (site_of si_Q_year (by decide) (by decide)) wd_634 wd_635 wd_636 dd_QuotaLawsLaw_law_732.2.2.2.2.2.2.2.2.2.2.2.2.2.2.1 rfl e278 (Nat.le_of_ble_eq_true rfl) (fun z => absurd z si_na_Q_year) (fun z => absurd z si_na_Q_year) (fun z => absurd z si_na_Q_year) (c_Q_year e281) rfl ?_
      refine g_st [.int x282] rfl ?_
      refine g_pop (pc := 753) dd_QuotaLawsLaw_law_732.2.2.2.2.2.2.2.2.2.2.2.2.2.2.2.1 rfl ?_
      refine g_aload_n (pc := 754) 2 dd_QuotaLawsLaw_law_732.2.2.2.2.2.2.2.2.2.2.2.2.2.2.2.2.1 rfl rfl ?_
      obtain ⟨u284, e283, hf⟩ := bd1_e hf
      obtain ⟨x287, h285, e286, hf⟩ := bd2_e hf
      refine g_callV (pc := 755) (ci := 8) [] (site_of si_M_year (by decide) (by decide)) wd_1237 wd_1238 wd_1239 dd_QuotaLawsLaw_law_732.2.2.2.2.2.2.2.2.2.2.2.2.2.2.2.2.2.1 rfl e283 (Nat.le_of_ble_eq_true rfl) (fun z => absurd z si_na_M_year) (fun z => absurd z si_na_M_year) (fun z => absurd z si_na_M_year) (c_M_year e286) rfl ?_
      refine g_st [.int x287] rfl ?_
      refine g_pop (pc := 758) dd_QuotaLawsLaw_law_732.2.2.2.2.2.2.2.2.2.2.2.2.2.2.2.2.2.2.1 rfl ?_
      refine g_goto (pc := 759) 1342 dd_QuotaLawsLaw_law_732.2.2.2.2.2.2.2.2.2.2.2.2.2.2.2.2.2.2.2.1 (by decide) ?_
      refine g_lv [0, 1, 2, 3] rfl ?_
      exact t_QuotaLawsLaw_law_1342 rec18 hrec18 _ _ _ _ _ _  hf
    replace hf := (if_neg c277).symm.trans hf
    by_cases c288 : (x19 &&& (63 : Int32)) = (18 : Int32)
    · replace hf := (if_pos c288).symm.trans hf
      refine g_tabIn (pc := 32) 762 (18 : Int32) dd_QuotaLawsLaw_law_0.2.2.2.2.2.2.2.2.2.2.2.2.2.2.2.2.2.2.2.2.2.1 c288 (by decide) (by decide) rfl (by decide) ?_
      refine g_aload_n (pc := 762) 1 dd_QuotaLawsLaw_law_732.2.2.2.2.2.2.2.2.2.2.2.2.2.2.2.2.2.2.2.2.1 rfl rfl ?_
      obtain ⟨u290, e289, hf⟩ := bd1_e hf
      obtain ⟨x293, h291, e292, hf⟩ := bd2_e hf
      refine g_callV (pc := 763) (ci := 0) [] (site_of si_Q_falls (by decide) (by decide)) wd_648 wd_649 wd_650 dd_QuotaLawsLaw_law_732.2.2.2.2.2.2.2.2.2.2.2.2.2.2.2.2.2.2.2.2.2.1 rfl e289 (Nat.le_of_ble_eq_true rfl) (fun z => absurd z si_na_Q_falls) (fun z => absurd z si_na_Q_falls) (fun z => absurd z si_na_Q_falls) (c_Q_falls e292) rfl ?_
      refine g_st [.int x293] rfl ?_
      refine g_pop (pc := 766) dd_QuotaLawsLaw_law_732.2.2.2.2.2.2.2.2.2.2.2.2.2.2.2.2.2.2.2.2.2.2.1 rfl ?_
      refine g_aload_n (pc := 767) 2 dd_QuotaLawsLaw_law_732.2.2.2.2.2.2.2.2.2.2.2.2.2.2.2.2.2.2.2.2.2.2.2 rfl rfl ?_
      obtain ⟨u295, e294, hf⟩ := bd1_e hf
      obtain ⟨x298, h296, e297, hf⟩ := bd2_e hf
      refine g_callV (pc := 768) (ci := 8) [] (site_of si_M_falls (by decide) (by decide)) wd_1245 wd_1246 wd_1247 dd_QuotaLawsLaw_law_768.1 rfl e294 (Nat.le_of_ble_eq_true rfl) (fun z => absurd z si_na_M_falls) (fun z => absurd z si_na_M_falls) (fun z => absurd z si_na_M_falls) (c_M_falls e297) rfl ?_
      refine g_st [.int x298] rfl ?_
      refine g_pop (pc := 771) dd_QuotaLawsLaw_law_768.2.1 rfl ?_
      refine g_goto (pc := 772) 1342 dd_QuotaLawsLaw_law_768.2.2.1 (by decide) ?_
      refine g_lv [0, 1, 2, 3] rfl ?_
      exact t_QuotaLawsLaw_law_1342 rec18 hrec18 _ _ _ _ _ _  hf
    replace hf := (if_neg c288).symm.trans hf
    by_cases c299 : (x19 &&& (63 : Int32)) = (19 : Int32)
    · replace hf := (if_pos c299).symm.trans hf
      refine g_tabIn (pc := 32) 775 (19 : Int32) dd_QuotaLawsLaw_law_0.2.2.2.2.2.2.2.2.2.2.2.2.2.2.2.2.2.2.2.2.2.1 c299 (by decide) (by decide) rfl (by decide) ?_
      refine g_aload_n (pc := 775) 1 dd_QuotaLawsLaw_law_768.2.2.2.1 rfl rfl ?_
      refine g_aload_n (pc := 776) 0 dd_QuotaLawsLaw_law_768.2.2.2.2.1 rfl rfl ?_
      refine g_iload_n (pc := 777) 3 dd_QuotaLawsLaw_law_768.2.2.2.2.2.1 rfl rfl ?_
      refine g_iconst (pc := 778) (1 : Int32) dd_QuotaLawsLaw_law_768.2.2.2.2.2.2.1 (by decide) ?_
      refine g_iadd (pc := 779) dd_QuotaLawsLaw_law_768.2.2.2.2.2.2.2.1 ?_
      obtain ⟨x300, e301, hf⟩ := bd1_e hf
      refine g_sld (pc := 780) dd_QuotaLawsLaw_law_768.2.2.2.2.2.2.2.2.1 e301 ?_
      obtain ⟨u303, e302, hf⟩ := bd1_e hf
      obtain ⟨x306, h304, e305, hf⟩ := bd2_e hf
      refine g_callV (pc := 781) (ci := 0) [.int x300] (site_of si_Q_most (by decide) (by decide)) wd_653 wd_654 wd_655 dd_QuotaLawsLaw_law_768.2.2.2.2.2.2.2.2.2.1 rfl e302 (Nat.le_of_ble_eq_true rfl) (fun z => absurd z si_na_Q_most) (fun z => absurd z si_na_Q_most) (fun z => absurd z si_na_Q_most) (c_Q_most e305) rfl ?_
      refine g_st [.int x306] rfl ?_
      refine g_pop (pc := 784) dd_QuotaLawsLaw_law_768.2.2.2.2.2.2.2.2.2.2.1 rfl ?_
      refine g_aload_n (pc := 785) 2 dd_QuotaLawsLaw_law_768.2.2.2.2.2.2.2.2.2.2.2.1 rfl rfl ?_
      refine g_aload_n (pc := 786) 0 dd_QuotaLawsLaw_law_768.2.2.2.2.2.2.2.2.2.2.2.2.1 rfl rfl ?_
      refine g_iload_n (pc := 787) 3 dd_QuotaLawsLaw_law_768.2.2.2.2.2.2.2.2.2.2.2.2.2.1 rfl rfl ?_
      refine g_iconst (pc := 788) (1 : Int32) dd_QuotaLawsLaw_law_768.2.2.2.2.2.2.2.2.2.2.2.2.2.2.1 (by decide) ?_
      refine g_iadd (pc := 789) dd_QuotaLawsLaw_law_768.2.2.2.2.2.2.2.2.2.2.2.2.2.2.2.1 ?_
      obtain ⟨x307, e308, hf⟩ := bd1_e hf
      refine g_sld (pc := 790) dd_QuotaLawsLaw_law_768.2.2.2.2.2.2.2.2.2.2.2.2.2.2.2.2.1 e308 ?_
      obtain ⟨u310, e309, hf⟩ := bd1_e hf
      obtain ⟨x313, h311, e312, hf⟩ := bd2_e hf
      refine g_callV (pc := 791) (ci := 8) [.int x307] (site_of si_M_most (by decide) (by decide)) wd_1249 wd_1250 wd_1251 dd_QuotaLawsLaw_law_768.2.2.2.2.2.2.2.2.2.2.2.2.2.2.2.2.2.1 rfl e309 (Nat.le_of_ble_eq_true rfl) (fun z => absurd z si_na_M_most) (fun z => absurd z si_na_M_most) (fun z => absurd z si_na_M_most) (c_M_most e312) rfl ?_
      refine g_st [.int x313] rfl ?_
      refine g_pop (pc := 794) dd_QuotaLawsLaw_law_768.2.2.2.2.2.2.2.2.2.2.2.2.2.2.2.2.2.2.1 rfl ?_
      refine g_goto (pc := 795) 1342 dd_QuotaLawsLaw_law_768.2.2.2.2.2.2.2.2.2.2.2.2.2.2.2.2.2.2.2.1 (by decide) ?_
      refine g_lv [0, 1, 2, 3] rfl ?_
      exact t_QuotaLawsLaw_law_1342 rec18 hrec18 _ _ _ _ _ _  hf
    replace hf := (if_neg c299).symm.trans hf
    by_cases c314 : (x19 &&& (63 : Int32)) = (20 : Int32)
    · replace hf := (if_pos c314).symm.trans hf
      refine g_tabIn (pc := 32) 798 (20 : Int32) dd_QuotaLawsLaw_law_0.2.2.2.2.2.2.2.2.2.2.2.2.2.2.2.2.2.2.2.2.2.1 c314 (by decide) (by decide) rfl (by decide) ?_
      refine g_aload_n (pc := 798) 1 dd_QuotaLawsLaw_law_768.2.2.2.2.2.2.2.2.2.2.2.2.2.2.2.2.2.2.2.2.1 rfl rfl ?_
      refine g_aload_n (pc := 799) 0 dd_QuotaLawsLaw_law_768.2.2.2.2.2.2.2.2.2.2.2.2.2.2.2.2.2.2.2.2.2.1 rfl rfl ?_
      refine g_iload_n (pc := 800) 3 dd_QuotaLawsLaw_law_768.2.2.2.2.2.2.2.2.2.2.2.2.2.2.2.2.2.2.2.2.2.2.1 rfl rfl ?_
      refine g_iconst (pc := 801) (1 : Int32) dd_QuotaLawsLaw_law_768.2.2.2.2.2.2.2.2.2.2.2.2.2.2.2.2.2.2.2.2.2.2.2 (by decide) ?_
      refine g_iadd (pc := 802) dd_QuotaLawsLaw_law_802.1 ?_
      obtain ⟨x315, e316, hf⟩ := bd1_e hf
      refine g_sld (pc := 803) dd_QuotaLawsLaw_law_802.2.1 e316 ?_
      obtain ⟨u318, e317, hf⟩ := bd1_e hf
      obtain ⟨x321, h319, e320, hf⟩ := bd2_e hf
      refine g_callV (pc := 804) (ci := 0) [.int x315] (site_of si_Q_rota (by decide) (by decide)) wd_657 wd_658 wd_659 dd_QuotaLawsLaw_law_802.2.2.1 rfl e317 (Nat.le_of_ble_eq_true rfl) (fun z => absurd z si_na_Q_rota) (fun z => absurd z si_na_Q_rota) (fun z => absurd z si_na_Q_rota) (c_Q_rota e320) rfl ?_
      refine g_st [.int x321] rfl ?_
      refine g_pop (pc := 807) dd_QuotaLawsLaw_law_802.2.2.2.1 rfl ?_
      refine g_aload_n (pc := 808) 2 dd_QuotaLawsLaw_law_802.2.2.2.2.1 rfl rfl ?_
      refine g_aload_n (pc := 809) 0 dd_QuotaLawsLaw_law_802.2.2.2.2.2.1 rfl rfl ?_
      refine g_iload_n (pc := 810) 3 dd_QuotaLawsLaw_law_802.2.2.2.2.2.2.1 rfl rfl ?_
      refine g_iconst (pc := 811) (1 : Int32) dd_QuotaLawsLaw_law_802.2.2.2.2.2.2.2.1 (by decide) ?_
      refine g_iadd (pc := 812) dd_QuotaLawsLaw_law_802.2.2.2.2.2.2.2.2.1 ?_
      obtain ⟨x322, e323, hf⟩ := bd1_e hf
      refine g_sld (pc := 813) dd_QuotaLawsLaw_law_802.2.2.2.2.2.2.2.2.2.1 e323 ?_
      obtain ⟨u325, e324, hf⟩ := bd1_e hf
      obtain ⟨x328, h326, e327, hf⟩ := bd2_e hf
      refine g_callV (pc := 814) (ci := 8) [.int x322] (site_of si_M_rota (by decide) (by decide)) wd_1253 wd_1254 wd_1255 dd_QuotaLawsLaw_law_802.2.2.2.2.2.2.2.2.2.2.1 rfl e324 (Nat.le_of_ble_eq_true rfl) (fun z => absurd z si_na_M_rota) (fun z => absurd z si_na_M_rota) (fun z => absurd z si_na_M_rota) (c_M_rota e327) rfl ?_
      refine g_st [.int x328] rfl ?_
      refine g_pop (pc := 817) dd_QuotaLawsLaw_law_802.2.2.2.2.2.2.2.2.2.2.2.1 rfl ?_
      refine g_goto (pc := 818) 1342 dd_QuotaLawsLaw_law_802.2.2.2.2.2.2.2.2.2.2.2.2.1 (by decide) ?_
      refine g_lv [0, 1, 2, 3] rfl ?_
      exact t_QuotaLawsLaw_law_1342 rec18 hrec18 _ _ _ _ _ _  hf
    replace hf := (if_neg c314).symm.trans hf
    by_cases c329 : (x19 &&& (63 : Int32)) = (21 : Int32)
    · replace hf := (if_pos c329).symm.trans hf
      refine g_tabIn (pc := 32) 821 (21 : Int32) dd_QuotaLawsLaw_law_0.2.2.2.2.2.2.2.2.2.2.2.2.2.2.2.2.2.2.2.2.2.1 c329 (by decide) (by decide) rfl (by decide) ?_
      refine g_aload_n (pc := 821) 1 dd_QuotaLawsLaw_law_802.2.2.2.2.2.2.2.2.2.2.2.2.2.1 rfl rfl ?_
      refine g_aload_n (pc := 822) 0 dd_QuotaLawsLaw_law_802.2.2.2.2.2.2.2.2.2.2.2.2.2.2.1 rfl rfl ?_
      refine g_iload_n (pc := 823) 3 dd_QuotaLawsLaw_law_802.2.2.2.2.2.2.2.2.2.2.2.2.2.2.2.1 rfl rfl ?_
      refine g_iconst (pc := 824) (1 : Int32) dd_QuotaLawsLaw_law_802.2.2.2.2.2.2.2.2.2.2.2.2.2.2.2.2.1 (by decide) ?_
      refine g_iadd (pc := 825) dd_QuotaLawsLaw_law_802.2.2.2.2.2.2.2.2.2.2.2.2.2.2.2.2.2.1 ?_
      obtain ⟨x330, e331, hf⟩ := bd1_e hf
      refine g_sld (pc := 826) dd_QuotaLawsLaw_law_802.2.2.2.2.2.2.2.2.2.2.2.2.2.2.2.2.2.2.1 e331 ?_
      obtain ⟨u333, e332, hf⟩ := bd1_e hf
      obtain ⟨x336, h334, e335, hf⟩ := bd2_e hf
      refine g_callV (pc := 827) (ci := 0) [.int x330] (site_of si_Q_more (by decide) (by decide)) wd_692 wd_693 wd_694 dd_QuotaLawsLaw_law_802.2.2.2.2.2.2.2.2.2.2.2.2.2.2.2.2.2.2.2.1 rfl e332 (Nat.le_of_ble_eq_true rfl) (fun z => absurd z si_na_Q_more) (fun z => absurd z si_na_Q_more) (fun z => absurd z si_na_Q_more) (c_Q_more e335) rfl ?_
      refine g_st [.int x336] rfl ?_
      refine g_pop (pc := 830) dd_QuotaLawsLaw_law_802.2.2.2.2.2.2.2.2.2.2.2.2.2.2.2.2.2.2.2.2.1 rfl ?_
      refine g_aload_n (pc := 831) 2 dd_QuotaLawsLaw_law_802.2.2.2.2.2.2.2.2.2.2.2.2.2.2.2.2.2.2.2.2.2.1 rfl rfl ?_
      refine g_aload_n (pc := 832) 0 dd_QuotaLawsLaw_law_802.2.2.2.2.2.2.2.2.2.2.2.2.2.2.2.2.2.2.2.2.2.2.1 rfl rfl ?_
      refine g_iload_n (pc := 833) 3 dd_QuotaLawsLaw_law_802.2.2.2.2.2.2.2.2.2.2.2.2.2.2.2.2.2.2.2.2.2.2.2 rfl rfl ?_
      refine g_iconst (pc := 834) (1 : Int32) dd_QuotaLawsLaw_law_834.1 (by decide) ?_
      refine g_iadd (pc := 835) dd_QuotaLawsLaw_law_834.2.1 ?_
      obtain ⟨x337, e338, hf⟩ := bd1_e hf
      refine g_sld (pc := 836) dd_QuotaLawsLaw_law_834.2.2.1 e338 ?_
      obtain ⟨u340, e339, hf⟩ := bd1_e hf
      obtain ⟨x343, h341, e342, hf⟩ := bd2_e hf
      refine g_callV (pc := 837) (ci := 8) [.int x337] (site_of si_M_more (by decide) (by decide)) wd_1286 wd_1287 wd_1288 dd_QuotaLawsLaw_law_834.2.2.2.1 rfl e339 (Nat.le_of_ble_eq_true rfl) (fun z => absurd z si_na_M_more) (fun z => absurd z si_na_M_more) (fun z => absurd z si_na_M_more) (c_M_more e342) rfl ?_
      refine g_st [.int x343] rfl ?_
      refine g_pop (pc := 840) dd_QuotaLawsLaw_law_834.2.2.2.2.1 rfl ?_
      refine g_goto (pc := 841) 1342 dd_QuotaLawsLaw_law_834.2.2.2.2.2.1 (by decide) ?_
      refine g_lv [0, 1, 2, 3] rfl ?_
      exact t_QuotaLawsLaw_law_1342 rec18 hrec18 _ _ _ _ _ _  hf
    replace hf := (if_neg c329).symm.trans hf
    by_cases c344 : (x19 &&& (63 : Int32)) = (22 : Int32)
    · replace hf := (if_pos c344).symm.trans hf
      refine g_tabIn (pc := 32) 844 (22 : Int32) dd_QuotaLawsLaw_law_0.2.2.2.2.2.2.2.2.2.2.2.2.2.2.2.2.2.2.2.2.2.1 c344 (by decide) (by decide) rfl (by decide) ?_
      refine g_aload_n (pc := 844) 1 dd_QuotaLawsLaw_law_834.2.2.2.2.2.2.1 rfl rfl ?_
      refine g_aload_n (pc := 845) 0 dd_QuotaLawsLaw_law_834.2.2.2.2.2.2.2.1 rfl rfl ?_
      refine g_iload_n (pc := 846) 3 dd_QuotaLawsLaw_law_834.2.2.2.2.2.2.2.2.1 rfl rfl ?_
      refine g_iconst (pc := 847) (1 : Int32) dd_QuotaLawsLaw_law_834.2.2.2.2.2.2.2.2.2.1 (by decide) ?_
      refine g_iadd (pc := 848) dd_QuotaLawsLaw_law_834.2.2.2.2.2.2.2.2.2.2.1 ?_
      obtain ⟨x345, e346, hf⟩ := bd1_e hf
      refine g_sld (pc := 849) dd_QuotaLawsLaw_law_834.2.2.2.2.2.2.2.2.2.2.2.1 e346 ?_
      obtain ⟨u348, e347, hf⟩ := bd1_e hf
      obtain ⟨x351, h349, e350, hf⟩ := bd2_e hf
      refine g_callV (pc := 850) (ci := 0) [.int x345] (site_of si_Q_together (by decide) (by decide)) wd_715 wd_716 wd_717 dd_QuotaLawsLaw_law_834.2.2.2.2.2.2.2.2.2.2.2.2.1 rfl e347 (Nat.le_of_ble_eq_true rfl) (fun z => absurd z si_na_Q_together) (fun z => absurd z si_na_Q_together) (fun z => absurd z si_na_Q_together) (c_Q_together e350) rfl ?_
      refine g_st [.int x351] rfl ?_
      refine g_pop (pc := 853) dd_QuotaLawsLaw_law_834.2.2.2.2.2.2.2.2.2.2.2.2.2.1 rfl ?_
      refine g_aload_n (pc := 854) 2 dd_QuotaLawsLaw_law_834.2.2.2.2.2.2.2.2.2.2.2.2.2.2.1 rfl rfl ?_
      refine g_aload_n (pc := 855) 0 dd_QuotaLawsLaw_law_834.2.2.2.2.2.2.2.2.2.2.2.2.2.2.2.1 rfl rfl ?_
      refine g_iload_n (pc := 856) 3 dd_QuotaLawsLaw_law_834.2.2.2.2.2.2.2.2.2.2.2.2.2.2.2.2.1 rfl rfl ?_
      refine g_iconst (pc := 857) (1 : Int32) dd_QuotaLawsLaw_law_834.2.2.2.2.2.2.2.2.2.2.2.2.2.2.2.2.2.1 (by decide) ?_
      refine g_iadd (pc := 858) dd_QuotaLawsLaw_law_834.2.2.2.2.2.2.2.2.2.2.2.2.2.2.2.2.2.2.1 ?_
      obtain ⟨x352, e353, hf⟩ := bd1_e hf
      refine g_sld (pc := 859) dd_QuotaLawsLaw_law_834.2.2.2.2.2.2.2.2.2.2.2.2.2.2.2.2.2.2.2.1 e353 ?_
      obtain ⟨u355, e354, hf⟩ := bd1_e hf
      obtain ⟨x358, h356, e357, hf⟩ := bd2_e hf
      refine g_callV (pc := 860) (ci := 8) [.int x352] (site_of si_M_together (by decide) (by decide)) wd_1290 wd_1291 wd_1292 dd_QuotaLawsLaw_law_834.2.2.2.2.2.2.2.2.2.2.2.2.2.2.2.2.2.2.2.2.1 rfl e354 (Nat.le_of_ble_eq_true rfl) (fun z => absurd z si_na_M_together) (fun z => absurd z si_na_M_together) (fun z => absurd z si_na_M_together) (c_M_together e357) rfl ?_
      refine g_st [.int x358] rfl ?_
      refine g_pop (pc := 863) dd_QuotaLawsLaw_law_834.2.2.2.2.2.2.2.2.2.2.2.2.2.2.2.2.2.2.2.2.2.1 rfl ?_
      refine g_goto (pc := 864) 1342 dd_QuotaLawsLaw_law_834.2.2.2.2.2.2.2.2.2.2.2.2.2.2.2.2.2.2.2.2.2.2.1 (by decide) ?_
      refine g_lv [0, 1, 2, 3] rfl ?_
      exact t_QuotaLawsLaw_law_1342 rec18 hrec18 _ _ _ _ _ _  hf
    replace hf := (if_neg c344).symm.trans hf
    by_cases c359 : (x19 &&& (63 : Int32)) = (23 : Int32)
    · replace hf := (if_pos c359).symm.trans hf
      refine g_tabIn (pc := 32) 867 (23 : Int32) dd_QuotaLawsLaw_law_0.2.2.2.2.2.2.2.2.2.2.2.2.2.2.2.2.2.2.2.2.2.1 c359 (by decide) (by decide) rfl (by decide) ?_
      refine g_aload_n (pc := 867) 1 dd_QuotaLawsLaw_law_834.2.2.2.2.2.2.2.2.2.2.2.2.2.2.2.2.2.2.2.2.2.2.2 rfl rfl ?_
      refine g_aload_n (pc := 868) 0 dd_QuotaLawsLaw_law_868.1 rfl rfl ?_
      refine g_iload_n (pc := 869) 3 dd_QuotaLawsLaw_law_868.2.1 rfl rfl ?_
      refine g_iconst (pc := 870) (1 : Int32) dd_QuotaLawsLaw_law_868.2.2.1 (by decide) ?_
      refine g_iadd (pc := 871) dd_QuotaLawsLaw_law_868.2.2.2.1 ?_
      obtain ⟨x360, e361, hf⟩ := bd1_e hf
      refine g_sld (pc := 872) dd_QuotaLawsLaw_law_868.2.2.2.2.1 e361 ?_
      refine g_aload_n (pc := 873) 0 dd_QuotaLawsLaw_law_868.2.2.2.2.2.1 rfl rfl ?_
      refine g_iload_n (pc := 874) 3 dd_QuotaLawsLaw_law_868.2.2.2.2.2.2.1 rfl rfl ?_
      refine g_iconst (pc := 875) (2 : Int32) dd_QuotaLawsLaw_law_868.2.2.2.2.2.2.2.1 (by decide) ?_
      refine g_iadd (pc := 876) dd_QuotaLawsLaw_law_868.2.2.2.2.2.2.2.2.1 ?_
      obtain ⟨x362, e363, hf⟩ := bd1_e hf
      refine g_sld (pc := 877) dd_QuotaLawsLaw_law_868.2.2.2.2.2.2.2.2.2.1 e363 ?_
      obtain ⟨u365, e364, hf⟩ := bd1_e hf
      obtain ⟨x368, h366, e367, hf⟩ := bd2_e hf
      refine g_callV (pc := 878) (ci := 0) [.int x360, .int x362] (site_of si_Q_kill (by decide) (by decide)) wd_720 wd_721 wd_722 dd_QuotaLawsLaw_law_868.2.2.2.2.2.2.2.2.2.2.1 rfl e364 (Nat.le_of_ble_eq_true rfl) (fun z => absurd z si_na_Q_kill) (fun z => absurd z si_na_Q_kill) (fun z => absurd z si_na_Q_kill) (c_Q_kill e367) rfl ?_
      refine g_st [.int x368] rfl ?_
      refine g_pop (pc := 881) dd_QuotaLawsLaw_law_868.2.2.2.2.2.2.2.2.2.2.2.1 rfl ?_
      refine g_aload_n (pc := 882) 2 dd_QuotaLawsLaw_law_868.2.2.2.2.2.2.2.2.2.2.2.2.1 rfl rfl ?_
      refine g_aload_n (pc := 883) 0 dd_QuotaLawsLaw_law_868.2.2.2.2.2.2.2.2.2.2.2.2.2.1 rfl rfl ?_
      refine g_iload_n (pc := 884) 3 dd_QuotaLawsLaw_law_868.2.2.2.2.2.2.2.2.2.2.2.2.2.2.1 rfl rfl ?_
      refine g_iconst (pc := 885) (1 : Int32) dd_QuotaLawsLaw_law_868.2.2.2.2.2.2.2.2.2.2.2.2.2.2.2.1 (by decide) ?_
      refine g_iadd (pc := 886) dd_QuotaLawsLaw_law_868.2.2.2.2.2.2.2.2.2.2.2.2.2.2.2.2.1 ?_
      obtain ⟨x369, e370, hf⟩ := bd1_e hf
      refine g_sld (pc := 887) dd_QuotaLawsLaw_law_868.2.2.2.2.2.2.2.2.2.2.2.2.2.2.2.2.2.1 e370 ?_
      refine g_aload_n (pc := 888) 0 dd_QuotaLawsLaw_law_868.2.2.2.2.2.2.2.2.2.2.2.2.2.2.2.2.2.2.1 rfl rfl ?_
      refine g_iload_n (pc := 889) 3 dd_QuotaLawsLaw_law_868.2.2.2.2.2.2.2.2.2.2.2.2.2.2.2.2.2.2.2.1 rfl rfl ?_
      refine g_iconst (pc := 890) (2 : Int32) dd_QuotaLawsLaw_law_868.2.2.2.2.2.2.2.2.2.2.2.2.2.2.2.2.2.2.2.2.1 (by decide) ?_
      refine g_iadd (pc := 891) dd_QuotaLawsLaw_law_868.2.2.2.2.2.2.2.2.2.2.2.2.2.2.2.2.2.2.2.2.2.1 ?_
      obtain ⟨x371, e372, hf⟩ := bd1_e hf
      refine g_sld (pc := 892) dd_QuotaLawsLaw_law_868.2.2.2.2.2.2.2.2.2.2.2.2.2.2.2.2.2.2.2.2.2.2.1 e372 ?_
      obtain ⟨u374, e373, hf⟩ := bd1_e hf
      obtain ⟨x377, h375, e376, hf⟩ := bd2_e hf
      refine g_callV (pc := 893) (ci := 8) [.int x369, .int x371] (site_of si_M_kill (by decide) (by decide)) wd_1294 wd_1295 wd_1296 dd_QuotaLawsLaw_law_868.2.2.2.2.2.2.2.2.2.2.2.2.2.2.2.2.2.2.2.2.2.2.2 rfl e373 (Nat.le_of_ble_eq_true rfl) (fun z => absurd z si_na_M_kill) (fun z => absurd z si_na_M_kill) (fun z => absurd z si_na_M_kill) (c_M_kill e376) rfl ?_
      refine g_st [.int x377] rfl ?_
      refine g_pop (pc := 896) dd_QuotaLawsLaw_law_896.1 rfl ?_
      refine g_goto (pc := 897) 1342 dd_QuotaLawsLaw_law_896.2.1 (by decide) ?_
      refine g_lv [0, 1, 2, 3] rfl ?_
      exact t_QuotaLawsLaw_law_1342 rec18 hrec18 _ _ _ _ _ _  hf
    replace hf := (if_neg c359).symm.trans hf
    by_cases c378 : (x19 &&& (63 : Int32)) = (24 : Int32)
    · replace hf := (if_pos c378).symm.trans hf
      refine g_tabIn (pc := 32) 900 (24 : Int32) dd_QuotaLawsLaw_law_0.2.2.2.2.2.2.2.2.2.2.2.2.2.2.2.2.2.2.2.2.2.1 c378 (by decide) (by decide) rfl (by decide) ?_
      refine g_aload_n (pc := 900) 1 dd_QuotaLawsLaw_law_896.2.2.1 rfl rfl ?_
      refine g_aload_n (pc := 901) 0 dd_QuotaLawsLaw_law_896.2.2.2.1 rfl rfl ?_
      refine g_iload_n (pc := 902) 3 dd_QuotaLawsLaw_law_896.2.2.2.2.1 rfl rfl ?_
      refine g_iconst (pc := 903) (1 : Int32) dd_QuotaLawsLaw_law_896.2.2.2.2.2.1 (by decide) ?_
      refine g_iadd (pc := 904) dd_QuotaLawsLaw_law_896.2.2.2.2.2.2.1 ?_
      obtain ⟨x379, e380, hf⟩ := bd1_e hf
      refine g_sld (pc := 905) dd_QuotaLawsLaw_law_896.2.2.2.2.2.2.2.1 e380 ?_
      obtain ⟨u382, e381, hf⟩ := bd1_e hf
      obtain ⟨x385, h383, e384, hf⟩ := bd2_e hf
      refine g_callV (pc := 906) (ci := 0) [.int x379] (site_of si_Q_selfish (by decide) (by decide)) wd_728 wd_729 wd_730 dd_QuotaLawsLaw_law_896.2.2.2.2.2.2.2.2.1 rfl e381 (Nat.le_of_ble_eq_true rfl) (fun z => absurd z si_na_Q_selfish) (fun z => absurd z si_na_Q_selfish) (fun z => absurd z si_na_Q_selfish) (c_Q_selfish e384) rfl ?_
      refine g_st [.int x385] rfl ?_
      refine g_pop (pc := 909) dd_QuotaLawsLaw_law_896.2.2.2.2.2.2.2.2.2.1 rfl ?_
      refine g_aload_n (pc := 910) 2 dd_QuotaLawsLaw_law_896.2.2.2.2.2.2.2.2.2.2.1 rfl rfl ?_
      refine g_aload_n (pc := 911) 0 dd_QuotaLawsLaw_law_896.2.2.2.2.2.2.2.2.2.2.2.1 rfl rfl ?_
      refine g_iload_n (pc := 912) 3 dd_QuotaLawsLaw_law_896.2.2.2.2.2.2.2.2.2.2.2.2.1 rfl rfl ?_
      refine g_iconst (pc := 913) (1 : Int32) dd_QuotaLawsLaw_law_896.2.2.2.2.2.2.2.2.2.2.2.2.2.1 (by decide) ?_
      refine g_iadd (pc := 914) dd_QuotaLawsLaw_law_896.2.2.2.2.2.2.2.2.2.2.2.2.2.2.1 ?_
      obtain ⟨x386, e387, hf⟩ := bd1_e hf
      refine g_sld (pc := 915) dd_QuotaLawsLaw_law_896.2.2.2.2.2.2.2.2.2.2.2.2.2.2.2.1 e387 ?_
      obtain ⟨u389, e388, hf⟩ := bd1_e hf
      obtain ⟨x392, h390, e391, hf⟩ := bd2_e hf
      refine g_callV (pc := 916) (ci := 8) [.int x386] (site_of si_M_selfish (by decide) (by decide)) wd_1302 wd_1303 wd_1304 dd_QuotaLawsLaw_law_896.2.2.2.2.2.2.2.2.2.2.2.2.2.2.2.2.1 rfl e388 (Nat.le_of_ble_eq_true rfl) (fun z => absurd z si_na_M_selfish) (fun z => absurd z si_na_M_selfish) (fun z => absurd z si_na_M_selfish) (c_M_selfish e391) rfl ?_
      refine g_st [.int x392] rfl ?_
      refine g_pop (pc := 919) dd_QuotaLawsLaw_law_896.2.2.2.2.2.2.2.2.2.2.2.2.2.2.2.2.2.1 rfl ?_
      refine g_goto (pc := 920) 1342 dd_QuotaLawsLaw_law_896.2.2.2.2.2.2.2.2.2.2.2.2.2.2.2.2.2.2.1 (by decide) ?_
      refine g_lv [0, 1, 2, 3] rfl ?_
      exact t_QuotaLawsLaw_law_1342 rec18 hrec18 _ _ _ _ _ _  hf
    replace hf := (if_neg c378).symm.trans hf
    by_cases c393 : (x19 &&& (63 : Int32)) = (25 : Int32)
    · replace hf := (if_pos c393).symm.trans hf
      refine g_tabIn (pc := 32) 923 (25 : Int32) dd_QuotaLawsLaw_law_0.2.2.2.2.2.2.2.2.2.2.2.2.2.2.2.2.2.2.2.2.2.1 c393 (by decide) (by decide) rfl (by decide) ?_
      refine g_aload_n (pc := 923) 1 dd_QuotaLawsLaw_law_896.2.2.2.2.2.2.2.2.2.2.2.2.2.2.2.2.2.2.2.1 rfl rfl ?_
      refine g_aload_n (pc := 924) 0 dd_QuotaLawsLaw_law_896.2.2.2.2.2.2.2.2.2.2.2.2.2.2.2.2.2.2.2.2.1 rfl rfl ?_
      refine g_iload_n (pc := 925) 3 dd_QuotaLawsLaw_law_896.2.2.2.2.2.2.2.2.2.2.2.2.2.2.2.2.2.2.2.2.2.1 rfl rfl ?_
      refine g_iconst (pc := 926) (1 : Int32) dd_QuotaLawsLaw_law_896.2.2.2.2.2.2.2.2.2.2.2.2.2.2.2.2.2.2.2.2.2.2.1 (by decide) ?_
      refine g_iadd (pc := 927) dd_QuotaLawsLaw_law_896.2.2.2.2.2.2.2.2.2.2.2.2.2.2.2.2.2.2.2.2.2.2.2 ?_
      obtain ⟨x394, e395, hf⟩ := bd1_e hf
      refine g_sld (pc := 928) dd_QuotaLawsLaw_law_928.1 e395 ?_
      refine g_aload_n (pc := 929) 0 dd_QuotaLawsLaw_law_928.2.1 rfl rfl ?_
      refine g_iload_n (pc := 930) 3 dd_QuotaLawsLaw_law_928.2.2.1 rfl rfl ?_
      refine g_iconst (pc := 931) (2 : Int32) dd_QuotaLawsLaw_law_928.2.2.2.1 (by decide) ?_
      refine g_iadd (pc := 932) dd_QuotaLawsLaw_law_928.2.2.2.2.1 ?_
      obtain ⟨x396, e397, hf⟩ := bd1_e hf
      refine g_sld (pc := 933) dd_QuotaLawsLaw_law_928.2.2.2.2.2.1 e397 ?_
      obtain ⟨u399, e398, hf⟩ := bd1_e hf
      obtain ⟨x402, h400, e401, hf⟩ := bd2_e hf
      refine g_callV (pc := 934) (ci := 0) [.int x394, .int x396] (site_of si_Q_luck (by decide) (by decide)) wd_745 wd_746 wd_747 dd_QuotaLawsLaw_law_928.2.2.2.2.2.2.1 rfl e398 (Nat.le_of_ble_eq_true rfl) (fun z => absurd z si_na_Q_luck) (fun z => absurd z si_na_Q_luck) (fun z => absurd z si_na_Q_luck) (c_Q_luck e401) rfl ?_
      refine g_st [.long x402] rfl ?_
      refine g_pop2 (pc := 937) dd_QuotaLawsLaw_law_928.2.2.2.2.2.2.2.1 rfl ?_
      refine g_aload_n (pc := 938) 2 dd_QuotaLawsLaw_law_928.2.2.2.2.2.2.2.2.1 rfl rfl ?_
      refine g_aload_n (pc := 939) 0 dd_QuotaLawsLaw_law_928.2.2.2.2.2.2.2.2.2.1 rfl rfl ?_
      refine g_iload_n (pc := 940) 3 dd_QuotaLawsLaw_law_928.2.2.2.2.2.2.2.2.2.2.1 rfl rfl ?_
      refine g_iconst (pc := 941) (1 : Int32) dd_QuotaLawsLaw_law_928.2.2.2.2.2.2.2.2.2.2.2.1 (by decide) ?_
      refine g_iadd (pc := 942) dd_QuotaLawsLaw_law_928.2.2.2.2.2.2.2.2.2.2.2.2.1 ?_
      obtain ⟨x403, e404, hf⟩ := bd1_e hf
      refine g_sld (pc := 943) dd_QuotaLawsLaw_law_928.2.2.2.2.2.2.2.2.2.2.2.2.2.1 e404 ?_
      refine g_aload_n (pc := 944) 0 dd_QuotaLawsLaw_law_928.2.2.2.2.2.2.2.2.2.2.2.2.2.2.1 rfl rfl ?_
      refine g_iload_n (pc := 945) 3 dd_QuotaLawsLaw_law_928.2.2.2.2.2.2.2.2.2.2.2.2.2.2.2.1 rfl rfl ?_
      refine g_iconst (pc := 946) (2 : Int32) dd_QuotaLawsLaw_law_928.2.2.2.2.2.2.2.2.2.2.2.2.2.2.2.2.1 (by decide) ?_
      refine g_iadd (pc := 947) dd_QuotaLawsLaw_law_928.2.2.2.2.2.2.2.2.2.2.2.2.2.2.2.2.2.1 ?_
      obtain ⟨x405, e406, hf⟩ := bd1_e hf
      refine g_sld (pc := 948) dd_QuotaLawsLaw_law_928.2.2.2.2.2.2.2.2.2.2.2.2.2.2.2.2.2.2.1 e406 ?_
      obtain ⟨u408, e407, hf⟩ := bd1_e hf
      obtain ⟨x411, h409, e410, hf⟩ := bd2_e hf
      refine g_callV (pc := 949) (ci := 8) [.int x403, .int x405] (site_of si_M_luck (by decide) (by decide)) wd_1319 wd_1320 wd_1321 dd_QuotaLawsLaw_law_928.2.2.2.2.2.2.2.2.2.2.2.2.2.2.2.2.2.2.2.1 rfl e407 (Nat.le_of_ble_eq_true rfl) (fun z => absurd z si_na_M_luck) (fun z => absurd z si_na_M_luck) (fun z => absurd z si_na_M_luck) (c_M_luck e410) rfl ?_
      refine g_st [.long x411] rfl ?_
      refine g_pop2 (pc := 952) dd_QuotaLawsLaw_law_928.2.2.2.2.2.2.2.2.2.2.2.2.2.2.2.2.2.2.2.2.1 rfl ?_
      refine g_goto (pc := 953) 1342 dd_QuotaLawsLaw_law_928.2.2.2.2.2.2.2.2.2.2.2.2.2.2.2.2.2.2.2.2.2.1 (by decide) ?_
      refine g_lv [0, 1, 2, 3] rfl ?_
      exact t_QuotaLawsLaw_law_1342 rec18 hrec18 _ _ _ _ _ _  hf
    replace hf := (if_neg c393).symm.trans hf
    by_cases c412 : (x19 &&& (63 : Int32)) = (26 : Int32)
    · replace hf := (if_pos c412).symm.trans hf
      refine g_tabIn (pc := 32) 956 (26 : Int32) dd_QuotaLawsLaw_law_0.2.2.2.2.2.2.2.2.2.2.2.2.2.2.2.2.2.2.2.2.2.1 c412 (by decide) (by decide) rfl (by decide) ?_
      refine g_aload_n (pc := 956) 1 dd_QuotaLawsLaw_law_928.2.2.2.2.2.2.2.2.2.2.2.2.2.2.2.2.2.2.2.2.2.2.1 rfl rfl ?_
      refine g_aload_n (pc := 957) 0 dd_QuotaLawsLaw_law_928.2.2.2.2.2.2.2.2.2.2.2.2.2.2.2.2.2.2.2.2.2.2.2 rfl rfl ?_
      refine g_iload_n (pc := 958) 3 dd_QuotaLawsLaw_law_958.1 rfl rfl ?_
      refine g_iconst (pc := 959) (1 : Int32) dd_QuotaLawsLaw_law_958.2.1 (by decide) ?_
      refine g_iadd (pc := 960) dd_QuotaLawsLaw_law_958.2.2.1 ?_
      obtain ⟨x413, e414, hf⟩ := bd1_e hf
      refine g_sld (pc := 961) dd_QuotaLawsLaw_law_958.2.2.2.1 e414 ?_
      refine g_aload_n (pc := 962) 0 dd_QuotaLawsLaw_law_958.2.2.2.2.1 rfl rfl ?_
      refine g_iload_n (pc := 963) 3 dd_QuotaLawsLaw_law_958.2.2.2.2.2.1 rfl rfl ?_
      refine g_iconst (pc := 964) (2 : Int32) dd_QuotaLawsLaw_law_958.2.2.2.2.2.2.1 (by decide) ?_
      refine g_iadd (pc := 965) dd_QuotaLawsLaw_law_958.2.2.2.2.2.2.2.1 ?_
      obtain ⟨x415, e416, hf⟩ := bd1_e hf
      refine g_sld (pc := 966) dd_QuotaLawsLaw_law_958.2.2.2.2.2.2.2.2.1 e416 ?_
      refine g_aload_n (pc := 967) 0 dd_QuotaLawsLaw_law_958.2.2.2.2.2.2.2.2.2.1 rfl rfl ?_
      refine g_iload_n (pc := 968) 3 dd_QuotaLawsLaw_law_958.2.2.2.2.2.2.2.2.2.2.1 rfl rfl ?_
      refine g_iconst (pc := 969) (3 : Int32) dd_QuotaLawsLaw_law_958.2.2.2.2.2.2.2.2.2.2.2.1 (by decide) ?_
      refine g_iadd (pc := 970) dd_QuotaLawsLaw_law_958.2.2.2.2.2.2.2.2.2.2.2.2.1 ?_
      obtain ⟨x417, e418, hf⟩ := bd1_e hf
      refine g_sld (pc := 971) dd_QuotaLawsLaw_law_958.2.2.2.2.2.2.2.2.2.2.2.2.2.1 e418 ?_
      obtain ⟨u420, e419, hf⟩ := bd1_e hf
      obtain ⟨x423, h421, e422, hf⟩ := bd2_e hf
      refine g_callV (pc := 972) (ci := 0) [.int x413, .int x415, .int x417] (site_of si_Q_see (by decide) (by decide)) wd_768 wd_769 wd_770 dd_QuotaLawsLaw_law_958.2.2.2.2.2.2.2.2.2.2.2.2.2.2.1 rfl e419 (Nat.le_of_ble_eq_true rfl) (fun z => absurd z si_na_Q_see) (fun z => absurd z si_na_Q_see) (fun z => absurd z si_na_Q_see) (c_Q_see e422) rfl ?_
      refine g_st [.int x423] rfl ?_
      refine g_pop (pc := 975) dd_QuotaLawsLaw_law_958.2.2.2.2.2.2.2.2.2.2.2.2.2.2.2.1 rfl ?_
      refine g_aload_n (pc := 976) 2 dd_QuotaLawsLaw_law_958.2.2.2.2.2.2.2.2.2.2.2.2.2.2.2.2.1 rfl rfl ?_
      refine g_aload_n (pc := 977) 0 dd_QuotaLawsLaw_law_958.2.2.2.2.2.2.2.2.2.2.2.2.2.2.2.2.2.1 rfl rfl ?_
      refine g_iload_n (pc := 978) 3 dd_QuotaLawsLaw_law_958.2.2.2.2.2.2.2.2.2.2.2.2.2.2.2.2.2.2.1 rfl rfl ?_
      refine g_iconst (pc := 979) (1 : Int32) dd_QuotaLawsLaw_law_958.2.2.2.2.2.2.2.2.2.2.2.2.2.2.2.2.2.2.2.1 (by decide) ?_
      refine g_iadd (pc := 980) dd_QuotaLawsLaw_law_958.2.2.2.2.2.2.2.2.2.2.2.2.2.2.2.2.2.2.2.2.1 ?_
      obtain ⟨x424, e425, hf⟩ := bd1_e hf
      refine g_sld (pc := 981) dd_QuotaLawsLaw_law_958.2.2.2.2.2.2.2.2.2.2.2.2.2.2.2.2.2.2.2.2.2.1 e425 ?_
      refine g_aload_n (pc := 982) 0 dd_QuotaLawsLaw_law_958.2.2.2.2.2.2.2.2.2.2.2.2.2.2.2.2.2.2.2.2.2.2.1 rfl rfl ?_
      refine g_iload_n (pc := 983) 3 dd_QuotaLawsLaw_law_958.2.2.2.2.2.2.2.2.2.2.2.2.2.2.2.2.2.2.2.2.2.2.2 rfl rfl ?_
      refine g_iconst (pc := 984) (2 : Int32) dd_QuotaLawsLaw_law_984.1 (by decide) ?_
      refine g_iadd (pc := 985) dd_QuotaLawsLaw_law_984.2.1 ?_
      obtain ⟨x426, e427, hf⟩ := bd1_e hf
      refine g_sld (pc := 986) dd_QuotaLawsLaw_law_984.2.2.1 e427 ?_
      refine g_aload_n (pc := 987) 0 dd_QuotaLawsLaw_law_984.2.2.2.1 rfl rfl ?_
      refine g_iload_n (pc := 988) 3 dd_QuotaLawsLaw_law_984.2.2.2.2.1 rfl rfl ?_
      refine g_iconst (pc := 989) (3 : Int32) dd_QuotaLawsLaw_law_984.2.2.2.2.2.1 (by decide) ?_
      refine g_iadd (pc := 990) dd_QuotaLawsLaw_law_984.2.2.2.2.2.2.1 ?_
      obtain ⟨x428, e429, hf⟩ := bd1_e hf
      refine g_sld (pc := 991) dd_QuotaLawsLaw_law_984.2.2.2.2.2.2.2.1 e429 ?_
      obtain ⟨u431, e430, hf⟩ := bd1_e hf
      obtain ⟨x434, h432, e433, hf⟩ := bd2_e hf
      refine g_callV (pc := 992) (ci := 8) [.int x424, .int x426, .int x428] (site_of si_M_see (by decide) (by decide)) wd_1328 wd_1329 wd_1330 dd_QuotaLawsLaw_law_984.2.2.2.2.2.2.2.2.1 rfl e430 (Nat.le_of_ble_eq_true rfl) (fun z => absurd z si_na_M_see) (fun z => absurd z si_na_M_see) (fun z => absurd z si_na_M_see) (c_M_see e433) rfl ?_
      refine g_st [.int x434] rfl ?_
      refine g_pop (pc := 995) dd_QuotaLawsLaw_law_984.2.2.2.2.2.2.2.2.2.1 rfl ?_
      refine g_goto (pc := 996) 1342 dd_QuotaLawsLaw_law_984.2.2.2.2.2.2.2.2.2.2.1 (by decide) ?_
      refine g_lv [0, 1, 2, 3] rfl ?_
      exact t_QuotaLawsLaw_law_1342 rec18 hrec18 _ _ _ _ _ _  hf
    replace hf := (if_neg c412).symm.trans hf
    by_cases c435 : (x19 &&& (63 : Int32)) = (27 : Int32)
    · replace hf := (if_pos c435).symm.trans hf
      refine g_tabIn (pc := 32) 999 (27 : Int32) dd_QuotaLawsLaw_law_0.2.2.2.2.2.2.2.2.2.2.2.2.2.2.2.2.2.2.2.2.2.1 c435 (by decide) (by decide) rfl (by decide) ?_
      refine g_aload_n (pc := 999) 1 dd_QuotaLawsLaw_law_984.2.2.2.2.2.2.2.2.2.2.2.1 rfl rfl ?_
      refine g_aload_n (pc := 1000) 0 dd_QuotaLawsLaw_law_984.2.2.2.2.2.2.2.2.2.2.2.2.1 rfl rfl ?_
      refine g_iload_n (pc := 1001) 3 dd_QuotaLawsLaw_law_984.2.2.2.2.2.2.2.2.2.2.2.2.2.1 rfl rfl ?_
      refine g_iconst (pc := 1002) (1 : Int32) dd_QuotaLawsLaw_law_984.2.2.2.2.2.2.2.2.2.2.2.2.2.2.1 (by decide) ?_
      refine g_iadd (pc := 1003) dd_QuotaLawsLaw_law_984.2.2.2.2.2.2.2.2.2.2.2.2.2.2.2.1 ?_
      obtain ⟨x436, e437, hf⟩ := bd1_e hf
      refine g_sld (pc := 1004) dd_QuotaLawsLaw_law_984.2.2.2.2.2.2.2.2.2.2.2.2.2.2.2.2.1 e437 ?_
      obtain ⟨u439, e438, hf⟩ := bd1_e hf
      obtain ⟨x442, h440, e441, hf⟩ := bd2_e hf
      refine g_callV (pc := 1005) (ci := 0) [.int x436] (site_of si_Q_forget (by decide) (by decide)) wd_776 wd_777 wd_778 dd_QuotaLawsLaw_law_984.2.2.2.2.2.2.2.2.2.2.2.2.2.2.2.2.2.1 rfl e438 (Nat.le_of_ble_eq_true rfl) (fun z => absurd z si_na_Q_forget) (fun z => absurd z si_na_Q_forget) (fun z => absurd z si_na_Q_forget) (c_Q_forget e441) rfl ?_
      refine g_st [.int x442] rfl ?_
      refine g_pop (pc := 1008) dd_QuotaLawsLaw_law_984.2.2.2.2.2.2.2.2.2.2.2.2.2.2.2.2.2.2.1 rfl ?_
      refine g_aload_n (pc := 1009) 2 dd_QuotaLawsLaw_law_984.2.2.2.2.2.2.2.2.2.2.2.2.2.2.2.2.2.2.2.1 rfl rfl ?_
      refine g_aload_n (pc := 1010) 0 dd_QuotaLawsLaw_law_984.2.2.2.2.2.2.2.2.2.2.2.2.2.2.2.2.2.2.2.2.1 rfl rfl ?_
      refine g_iload_n (pc := 1011) 3 dd_QuotaLawsLaw_law_984.2.2.2.2.2.2.2.2.2.2.2.2.2.2.2.2.2.2.2.2.2.1 rfl rfl ?_
      refine g_iconst (pc := 1012) (1 : Int32) dd_QuotaLawsLaw_law_984.2.2.2.2.2.2.2.2.2.2.2.2.2.2.2.2.2.2.2.2.2.2.1 (by decide) ?_
      refine g_iadd (pc := 1013) dd_QuotaLawsLaw_law_984.2.2.2.2.2.2.2.2.2.2.2.2.2.2.2.2.2.2.2.2.2.2.2 ?_
      obtain ⟨x443, e444, hf⟩ := bd1_e hf
      refine g_sld (pc := 1014) dd_QuotaLawsLaw_law_1014.1 e444 ?_
      obtain ⟨u446, e445, hf⟩ := bd1_e hf
      obtain ⟨x449, h447, e448, hf⟩ := bd2_e hf
      refine g_callV (pc := 1015) (ci := 8) [.int x443] (site_of si_M_forget (by decide) (by decide)) wd_1333 wd_1334 wd_1335 dd_QuotaLawsLaw_law_1014.2.1 rfl e445 (Nat.le_of_ble_eq_true rfl) (fun z => absurd z si_na_M_forget) (fun z => absurd z si_na_M_forget) (fun z => absurd z si_na_M_forget) (c_M_forget e448) rfl ?_
      refine g_st [.int x449] rfl ?_
      refine g_pop (pc := 1018) dd_QuotaLawsLaw_law_1014.2.2.1 rfl ?_
      refine g_goto (pc := 1019) 1342 dd_QuotaLawsLaw_law_1014.2.2.2.1 (by decide) ?_
      refine g_lv [0, 1, 2, 3] rfl ?_
      exact t_QuotaLawsLaw_law_1342 rec18 hrec18 _ _ _ _ _ _  hf
    replace hf := (if_neg c435).symm.trans hf
    by_cases c450 : (x19 &&& (63 : Int32)) = (28 : Int32)
    · replace hf := (if_pos c450).symm.trans hf
      refine g_tabIn (pc := 32) 1022 (28 : Int32) dd_QuotaLawsLaw_law_0.2.2.2.2.2.2.2.2.2.2.2.2.2.2.2.2.2.2.2.2.2.1 c450 (by decide) (by decide) rfl (by decide) ?_
      refine g_aload_n (pc := 1022) 1 dd_QuotaLawsLaw_law_1014.2.2.2.2.1 rfl rfl ?_
      obtain ⟨u452, e451, hf⟩ := bd1_e hf
      obtain ⟨x455, h453, e454, hf⟩ := bd2_e hf
      refine g_callV (pc := 1023) (ci := 0) [] (site_of si_Q_books (by decide) (by decide)) wd_780 wd_781 wd_782 dd_QuotaLawsLaw_law_1014.2.2.2.2.2.1 rfl e451 (Nat.le_of_ble_eq_true rfl) (fun z => absurd z si_na_Q_books) (fun z => absurd z si_na_Q_books) (fun z => absurd z si_na_Q_books) (c_Q_books e454) rfl ?_
      refine g_st [.long x455] rfl ?_
      refine g_pop2 (pc := 1026) dd_QuotaLawsLaw_law_1014.2.2.2.2.2.2.1 rfl ?_
      refine g_aload_n (pc := 1027) 2 dd_QuotaLawsLaw_law_1014.2.2.2.2.2.2.2.1 rfl rfl ?_
      obtain ⟨u457, e456, hf⟩ := bd1_e hf
      obtain ⟨x460, h458, e459, hf⟩ := bd2_e hf
      refine g_callV (pc := 1028) (ci := 8) [] (site_of si_M_books (by decide) (by decide)) wd_1337 wd_1338 wd_1339 dd_QuotaLawsLaw_law_1014.2.2.2.2.2.2.2.2.1 rfl e456 (Nat.le_of_ble_eq_true rfl) (fun z => absurd z si_na_M_books) (fun z => absurd z si_na_M_books) (fun z => absurd z si_na_M_books) (c_M_books e459) rfl ?_
      refine g_st [.long x460] rfl ?_
      refine g_pop2 (pc := 1031) dd_QuotaLawsLaw_law_1014.2.2.2.2.2.2.2.2.2.1 rfl ?_
      refine g_goto (pc := 1032) 1342 dd_QuotaLawsLaw_law_1014.2.2.2.2.2.2.2.2.2.2.1 (by decide) ?_
      refine g_lv [0, 1, 2, 3] rfl ?_
      exact t_QuotaLawsLaw_law_1342 rec18 hrec18 _ _ _ _ _ _  hf
    replace hf := (if_neg c450).symm.trans hf
    by_cases c461 : (x19 &&& (63 : Int32)) = (29 : Int32)
    · replace hf := (if_pos c461).symm.trans hf
      refine g_tabIn (pc := 32) 1035 (29 : Int32) dd_QuotaLawsLaw_law_0.2.2.2.2.2.2.2.2.2.2.2.2.2.2.2.2.2.2.2.2.2.1 c461 (by decide) (by decide) rfl (by decide) ?_
      refine g_aload_n (pc := 1035) 1 dd_QuotaLawsLaw_law_1014.2.2.2.2.2.2.2.2.2.2.2.1 rfl rfl ?_
      refine g_aload_n (pc := 1036) 0 dd_QuotaLawsLaw_law_1014.2.2.2.2.2.2.2.2.2.2.2.2.1 rfl rfl ?_
      refine g_iload_n (pc := 1037) 3 dd_QuotaLawsLaw_law_1014.2.2.2.2.2.2.2.2.2.2.2.2.2.1 rfl rfl ?_
      refine g_iconst (pc := 1038) (1 : Int32) dd_QuotaLawsLaw_law_1014.2.2.2.2.2.2.2.2.2.2.2.2.2.2.1 (by decide) ?_
      refine g_iadd (pc := 1039) dd_QuotaLawsLaw_law_1014.2.2.2.2.2.2.2.2.2.2.2.2.2.2.2.1 ?_
      obtain ⟨x462, e463, hf⟩ := bd1_e hf
      refine g_sld (pc := 1040) dd_QuotaLawsLaw_law_1014.2.2.2.2.2.2.2.2.2.2.2.2.2.2.2.2.1 e463 ?_
      refine g_aload_n (pc := 1041) 0 dd_QuotaLawsLaw_law_1014.2.2.2.2.2.2.2.2.2.2.2.2.2.2.2.2.2.1 rfl rfl ?_
      refine g_iload_n (pc := 1042) 3 dd_QuotaLawsLaw_law_1014.2.2.2.2.2.2.2.2.2.2.2.2.2.2.2.2.2.2.1 rfl rfl ?_
      refine g_iconst (pc := 1043) (2 : Int32) dd_QuotaLawsLaw_law_1014.2.2.2.2.2.2.2.2.2.2.2.2.2.2.2.2.2.2.2.1 (by decide) ?_
      refine g_iadd (pc := 1044) dd_QuotaLawsLaw_law_1014.2.2.2.2.2.2.2.2.2.2.2.2.2.2.2.2.2.2.2.2.1 ?_
      obtain ⟨x464, e465, hf⟩ := bd1_e hf
      refine g_sld (pc := 1045) dd_QuotaLawsLaw_law_1014.2.2.2.2.2.2.2.2.2.2.2.2.2.2.2.2.2.2.2.2.2.1 e465 ?_
      refine g_aload_n (pc := 1046) 0 dd_QuotaLawsLaw_law_1014.2.2.2.2.2.2.2.2.2.2.2.2.2.2.2.2.2.2.2.2.2.2.1 rfl rfl ?_
      refine g_iload_n (pc := 1047) 3 dd_QuotaLawsLaw_law_1014.2.2.2.2.2.2.2.2.2.2.2.2.2.2.2.2.2.2.2.2.2.2.2 rfl rfl ?_
      refine g_iconst (pc := 1048) (3 : Int32) dd_QuotaLawsLaw_law_1048.1 (by decide) ?_
      refine g_iadd (pc := 1049) dd_QuotaLawsLaw_law_1048.2.1 ?_
      obtain ⟨x466, e467, hf⟩ := bd1_e hf
      refine g_sld (pc := 1050) dd_QuotaLawsLaw_law_1048.2.2.1 e467 ?_
      obtain ⟨u469, e468, hf⟩ := bd1_e hf
      obtain ⟨x472, h470, e471, hf⟩ := bd2_e hf
      refine g_callV (pc := 1051) (ci := 0) [.int x462, .int x464, .int x466] (site_of si_Q_entry (by decide) (by decide)) wd_829 wd_830 wd_831 dd_QuotaLawsLaw_law_1048.2.2.2.1 rfl e468 (Nat.le_of_ble_eq_true rfl) (fun z => absurd z si_na_Q_entry) (fun z => absurd z si_na_Q_entry) (fun z => absurd z si_na_Q_entry) (c_Q_entry e471) rfl ?_
      refine g_st [.int x472] rfl ?_
      refine g_pop (pc := 1054) dd_QuotaLawsLaw_law_1048.2.2.2.2.1 rfl ?_
      refine g_aload_n (pc := 1055) 2 dd_QuotaLawsLaw_law_1048.2.2.2.2.2.1 rfl rfl ?_
      refine g_aload_n (pc := 1056) 0 dd_QuotaLawsLaw_law_1048.2.2.2.2.2.2.1 rfl rfl ?_
      refine g_iload_n (pc := 1057) 3 dd_QuotaLawsLaw_law_1048.2.2.2.2.2.2.2.1 rfl rfl ?_
      refine g_iconst (pc := 1058) (1 : Int32) dd_QuotaLawsLaw_law_1048.2.2.2.2.2.2.2.2.1 (by decide) ?_
      refine g_iadd (pc := 1059) dd_QuotaLawsLaw_law_1048.2.2.2.2.2.2.2.2.2.1 ?_
      obtain ⟨x473, e474, hf⟩ := bd1_e hf
      refine g_sld (pc := 1060) dd_QuotaLawsLaw_law_1048.2.2.2.2.2.2.2.2.2.2.1 e474 ?_
      refine g_aload_n (pc := 1061) 0 dd_QuotaLawsLaw_law_1048.2.2.2.2.2.2.2.2.2.2.2.1 rfl rfl ?_
      refine g_iload_n (pc := 1062) 3 dd_QuotaLawsLaw_law_1048.2.2.2.2.2.2.2.2.2.2.2.2.1 rfl rfl ?_
      refine g_iconst (pc := 1063) (2 : Int32) dd_QuotaLawsLaw_law_1048.2.2.2.2.2.2.2.2.2.2.2.2.2.1 (by decide) ?_
      refine g_iadd (pc := 1064) dd_QuotaLawsLaw_law_1048.2.2.2.2.2.2.2.2.2.2.2.2.2.2.1 ?_
      obtain ⟨x475, e476, hf⟩ := bd1_e hf
      refine g_sld (pc := 1065) dd_QuotaLawsLaw_law_1048.2.2.2.2.2.2.2.2.2.2.2.2.2.2.2.1 e476 ?_
      refine g_aload_n (pc := 1066) 0 dd_QuotaLawsLaw_law_1048.2.2.2.2.2.2.2.2.2.2.2.2.2.2.2.2.1 rfl rfl ?_
      refine g_iload_n (pc := 1067) 3 dd_QuotaLawsLaw_law_1048.2.2.2.2.2.2.2.2.2.2.2.2.2.2.2.2.2.1 rfl rfl ?_
      refine g_iconst (pc := 1068) (3 : Int32) dd_QuotaLawsLaw_law_1048.2.2.2.2.2.2.2.2.2.2.2.2.2.2.2.2.2.2.1 (by decide) ?_
      refine g_iadd (pc := 1069) dd_QuotaLawsLaw_law_1048.2.2.2.2.2.2.2.2.2.2.2.2.2.2.2.2.2.2.2.1 ?_
      obtain ⟨x477, e478, hf⟩ := bd1_e hf
      refine g_sld (pc := 1070) dd_QuotaLawsLaw_law_1048.2.2.2.2.2.2.2.2.2.2.2.2.2.2.2.2.2.2.2.2.1 e478 ?_
      obtain ⟨u480, e479, hf⟩ := bd1_e hf
      obtain ⟨x483, h481, e482, hf⟩ := bd2_e hf
      refine g_callV (pc := 1071) (ci := 8) [.int x473, .int x475, .int x477] (site_of si_M_entry (by decide) (by decide)) wd_1369 wd_1370 wd_1371 dd_QuotaLawsLaw_law_1048.2.2.2.2.2.2.2.2.2.2.2.2.2.2.2.2.2.2.2.2.2.1 rfl e479 (Nat.le_of_ble_eq_true rfl) (fun z => absurd z si_na_M_entry) (fun z => absurd z si_na_M_entry) (fun z => absurd z si_na_M_entry) (c_M_entry e482) rfl ?_
      refine g_st [.int x483] rfl ?_
      refine g_pop (pc := 1074) dd_QuotaLawsLaw_law_1048.2.2.2.2.2.2.2.2.2.2.2.2.2.2.2.2.2.2.2.2.2.2.1 rfl ?_
      refine g_goto (pc := 1075) 1342 dd_QuotaLawsLaw_law_1048.2.2.2.2.2.2.2.2.2.2.2.2.2.2.2.2.2.2.2.2.2.2.2 (by decide) ?_
      refine g_lv [0, 1, 2, 3] rfl ?_
      exact t_QuotaLawsLaw_law_1342 rec18 hrec18 _ _ _ _ _ _  hf
    replace hf := (if_neg c461).symm.trans hf
    by_cases c484 : (x19 &&& (63 : Int32)) = (30 : Int32)
    · replace hf := (if_pos c484).symm.trans hf
      refine g_tabIn (pc := 32) 1078 (30 : Int32) dd_QuotaLawsLaw_law_0.2.2.2.2.2.2.2.2.2.2.2.2.2.2.2.2.2.2.2.2.2.1 c484 (by decide) (by decide) rfl (by decide) ?_
      refine g_aload_n (pc := 1078) 1 dd_QuotaLawsLaw_law_1078.1 rfl rfl ?_
      refine g_aload_n (pc := 1079) 0 dd_QuotaLawsLaw_law_1078.2.1 rfl rfl ?_
      refine g_iload_n (pc := 1080) 3 dd_QuotaLawsLaw_law_1078.2.2.1 rfl rfl ?_
      refine g_iconst (pc := 1081) (1 : Int32) dd_QuotaLawsLaw_law_1078.2.2.2.1 (by decide) ?_
      refine g_iadd (pc := 1082) dd_QuotaLawsLaw_law_1078.2.2.2.2.1 ?_
      obtain ⟨x485, e486, hf⟩ := bd1_e hf
      refine g_sld (pc := 1083) dd_QuotaLawsLaw_law_1078.2.2.2.2.2.1 e486 ?_
      refine g_aload_n (pc := 1084) 0 dd_QuotaLawsLaw_law_1078.2.2.2.2.2.2.1 rfl rfl ?_
      refine g_iload_n (pc := 1085) 3 dd_QuotaLawsLaw_law_1078.2.2.2.2.2.2.2.1 rfl rfl ?_
      refine g_iconst (pc := 1086) (2 : Int32) dd_QuotaLawsLaw_law_1078.2.2.2.2.2.2.2.2.1 (by decide) ?_
      refine g_iadd (pc := 1087) dd_QuotaLawsLaw_law_1078.2.2.2.2.2.2.2.2.2.1 ?_
      obtain ⟨x487, e488, hf⟩ := bd1_e hf
      refine g_sld (pc := 1088) dd_QuotaLawsLaw_law_1078.2.2.2.2.2.2.2.2.2.2.1 e488 ?_
      refine g_aload_n (pc := 1089) 0 dd_QuotaLawsLaw_law_1078.2.2.2.2.2.2.2.2.2.2.2.1 rfl rfl ?_
      refine g_iload_n (pc := 1090) 3 dd_QuotaLawsLaw_law_1078.2.2.2.2.2.2.2.2.2.2.2.2.1 rfl rfl ?_
      refine g_iconst (pc := 1091) (3 : Int32) dd_QuotaLawsLaw_law_1078.2.2.2.2.2.2.2.2.2.2.2.2.2.1 (by decide) ?_
      refine g_iadd (pc := 1092) dd_QuotaLawsLaw_law_1078.2.2.2.2.2.2.2.2.2.2.2.2.2.2.1 ?_
      obtain ⟨x489, e490, hf⟩ := bd1_e hf
      refine g_sld (pc := 1093) dd_QuotaLawsLaw_law_1078.2.2.2.2.2.2.2.2.2.2.2.2.2.2.2.1 e490 ?_
      obtain ⟨u492, e491, hf⟩ := bd1_e hf
      obtain ⟨x495, h493, e494, hf⟩ := bd2_e hf
      refine g_callV (pc := 1094) (ci := 0) [.int x485, .int x487, .int x489] (site_of si_Q_wild (by decide) (by decide)) wd_838 wd_839 wd_840 dd_QuotaLawsLaw_law_1078.2.2.2.2.2.2.2.2.2.2.2.2.2.2.2.2.1 rfl e491 (Nat.le_of_ble_eq_true rfl) (fun z => absurd z si_na_Q_wild) (fun z => absurd z si_na_Q_wild) (fun z => absurd z si_na_Q_wild) (c_Q_wild e494) rfl ?_
      refine g_st [.int x495] rfl ?_
      refine g_pop (pc := 1097) dd_QuotaLawsLaw_law_1078.2.2.2.2.2.2.2.2.2.2.2.2.2.2.2.2.2.1 rfl ?_
      refine g_aload_n (pc := 1098) 2 dd_QuotaLawsLaw_law_1078.2.2.2.2.2.2.2.2.2.2.2.2.2.2.2.2.2.2.1 rfl rfl ?_
      refine g_aload_n (pc := 1099) 0 dd_QuotaLawsLaw_law_1078.2.2.2.2.2.2.2.2.2.2.2.2.2.2.2.2.2.2.2.1 rfl rfl ?_
      refine g_iload_n (pc := 1100) 3 dd_QuotaLawsLaw_law_1078.2.2.2.2.2.2.2.2.2.2.2.2.2.2.2.2.2.2.2.2.1 rfl rfl ?_
      refine g_iconst (pc := 1101) (1 : Int32) dd_QuotaLawsLaw_law_1078.2.2.2.2.2.2.2.2.2.2.2.2.2.2.2.2.2.2.2.2.2.1 (by decide) ?_
      refine g_iadd (pc := 1102) dd_QuotaLawsLaw_law_1078.2.2.2.2.2.2.2.2.2.2.2.2.2.2.2.2.2.2.2.2.2.2.1 ?_
      obtain ⟨x496, e497, hf⟩ := bd1_e hf
      refine g_sld (pc := 1103) dd_QuotaLawsLaw_law_1078.2.2.2.2.2.2.2.2.2.2.2.2.2.2.2.2.2.2.2.2.2.2.2 e497 ?_
      refine g_aload_n (pc := 1104) 0 dd_QuotaLawsLaw_law_1104.1 rfl rfl ?_
      refine g_iload_n (pc := 1105) 3 dd_QuotaLawsLaw_law_1104.2.1 rfl rfl ?_
      refine g_iconst (pc := 1106) (2 : Int32) dd_QuotaLawsLaw_law_1104.2.2.1 (by decide) ?_
      refine g_iadd (pc := 1107) dd_QuotaLawsLaw_law_1104.2.2.2.1 ?_
      obtain ⟨x498, e499, hf⟩ := bd1_e hf
      refine g_sld (pc := 1108) dd_QuotaLawsLaw_law_1104.2.2.2.2.1 e499 ?_
      refine g_aload_n (pc := 1109) 0 dd_QuotaLawsLaw_law_1104.2.2.2.2.2.1 rfl rfl ?_
      refine g_iload_n (pc := 1110) 3 dd_QuotaLawsLaw_law_1104.2.2.2.2.2.2.1 rfl rfl ?_
      refine g_iconst (pc := 1111) (3 : Int32) dd_QuotaLawsLaw_law_1104.2.2.2.2.2.2.2.1 (by decide) ?_
      refine g_iadd (pc := 1112) dd_QuotaLawsLaw_law_1104.2.2.2.2.2.2.2.2.1 ?_
      obtain ⟨x500, e501, hf⟩ := bd1_e hf
      refine g_sld (pc := 1113) dd_QuotaLawsLaw_law_1104.2.2.2.2.2.2.2.2.2.1 e501 ?_
      obtain ⟨u503, e502, hf⟩ := bd1_e hf
      obtain ⟨x506, h504, e505, hf⟩ := bd2_e hf
      refine g_callV (pc := 1114) (ci := 8) [.int x496, .int x498, .int x500] (site_of si_M_wild (by decide) (by decide)) wd_1373 wd_1374 wd_1375 dd_QuotaLawsLaw_law_1104.2.2.2.2.2.2.2.2.2.2.1 rfl e502 (Nat.le_of_ble_eq_true rfl) (fun z => absurd z si_na_M_wild) (fun z => absurd z si_na_M_wild) (fun z => absurd z si_na_M_wild) (c_M_wild e505) rfl ?_
      refine g_st [.int x506] rfl ?_
      refine g_pop (pc := 1117) dd_QuotaLawsLaw_law_1104.2.2.2.2.2.2.2.2.2.2.2.1 rfl ?_
      refine g_goto (pc := 1118) 1342 dd_QuotaLawsLaw_law_1104.2.2.2.2.2.2.2.2.2.2.2.2.1 (by decide) ?_
      refine g_lv [0, 1, 2, 3] rfl ?_
      exact t_QuotaLawsLaw_law_1342 rec18 hrec18 _ _ _ _ _ _  hf
    replace hf := (if_neg c484).symm.trans hf
    by_cases c507 : (x19 &&& (63 : Int32)) = (31 : Int32)
    · replace hf := (if_pos c507).symm.trans hf
      refine g_tabIn (pc := 32) 1121 (31 : Int32) dd_QuotaLawsLaw_law_0.2.2.2.2.2.2.2.2.2.2.2.2.2.2.2.2.2.2.2.2.2.1 c507 (by decide) (by decide) rfl (by decide) ?_
      refine g_aload_n (pc := 1121) 1 dd_QuotaLawsLaw_law_1104.2.2.2.2.2.2.2.2.2.2.2.2.2.1 rfl rfl ?_
      refine g_aload_n (pc := 1122) 0 dd_QuotaLawsLaw_law_1104.2.2.2.2.2.2.2.2.2.2.2.2.2.2.1 rfl rfl ?_
      refine g_iload_n (pc := 1123) 3 dd_QuotaLawsLaw_law_1104.2.2.2.2.2.2.2.2.2.2.2.2.2.2.2.1 rfl rfl ?_
      refine g_iconst (pc := 1124) (1 : Int32) dd_QuotaLawsLaw_law_1104.2.2.2.2.2.2.2.2.2.2.2.2.2.2.2.2.1 (by decide) ?_
      refine g_iadd (pc := 1125) dd_QuotaLawsLaw_law_1104.2.2.2.2.2.2.2.2.2.2.2.2.2.2.2.2.2.1 ?_
      obtain ⟨x508, e509, hf⟩ := bd1_e hf
      refine g_sld (pc := 1126) dd_QuotaLawsLaw_law_1104.2.2.2.2.2.2.2.2.2.2.2.2.2.2.2.2.2.2.1 e509 ?_
      obtain ⟨u511, e510, hf⟩ := bd1_e hf
      obtain ⟨x514, h512, e513, hf⟩ := bd2_e hf
      refine g_callV (pc := 1127) (ci := 0) [.int x508] (site_of si_Q_keep (by decide) (by decide)) wd_854 wd_855 wd_856 dd_QuotaLawsLaw_law_1104.2.2.2.2.2.2.2.2.2.2.2.2.2.2.2.2.2.2.2.1 rfl e510 (Nat.le_of_ble_eq_true rfl) (fun z => absurd z si_na_Q_keep) (fun z => absurd z si_na_Q_keep) (fun z => absurd z si_na_Q_keep) (c_Q_keep e513) rfl ?_
      refine g_st [.int x514] rfl ?_
      refine g_pop (pc := 1130) dd_QuotaLawsLaw_law_1104.2.2.2.2.2.2.2.2.2.2.2.2.2.2.2.2.2.2.2.2.1 rfl ?_
      refine g_aload_n (pc := 1131) 2 dd_QuotaLawsLaw_law_1104.2.2.2.2.2.2.2.2.2.2.2.2.2.2.2.2.2.2.2.2.2.1 rfl rfl ?_
      refine g_aload_n (pc := 1132) 0 dd_QuotaLawsLaw_law_1104.2.2.2.2.2.2.2.2.2.2.2.2.2.2.2.2.2.2.2.2.2.2.1 rfl rfl ?_
      refine g_iload_n (pc := 1133) 3 dd_QuotaLawsLaw_law_1104.2.2.2.2.2.2.2.2.2.2.2.2.2.2.2.2.2.2.2.2.2.2.2 rfl rfl ?_
      refine g_iconst (pc := 1134) (1 : Int32) dd_QuotaLawsLaw_law_1134.1 (by decide) ?_
      refine g_iadd (pc := 1135) dd_QuotaLawsLaw_law_1134.2.1 ?_
      obtain ⟨x515, e516, hf⟩ := bd1_e hf
      refine g_sld (pc := 1136) dd_QuotaLawsLaw_law_1134.2.2.1 e516 ?_
      obtain ⟨u518, e517, hf⟩ := bd1_e hf
      obtain ⟨x521, h519, e520, hf⟩ := bd2_e hf
      refine g_callV (pc := 1137) (ci := 8) [.int x515] (site_of si_M_keep (by decide) (by decide)) wd_1380 wd_1381 wd_1382 dd_QuotaLawsLaw_law_1134.2.2.2.1 rfl e517 (Nat.le_of_ble_eq_true rfl) (fun z => absurd z si_na_M_keep) (fun z => absurd z si_na_M_keep) (fun z => absurd z si_na_M_keep) (c_M_keep e520) rfl ?_
      refine g_st [.int x521] rfl ?_
      refine g_pop (pc := 1140) dd_QuotaLawsLaw_law_1134.2.2.2.2.1 rfl ?_
      refine g_goto (pc := 1141) 1342 dd_QuotaLawsLaw_law_1134.2.2.2.2.2.1 (by decide) ?_
      refine g_lv [0, 1, 2, 3] rfl ?_
      exact t_QuotaLawsLaw_law_1342 rec18 hrec18 _ _ _ _ _ _  hf
    replace hf := (if_neg c507).symm.trans hf
    by_cases c522 : (x19 &&& (63 : Int32)) = (32 : Int32)
    · replace hf := (if_pos c522).symm.trans hf
      refine g_tabIn (pc := 32) 1144 (32 : Int32) dd_QuotaLawsLaw_law_0.2.2.2.2.2.2.2.2.2.2.2.2.2.2.2.2.2.2.2.2.2.1 c522 (by decide) (by decide) rfl (by decide) ?_
      refine g_aload_n (pc := 1144) 1 dd_QuotaLawsLaw_law_1134.2.2.2.2.2.2.1 rfl rfl ?_
      refine g_aload_n (pc := 1145) 0 dd_QuotaLawsLaw_law_1134.2.2.2.2.2.2.2.1 rfl rfl ?_
      refine g_iload_n (pc := 1146) 3 dd_QuotaLawsLaw_law_1134.2.2.2.2.2.2.2.2.1 rfl rfl ?_
      refine g_iconst (pc := 1147) (1 : Int32) dd_QuotaLawsLaw_law_1134.2.2.2.2.2.2.2.2.2.1 (by decide) ?_
      refine g_iadd (pc := 1148) dd_QuotaLawsLaw_law_1134.2.2.2.2.2.2.2.2.2.2.1 ?_
      obtain ⟨x523, e524, hf⟩ := bd1_e hf
      refine g_sld (pc := 1149) dd_QuotaLawsLaw_law_1134.2.2.2.2.2.2.2.2.2.2.2.1 e524 ?_
      obtain ⟨u526, e525, hf⟩ := bd1_e hf
      obtain ⟨x529, h527, e528, hf⟩ := bd2_e hf
      refine g_callV (pc := 1150) (ci := 0) [.int x523] (site_of si_Q_back (by decide) (by decide)) wd_858 wd_859 wd_860 dd_QuotaLawsLaw_law_1134.2.2.2.2.2.2.2.2.2.2.2.2.1 rfl e525 (Nat.le_of_ble_eq_true rfl) (fun z => absurd z si_na_Q_back) (fun z => absurd z si_na_Q_back) (fun z => absurd z si_na_Q_back) (c_Q_back e528) rfl ?_
      refine g_st [.int x529] rfl ?_
      refine g_pop (pc := 1153) dd_QuotaLawsLaw_law_1134.2.2.2.2.2.2.2.2.2.2.2.2.2.1 rfl ?_
      refine g_aload_n (pc := 1154) 2 dd_QuotaLawsLaw_law_1134.2.2.2.2.2.2.2.2.2.2.2.2.2.2.1 rfl rfl ?_
      refine g_aload_n (pc := 1155) 0 dd_QuotaLawsLaw_law_1134.2.2.2.2.2.2.2.2.2.2.2.2.2.2.2.1 rfl rfl ?_
      refine g_iload_n (pc := 1156) 3 dd_QuotaLawsLaw_law_1134.2.2.2.2.2.2.2.2.2.2.2.2.2.2.2.2.1 rfl rfl ?_
      refine g_iconst (pc := 1157) (1 : Int32) dd_QuotaLawsLaw_law_1134.2.2.2.2.2.2.2.2.2.2.2.2.2.2.2.2.2.1 (by decide) ?_
      refine g_iadd (pc := 1158) dd_QuotaLawsLaw_law_1134.2.2.2.2.2.2.2.2.2.2.2.2.2.2.2.2.2.2.1 ?_
      obtain ⟨x530, e531, hf⟩ := bd1_e hf
      refine g_sld (pc := 1159) dd_QuotaLawsLaw_law_1134.2.2.2.2.2.2.2.2.2.2.2.2.2.2.2.2.2.2.2.1 e531 ?_
      obtain ⟨u533, e532, hf⟩ := bd1_e hf
      obtain ⟨x536, h534, e535, hf⟩ := bd2_e hf
      refine g_callV (pc := 1160) (ci := 8) [.int x530] (site_of si_M_back (by decide) (by decide)) wd_1388 wd_1389 wd_1390 dd_QuotaLawsLaw_law_1134.2.2.2.2.2.2.2.2.2.2.2.2.2.2.2.2.2.2.2.2.1 rfl e532 (Nat.le_of_ble_eq_true rfl) (fun z => absurd z si_na_M_back) (fun z => absurd z si_na_M_back) (fun z => absurd z si_na_M_back) (c_M_back e535) rfl ?_
      refine g_st [.int x536] rfl ?_
      refine g_pop (pc := 1163) dd_QuotaLawsLaw_law_1134.2.2.2.2.2.2.2.2.2.2.2.2.2.2.2.2.2.2.2.2.2.1 rfl ?_
      refine g_goto (pc := 1164) 1342 dd_QuotaLawsLaw_law_1134.2.2.2.2.2.2.2.2.2.2.2.2.2.2.2.2.2.2.2.2.2.2.1 (by decide) ?_
      refine g_lv [0, 1, 2, 3] rfl ?_
      exact t_QuotaLawsLaw_law_1342 rec18 hrec18 _ _ _ _ _ _  hf
    replace hf := (if_neg c522).symm.trans hf
    by_cases c537 : (x19 &&& (63 : Int32)) = (33 : Int32)
    · replace hf := (if_pos c537).symm.trans hf
      refine g_tabIn (pc := 32) 1167 (33 : Int32) dd_QuotaLawsLaw_law_0.2.2.2.2.2.2.2.2.2.2.2.2.2.2.2.2.2.2.2.2.2.1 c537 (by decide) (by decide) rfl (by decide) ?_
      refine g_aload_n (pc := 1167) 1 dd_QuotaLawsLaw_law_1134.2.2.2.2.2.2.2.2.2.2.2.2.2.2.2.2.2.2.2.2.2.2.2 rfl rfl ?_
      refine g_aload_n (pc := 1168) 0 dd_QuotaLawsLaw_law_1168.1 rfl rfl ?_
      refine g_iload_n (pc := 1169) 3 dd_QuotaLawsLaw_law_1168.2.1 rfl rfl ?_
      refine g_iconst (pc := 1170) (1 : Int32) dd_QuotaLawsLaw_law_1168.2.2.1 (by decide) ?_
      refine g_iadd (pc := 1171) dd_QuotaLawsLaw_law_1168.2.2.2.1 ?_
      obtain ⟨x538, e539, hf⟩ := bd1_e hf
      refine g_sld (pc := 1172) dd_QuotaLawsLaw_law_1168.2.2.2.2.1 e539 ?_
      refine g_aload_n (pc := 1173) 0 dd_QuotaLawsLaw_law_1168.2.2.2.2.2.1 rfl rfl ?_
      refine g_iload_n (pc := 1174) 3 dd_QuotaLawsLaw_law_1168.2.2.2.2.2.2.1 rfl rfl ?_
      refine g_iconst (pc := 1175) (2 : Int32) dd_QuotaLawsLaw_law_1168.2.2.2.2.2.2.2.1 (by decide) ?_
      refine g_iadd (pc := 1176) dd_QuotaLawsLaw_law_1168.2.2.2.2.2.2.2.2.1 ?_
      obtain ⟨x540, e541, hf⟩ := bd1_e hf
      refine g_sld (pc := 1177) dd_QuotaLawsLaw_law_1168.2.2.2.2.2.2.2.2.2.1 e541 ?_
      refine g_aload_n (pc := 1178) 0 dd_QuotaLawsLaw_law_1168.2.2.2.2.2.2.2.2.2.2.1 rfl rfl ?_
      refine g_iload_n (pc := 1179) 3 dd_QuotaLawsLaw_law_1168.2.2.2.2.2.2.2.2.2.2.2.1 rfl rfl ?_
      refine g_iconst (pc := 1180) (3 : Int32) dd_QuotaLawsLaw_law_1168.2.2.2.2.2.2.2.2.2.2.2.2.1 (by decide) ?_
      refine g_iadd (pc := 1181) dd_QuotaLawsLaw_law_1168.2.2.2.2.2.2.2.2.2.2.2.2.2.1 ?_
      obtain ⟨x542, e543, hf⟩ := bd1_e hf
      refine g_sld (pc := 1182) dd_QuotaLawsLaw_law_1168.2.2.2.2.2.2.2.2.2.2.2.2.2.2.1 e543 ?_
      obtain ⟨u545, e544, hf⟩ := bd1_e hf
      obtain ⟨x548, h546, e547, hf⟩ := bd2_e hf
      refine g_callV (pc := 1183) (ci := 0) [.int x538, .int x540, .int x542] (site_of si_Q_sheet (by decide) (by decide)) wd_862 wd_863 wd_864 dd_QuotaLawsLaw_law_1168.2.2.2.2.2.2.2.2.2.2.2.2.2.2.2.1 rfl e544 (Nat.le_of_ble_eq_true rfl) (fun z => absurd z si_na_Q_sheet) (fun z => absurd z si_na_Q_sheet) (fun z => absurd z si_na_Q_sheet) (c_Q_sheet e547) rfl ?_
      refine g_st [.int x548] rfl ?_
      refine g_pop (pc := 1186) dd_QuotaLawsLaw_law_1168.2.2.2.2.2.2.2.2.2.2.2.2.2.2.2.2.1 rfl ?_
      refine g_aload_n (pc := 1187) 2 dd_QuotaLawsLaw_law_1168.2.2.2.2.2.2.2.2.2.2.2.2.2.2.2.2.2.1 rfl rfl ?_
      refine g_aload_n (pc := 1188) 0 dd_QuotaLawsLaw_law_1168.2.2.2.2.2.2.2.2.2.2.2.2.2.2.2.2.2.2.1 rfl rfl ?_
      refine g_iload_n (pc := 1189) 3 dd_QuotaLawsLaw_law_1168.2.2.2.2.2.2.2.2.2.2.2.2.2.2.2.2.2.2.2.1 rfl rfl ?_
      refine g_iconst (pc := 1190) (1 : Int32) dd_QuotaLawsLaw_law_1168.2.2.2.2.2.2.2.2.2.2.2.2.2.2.2.2.2.2.2.2.1 (by decide) ?_
      refine g_iadd (pc := 1191) dd_QuotaLawsLaw_law_1168.2.2.2.2.2.2.2.2.2.2.2.2.2.2.2.2.2.2.2.2.2.1 ?_
      obtain ⟨x549, e550, hf⟩ := bd1_e hf
      refine g_sld (pc := 1192) dd_QuotaLawsLaw_law_1168.2.2.2.2.2.2.2.2.2.2.2.2.2.2.2.2.2.2.2.2.2.2.1 e550 ?_
      refine g_aload_n (pc := 1193) 0 dd_QuotaLawsLaw_law_1168.2.2.2.2.2.2.2.2.2.2.2.2.2.2.2.2.2.2.2.2.2.2.2 rfl rfl ?_
      refine g_iload_n (pc := 1194) 3 dd_QuotaLawsLaw_law_1194.1 rfl rfl ?_
      refine g_iconst (pc := 1195) (2 : Int32) dd_QuotaLawsLaw_law_1194.2.1 (by decide) ?_
      refine g_iadd (pc := 1196) dd_QuotaLawsLaw_law_1194.2.2.1 ?_
      obtain ⟨x551, e552, hf⟩ := bd1_e hf
      refine g_sld (pc := 1197) dd_QuotaLawsLaw_law_1194.2.2.2.1 e552 ?_
      refine g_aload_n (pc := 1198) 0 dd_QuotaLawsLaw_law_1194.2.2.2.2.1 rfl rfl ?_
      refine g_iload_n (pc := 1199) 3 dd_QuotaLawsLaw_law_1194.2.2.2.2.2.1 rfl rfl ?_
      refine g_iconst (pc := 1200) (3 : Int32) dd_QuotaLawsLaw_law_1194.2.2.2.2.2.2.1 (by decide) ?_
      refine g_iadd (pc := 1201) dd_QuotaLawsLaw_law_1194.2.2.2.2.2.2.2.1 ?_
      obtain ⟨x553, e554, hf⟩ := bd1_e hf
      refine g_sld (pc := 1202) dd_QuotaLawsLaw_law_1194.2.2.2.2.2.2.2.2.1 e554 ?_
      obtain ⟨u556, e555, hf⟩ := bd1_e hf
      obtain ⟨x559, h557, e558, hf⟩ := bd2_e hf
      refine g_callV (pc := 1203) (ci := 8) [.int x549, .int x551, .int x553] (site_of si_M_sheet (by decide) (by decide)) wd_1392 wd_1393 wd_1394 dd_QuotaLawsLaw_law_1194.2.2.2.2.2.2.2.2.2.1 rfl e555 (Nat.le_of_ble_eq_true rfl) (fun z => absurd z si_na_M_sheet) (fun z => absurd z si_na_M_sheet) (fun z => absurd z si_na_M_sheet) (c_M_sheet e558) rfl ?_
      refine g_st [.int x559] rfl ?_
      refine g_pop (pc := 1206) dd_QuotaLawsLaw_law_1194.2.2.2.2.2.2.2.2.2.2.1 rfl ?_
      refine g_goto (pc := 1207) 1342 dd_QuotaLawsLaw_law_1194.2.2.2.2.2.2.2.2.2.2.2.1 (by decide) ?_
      refine g_lv [0, 1, 2, 3] rfl ?_
      exact t_QuotaLawsLaw_law_1342 rec18 hrec18 _ _ _ _ _ _  hf
    replace hf := (if_neg c537).symm.trans hf
    by_cases c560 : (x19 &&& (63 : Int32)) = (34 : Int32)
    · replace hf := (if_pos c560).symm.trans hf
      refine g_tabIn (pc := 32) 1210 (34 : Int32) dd_QuotaLawsLaw_law_0.2.2.2.2.2.2.2.2.2.2.2.2.2.2.2.2.2.2.2.2.2.1 c560 (by decide) (by decide) rfl (by decide) ?_
      refine g_aload_n (pc := 1210) 1 dd_QuotaLawsLaw_law_1194.2.2.2.2.2.2.2.2.2.2.2.2.1 rfl rfl ?_
      refine g_aload_n (pc := 1211) 0 dd_QuotaLawsLaw_law_1194.2.2.2.2.2.2.2.2.2.2.2.2.2.1 rfl rfl ?_
      refine g_iload_n (pc := 1212) 3 dd_QuotaLawsLaw_law_1194.2.2.2.2.2.2.2.2.2.2.2.2.2.2.1 rfl rfl ?_
      refine g_iconst (pc := 1213) (1 : Int32) dd_QuotaLawsLaw_law_1194.2.2.2.2.2.2.2.2.2.2.2.2.2.2.2.1 (by decide) ?_
      refine g_iadd (pc := 1214) dd_QuotaLawsLaw_law_1194.2.2.2.2.2.2.2.2.2.2.2.2.2.2.2.2.1 ?_
      obtain ⟨x561, e562, hf⟩ := bd1_e hf
      refine g_sld (pc := 1215) dd_QuotaLawsLaw_law_1194.2.2.2.2.2.2.2.2.2.2.2.2.2.2.2.2.2.1 e562 ?_
      refine g_aload_n (pc := 1216) 0 dd_QuotaLawsLaw_law_1194.2.2.2.2.2.2.2.2.2.2.2.2.2.2.2.2.2.2.1 rfl rfl ?_
      refine g_iload_n (pc := 1217) 3 dd_QuotaLawsLaw_law_1194.2.2.2.2.2.2.2.2.2.2.2.2.2.2.2.2.2.2.2.1 rfl rfl ?_
      refine g_iconst (pc := 1218) (2 : Int32) dd_QuotaLawsLaw_law_1194.2.2.2.2.2.2.2.2.2.2.2.2.2.2.2.2.2.2.2.2.1 (by decide) ?_
      refine g_iadd (pc := 1219) dd_QuotaLawsLaw_law_1194.2.2.2.2.2.2.2.2.2.2.2.2.2.2.2.2.2.2.2.2.2.1 ?_
      obtain ⟨x563, e564, hf⟩ := bd1_e hf
      refine g_sld (pc := 1220) dd_QuotaLawsLaw_law_1194.2.2.2.2.2.2.2.2.2.2.2.2.2.2.2.2.2.2.2.2.2.2.1 e564 ?_
      refine g_aload_n (pc := 1221) 0 dd_QuotaLawsLaw_law_1194.2.2.2.2.2.2.2.2.2.2.2.2.2.2.2.2.2.2.2.2.2.2.2 rfl rfl ?_
      refine g_iload_n (pc := 1222) 3 dd_QuotaLawsLaw_law_1222.1 rfl rfl ?_
      refine g_iconst (pc := 1223) (3 : Int32) dd_QuotaLawsLaw_law_1222.2.1 (by decide) ?_
      refine g_iadd (pc := 1224) dd_QuotaLawsLaw_law_1222.2.2.1 ?_
      obtain ⟨x565, e566, hf⟩ := bd1_e hf
      refine g_sld (pc := 1225) dd_QuotaLawsLaw_law_1222.2.2.2.1 e566 ?_
      obtain ⟨u568, e567, hf⟩ := bd1_e hf
      obtain ⟨x571, h569, e570, hf⟩ := bd2_e hf
      refine g_callV (pc := 1226) (ci := 0) [.int x561, .int x563, .int x565] (site_of si_Q_lay (by decide) (by decide)) wd_871 wd_872 wd_873 dd_QuotaLawsLaw_law_1222.2.2.2.2.1 rfl e567 (Nat.le_of_ble_eq_true rfl) (fun z => absurd z si_na_Q_lay) (fun z => absurd z si_na_Q_lay) (fun z => absurd z si_na_Q_lay) (c_Q_lay e570) rfl ?_
      refine g_st [.int x571] rfl ?_
      refine g_pop (pc := 1229) dd_QuotaLawsLaw_law_1222.2.2.2.2.2.1 rfl ?_
      refine g_aload_n (pc := 1230) 2 dd_QuotaLawsLaw_law_1222.2.2.2.2.2.2.1 rfl rfl ?_
      refine g_aload_n (pc := 1231) 0 dd_QuotaLawsLaw_law_1222.2.2.2.2.2.2.2.1 rfl rfl ?_
      refine g_iload_n (pc := 1232) 3 dd_QuotaLawsLaw_law_1222.2.2.2.2.2.2.2.2.1 rfl rfl ?_
      refine g_iconst (pc := 1233) (1 : Int32) dd_QuotaLawsLaw_law_1222.2.2.2.2.2.2.2.2.2.1 (by decide) ?_
      refine g_iadd (pc := 1234) dd_QuotaLawsLaw_law_1222.2.2.2.2.2.2.2.2.2.2.1 ?_
      obtain ⟨x572, e573, hf⟩ := bd1_e hf
      refine g_sld (pc := 1235) dd_QuotaLawsLaw_law_1222.2.2.2.2.2.2.2.2.2.2.2.1 e573 ?_
      refine g_aload_n (pc := 1236) 0 dd_QuotaLawsLaw_law_1222.2.2.2.2.2.2.2.2.2.2.2.2.1 rfl rfl ?_
      refine g_iload_n (pc := 1237) 3 dd_QuotaLawsLaw_law_1222.2.2.2.2.2.2.2.2.2.2.2.2.2.1 rfl rfl ?_
      refine g_iconst (pc := 1238) (2 : Int32) dd_QuotaLawsLaw_law_1222.2.2.2.2.2.2.2.2.2.2.2.2.2.2.1 (by decide) ?_
      refine g_iadd (pc := 1239) dd_QuotaLawsLaw_law_1222.2.2.2.2.2.2.2.2.2.2.2.2.2.2.2.1 ?_
      obtain ⟨x574, e575, hf⟩ := bd1_e hf
      refine g_sld (pc := 1240) dd_QuotaLawsLaw_law_1222.2.2.2.2.2.2.2.2.2.2.2.2.2.2.2.2.1 e575 ?_
      refine g_aload_n (pc := 1241) 0 dd_QuotaLawsLaw_law_1222.2.2.2.2.2.2.2.2.2.2.2.2.2.2.2.2.2.1 rfl rfl ?_
      refine g_iload_n (pc := 1242) 3 dd_QuotaLawsLaw_law_1222.2.2.2.2.2.2.2.2.2.2.2.2.2.2.2.2.2.2.1 rfl rfl ?_
      refine g_iconst (pc := 1243) (3 : Int32) dd_QuotaLawsLaw_law_1222.2.2.2.2.2.2.2.2.2.2.2.2.2.2.2.2.2.2.2.1 (by decide) ?_
      refine g_iadd (pc := 1244) dd_QuotaLawsLaw_law_1222.2.2.2.2.2.2.2.2.2.2.2.2.2.2.2.2.2.2.2.2.1 ?_
      obtain ⟨x576, e577, hf⟩ := bd1_e hf
      refine g_sld (pc := 1245) dd_QuotaLawsLaw_law_1222.2.2.2.2.2.2.2.2.2.2.2.2.2.2.2.2.2.2.2.2.2.1 e577 ?_
      obtain ⟨u579, e578, hf⟩ := bd1_e hf
      obtain ⟨x582, h580, e581, hf⟩ := bd2_e hf
      refine g_callV (pc := 1246) (ci := 8) [.int x572, .int x574, .int x576] (site_of si_M_lay (by decide) (by decide)) wd_1399 wd_1400 wd_1401 dd_QuotaLawsLaw_law_1222.2.2.2.2.2.2.2.2.2.2.2.2.2.2.2.2.2.2.2.2.2.2.1 rfl e578 (Nat.le_of_ble_eq_true rfl) (fun z => absurd z si_na_M_lay) (fun z => absurd z si_na_M_lay) (fun z => absurd z si_na_M_lay) (c_M_lay e581) rfl ?_
      refine g_st [.int x582] rfl ?_
      refine g_pop (pc := 1249) dd_QuotaLawsLaw_law_1222.2.2.2.2.2.2.2.2.2.2.2.2.2.2.2.2.2.2.2.2.2.2.2 rfl ?_
      refine g_goto (pc := 1250) 1342 dd_QuotaLawsLaw_law_1250.1 (by decide) ?_
      refine g_lv [0, 1, 2, 3] rfl ?_
      exact t_QuotaLawsLaw_law_1342 rec18 hrec18 _ _ _ _ _ _  hf
    replace hf := (if_neg c560).symm.trans hf
    by_cases c583 : (x19 &&& (63 : Int32)) = (35 : Int32)
    · replace hf := (if_pos c583).symm.trans hf
      refine g_tabIn (pc := 32) 1253 (35 : Int32) dd_QuotaLawsLaw_law_0.2.2.2.2.2.2.2.2.2.2.2.2.2.2.2.2.2.2.2.2.2.1 c583 (by decide) (by decide) rfl (by decide) ?_
      refine g_aload_n (pc := 1253) 1 dd_QuotaLawsLaw_law_1250.2.1 rfl rfl ?_
      refine g_aload_n (pc := 1254) 0 dd_QuotaLawsLaw_law_1250.2.2.1 rfl rfl ?_
      refine g_iload_n (pc := 1255) 3 dd_QuotaLawsLaw_law_1250.2.2.2.1 rfl rfl ?_
      refine g_iconst (pc := 1256) (1 : Int32) dd_QuotaLawsLaw_law_1250.2.2.2.2.1 (by decide) ?_
      refine g_iadd (pc := 1257) dd_QuotaLawsLaw_law_1250.2.2.2.2.2.1 ?_
      obtain ⟨x584, e585, hf⟩ := bd1_e hf
      refine g_sld (pc := 1258) dd_QuotaLawsLaw_law_1250.2.2.2.2.2.2.1 e585 ?_
      refine g_aload_n (pc := 1259) 0 dd_QuotaLawsLaw_law_1250.2.2.2.2.2.2.2.1 rfl rfl ?_
      refine g_iload_n (pc := 1260) 3 dd_QuotaLawsLaw_law_1250.2.2.2.2.2.2.2.2.1 rfl rfl ?_
      refine g_iconst (pc := 1261) (2 : Int32) dd_QuotaLawsLaw_law_1250.2.2.2.2.2.2.2.2.2.1 (by decide) ?_
      refine g_iadd (pc := 1262) dd_QuotaLawsLaw_law_1250.2.2.2.2.2.2.2.2.2.2.1 ?_
      obtain ⟨x586, e587, hf⟩ := bd1_e hf
      refine g_sld (pc := 1263) dd_QuotaLawsLaw_law_1250.2.2.2.2.2.2.2.2.2.2.2.1 e587 ?_
      refine g_aload_n (pc := 1264) 0 dd_QuotaLawsLaw_law_1250.2.2.2.2.2.2.2.2.2.2.2.2.1 rfl rfl ?_
      refine g_iload_n (pc := 1265) 3 dd_QuotaLawsLaw_law_1250.2.2.2.2.2.2.2.2.2.2.2.2.2.1 rfl rfl ?_
      refine g_iconst (pc := 1266) (3 : Int32) dd_QuotaLawsLaw_law_1250.2.2.2.2.2.2.2.2.2.2.2.2.2.2.1 (by decide) ?_
      refine g_iadd (pc := 1267) dd_QuotaLawsLaw_law_1250.2.2.2.2.2.2.2.2.2.2.2.2.2.2.2.1 ?_
      obtain ⟨x588, e589, hf⟩ := bd1_e hf
      refine g_sld (pc := 1268) dd_QuotaLawsLaw_law_1250.2.2.2.2.2.2.2.2.2.2.2.2.2.2.2.2.1 e589 ?_
      refine g_aload_n (pc := 1269) 0 dd_QuotaLawsLaw_law_1250.2.2.2.2.2.2.2.2.2.2.2.2.2.2.2.2.2.1 rfl rfl ?_
      refine g_iload_n (pc := 1270) 3 dd_QuotaLawsLaw_law_1250.2.2.2.2.2.2.2.2.2.2.2.2.2.2.2.2.2.2.1 rfl rfl ?_
      refine g_iconst (pc := 1271) (4 : Int32) dd_QuotaLawsLaw_law_1250.2.2.2.2.2.2.2.2.2.2.2.2.2.2.2.2.2.2.2.1 (by decide) ?_
      refine g_iadd (pc := 1272) dd_QuotaLawsLaw_law_1250.2.2.2.2.2.2.2.2.2.2.2.2.2.2.2.2.2.2.2.2.1 ?_
      obtain ⟨x590, e591, hf⟩ := bd1_e hf
      refine g_sld (pc := 1273) dd_QuotaLawsLaw_law_1250.2.2.2.2.2.2.2.2.2.2.2.2.2.2.2.2.2.2.2.2.2.1 e591 ?_
      obtain ⟨u593, e592, hf⟩ := bd1_e hf
      obtain ⟨x596, h594, e595, hf⟩ := bd2_e hf
      refine g_callV (pc := 1274) (ci := 0) [.int x584, .int x586, .int x588, .int x590] (site_of si_Q_read (by decide) (by decide)) wd_883 wd_884 wd_885 dd_QuotaLawsLaw_law_1250.2.2.2.2.2.2.2.2.2.2.2.2.2.2.2.2.2.2.2.2.2.2.1 rfl e592 (Nat.le_of_ble_eq_true rfl) (fun z => absurd z si_na_Q_read) (fun z => absurd z si_na_Q_read) (fun z => absurd z si_na_Q_read) (c_Q_read e595) rfl ?_
      refine g_st [.int x596] rfl ?_
      refine g_pop (pc := 1277) dd_QuotaLawsLaw_law_1250.2.2.2.2.2.2.2.2.2.2.2.2.2.2.2.2.2.2.2.2.2.2.2 rfl ?_
      refine g_aload_n (pc := 1278) 2 dd_QuotaLawsLaw_law_1278.1 rfl rfl ?_
      refine g_aload_n (pc := 1279) 0 dd_QuotaLawsLaw_law_1278.2.1 rfl rfl ?_
      refine g_iload_n (pc := 1280) 3 dd_QuotaLawsLaw_law_1278.2.2.1 rfl rfl ?_
      refine g_iconst (pc := 1281) (1 : Int32) dd_QuotaLawsLaw_law_1278.2.2.2.1 (by decide) ?_
      refine g_iadd (pc := 1282) dd_QuotaLawsLaw_law_1278.2.2.2.2.1 ?_
      obtain ⟨x597, e598, hf⟩ := bd1_e hf
      refine g_sld (pc := 1283) dd_QuotaLawsLaw_law_1278.2.2.2.2.2.1 e598 ?_
      refine g_aload_n (pc := 1284) 0 dd_QuotaLawsLaw_law_1278.2.2.2.2.2.2.1 rfl rfl ?_
      refine g_iload_n (pc := 1285) 3 dd_QuotaLawsLaw_law_1278.2.2.2.2.2.2.2.1 rfl rfl ?_
      refine g_iconst (pc := 1286) (2 : Int32) dd_QuotaLawsLaw_law_1278.2.2.2.2.2.2.2.2.1 (by decide) ?_
      refine g_iadd (pc := 1287) dd_QuotaLawsLaw_law_1278.2.2.2.2.2.2.2.2.2.1 ?_
      obtain ⟨x599, e600, hf⟩ := bd1_e hf
      refine g_sld (pc := 1288) dd_QuotaLawsLaw_law_1278.2.2.2.2.2.2.2.2.2.2.1 e600 ?_
      refine g_aload_n (pc := 1289) 0 dd_QuotaLawsLaw_law_1278.2.2.2.2.2.2.2.2.2.2.2.1 rfl rfl ?_
      refine g_iload_n (pc := 1290) 3 dd_QuotaLawsLaw_law_1278.2.2.2.2.2.2.2.2.2.2.2.2.1 rfl rfl ?_
      refine g_iconst (pc := 1291) (3 : Int32) dd_QuotaLawsLaw_law_1278.2.2.2.2.2.2.2.2.2.2.2.2.2.1 (by decide) ?_
      refine g_iadd (pc := 1292) dd_QuotaLawsLaw_law_1278.2.2.2.2.2.2.2.2.2.2.2.2.2.2.1 ?_
      obtain ⟨x601, e602, hf⟩ := bd1_e hf
      refine g_sld (pc := 1293) dd_QuotaLawsLaw_law_1278.2.2.2.2.2.2.2.2.2.2.2.2.2.2.2.1 e602 ?_
      refine g_aload_n (pc := 1294) 0 dd_QuotaLawsLaw_law_1278.2.2.2.2.2.2.2.2.2.2.2.2.2.2.2.2.1 rfl rfl ?_
      refine g_iload_n (pc := 1295) 3 dd_QuotaLawsLaw_law_1278.2.2.2.2.2.2.2.2.2.2.2.2.2.2.2.2.2.1 rfl rfl ?_
      refine g_iconst (pc := 1296) (4 : Int32) dd_QuotaLawsLaw_law_1278.2.2.2.2.2.2.2.2.2.2.2.2.2.2.2.2.2.2.1 (by decide) ?_
      refine g_iadd (pc := 1297) dd_QuotaLawsLaw_law_1278.2.2.2.2.2.2.2.2.2.2.2.2.2.2.2.2.2.2.2.1 ?_
      obtain ⟨x603, e604, hf⟩ := bd1_e hf
      refine g_sld (pc := 1298) dd_QuotaLawsLaw_law_1278.2.2.2.2.2.2.2.2.2.2.2.2.2.2.2.2.2.2.2.2.1 e604 ?_
      obtain ⟨u606, e605, hf⟩ := bd1_e hf
      obtain ⟨x609, h607, e608, hf⟩ := bd2_e hf
      refine g_callV (pc := 1299) (ci := 8) [.int x597, .int x599, .int x601, .int x603] (site_of si_M_read (by decide) (by decide)) wd_1403 wd_1404 wd_1405 dd_QuotaLawsLaw_law_1278.2.2.2.2.2.2.2.2.2.2.2.2.2.2.2.2.2.2.2.2.2.1 rfl e605 (Nat.le_of_ble_eq_true rfl) (fun z => absurd z si_na_M_read) (fun z => absurd z si_na_M_read) (fun z => absurd z si_na_M_read) (c_M_read e608) rfl ?_
      refine g_st [.int x609] rfl ?_
      refine g_pop (pc := 1302) dd_QuotaLawsLaw_law_1278.2.2.2.2.2.2.2.2.2.2.2.2.2.2.2.2.2.2.2.2.2.2.1 rfl ?_
      refine g_goto (pc := 1303) 1342 dd_QuotaLawsLaw_law_1278.2.2.2.2.2.2.2.2.2.2.2.2.2.2.2.2.2.2.2.2.2.2.2 (by decide) ?_
      refine g_lv [0, 1, 2, 3] rfl ?_
      exact t_QuotaLawsLaw_law_1342 rec18 hrec18 _ _ _ _ _ _  hf
    replace hf := (if_neg c583).symm.trans hf
    by_cases c610 : (x19 &&& (63 : Int32)) = (36 : Int32)
    · replace hf := (if_pos c610).symm.trans hf
      refine g_tabIn (pc := 32) 1306 (36 : Int32) dd_QuotaLawsLaw_law_0.2.2.2.2.2.2.2.2.2.2.2.2.2.2.2.2.2.2.2.2.2.1 c610 (by decide) (by decide) rfl (by decide) ?_
      refine g_aload_n (pc := 1306) 1 dd_QuotaLawsLaw_law_1306.1 rfl rfl ?_
      obtain ⟨u612, e611, hf⟩ := bd1_e hf
      obtain ⟨x615, h613, e614, hf⟩ := bd2_e hf
      refine g_callV (pc := 1307) (ci := 0) [] (site_of si_Q_torn (by decide) (by decide)) wd_900 wd_901 wd_902 dd_QuotaLawsLaw_law_1306.2.1 rfl e611 (Nat.le_of_ble_eq_true rfl) (fun z => absurd z si_na_Q_torn) (fun z => absurd z si_na_Q_torn) (fun z => absurd z si_na_Q_torn) (c_Q_torn e614) rfl ?_
      refine g_st [.int x615] rfl ?_
      refine g_pop (pc := 1310) dd_QuotaLawsLaw_law_1306.2.2.1 rfl ?_
      refine g_aload_n (pc := 1311) 2 dd_QuotaLawsLaw_law_1306.2.2.2.1 rfl rfl ?_
      obtain ⟨u617, e616, hf⟩ := bd1_e hf
      obtain ⟨x620, h618, e619, hf⟩ := bd2_e hf
      refine g_callV (pc := 1312) (ci := 8) [] (site_of si_M_torn (by decide) (by decide)) wd_1407 wd_1408 wd_1409 dd_QuotaLawsLaw_law_1306.2.2.2.2.1 rfl e616 (Nat.le_of_ble_eq_true rfl) (fun z => absurd z si_na_M_torn) (fun z => absurd z si_na_M_torn) (fun z => absurd z si_na_M_torn) (c_M_torn e619) rfl ?_
      refine g_st [.int x620] rfl ?_
      refine g_pop (pc := 1315) dd_QuotaLawsLaw_law_1306.2.2.2.2.2.1 rfl ?_
      refine g_goto (pc := 1316) 1342 dd_QuotaLawsLaw_law_1306.2.2.2.2.2.2.1 (by decide) ?_
      refine g_lv [0, 1, 2, 3] rfl ?_
      exact t_QuotaLawsLaw_law_1342 rec18 hrec18 _ _ _ _ _ _  hf
    replace hf := (if_neg c610).symm.trans hf
    by_cases c621 : (x19 &&& (63 : Int32)) = (37 : Int32)
    · replace hf := (if_pos c621).symm.trans hf
      refine g_tabIn (pc := 32) 1319 (37 : Int32) dd_QuotaLawsLaw_law_0.2.2.2.2.2.2.2.2.2.2.2.2.2.2.2.2.2.2.2.2.2.1 c621 (by decide) (by decide) rfl (by decide) ?_
      refine g_aload_n (pc := 1319) 1 dd_QuotaLawsLaw_law_1306.2.2.2.2.2.2.2.1 rfl rfl ?_
      refine g_aload_n (pc := 1320) 0 dd_QuotaLawsLaw_law_1306.2.2.2.2.2.2.2.2.1 rfl rfl ?_
      refine g_iload_n (pc := 1321) 3 dd_QuotaLawsLaw_law_1306.2.2.2.2.2.2.2.2.2.1 rfl rfl ?_
      refine g_iconst (pc := 1322) (1 : Int32) dd_QuotaLawsLaw_law_1306.2.2.2.2.2.2.2.2.2.2.1 (by decide) ?_
      refine g_iadd (pc := 1323) dd_QuotaLawsLaw_law_1306.2.2.2.2.2.2.2.2.2.2.2.1 ?_
      obtain ⟨x622, e623, hf⟩ := bd1_e hf
      refine g_sld (pc := 1324) dd_QuotaLawsLaw_law_1306.2.2.2.2.2.2.2.2.2.2.2.2.1 e623 ?_
      obtain ⟨u625, e624, hf⟩ := bd1_e hf
      obtain ⟨x628, h626, e627, hf⟩ := bd2_e hf
      refine g_callV (pc := 1325) (ci := 0) [.int x622] (site_of si_Q_count (by decide) (by decide)) wd_904 wd_905 wd_906 dd_QuotaLawsLaw_law_1306.2.2.2.2.2.2.2.2.2.2.2.2.2.1 rfl e624 (Nat.le_of_ble_eq_true rfl) (fun z => absurd z si_na_Q_count) (fun z => absurd z si_na_Q_count) (fun z => absurd z si_na_Q_count) (c_Q_count e627) rfl ?_
      refine g_st [.int x628] rfl ?_
      refine g_aload_n (pc := 1328) 2 dd_QuotaLawsLaw_law_1306.2.2.2.2.2.2.2.2.2.2.2.2.2.2.1 rfl rfl ?_
      refine g_aload_n (pc := 1329) 0 dd_QuotaLawsLaw_law_1306.2.2.2.2.2.2.2.2.2.2.2.2.2.2.2.1 rfl rfl ?_
      refine g_iload_n (pc := 1330) 3 dd_QuotaLawsLaw_law_1306.2.2.2.2.2.2.2.2.2.2.2.2.2.2.2.2.1 rfl rfl ?_
      refine g_iconst (pc := 1331) (1 : Int32) dd_QuotaLawsLaw_law_1306.2.2.2.2.2.2.2.2.2.2.2.2.2.2.2.2.2.1 (by decide) ?_
      refine g_iadd (pc := 1332) dd_QuotaLawsLaw_law_1306.2.2.2.2.2.2.2.2.2.2.2.2.2.2.2.2.2.2.1 ?_
      obtain ⟨x629, e630, hf⟩ := bd1_e hf
      refine g_sld (pc := 1333) dd_QuotaLawsLaw_law_1306.2.2.2.2.2.2.2.2.2.2.2.2.2.2.2.2.2.2.2.1 e630 ?_
      obtain ⟨u632, e631, hf⟩ := bd1_e hf
      obtain ⟨x635, h633, e634, hf⟩ := bd2_e hf
      refine g_callV (pc := 1334) (ci := 8) [.int x629] (site_of si_M_count (by decide) (by decide)) wd_1411 wd_1412 wd_1413 dd_QuotaLawsLaw_law_1306.2.2.2.2.2.2.2.2.2.2.2.2.2.2.2.2.2.2.2.2.1 rfl e631 (Nat.le_of_ble_eq_true rfl) (fun z => absurd z si_na_M_count) (fun z => absurd z si_na_M_count) (fun z => absurd z si_na_M_count) (c_M_count e634) rfl ?_
      refine g_st [.int x635, .int x628] rfl ?_
      refine g_icmpeq (pc := 1337) 1342 dd_QuotaLawsLaw_law_1306.2.2.2.2.2.2.2.2.2.2.2.2.2.2.2.2.2.2.2.2.2.1 (by decide) (fun c636 => ?_) (fun c636 => ?_)
      · replace hf := (if_pos c636).symm.trans hf
        refine g_lv [0, 1, 2, 3] rfl ?_
        exact t_QuotaLawsLaw_law_1342 rec18 hrec18 _ _ _ _ _ _  hf
      · replace hf := (if_neg c636).symm.trans hf
        refine g_iconst (pc := 1340) (0 : Int32) dd_QuotaLawsLaw_law_1306.2.2.2.2.2.2.2.2.2.2.2.2.2.2.2.2.2.2.2.2.2.2.1 (by decide) ?_
        obtain ⟨rfl, rfl⟩ := ret2 hf
        exact g_zret (pc := 1341) rfl rfl dd_QuotaLawsLaw_law_1306.2.2.2.2.2.2.2.2.2.2.2.2.2.2.2.2.2.2.2.2.2.2.2
    replace hf := (if_neg c621).symm.trans hf
    refine g_tabOut (pc := 32) 1342 38 dd_QuotaLawsLaw_law_0.2.2.2.2.2.2.2.2.2.2.2.2.2.2.2.2.2.2.2.2.2.1 (by decide) (fun i hi => ?_) (by decide) ?_
    · rcases (show i = 0 ∨ i = 1 ∨ i = 2 ∨ i = 3 ∨ i = 4 ∨ i = 5 ∨ i = 6 ∨ i = 7 ∨ i = 8 ∨ i = 9 ∨ i = 10 ∨ i = 11 ∨ i = 12 ∨ i = 13 ∨ i = 14 ∨ i = 15 ∨ i = 16 ∨ i = 17 ∨ i = 18 ∨ i = 19 ∨ i = 20 ∨ i = 21 ∨ i = 22 ∨ i = 23 ∨ i = 24 ∨ i = 25 ∨ i = 26 ∨ i = 27 ∨ i = 28 ∨ i = 29 ∨ i = 30 ∨ i = 31 ∨ i = 32 ∨ i = 33 ∨ i = 34 ∨ i = 35 ∨ i = 36 ∨ i = 37 by omega) with rfl | rfl | rfl | rfl | rfl | rfl | rfl | rfl | rfl | rfl | rfl | rfl | rfl | rfl | rfl | rfl | rfl | rfl | rfl | rfl | rfl | rfl | rfl | rfl | rfl | rfl | rfl | rfl | rfl | rfl | rfl | rfl | rfl | rfl | rfl | rfl | rfl | rfl
      · exact c21
      · exact c36
      · exact c51
      · exact c62
      · exact c73
      · exact c88
      · exact c107
      · exact c126
      · exact c145
      · exact c164
      · exact c183
      · exact c189
      · exact c208
      · exact c216
      · exact c224
      · exact c243
      · exact c258
      · exact c277
      · exact c288
      · exact c299
      · exact c314
      · exact c329
      · exact c344
      · exact c359
      · exact c378
      · exact c393
      · exact c412
      · exact c435
      · exact c450
      · exact c461
      · exact c484
      · exact c507
      · exact c522
      · exact c537
      · exact c560
      · exact c583
      · exact c610
      · exact c621
    refine g_lv [0, 1, 2, 3] rfl ?_
    exact t_QuotaLawsLaw_law_1342 rec18 hrec18 _ _ _ _ _ _  hf
def f_QuotaLawsLaw_law_18 (sc : Nat × (Nat → Int32))  : Nat → Nat → Nat → Int32 → mH → Option (Int32 × mH)
  | 0 => fun _ _ _ _ => none
  | n + 1 => f_QuotaLawsLaw_law_18b sc  (f_QuotaLawsLaw_law_18 sc  n)
theorem t_QuotaLawsLaw_law_18 {sc : Nat × (Nat → Int32)}  : ∀ (n : Nat) (b1 : Nat) (b2 : Nat) (b3 : Int32) (h : mH) (r : Int32) (h' : mH) (hf : f_QuotaLawsLaw_law_18 sc  n b1 b2 b3 h = some (r, h')), G sc y_QuotaLawsLaw_law code 4 (some .boolean) 8 176 18 [(0, .ref 1300), (1, .ref b1), (2, .ref b2), (3, .int b3)] [] h (some (.int r)) h'
  | 0, _, _, _, _, _, _, hf => by cases hf
  | n + 1, _, _, _, _, _, _, hf => t_QuotaLawsLaw_law_18b  (f_QuotaLawsLaw_law_18 sc  n) (t_QuotaLawsLaw_law_18  n) _ _ _ _ _ _ hf
def f_QuotaLawsLaw_law_0 (sc : Nat × (Nat → Int32))   (h : mH) : Option (Int32 × mH) :=
  bd1 (mkn h 10 (.inr (0, [.null, .null, .null, .null, .null, .null, .null, .null, .null, .int 0]))) fun h1 =>
  grd (h.1 < h1.1) <|
  bd1 (f_Q_new h.1 h1) fun h6 =>
  grd (h6.1 ≤ 1000) <|
  grd (¬ h.1 = h6.1) <|
  bd1 (mkn h6 39 (.inr (8, [.null, .null, .int 0, .int 0, .null, .null, .null, .null, .null, .null, .int 0, .int 0, .null, .null, .null, .null, .null, .int 0, .int 0, .null, .int 0, .int 0, .int 0, .int 0, .int 0, .int 0, .int 0, .null, .null, .null, .null, .null, .null, .null, .null, .null, .null, .null, .int 0]))) fun h10 =>
  grd (h.1 < h10.1 ∧ h6.1 < h10.1) <|
  bd1 (f_M_new h6.1 h10) fun h16 =>
  grd (h16.1 ≤ 1000) <|
  f_QuotaLawsLaw_law_18 sc  FU h.1 h6.1 (0 : Int32) h16
set_option maxRecDepth 20000 in
theorem t_QuotaLawsLaw_law_0 {sc : Nat × (Nat → Int32)}   (h : mH) (r : Int32) (h' : mH) (hf : f_QuotaLawsLaw_law_0 sc   h = some (r, h')) : G sc y_QuotaLawsLaw_law code 4 (some .boolean) 8 176 0 [(0, .ref 1300)] [] h (some (.int r)) h' := by
  unfold f_QuotaLawsLaw_law_0 at hf
  obtain ⟨h1, e2, hf⟩ := bd1_e hf
  obtain ⟨g3, e4⟩ := mkn_e e2
  refine g_new (pc := 0) (ci := 0) rfl [.null, .null, .null, .null, .null, .null, .null, .null, .null, .int 0] ty_Q tyok_Q dd_QuotaLawsLaw_law_0.1 rfl in_Q wd_18 wd_19 wd_1 (by decide) (by simp) g3 (okl_cons (okv_r (by omega)) (okl_nil)) (oks_nil) ?_
  rw [← e4]
  have h1_n : h1.1 = h.1 + 1 := by rw [e4]; rfl
  refine g_dup (pc := 3) dd_QuotaLawsLaw_law_0.2.1 rfl ?_
  obtain ⟨g5, hf⟩ := grd_e hf
  obtain ⟨h6, e7, hf⟩ := bd1_e hf
  obtain ⟨g8, hf⟩ := grd_e hf
  refine g_callI (pc := 4) [] (site_of si_Q_new (by decide) (by decide)) rfl wd_20 wd_21 dd_QuotaLawsLaw_law_0.2.2.1 (Nat.le_of_ble_eq_true rfl) (fun _ => rfl) (fun _ => (okl_cons (okv_r (by omega)) (okl_nil))) (fun _ => (oks_cons (okv_r (by omega)) (oks_nil))) (c_Q_new e7) rfl ?_
  refine g_st [.ref h.1] rfl ?_
  refine g_astore_n (pc := 7) [(1, .ref h.1), (0, .ref 1300)] dd_QuotaLawsLaw_law_0.2.2.2.1 rfl (Nat.le_of_ble_eq_true rfl) rfl ?_
  obtain ⟨g9, hf⟩ := grd_e hf
  obtain ⟨h10, e11, hf⟩ := bd1_e hf
  obtain ⟨g12, e13⟩ := mkn_e e11
  refine g_new (pc := 8) (ci := 8) rfl [.null, .null, .int 0, .int 0, .null, .null, .null, .null, .null, .null, .int 0, .int 0, .null, .null, .null, .null, .null, .int 0, .int 0, .null, .int 0, .int 0, .int 0, .int 0, .int 0, .int 0, .int 0, .null, .null, .null, .null, .null, .null, .null, .null, .null, .null, .null, .int 0] ty_M tyok_M dd_QuotaLawsLaw_law_0.2.2.2.2.1 rfl in_M wd_924 wd_925 wd_9 (by decide) (by simp) g12 (okl_cons (okv_r (by omega)) (okl_cons (okv_r (by omega)) (okl_nil))) (oks_nil) ?_
  rw [← e13]
  have h10_n : h10.1 = h6.1 + 1 := by rw [e13]; rfl
  refine g_dup (pc := 11) dd_QuotaLawsLaw_law_0.2.2.2.2.2.1 rfl ?_
  obtain ⟨⟨g14, g15⟩, hf⟩ := grd_e hf
  obtain ⟨h16, e17, hf⟩ := bd1_e hf
  obtain ⟨g18, hf⟩ := grd_e hf
  refine g_callI (pc := 12) [] (site_of si_M_new (by decide) (by decide)) rfl wd_926 wd_927 dd_QuotaLawsLaw_law_0.2.2.2.2.2.2.1 (Nat.le_of_ble_eq_true rfl) (fun _ => rfl) (fun _ => (okl_cons (okv_r (by omega)) (okl_cons (okv_r (by omega)) (okl_nil)))) (fun _ => (oks_cons (okv_r (by omega)) (oks_nil))) (c_M_new e17) rfl ?_
  refine g_st [.ref h6.1] rfl ?_
  refine g_astore_n (pc := 15) [(2, .ref h6.1), (1, .ref h.1), (0, .ref 1300)] dd_QuotaLawsLaw_law_0.2.2.2.2.2.2.2.1 rfl (Nat.le_of_ble_eq_true rfl) rfl ?_
  refine g_iconst (pc := 16) (0 : Int32) dd_QuotaLawsLaw_law_0.2.2.2.2.2.2.2.2.1 (by decide) ?_
  refine g_istore_n (pc := 17) [(3, .int (0 : Int32)), (2, .ref h6.1), (1, .ref h.1), (0, .ref 1300)] dd_QuotaLawsLaw_law_0.2.2.2.2.2.2.2.2.2.1 rfl (Nat.le_of_ble_eq_true rfl) rfl ?_
  refine g_lv [3, 2, 1, 0] rfl ?_
  exact t_QuotaLawsLaw_law_18  FU _ _ _ _ _ _  hf
def f_QuotaLawsLaw_law (sc : Nat × (Nat → Int32)) (h : mH) : Option (Int32 × mH) := f_QuotaLawsLaw_law_0 sc  h
theorem c_QuotaLawsLaw_law {sc : Nat × (Nat → Int32)}  {h : mH} {r : Int32} {h' : mH} (hf : f_QuotaLawsLaw_law sc  h = some (r, h')) : MM sc y_QuotaLawsLaw_law code 4 (some .boolean) 8 176 [.ref 1300] h (some (.int r)) h' :=
  mm_of_G si_pn_QuotaLawsLaw (Nat.le_of_ble_eq_true rfl) (t_QuotaLawsLaw_law_0 _ _ _ hf)
end
/-! 60.start -/
section
/-! THE LAW'S ENTRY. The first rows and the last are the kit's skeleton. -/
def R_law : String := "QuotaLawsLaw"
def lw_P (b : Addr) (xs : List Int32) (args : Array Value) (s : State) : Prop := args = #[.ref b] ∧ s.IntsAt b xs ∧ xs.length ≤ 320 ∧ (Jvm.Cond.and given_1 narrow_1).before args s = true
def lw_Q (_ : Array Value) (s : State) (o : Outcome) (t : State) : Prop := o = .returned (some (.int 1)) ∧ Framed s o t [] 600000 7302250
def lw_Z (below : List Frame) (a : Array Value) (s : State) : State → Prop := fun t => ∃ o, t.status = .running ∧ Ended t below o ∧ lw_Q a s o t
/-- what holds at the law's entry: the machine, the code, the tables' words (any of lw_tbl by 'hts w (by decide +kernel)'), the script of L ints xs at the cell b, what the Statement gives of the start (any of its parts by flat_of_before) -/
def lw_At (p : Program) (s : State) (m : MethodId) (meth : Method) (c : Code) (b L : Nat) (xs : Nat → Int32) : Prop :=
  p.tables.exec = Jvm.exec ∧ c.code = code ∧ meth.sig.returnType = ret ∧ c.maxLocals = 4 ∧ s.vm.findClass R_law = some m.cls ∧ (∀ w ∈ lw_tbl, w.before #[Value.ref b] s = true) ∧ va_X b L xs s s.heap ∧ b < s.heap.size ∧ meth.locks = false ∧ (Jvm.Cond.and given_1 narrow_1).before #[Value.ref b] s = true ∧ meth.name = "law"
theorem arr_known {s : State} {args : Array Value} {ty : FieldType} (h : (Cond.arrayClass ty).before args s = true) : ∃ cA : ClassId, ArrOfT s cA ty ∧ s.vm.findClass ("[" ++ ty.toString) = some cA := by
  obtain ⟨cA, kA, comp, h1, h2, h3⟩ := Cond.arrayClass_spec h
  exact ⟨cA, fun n z => ⟨fun k h => (by cases h), kA, h2, comp, h3⟩, h1⟩
theorem arr_over {s : State} {C : String} (h : va_AO C s) : ∃ cA : ClassId, ArrOfT s cA (.object C) ∧ va_RA s cA (.object C) := by
  obtain ⟨comp, c, k, h1, h2, h3, h4, h5⟩ := Cond.arrayOver_spec h
  exact ⟨c, fun n z => ⟨fun k h => (by cases h), k, h3, comp, h4⟩, k, comp, h3, h4, h1, h5⟩
def strT (i : Nat) : Term := .string "QuotaLaws$Reader" ([54, 67, 75, 80].getD i 0)
set_option maxRecDepth 100000 in
theorem str_start {b : Nat} {s : State} {A : Nat → Prop} (hg : (Jvm.Cond.and given_1 narrow_1).before #[Value.ref b] s = true) (hA : ∀ a : Nat, a < s.heap.size → ¬ A a) : ∃ adK adV : Nat → Nat, vk_S strK.length strL strB adK adV A s s.heap ∧ ∀ i : Nat, i < strK.length → (strT i).eval #[Value.ref b] s none [] s = some (.ref (adK i)) := by
  have hs := flat_of_before _ hg
  refine vk_Sof (args := #[Value.ref b]) (N := 4) (tm := strT) (len := strL) (byt := strB) ?_ ?_ ?_ ?_ ?_ ?_ ?_ hA
  · intro i hi; rcases (show i = 0 ∨ i = 1 ∨ i = 2 ∨ i = 3 by omega) with rfl | rfl | rfl | rfl <;> decide
  · intro i hi; rcases (show i = 0 ∨ i = 1 ∨ i = 2 ∨ i = 3 by omega) with rfl | rfl | rfl | rfl <;> exact hs _ (by decide +kernel)
  · intro i hi; rcases (show i = 0 ∨ i = 1 ∨ i = 2 ∨ i = 3 by omega) with rfl | rfl | rfl | rfl <;> exact hs _ (by decide +kernel)
  · intro i hi; rcases (show i = 0 ∨ i = 1 ∨ i = 2 ∨ i = 3 by omega) with rfl | rfl | rfl | rfl <;> exact hs _ (by decide +kernel)
  · intro i hi; rcases (show i = 0 ∨ i = 1 ∨ i = 2 ∨ i = 3 by omega) with rfl | rfl | rfl | rfl <;> exact hs _ (by decide +kernel)
  · intro i hi
    rcases (show i = 0 ∨ i = 1 ∨ i = 2 ∨ i = 3 by omega) with rfl | rfl | rfl | rfl
    · intro j (hj : j < 3); rcases (show j = 0 ∨ j = 1 ∨ j = 2 by omega) with rfl | rfl | rfl <;> exact hs _ (by decide +kernel)
    · intro j (hj : j < 3); rcases (show j = 0 ∨ j = 1 ∨ j = 2 by omega) with rfl | rfl | rfl <;> exact hs _ (by decide +kernel)
    · intro j (hj : j < 4); rcases (show j = 0 ∨ j = 1 ∨ j = 2 ∨ j = 3 by omega) with rfl | rfl | rfl | rfl <;> exact hs _ (by decide +kernel)
    · intro j (hj : j < 5); rcases (show j = 0 ∨ j = 1 ∨ j = 2 ∨ j = 3 ∨ j = 4 by omega) with rfl | rfl | rfl | rfl | rfl <;> exact hs _ (by decide +kernel)
  · intro i j hi hj hij
    rcases (show i = 0 ∨ i = 1 ∨ i = 2 ∨ i = 3 by omega) with rfl | rfl | rfl | rfl <;> rcases (show j = 0 ∨ j = 1 ∨ j = 2 ∨ j = 3 by omega) with rfl | rfl | rfl | rfl <;> first | exact absurd rfl hij | exact Or.inl (hs _ (by decide +kernel)) | exact Or.inr (hs _ (by decide +kernel))
set_option maxRecDepth 100000 in
theorem EX_start {b L : Nat} {xs : Nat → Int32} {s : State} (hts : ∀ w ∈ lw_tbl, w.before #[Value.ref b] s = true) (hg : (Jvm.Cond.and given_1 narrow_1).before #[Value.ref b] s = true) (hX : va_X b L xs s s.heap) (hbl : b < s.heap.size) : ∃ ad : Nat → Nat, EX (L, xs) ad (fun q => s.heap.size ≤ q) s ∧ ad 1300 = b := by
  have hA : ∀ a : Nat, a < s.heap.size → ¬ (fun q => s.heap.size ≤ q) a := fun a h => Nat.not_le.mpr h
  have hs := flat_of_before _ hg
  obtain ⟨adK, adV, hS, hT⟩ := str_start hg hA
  have hZ : va_Z "java/lang/String" "COMPACT_STRINGS" "Z" (.int 1) (fun q => s.heap.size ≤ q) s s.heap := va_Zof (args := #[Value.ref b]) (hts _ (lw_c2 155 (by decide +kernel))) (hts _ (lw_c1 11 (by decide +kernel))) (va_eqt (hs _ (by decide +kernel))) hA
  have hF : va_Zq "jdk/internal/util/Preconditions" "SIOOBE_FORMATTER" "Ljava/util/function/BiFunction;" (fun q => s.heap.size ≤ q) s s.heap := va_Zqof (args := #[Value.ref b]) (hts _ (lw_c2 171 (by decide +kernel))) (hts _ (lw_c1 13 (by decide +kernel))) (hs _ (by decide +kernel)) hA
  obtain ⟨ft, hft⟩ : ∃ ft : Nat, va_Z "jdk/internal/util/Preconditions" "SIOOBE_FORMATTER" "Ljava/util/function/BiFunction;" .null (fun q => s.heap.size ≤ q) s s.heap ∨ va_Z "jdk/internal/util/Preconditions" "SIOOBE_FORMATTER" "Ljava/util/function/BiFunction;" (.ref ft) (fun q => s.heap.size ≤ q) s s.heap := by
    rcases hF with z | ⟨t, z⟩
    · exact ⟨0, Or.inl z⟩
    · exact ⟨t, Or.inr z⟩
  refine ⟨fun k => if k = 1300 then b else if k = 1200 then ft else if k < 1100 then adK (k - 1000) else adV (k - 1100), ⟨fun w hw => ?_, fun i q hq => ?_, ?_, hZ, hft, ?_, hX, hA b hbl⟩, rfl⟩
  · exact va_Nw.of (nest_on (List.mem_filter.mp hw).2) (hts w (List.mem_filter.mp hw).1)
  · have hi : i < 4 := (List.getElem?_eq_some_iff.mp hq).1
    rcases (show i = 0 ∨ i = 1 ∨ i = 2 ∨ i = 3 by omega) with rfl | rfl | rfl | rfl
    · cases hq; exact vk_R.of (A := #[Value.ref b]) (hts _ (lw_c2 141 (by decide +kernel))) (hT 0 (by decide))
    · cases hq; exact vk_R.of (A := #[Value.ref b]) (hts _ (lw_c2 219 (by decide +kernel))) (hT 1 (by decide))
    · cases hq; exact vk_R.of (A := #[Value.ref b]) (hts _ (lw_c2 231 (by decide +kernel))) (hT 2 (by decide))
    · cases hq; exact vk_R.of (A := #[Value.ref b]) (hts _ (lw_c2 236 (by decide +kernel))) (hT 3 (by decide))
  · have e1 : (fun i => (fun k => if k = 1300 then b else if k = 1200 then ft else if k < 1100 then adK (k - 1000) else adV (k - 1100)) (1000 + i)) = fun i => if i < 100 then adK i else if i = 300 then b else if i = 200 then ft else adV (i - 100) := by
      funext i; dsimp only; split <;> (try split) <;> (try split) <;> (try split) <;> (try split) <;> (try split) <;> first | omega | exact congrArg adV (by omega) | exact congrArg adK (by omega) | rfl | (congr 1; omega)
    have e2 : (fun i => (fun k => if k = 1300 then b else if k = 1200 then ft else if k < 1100 then adK (k - 1000) else adV (k - 1100)) (1100 + i)) = fun i => if i = 200 then b else if i = 100 then ft else adV i := by
      funext i; dsimp only; split <;> (try split) <;> (try split) <;> (try split) <;> (try split) <;> first | omega | exact congrArg adV (by omega) | exact congrArg adK (by omega) | rfl | (congr 1; omega)
    rw [e1, e2]
    refine ⟨fun i hi => ?_, fun i j hi hj e => ?_⟩
    · have hi2 : i < 4 := hi
      have h1 := hS.1 i hi
      dsimp only
      rw [if_pos (show i < 100 by omega), if_neg (show ¬ i = 200 by omega), if_neg (show ¬ i = 100 by omega)]
      exact h1
    · have hi2 : i < 4 := hi
      have hj2 : j < 4 := hj
      dsimp only at e
      rw [if_pos (show i < 100 by omega), if_pos (show j < 100 by omega)] at e
      exact hS.2 i j hi hj e
  · intro C hC
    rcases (show C = "QuotaLaws$Realm" ∨ C = "QuotaLaws$Sheet" by simpa [overs] using hC) with rfl | rfl
    · exact va_AO.of (hts _ (lw_c1 195 (by decide +kernel)))
    · exact va_AO.of (hts _ (lw_c1 197 (by decide +kernel)))
set_option maxRecDepth 100000 in
theorem K_start {b : Nat} {s : State} (hts : ∀ w ∈ lw_tbl, w.before #[Value.ref b] s = true) : ∃ (dC : Nat → ClassId) (dI : Nat → Nat → Nat) (dA : Nat → ClassId), va_K (dC, dI) mcls (mtys dA) s := by
  have htg : ∀ w ∈ tbg, w.before #[Value.ref b] s = true := fun w hw => hts w (List.mem_filter.mp hw).1
  obtain ⟨c0, i0, k0⟩ := u_known (C := "QuotaLaws") (T := T_Q) (N := 10) (n := 10) htg in_Q (htg _ wd_19)
  obtain ⟨c1, i1, k1⟩ := u_known (C := "QuotaLaws$Odds") (T := T_Odds) (N := 3) (n := 3) htg in_Odds (htg _ wd_263)
  obtain ⟨c2, i2, k2⟩ := u_known (C := "QuotaLaws$Planner") (T := T_Planner) (N := 8) (n := 8) htg in_Planner (htg _ wd_199)
  obtain ⟨c3, i3, k3⟩ := u_known (C := "QuotaLaws$Reader") (T := T_Reader) (N := 9) (n := 9) htg in_Reader (htg _ wd_27)
  obtain ⟨c4, i4, k4⟩ := u_known (C := "QuotaLaws$Realm") (T := T_Realm) (N := 19) (n := 19) htg in_Realm (htg _ wd_66)
  obtain ⟨c5, i5, k5⟩ := u_known (C := "QuotaLaws$Sheet") (T := T_Sheet) (N := 3) (n := 3) htg in_Sheet (htg _ wd_280)
  obtain ⟨c6, i6, k6⟩ := u_known (C := "QuotaLaws$Sightings") (T := T_Sightings) (N := 4) (n := 4) htg in_Sightings (htg _ wd_72)
  obtain ⟨c7, i7, k7⟩ := u_known (C := "QuotaLaws$Tables") (T := T_Tables) (N := 8) (n := 8) htg in_Tables (htg _ wd_231)
  obtain ⟨c8, i8, k8⟩ := u_known (C := "QuotaLawsModel") (T := T_M) (N := 39) (n := 39) htg in_M (htg _ wd_925)
  obtain ⟨a0, p0, r0⟩ := arr_known (ty := .int) (hts _ (lw_c1 92 (by decide +kernel)))
  obtain ⟨a1, p1, r1⟩ := arr_known (ty := .byte) (hts _ (lw_c1 64 (by decide +kernel)))
  obtain ⟨a2, p2, r2⟩ := arr_known (ty := .boolean) (hts _ (lw_c1 229 (by decide +kernel)))
  obtain ⟨a3, p3, r3⟩ := arr_known (ty := .long) (hts _ (lw_c2 21 (by decide +kernel)))
  obtain ⟨a4, p4, r4⟩ := arr_over (C := "QuotaLaws$Realm") (va_AO.of (hts _ (lw_c1 195 (by decide +kernel))))
  obtain ⟨a5, p5, r5⟩ := arr_over (C := "QuotaLaws$Sheet") (va_AO.of (hts _ (lw_c1 197 (by decide +kernel))))
  refine ⟨fun k => [c0, c1, c2, c3, c4, c5, c6, c7, c8].getD k c0, fun k => [i0, i1, i2, i3, i4, i5, i6, i7, i8].getD k i0, fun k => [a0, a1, a2, a3, a4, a5].getD k a0, fun k q hq => ?_, fun k q hq => ?_⟩
  · have hk : k < 9 := (List.getElem?_eq_some_iff.mp hq).1
    rcases (show k = 0 ∨ k = 1 ∨ k = 2 ∨ k = 3 ∨ k = 4 ∨ k = 5 ∨ k = 6 ∨ k = 7 ∨ k = 8 by omega) with rfl | rfl | rfl | rfl | rfl | rfl | rfl | rfl | rfl
    · cases hq; exact k0
    · cases hq; exact k1
    · cases hq; exact k2
    · cases hq; exact k3
    · cases hq; exact k4
    · cases hq; exact k5
    · cases hq; exact k6
    · cases hq; exact k7
    · cases hq; exact k8
  · have hk : k < 6 := (List.getElem?_eq_some_iff.mp hq).1
    rcases (show k = 0 ∨ k = 1 ∨ k = 2 ∨ k = 3 ∨ k = 4 ∨ k = 5 by omega) with rfl | rfl | rfl | rfl | rfl | rfl
    · cases hq; exact ⟨p0, r0⟩
    · cases hq; exact ⟨p1, r1⟩
    · cases hq; exact ⟨p2, r2⟩
    · cases hq; exact ⟨p3, r3⟩
    · cases hq; exact ⟨p4, r4⟩
    · cases hq; exact ⟨p5, r5⟩
/-- nothing old was written -/
theorem end_of {s t : State} {o : Outcome} {L : List Loc} {k n : Nat} (h : FrameEnd s o t L k n) (hL : ∀ q ∈ L, s.heap.size ≤ q.base) (hk : k ≤ 600000) (hn : n ≤ 7302250) : Framed s o t [] 600000 7302250 := by
  obtain ⟨h1, h2, h3⟩ := h
  refine ⟨h1, h2, ?_⟩
  have h4 := h3.mono hk hn
  obtain ⟨g1, g2, g3, g4, g5, g6⟩ := h4
  refine ⟨g1, g2, g3, g4, g5, fun a c hc => ?_⟩
  obtain ⟨c', z1, z2, z3, z4⟩ := g6 a c hc
  refine ⟨c', z1, z2, z3, fun i _ => z4 i (fun hm => ?_)⟩
  have := hL _ hm
  have ha : a < s.heap.size := (Array.getElem?_eq_some_iff.mp hc).1
  exact absurd ha (Nat.not_lt.mpr this)
/-- the cells at the law's entry: none -/
def h00 : mH := (0, 0, fun _ => dead)
/-- the claim, as said of the functions -/
def FunClaim : Prop := ∀ sc : Nat × (Nat → Int32), sc.1 ≤ 320 → ∃ h' : mH, f_QuotaLawsLaw_law sc h00 = some (1, h') ∧ h'.1 ≤ 600000 ∧ h'.2.1 ≤ 7302250
theorem start_of (hfun : FunClaim) {p : Program} {e : Env} {s : State} {m : MethodId} {below : List Frame} {meth : Method} {c : Code} (l : Launch) {b L : Nat} {xs : Nat → Int32} (hL : L ≤ 320) (C0 : lw_At p s m meth c b L xs) : W p l e room_1 s m #[Value.ref b] below meth c s.heap [] 0 0 (lw_Z below #[Value.ref b] s) (entryFrame m ([Value.ref b] : List Value).toArray 4) := by
  obtain ⟨hx, hb, hr, hml, hown, hts, hX, hbl, hlocks, hgv, hnm⟩ := id C0
  obtain ⟨ad, hE, had⟩ := EX_start hts hgv hX hbl
  obtain ⟨dC, dI, dA, hK⟩ := K_start hts
  obtain ⟨h', hf, hc1, hc2⟩ := hfun (L, xs) hL
  have hG := t_QuotaLawsLaw_law_0 (sc := (L, xs)) _ _ _ hf
  have hl := lv_entry ([.ref b]) (n := 4) (Nat.le_of_ble_eq_true rfl)
  rw [lg_entry_eq]
  generalize (lg_sl ([.ref b]) ++ List.replicate (4 - (lg_sl ([.ref b])).length) Slot.unset).toArray = ls at hl ⊢
  have hl2 : lv_has ls 4 ([(0, Value.ref 1300)].map (cq ad)) := by
    show lv_has ls 4 [(0, .ref (ad 1300))]
    rw [had]
    exact hl
  have key := hG.2.2 l p e room_1 s m #[Value.ref b] below meth c dC dI dA ad 0 0 (fun q => s.heap.size ≤ q) (fun _ _ o _ => o = .returned (some (.int 1)))
    ⟨hx, hb, hr, hml, hlocks, hown, hnm, fun w hw => hts w (List.mem_filter.mp hw).1, hK, hE, fun _ h => h⟩ (fun _ _ _ _ _ _ _ _ _ _ _ => rfl) (by decide) (by decide) hc1 hc2 ad s.heap [] ls
    ⟨fun k q h => by simp [wl, h00] at h, ⟨fun i j p q h => by simp [wl, h00] at h, fun k q h => by simp [wl, h00] at h⟩, va_S.rf, hl2, fun _ _ => rfl, Nat.le_refl _, Nat.le_refl _, ⟨by decide, fun _ _ => rfl, fun k j h => by cases h⟩⟩
  intro T hT X
  obtain ⟨t, a1, o, b1, b2, b3, LL, b4, b5⟩ := key T hT X
  exact ⟨t, a1, o, b1, b2, b3, end_of b4 b5 hc1 hc2⟩
end
