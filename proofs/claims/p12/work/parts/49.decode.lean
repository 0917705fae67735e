theorem dd_QuotaLawsLaw_law_0 : (decode code 0 = .ok (.new 7, 3)) ∧ (decode code 3 = .ok (.dup, 1)) ∧ (decode code 4 = .ok (.invokespecial 9, 3)) ∧ (decode code 7 = .ok (.astore_n 1, 1)) ∧ (decode code 8 = .ok (.new 10, 3)) ∧ (decode code 11 = .ok (.dup, 1)) ∧ (decode code 12 = .ok (.invokespecial 12, 3)) ∧ (decode code 15 = .ok (.astore_n 2, 1)) ∧ (decode code 16 = .ok (.iconst 0, 1)) ∧ (decode code 17 = .ok (.istore_n 3, 1)) ∧ (decode code 18 = .ok (.iload_n 3, 1)) ∧ (decode code 19 = .ok (.aload_n 0, 1)) := by decide +kernel
theorem d_QuotaLawsLaw_law_0 : decode code 0 = .ok (.new 7, 3) := dd_QuotaLawsLaw_law_0.1
theorem d_QuotaLawsLaw_law_3 : decode code 3 = .ok (.dup, 1) := dd_QuotaLawsLaw_law_0.2.1
theorem d_QuotaLawsLaw_law_4 : decode code 4 = .ok (.invokespecial 9, 3) := dd_QuotaLawsLaw_law_0.2.2.1
theorem d_QuotaLawsLaw_law_7 : decode code 7 = .ok (.astore_n 1, 1) := dd_QuotaLawsLaw_law_0.2.2.2.1
theorem d_QuotaLawsLaw_law_8 : decode code 8 = .ok (.new 10, 3) := dd_QuotaLawsLaw_law_0.2.2.2.2.1
theorem d_QuotaLawsLaw_law_11 : decode code 11 = .ok (.dup, 1) := dd_QuotaLawsLaw_law_0.2.2.2.2.2.1
theorem d_QuotaLawsLaw_law_12 : decode code 12 = .ok (.invokespecial 12, 3) := dd_QuotaLawsLaw_law_0.2.2.2.2.2.2.1
theorem d_QuotaLawsLaw_law_15 : decode code 15 = .ok (.astore_n 2, 1) := dd_QuotaLawsLaw_law_0.2.2.2.2.2.2.2.1
theorem d_QuotaLawsLaw_law_16 : decode code 16 = .ok (.iconst 0, 1) := dd_QuotaLawsLaw_law_0.2.2.2.2.2.2.2.2.1
theorem d_QuotaLawsLaw_law_17 : decode code 17 = .ok (.istore_n 3, 1) := dd_QuotaLawsLaw_law_0.2.2.2.2.2.2.2.2.2.1
theorem d_QuotaLawsLaw_law_18 : decode code 18 = .ok (.iload_n 3, 1) := dd_QuotaLawsLaw_law_0.2.2.2.2.2.2.2.2.2.2.1
theorem d_QuotaLawsLaw_law_19 : decode code 19 = .ok (.aload_n 0, 1) := dd_QuotaLawsLaw_law_0.2.2.2.2.2.2.2.2.2.2.2
theorem dd_QuotaLawsLaw_law_20 : (decode code 20 = .ok (.arraylength, 1)) ∧ (decode code 21 = .ok (.iconst 5, 1)) ∧ (decode code 22 = .ok (.isub, 1)) ∧ (decode code 23 = .ok (.if_icmp .gt 1325, 3)) ∧ (decode code 26 = .ok (.aload_n 0, 1)) ∧ (decode code 27 = .ok (.iload_n 3, 1)) ∧ (decode code 28 = .ok (.iaload, 1)) ∧ (decode code 29 = .ok (.bipush 63, 2)) ∧ (decode code 31 = .ok (.iand, 1)) ∧ (decode code 32 = .ok (.tableswitch 1310 0 37 #[168, 191, 214, 227, 240, 263, 296, 329, 362, 395, 428, 477, 510, 569, 628, 661, 684, 717, 730, 743, 766, 789, 812, 835, 868, 891, 924, 967, 990, 1003, 1046, 1089, 1112, 1135, 1178, 1221, 1274, 1287], 168)) ∧ (decode code 200 = .ok (.aload_n 1, 1)) ∧ (decode code 201 = .ok (.aload_n 0, 1)) := by decide +kernel
theorem d_QuotaLawsLaw_law_20 : decode code 20 = .ok (.arraylength, 1) := dd_QuotaLawsLaw_law_20.1
theorem d_QuotaLawsLaw_law_21 : decode code 21 = .ok (.iconst 5, 1) := dd_QuotaLawsLaw_law_20.2.1
theorem d_QuotaLawsLaw_law_22 : decode code 22 = .ok (.isub, 1) := dd_QuotaLawsLaw_law_20.2.2.1
theorem d_QuotaLawsLaw_law_23 : decode code 23 = .ok (.if_icmp .gt 1325, 3) := dd_QuotaLawsLaw_law_20.2.2.2.1
theorem d_QuotaLawsLaw_law_26 : decode code 26 = .ok (.aload_n 0, 1) := dd_QuotaLawsLaw_law_20.2.2.2.2.1
theorem d_QuotaLawsLaw_law_27 : decode code 27 = .ok (.iload_n 3, 1) := dd_QuotaLawsLaw_law_20.2.2.2.2.2.1
theorem d_QuotaLawsLaw_law_28 : decode code 28 = .ok (.iaload, 1) := dd_QuotaLawsLaw_law_20.2.2.2.2.2.2.1
theorem d_QuotaLawsLaw_law_29 : decode code 29 = .ok (.bipush 63, 2) := dd_QuotaLawsLaw_law_20.2.2.2.2.2.2.2.1
theorem d_QuotaLawsLaw_law_31 : decode code 31 = .ok (.iand, 1) := dd_QuotaLawsLaw_law_20.2.2.2.2.2.2.2.2.1
theorem d_QuotaLawsLaw_law_32 : decode code 32 = .ok (.tableswitch 1310 0 37 #[168, 191, 214, 227, 240, 263, 296, 329, 362, 395, 428, 477, 510, 569, 628, 661, 684, 717, 730, 743, 766, 789, 812, 835, 868, 891, 924, 967, 990, 1003, 1046, 1089, 1112, 1135, 1178, 1221, 1274, 1287], 168) := dd_QuotaLawsLaw_law_20.2.2.2.2.2.2.2.2.2.1
theorem d_QuotaLawsLaw_law_200 : decode code 200 = .ok (.aload_n 1, 1) := dd_QuotaLawsLaw_law_20.2.2.2.2.2.2.2.2.2.2.1
theorem d_QuotaLawsLaw_law_201 : decode code 201 = .ok (.aload_n 0, 1) := dd_QuotaLawsLaw_law_20.2.2.2.2.2.2.2.2.2.2.2
theorem dd_QuotaLawsLaw_law_202 : (decode code 202 = .ok (.iload_n 3, 1)) ∧ (decode code 203 = .ok (.iconst 1, 1)) ∧ (decode code 204 = .ok (.iadd, 1)) ∧ (decode code 205 = .ok (.iaload, 1)) ∧ (decode code 206 = .ok (.invokevirtual 13, 3)) ∧ (decode code 209 = .ok (.pop, 1)) ∧ (decode code 210 = .ok (.aload_n 2, 1)) ∧ (decode code 211 = .ok (.aload_n 0, 1)) ∧ (decode code 212 = .ok (.iload_n 3, 1)) ∧ (decode code 213 = .ok (.iconst 1, 1)) ∧ (decode code 214 = .ok (.iadd, 1)) ∧ (decode code 215 = .ok (.iaload, 1)) := by decide +kernel
theorem d_QuotaLawsLaw_law_202 : decode code 202 = .ok (.iload_n 3, 1) := dd_QuotaLawsLaw_law_202.1
theorem d_QuotaLawsLaw_law_203 : decode code 203 = .ok (.iconst 1, 1) := dd_QuotaLawsLaw_law_202.2.1
theorem d_QuotaLawsLaw_law_204 : decode code 204 = .ok (.iadd, 1) := dd_QuotaLawsLaw_law_202.2.2.1
theorem d_QuotaLawsLaw_law_205 : decode code 205 = .ok (.iaload, 1) := dd_QuotaLawsLaw_law_202.2.2.2.1
theorem d_QuotaLawsLaw_law_206 : decode code 206 = .ok (.invokevirtual 13, 3) := dd_QuotaLawsLaw_law_202.2.2.2.2.1
theorem d_QuotaLawsLaw_law_209 : decode code 209 = .ok (.pop, 1) := dd_QuotaLawsLaw_law_202.2.2.2.2.2.1
theorem d_QuotaLawsLaw_law_210 : decode code 210 = .ok (.aload_n 2, 1) := dd_QuotaLawsLaw_law_202.2.2.2.2.2.2.1
theorem d_QuotaLawsLaw_law_211 : decode code 211 = .ok (.aload_n 0, 1) := dd_QuotaLawsLaw_law_202.2.2.2.2.2.2.2.1
theorem d_QuotaLawsLaw_law_212 : decode code 212 = .ok (.iload_n 3, 1) := dd_QuotaLawsLaw_law_202.2.2.2.2.2.2.2.2.1
theorem d_QuotaLawsLaw_law_213 : decode code 213 = .ok (.iconst 1, 1) := dd_QuotaLawsLaw_law_202.2.2.2.2.2.2.2.2.2.1
theorem d_QuotaLawsLaw_law_214 : decode code 214 = .ok (.iadd, 1) := dd_QuotaLawsLaw_law_202.2.2.2.2.2.2.2.2.2.2.1
theorem d_QuotaLawsLaw_law_215 : decode code 215 = .ok (.iaload, 1) := dd_QuotaLawsLaw_law_202.2.2.2.2.2.2.2.2.2.2.2
theorem dd_QuotaLawsLaw_law_216 : (decode code 216 = .ok (.invokevirtual 17, 3)) ∧ (decode code 219 = .ok (.pop, 1)) ∧ (decode code 220 = .ok (.goto 1122, 3)) ∧ (decode code 223 = .ok (.aload_n 1, 1)) ∧ (decode code 224 = .ok (.aload_n 0, 1)) ∧ (decode code 225 = .ok (.iload_n 3, 1)) ∧ (decode code 226 = .ok (.iconst 1, 1)) ∧ (decode code 227 = .ok (.iadd, 1)) ∧ (decode code 228 = .ok (.iaload, 1)) ∧ (decode code 229 = .ok (.invokevirtual 18, 3)) ∧ (decode code 232 = .ok (.pop, 1)) ∧ (decode code 233 = .ok (.aload_n 2, 1)) := by decide +kernel
theorem d_QuotaLawsLaw_law_216 : decode code 216 = .ok (.invokevirtual 17, 3) := dd_QuotaLawsLaw_law_216.1
theorem d_QuotaLawsLaw_law_219 : decode code 219 = .ok (.pop, 1) := dd_QuotaLawsLaw_law_216.2.1
theorem d_QuotaLawsLaw_law_220 : decode code 220 = .ok (.goto 1122, 3) := dd_QuotaLawsLaw_law_216.2.2.1
theorem d_QuotaLawsLaw_law_223 : decode code 223 = .ok (.aload_n 1, 1) := dd_QuotaLawsLaw_law_216.2.2.2.1
theorem d_QuotaLawsLaw_law_224 : decode code 224 = .ok (.aload_n 0, 1) := dd_QuotaLawsLaw_law_216.2.2.2.2.1
theorem d_QuotaLawsLaw_law_225 : decode code 225 = .ok (.iload_n 3, 1) := dd_QuotaLawsLaw_law_216.2.2.2.2.2.1
theorem d_QuotaLawsLaw_law_226 : decode code 226 = .ok (.iconst 1, 1) := dd_QuotaLawsLaw_law_216.2.2.2.2.2.2.1
theorem d_QuotaLawsLaw_law_227 : decode code 227 = .ok (.iadd, 1) := dd_QuotaLawsLaw_law_216.2.2.2.2.2.2.2.1
theorem d_QuotaLawsLaw_law_228 : decode code 228 = .ok (.iaload, 1) := dd_QuotaLawsLaw_law_216.2.2.2.2.2.2.2.2.1
theorem d_QuotaLawsLaw_law_229 : decode code 229 = .ok (.invokevirtual 18, 3) := dd_QuotaLawsLaw_law_216.2.2.2.2.2.2.2.2.2.1
theorem d_QuotaLawsLaw_law_232 : decode code 232 = .ok (.pop, 1) := dd_QuotaLawsLaw_law_216.2.2.2.2.2.2.2.2.2.2.1
theorem d_QuotaLawsLaw_law_233 : decode code 233 = .ok (.aload_n 2, 1) := dd_QuotaLawsLaw_law_216.2.2.2.2.2.2.2.2.2.2.2
theorem dd_QuotaLawsLaw_law_234 : (decode code 234 = .ok (.aload_n 0, 1)) ∧ (decode code 235 = .ok (.iload_n 3, 1)) ∧ (decode code 236 = .ok (.iconst 1, 1)) ∧ (decode code 237 = .ok (.iadd, 1)) ∧ (decode code 238 = .ok (.iaload, 1)) ∧ (decode code 239 = .ok (.invokevirtual 21, 3)) ∧ (decode code 242 = .ok (.pop, 1)) ∧ (decode code 243 = .ok (.goto 1099, 3)) ∧ (decode code 246 = .ok (.aload_n 1, 1)) ∧ (decode code 247 = .ok (.invokevirtual 22, 3)) ∧ (decode code 250 = .ok (.pop, 1)) ∧ (decode code 251 = .ok (.aload_n 2, 1)) := by decide +kernel
theorem d_QuotaLawsLaw_law_234 : decode code 234 = .ok (.aload_n 0, 1) := dd_QuotaLawsLaw_law_234.1
theorem d_QuotaLawsLaw_law_235 : decode code 235 = .ok (.iload_n 3, 1) := dd_QuotaLawsLaw_law_234.2.1
theorem d_QuotaLawsLaw_law_236 : decode code 236 = .ok (.iconst 1, 1) := dd_QuotaLawsLaw_law_234.2.2.1
theorem d_QuotaLawsLaw_law_237 : decode code 237 = .ok (.iadd, 1) := dd_QuotaLawsLaw_law_234.2.2.2.1
theorem d_QuotaLawsLaw_law_238 : decode code 238 = .ok (.iaload, 1) := dd_QuotaLawsLaw_law_234.2.2.2.2.1
theorem d_QuotaLawsLaw_law_239 : decode code 239 = .ok (.invokevirtual 21, 3) := dd_QuotaLawsLaw_law_234.2.2.2.2.2.1
theorem d_QuotaLawsLaw_law_242 : decode code 242 = .ok (.pop, 1) := dd_QuotaLawsLaw_law_234.2.2.2.2.2.2.1
theorem d_QuotaLawsLaw_law_243 : decode code 243 = .ok (.goto 1099, 3) := dd_QuotaLawsLaw_law_234.2.2.2.2.2.2.2.1
theorem d_QuotaLawsLaw_law_246 : decode code 246 = .ok (.aload_n 1, 1) := dd_QuotaLawsLaw_law_234.2.2.2.2.2.2.2.2.1
theorem d_QuotaLawsLaw_law_247 : decode code 247 = .ok (.invokevirtual 22, 3) := dd_QuotaLawsLaw_law_234.2.2.2.2.2.2.2.2.2.1
theorem d_QuotaLawsLaw_law_250 : decode code 250 = .ok (.pop, 1) := dd_QuotaLawsLaw_law_234.2.2.2.2.2.2.2.2.2.2.1
theorem d_QuotaLawsLaw_law_251 : decode code 251 = .ok (.aload_n 2, 1) := dd_QuotaLawsLaw_law_234.2.2.2.2.2.2.2.2.2.2.2
theorem dd_QuotaLawsLaw_law_252 : (decode code 252 = .ok (.invokevirtual 26, 3)) ∧ (decode code 255 = .ok (.pop, 1)) ∧ (decode code 256 = .ok (.goto 1086, 3)) ∧ (decode code 259 = .ok (.aload_n 1, 1)) ∧ (decode code 260 = .ok (.invokevirtual 27, 3)) ∧ (decode code 263 = .ok (.pop, 1)) ∧ (decode code 264 = .ok (.aload_n 2, 1)) ∧ (decode code 265 = .ok (.invokevirtual 30, 3)) ∧ (decode code 268 = .ok (.pop, 1)) ∧ (decode code 269 = .ok (.goto 1073, 3)) ∧ (decode code 272 = .ok (.aload_n 1, 1)) ∧ (decode code 273 = .ok (.aload_n 0, 1)) := by decide +kernel
theorem d_QuotaLawsLaw_law_252 : decode code 252 = .ok (.invokevirtual 26, 3) := dd_QuotaLawsLaw_law_252.1
theorem d_QuotaLawsLaw_law_255 : decode code 255 = .ok (.pop, 1) := dd_QuotaLawsLaw_law_252.2.1
theorem d_QuotaLawsLaw_law_256 : decode code 256 = .ok (.goto 1086, 3) := dd_QuotaLawsLaw_law_252.2.2.1
theorem d_QuotaLawsLaw_law_259 : decode code 259 = .ok (.aload_n 1, 1) := dd_QuotaLawsLaw_law_252.2.2.2.1
theorem d_QuotaLawsLaw_law_260 : decode code 260 = .ok (.invokevirtual 27, 3) := dd_QuotaLawsLaw_law_252.2.2.2.2.1
theorem d_QuotaLawsLaw_law_263 : decode code 263 = .ok (.pop, 1) := dd_QuotaLawsLaw_law_252.2.2.2.2.2.1
theorem d_QuotaLawsLaw_law_264 : decode code 264 = .ok (.aload_n 2, 1) := dd_QuotaLawsLaw_law_252.2.2.2.2.2.2.1
theorem d_QuotaLawsLaw_law_265 : decode code 265 = .ok (.invokevirtual 30, 3) := dd_QuotaLawsLaw_law_252.2.2.2.2.2.2.2.1
theorem d_QuotaLawsLaw_law_268 : decode code 268 = .ok (.pop, 1) := dd_QuotaLawsLaw_law_252.2.2.2.2.2.2.2.2.1
theorem d_QuotaLawsLaw_law_269 : decode code 269 = .ok (.goto 1073, 3) := dd_QuotaLawsLaw_law_252.2.2.2.2.2.2.2.2.2.1
theorem d_QuotaLawsLaw_law_272 : decode code 272 = .ok (.aload_n 1, 1) := dd_QuotaLawsLaw_law_252.2.2.2.2.2.2.2.2.2.2.1
theorem d_QuotaLawsLaw_law_273 : decode code 273 = .ok (.aload_n 0, 1) := dd_QuotaLawsLaw_law_252.2.2.2.2.2.2.2.2.2.2.2
theorem dd_QuotaLawsLaw_law_274 : (decode code 274 = .ok (.iload_n 3, 1)) ∧ (decode code 275 = .ok (.iconst 1, 1)) ∧ (decode code 276 = .ok (.iadd, 1)) ∧ (decode code 277 = .ok (.iaload, 1)) ∧ (decode code 278 = .ok (.invokevirtual 31, 3)) ∧ (decode code 281 = .ok (.pop, 1)) ∧ (decode code 282 = .ok (.aload_n 2, 1)) ∧ (decode code 283 = .ok (.aload_n 0, 1)) ∧ (decode code 284 = .ok (.iload_n 3, 1)) ∧ (decode code 285 = .ok (.iconst 1, 1)) ∧ (decode code 286 = .ok (.iadd, 1)) ∧ (decode code 287 = .ok (.iaload, 1)) := by decide +kernel
theorem d_QuotaLawsLaw_law_274 : decode code 274 = .ok (.iload_n 3, 1) := dd_QuotaLawsLaw_law_274.1
theorem d_QuotaLawsLaw_law_275 : decode code 275 = .ok (.iconst 1, 1) := dd_QuotaLawsLaw_law_274.2.1
theorem d_QuotaLawsLaw_law_276 : decode code 276 = .ok (.iadd, 1) := dd_QuotaLawsLaw_law_274.2.2.1
theorem d_QuotaLawsLaw_law_277 : decode code 277 = .ok (.iaload, 1) := dd_QuotaLawsLaw_law_274.2.2.2.1
theorem d_QuotaLawsLaw_law_278 : decode code 278 = .ok (.invokevirtual 31, 3) := dd_QuotaLawsLaw_law_274.2.2.2.2.1
theorem d_QuotaLawsLaw_law_281 : decode code 281 = .ok (.pop, 1) := dd_QuotaLawsLaw_law_274.2.2.2.2.2.1
theorem d_QuotaLawsLaw_law_282 : decode code 282 = .ok (.aload_n 2, 1) := dd_QuotaLawsLaw_law_274.2.2.2.2.2.2.1
theorem d_QuotaLawsLaw_law_283 : decode code 283 = .ok (.aload_n 0, 1) := dd_QuotaLawsLaw_law_274.2.2.2.2.2.2.2.1
theorem d_QuotaLawsLaw_law_284 : decode code 284 = .ok (.iload_n 3, 1) := dd_QuotaLawsLaw_law_274.2.2.2.2.2.2.2.2.1
theorem d_QuotaLawsLaw_law_285 : decode code 285 = .ok (.iconst 1, 1) := dd_QuotaLawsLaw_law_274.2.2.2.2.2.2.2.2.2.1
theorem d_QuotaLawsLaw_law_286 : decode code 286 = .ok (.iadd, 1) := dd_QuotaLawsLaw_law_274.2.2.2.2.2.2.2.2.2.2.1
theorem d_QuotaLawsLaw_law_287 : decode code 287 = .ok (.iaload, 1) := dd_QuotaLawsLaw_law_274.2.2.2.2.2.2.2.2.2.2.2
theorem dd_QuotaLawsLaw_law_288 : (decode code 288 = .ok (.invokevirtual 34, 3)) ∧ (decode code 291 = .ok (.pop, 1)) ∧ (decode code 292 = .ok (.goto 1050, 3)) ∧ (decode code 295 = .ok (.aload_n 1, 1)) ∧ (decode code 296 = .ok (.aload_n 0, 1)) ∧ (decode code 297 = .ok (.iload_n 3, 1)) ∧ (decode code 298 = .ok (.iconst 1, 1)) ∧ (decode code 299 = .ok (.iadd, 1)) ∧ (decode code 300 = .ok (.iaload, 1)) ∧ (decode code 301 = .ok (.aload_n 0, 1)) ∧ (decode code 302 = .ok (.iload_n 3, 1)) ∧ (decode code 303 = .ok (.iconst 2, 1)) := by decide +kernel
theorem d_QuotaLawsLaw_law_288 : decode code 288 = .ok (.invokevirtual 34, 3) := dd_QuotaLawsLaw_law_288.1
theorem d_QuotaLawsLaw_law_291 : decode code 291 = .ok (.pop, 1) := dd_QuotaLawsLaw_law_288.2.1
theorem d_QuotaLawsLaw_law_292 : decode code 292 = .ok (.goto 1050, 3) := dd_QuotaLawsLaw_law_288.2.2.1
theorem d_QuotaLawsLaw_law_295 : decode code 295 = .ok (.aload_n 1, 1) := dd_QuotaLawsLaw_law_288.2.2.2.1
theorem d_QuotaLawsLaw_law_296 : decode code 296 = .ok (.aload_n 0, 1) := dd_QuotaLawsLaw_law_288.2.2.2.2.1
theorem d_QuotaLawsLaw_law_297 : decode code 297 = .ok (.iload_n 3, 1) := dd_QuotaLawsLaw_law_288.2.2.2.2.2.1
theorem d_QuotaLawsLaw_law_298 : decode code 298 = .ok (.iconst 1, 1) := dd_QuotaLawsLaw_law_288.2.2.2.2.2.2.1
theorem d_QuotaLawsLaw_law_299 : decode code 299 = .ok (.iadd, 1) := dd_QuotaLawsLaw_law_288.2.2.2.2.2.2.2.1
theorem d_QuotaLawsLaw_law_300 : decode code 300 = .ok (.iaload, 1) := dd_QuotaLawsLaw_law_288.2.2.2.2.2.2.2.2.1
theorem d_QuotaLawsLaw_law_301 : decode code 301 = .ok (.aload_n 0, 1) := dd_QuotaLawsLaw_law_288.2.2.2.2.2.2.2.2.2.1
theorem d_QuotaLawsLaw_law_302 : decode code 302 = .ok (.iload_n 3, 1) := dd_QuotaLawsLaw_law_288.2.2.2.2.2.2.2.2.2.2.1
theorem d_QuotaLawsLaw_law_303 : decode code 303 = .ok (.iconst 2, 1) := dd_QuotaLawsLaw_law_288.2.2.2.2.2.2.2.2.2.2.2
theorem dd_QuotaLawsLaw_law_304 : (decode code 304 = .ok (.iadd, 1)) ∧ (decode code 305 = .ok (.iaload, 1)) ∧ (decode code 306 = .ok (.invokevirtual 35, 3)) ∧ (decode code 309 = .ok (.pop, 1)) ∧ (decode code 310 = .ok (.aload_n 2, 1)) ∧ (decode code 311 = .ok (.aload_n 0, 1)) ∧ (decode code 312 = .ok (.iload_n 3, 1)) ∧ (decode code 313 = .ok (.iconst 1, 1)) ∧ (decode code 314 = .ok (.iadd, 1)) ∧ (decode code 315 = .ok (.iaload, 1)) ∧ (decode code 316 = .ok (.aload_n 0, 1)) ∧ (decode code 317 = .ok (.iload_n 3, 1)) := by decide +kernel
theorem d_QuotaLawsLaw_law_304 : decode code 304 = .ok (.iadd, 1) := dd_QuotaLawsLaw_law_304.1
theorem d_QuotaLawsLaw_law_305 : decode code 305 = .ok (.iaload, 1) := dd_QuotaLawsLaw_law_304.2.1
theorem d_QuotaLawsLaw_law_306 : decode code 306 = .ok (.invokevirtual 35, 3) := dd_QuotaLawsLaw_law_304.2.2.1
theorem d_QuotaLawsLaw_law_309 : decode code 309 = .ok (.pop, 1) := dd_QuotaLawsLaw_law_304.2.2.2.1
theorem d_QuotaLawsLaw_law_310 : decode code 310 = .ok (.aload_n 2, 1) := dd_QuotaLawsLaw_law_304.2.2.2.2.1
theorem d_QuotaLawsLaw_law_311 : decode code 311 = .ok (.aload_n 0, 1) := dd_QuotaLawsLaw_law_304.2.2.2.2.2.1
theorem d_QuotaLawsLaw_law_312 : decode code 312 = .ok (.iload_n 3, 1) := dd_QuotaLawsLaw_law_304.2.2.2.2.2.2.1
theorem d_QuotaLawsLaw_law_313 : decode code 313 = .ok (.iconst 1, 1) := dd_QuotaLawsLaw_law_304.2.2.2.2.2.2.2.1
theorem d_QuotaLawsLaw_law_314 : decode code 314 = .ok (.iadd, 1) := dd_QuotaLawsLaw_law_304.2.2.2.2.2.2.2.2.1
theorem d_QuotaLawsLaw_law_315 : decode code 315 = .ok (.iaload, 1) := dd_QuotaLawsLaw_law_304.2.2.2.2.2.2.2.2.2.1
theorem d_QuotaLawsLaw_law_316 : decode code 316 = .ok (.aload_n 0, 1) := dd_QuotaLawsLaw_law_304.2.2.2.2.2.2.2.2.2.2.1
theorem d_QuotaLawsLaw_law_317 : decode code 317 = .ok (.iload_n 3, 1) := dd_QuotaLawsLaw_law_304.2.2.2.2.2.2.2.2.2.2.2
theorem dd_QuotaLawsLaw_law_318 : (decode code 318 = .ok (.iconst 2, 1)) ∧ (decode code 319 = .ok (.iadd, 1)) ∧ (decode code 320 = .ok (.iaload, 1)) ∧ (decode code 321 = .ok (.invokevirtual 39, 3)) ∧ (decode code 324 = .ok (.pop, 1)) ∧ (decode code 325 = .ok (.goto 1017, 3)) ∧ (decode code 328 = .ok (.aload_n 1, 1)) ∧ (decode code 329 = .ok (.aload_n 0, 1)) ∧ (decode code 330 = .ok (.iload_n 3, 1)) ∧ (decode code 331 = .ok (.iconst 1, 1)) ∧ (decode code 332 = .ok (.iadd, 1)) ∧ (decode code 333 = .ok (.iaload, 1)) := by decide +kernel
theorem d_QuotaLawsLaw_law_318 : decode code 318 = .ok (.iconst 2, 1) := dd_QuotaLawsLaw_law_318.1
theorem d_QuotaLawsLaw_law_319 : decode code 319 = .ok (.iadd, 1) := dd_QuotaLawsLaw_law_318.2.1
theorem d_QuotaLawsLaw_law_320 : decode code 320 = .ok (.iaload, 1) := dd_QuotaLawsLaw_law_318.2.2.1
theorem d_QuotaLawsLaw_law_321 : decode code 321 = .ok (.invokevirtual 39, 3) := dd_QuotaLawsLaw_law_318.2.2.2.1
theorem d_QuotaLawsLaw_law_324 : decode code 324 = .ok (.pop, 1) := dd_QuotaLawsLaw_law_318.2.2.2.2.1
theorem d_QuotaLawsLaw_law_325 : decode code 325 = .ok (.goto 1017, 3) := dd_QuotaLawsLaw_law_318.2.2.2.2.2.1
theorem d_QuotaLawsLaw_law_328 : decode code 328 = .ok (.aload_n 1, 1) := dd_QuotaLawsLaw_law_318.2.2.2.2.2.2.1
theorem d_QuotaLawsLaw_law_329 : decode code 329 = .ok (.aload_n 0, 1) := dd_QuotaLawsLaw_law_318.2.2.2.2.2.2.2.1
theorem d_QuotaLawsLaw_law_330 : decode code 330 = .ok (.iload_n 3, 1) := dd_QuotaLawsLaw_law_318.2.2.2.2.2.2.2.2.1
theorem d_QuotaLawsLaw_law_331 : decode code 331 = .ok (.iconst 1, 1) := dd_QuotaLawsLaw_law_318.2.2.2.2.2.2.2.2.2.1
theorem d_QuotaLawsLaw_law_332 : decode code 332 = .ok (.iadd, 1) := dd_QuotaLawsLaw_law_318.2.2.2.2.2.2.2.2.2.2.1
theorem d_QuotaLawsLaw_law_333 : decode code 333 = .ok (.iaload, 1) := dd_QuotaLawsLaw_law_318.2.2.2.2.2.2.2.2.2.2.2
theorem dd_QuotaLawsLaw_law_334 : (decode code 334 = .ok (.aload_n 0, 1)) ∧ (decode code 335 = .ok (.iload_n 3, 1)) ∧ (decode code 336 = .ok (.iconst 2, 1)) ∧ (decode code 337 = .ok (.iadd, 1)) ∧ (decode code 338 = .ok (.iaload, 1)) ∧ (decode code 339 = .ok (.invokevirtual 40, 3)) ∧ (decode code 342 = .ok (.pop, 1)) ∧ (decode code 343 = .ok (.aload_n 2, 1)) ∧ (decode code 344 = .ok (.aload_n 0, 1)) ∧ (decode code 345 = .ok (.iload_n 3, 1)) ∧ (decode code 346 = .ok (.iconst 1, 1)) ∧ (decode code 347 = .ok (.iadd, 1)) := by decide +kernel
theorem d_QuotaLawsLaw_law_334 : decode code 334 = .ok (.aload_n 0, 1) := dd_QuotaLawsLaw_law_334.1
theorem d_QuotaLawsLaw_law_335 : decode code 335 = .ok (.iload_n 3, 1) := dd_QuotaLawsLaw_law_334.2.1
theorem d_QuotaLawsLaw_law_336 : decode code 336 = .ok (.iconst 2, 1) := dd_QuotaLawsLaw_law_334.2.2.1
theorem d_QuotaLawsLaw_law_337 : decode code 337 = .ok (.iadd, 1) := dd_QuotaLawsLaw_law_334.2.2.2.1
theorem d_QuotaLawsLaw_law_338 : decode code 338 = .ok (.iaload, 1) := dd_QuotaLawsLaw_law_334.2.2.2.2.1
theorem d_QuotaLawsLaw_law_339 : decode code 339 = .ok (.invokevirtual 40, 3) := dd_QuotaLawsLaw_law_334.2.2.2.2.2.1
theorem d_QuotaLawsLaw_law_342 : decode code 342 = .ok (.pop, 1) := dd_QuotaLawsLaw_law_334.2.2.2.2.2.2.1
theorem d_QuotaLawsLaw_law_343 : decode code 343 = .ok (.aload_n 2, 1) := dd_QuotaLawsLaw_law_334.2.2.2.2.2.2.2.1
theorem d_QuotaLawsLaw_law_344 : decode code 344 = .ok (.aload_n 0, 1) := dd_QuotaLawsLaw_law_334.2.2.2.2.2.2.2.2.1
theorem d_QuotaLawsLaw_law_345 : decode code 345 = .ok (.iload_n 3, 1) := dd_QuotaLawsLaw_law_334.2.2.2.2.2.2.2.2.2.1
theorem d_QuotaLawsLaw_law_346 : decode code 346 = .ok (.iconst 1, 1) := dd_QuotaLawsLaw_law_334.2.2.2.2.2.2.2.2.2.2.1
theorem d_QuotaLawsLaw_law_347 : decode code 347 = .ok (.iadd, 1) := dd_QuotaLawsLaw_law_334.2.2.2.2.2.2.2.2.2.2.2
theorem dd_QuotaLawsLaw_law_348 : (decode code 348 = .ok (.iaload, 1)) ∧ (decode code 349 = .ok (.aload_n 0, 1)) ∧ (decode code 350 = .ok (.iload_n 3, 1)) ∧ (decode code 351 = .ok (.iconst 2, 1)) ∧ (decode code 352 = .ok (.iadd, 1)) ∧ (decode code 353 = .ok (.iaload, 1)) ∧ (decode code 354 = .ok (.invokevirtual 43, 3)) ∧ (decode code 357 = .ok (.pop, 1)) ∧ (decode code 358 = .ok (.goto 984, 3)) ∧ (decode code 361 = .ok (.aload_n 1, 1)) ∧ (decode code 362 = .ok (.aload_n 0, 1)) ∧ (decode code 363 = .ok (.iload_n 3, 1)) := by decide +kernel
theorem d_QuotaLawsLaw_law_348 : decode code 348 = .ok (.iaload, 1) := dd_QuotaLawsLaw_law_348.1
theorem d_QuotaLawsLaw_law_349 : decode code 349 = .ok (.aload_n 0, 1) := dd_QuotaLawsLaw_law_348.2.1
theorem d_QuotaLawsLaw_law_350 : decode code 350 = .ok (.iload_n 3, 1) := dd_QuotaLawsLaw_law_348.2.2.1
theorem d_QuotaLawsLaw_law_351 : decode code 351 = .ok (.iconst 2, 1) := dd_QuotaLawsLaw_law_348.2.2.2.1
theorem d_QuotaLawsLaw_law_352 : decode code 352 = .ok (.iadd, 1) := dd_QuotaLawsLaw_law_348.2.2.2.2.1
theorem d_QuotaLawsLaw_law_353 : decode code 353 = .ok (.iaload, 1) := dd_QuotaLawsLaw_law_348.2.2.2.2.2.1
theorem d_QuotaLawsLaw_law_354 : decode code 354 = .ok (.invokevirtual 43, 3) := dd_QuotaLawsLaw_law_348.2.2.2.2.2.2.1
theorem d_QuotaLawsLaw_law_357 : decode code 357 = .ok (.pop, 1) := dd_QuotaLawsLaw_law_348.2.2.2.2.2.2.2.1
theorem d_QuotaLawsLaw_law_358 : decode code 358 = .ok (.goto 984, 3) := dd_QuotaLawsLaw_law_348.2.2.2.2.2.2.2.2.1
theorem d_QuotaLawsLaw_law_361 : decode code 361 = .ok (.aload_n 1, 1) := dd_QuotaLawsLaw_law_348.2.2.2.2.2.2.2.2.2.1
theorem d_QuotaLawsLaw_law_362 : decode code 362 = .ok (.aload_n 0, 1) := dd_QuotaLawsLaw_law_348.2.2.2.2.2.2.2.2.2.2.1
theorem d_QuotaLawsLaw_law_363 : decode code 363 = .ok (.iload_n 3, 1) := dd_QuotaLawsLaw_law_348.2.2.2.2.2.2.2.2.2.2.2
theorem dd_QuotaLawsLaw_law_364 : (decode code 364 = .ok (.iconst 1, 1)) ∧ (decode code 365 = .ok (.iadd, 1)) ∧ (decode code 366 = .ok (.iaload, 1)) ∧ (decode code 367 = .ok (.aload_n 0, 1)) ∧ (decode code 368 = .ok (.iload_n 3, 1)) ∧ (decode code 369 = .ok (.iconst 2, 1)) ∧ (decode code 370 = .ok (.iadd, 1)) ∧ (decode code 371 = .ok (.iaload, 1)) ∧ (decode code 372 = .ok (.invokevirtual 44, 3)) ∧ (decode code 375 = .ok (.pop, 1)) ∧ (decode code 376 = .ok (.aload_n 2, 1)) ∧ (decode code 377 = .ok (.aload_n 0, 1)) := by decide +kernel
theorem d_QuotaLawsLaw_law_364 : decode code 364 = .ok (.iconst 1, 1) := dd_QuotaLawsLaw_law_364.1
theorem d_QuotaLawsLaw_law_365 : decode code 365 = .ok (.iadd, 1) := dd_QuotaLawsLaw_law_364.2.1
theorem d_QuotaLawsLaw_law_366 : decode code 366 = .ok (.iaload, 1) := dd_QuotaLawsLaw_law_364.2.2.1
theorem d_QuotaLawsLaw_law_367 : decode code 367 = .ok (.aload_n 0, 1) := dd_QuotaLawsLaw_law_364.2.2.2.1
theorem d_QuotaLawsLaw_law_368 : decode code 368 = .ok (.iload_n 3, 1) := dd_QuotaLawsLaw_law_364.2.2.2.2.1
theorem d_QuotaLawsLaw_law_369 : decode code 369 = .ok (.iconst 2, 1) := dd_QuotaLawsLaw_law_364.2.2.2.2.2.1
theorem d_QuotaLawsLaw_law_370 : decode code 370 = .ok (.iadd, 1) := dd_QuotaLawsLaw_law_364.2.2.2.2.2.2.1
theorem d_QuotaLawsLaw_law_371 : decode code 371 = .ok (.iaload, 1) := dd_QuotaLawsLaw_law_364.2.2.2.2.2.2.2.1
theorem d_QuotaLawsLaw_law_372 : decode code 372 = .ok (.invokevirtual 44, 3) := dd_QuotaLawsLaw_law_364.2.2.2.2.2.2.2.2.1
theorem d_QuotaLawsLaw_law_375 : decode code 375 = .ok (.pop, 1) := dd_QuotaLawsLaw_law_364.2.2.2.2.2.2.2.2.2.1
theorem d_QuotaLawsLaw_law_376 : decode code 376 = .ok (.aload_n 2, 1) := dd_QuotaLawsLaw_law_364.2.2.2.2.2.2.2.2.2.2.1
theorem d_QuotaLawsLaw_law_377 : decode code 377 = .ok (.aload_n 0, 1) := dd_QuotaLawsLaw_law_364.2.2.2.2.2.2.2.2.2.2.2
theorem dd_QuotaLawsLaw_law_378 : (decode code 378 = .ok (.iload_n 3, 1)) ∧ (decode code 379 = .ok (.iconst 1, 1)) ∧ (decode code 380 = .ok (.iadd, 1)) ∧ (decode code 381 = .ok (.iaload, 1)) ∧ (decode code 382 = .ok (.aload_n 0, 1)) ∧ (decode code 383 = .ok (.iload_n 3, 1)) ∧ (decode code 384 = .ok (.iconst 2, 1)) ∧ (decode code 385 = .ok (.iadd, 1)) ∧ (decode code 386 = .ok (.iaload, 1)) ∧ (decode code 387 = .ok (.invokevirtual 47, 3)) ∧ (decode code 390 = .ok (.pop, 1)) ∧ (decode code 391 = .ok (.goto 951, 3)) := by decide +kernel
theorem d_QuotaLawsLaw_law_378 : decode code 378 = .ok (.iload_n 3, 1) := dd_QuotaLawsLaw_law_378.1
theorem d_QuotaLawsLaw_law_379 : decode code 379 = .ok (.iconst 1, 1) := dd_QuotaLawsLaw_law_378.2.1
theorem d_QuotaLawsLaw_law_380 : decode code 380 = .ok (.iadd, 1) := dd_QuotaLawsLaw_law_378.2.2.1
theorem d_QuotaLawsLaw_law_381 : decode code 381 = .ok (.iaload, 1) := dd_QuotaLawsLaw_law_378.2.2.2.1
theorem d_QuotaLawsLaw_law_382 : decode code 382 = .ok (.aload_n 0, 1) := dd_QuotaLawsLaw_law_378.2.2.2.2.1
theorem d_QuotaLawsLaw_law_383 : decode code 383 = .ok (.iload_n 3, 1) := dd_QuotaLawsLaw_law_378.2.2.2.2.2.1
theorem d_QuotaLawsLaw_law_384 : decode code 384 = .ok (.iconst 2, 1) := dd_QuotaLawsLaw_law_378.2.2.2.2.2.2.1
theorem d_QuotaLawsLaw_law_385 : decode code 385 = .ok (.iadd, 1) := dd_QuotaLawsLaw_law_378.2.2.2.2.2.2.2.1
theorem d_QuotaLawsLaw_law_386 : decode code 386 = .ok (.iaload, 1) := dd_QuotaLawsLaw_law_378.2.2.2.2.2.2.2.2.1
theorem d_QuotaLawsLaw_law_387 : decode code 387 = .ok (.invokevirtual 47, 3) := dd_QuotaLawsLaw_law_378.2.2.2.2.2.2.2.2.2.1
theorem d_QuotaLawsLaw_law_390 : decode code 390 = .ok (.pop, 1) := dd_QuotaLawsLaw_law_378.2.2.2.2.2.2.2.2.2.2.1
theorem d_QuotaLawsLaw_law_391 : decode code 391 = .ok (.goto 951, 3) := dd_QuotaLawsLaw_law_378.2.2.2.2.2.2.2.2.2.2.2
theorem dd_QuotaLawsLaw_law_394 : (decode code 394 = .ok (.aload_n 1, 1)) ∧ (decode code 395 = .ok (.aload_n 0, 1)) ∧ (decode code 396 = .ok (.iload_n 3, 1)) ∧ (decode code 397 = .ok (.iconst 1, 1)) ∧ (decode code 398 = .ok (.iadd, 1)) ∧ (decode code 399 = .ok (.iaload, 1)) ∧ (decode code 400 = .ok (.aload_n 0, 1)) ∧ (decode code 401 = .ok (.iload_n 3, 1)) ∧ (decode code 402 = .ok (.iconst 2, 1)) ∧ (decode code 403 = .ok (.iadd, 1)) ∧ (decode code 404 = .ok (.iaload, 1)) ∧ (decode code 405 = .ok (.invokevirtual 48, 3)) := by decide +kernel
theorem d_QuotaLawsLaw_law_394 : decode code 394 = .ok (.aload_n 1, 1) := dd_QuotaLawsLaw_law_394.1
theorem d_QuotaLawsLaw_law_395 : decode code 395 = .ok (.aload_n 0, 1) := dd_QuotaLawsLaw_law_394.2.1
theorem d_QuotaLawsLaw_law_396 : decode code 396 = .ok (.iload_n 3, 1) := dd_QuotaLawsLaw_law_394.2.2.1
theorem d_QuotaLawsLaw_law_397 : decode code 397 = .ok (.iconst 1, 1) := dd_QuotaLawsLaw_law_394.2.2.2.1
theorem d_QuotaLawsLaw_law_398 : decode code 398 = .ok (.iadd, 1) := dd_QuotaLawsLaw_law_394.2.2.2.2.1
theorem d_QuotaLawsLaw_law_399 : decode code 399 = .ok (.iaload, 1) := dd_QuotaLawsLaw_law_394.2.2.2.2.2.1
theorem d_QuotaLawsLaw_law_400 : decode code 400 = .ok (.aload_n 0, 1) := dd_QuotaLawsLaw_law_394.2.2.2.2.2.2.1
theorem d_QuotaLawsLaw_law_401 : decode code 401 = .ok (.iload_n 3, 1) := dd_QuotaLawsLaw_law_394.2.2.2.2.2.2.2.1
theorem d_QuotaLawsLaw_law_402 : decode code 402 = .ok (.iconst 2, 1) := dd_QuotaLawsLaw_law_394.2.2.2.2.2.2.2.2.1
theorem d_QuotaLawsLaw_law_403 : decode code 403 = .ok (.iadd, 1) := dd_QuotaLawsLaw_law_394.2.2.2.2.2.2.2.2.2.1
theorem d_QuotaLawsLaw_law_404 : decode code 404 = .ok (.iaload, 1) := dd_QuotaLawsLaw_law_394.2.2.2.2.2.2.2.2.2.2.1
theorem d_QuotaLawsLaw_law_405 : decode code 405 = .ok (.invokevirtual 48, 3) := dd_QuotaLawsLaw_law_394.2.2.2.2.2.2.2.2.2.2.2
theorem dd_QuotaLawsLaw_law_408 : (decode code 408 = .ok (.pop, 1)) ∧ (decode code 409 = .ok (.aload_n 2, 1)) ∧ (decode code 410 = .ok (.aload_n 0, 1)) ∧ (decode code 411 = .ok (.iload_n 3, 1)) ∧ (decode code 412 = .ok (.iconst 1, 1)) ∧ (decode code 413 = .ok (.iadd, 1)) ∧ (decode code 414 = .ok (.iaload, 1)) ∧ (decode code 415 = .ok (.aload_n 0, 1)) ∧ (decode code 416 = .ok (.iload_n 3, 1)) ∧ (decode code 417 = .ok (.iconst 2, 1)) ∧ (decode code 418 = .ok (.iadd, 1)) ∧ (decode code 419 = .ok (.iaload, 1)) := by decide +kernel
theorem d_QuotaLawsLaw_law_408 : decode code 408 = .ok (.pop, 1) := dd_QuotaLawsLaw_law_408.1
theorem d_QuotaLawsLaw_law_409 : decode code 409 = .ok (.aload_n 2, 1) := dd_QuotaLawsLaw_law_408.2.1
theorem d_QuotaLawsLaw_law_410 : decode code 410 = .ok (.aload_n 0, 1) := dd_QuotaLawsLaw_law_408.2.2.1
theorem d_QuotaLawsLaw_law_411 : decode code 411 = .ok (.iload_n 3, 1) := dd_QuotaLawsLaw_law_408.2.2.2.1
theorem d_QuotaLawsLaw_law_412 : decode code 412 = .ok (.iconst 1, 1) := dd_QuotaLawsLaw_law_408.2.2.2.2.1
theorem d_QuotaLawsLaw_law_413 : decode code 413 = .ok (.iadd, 1) := dd_QuotaLawsLaw_law_408.2.2.2.2.2.1
theorem d_QuotaLawsLaw_law_414 : decode code 414 = .ok (.iaload, 1) := dd_QuotaLawsLaw_law_408.2.2.2.2.2.2.1
theorem d_QuotaLawsLaw_law_415 : decode code 415 = .ok (.aload_n 0, 1) := dd_QuotaLawsLaw_law_408.2.2.2.2.2.2.2.1
theorem d_QuotaLawsLaw_law_416 : decode code 416 = .ok (.iload_n 3, 1) := dd_QuotaLawsLaw_law_408.2.2.2.2.2.2.2.2.1
theorem d_QuotaLawsLaw_law_417 : decode code 417 = .ok (.iconst 2, 1) := dd_QuotaLawsLaw_law_408.2.2.2.2.2.2.2.2.2.1
theorem d_QuotaLawsLaw_law_418 : decode code 418 = .ok (.iadd, 1) := dd_QuotaLawsLaw_law_408.2.2.2.2.2.2.2.2.2.2.1
theorem d_QuotaLawsLaw_law_419 : decode code 419 = .ok (.iaload, 1) := dd_QuotaLawsLaw_law_408.2.2.2.2.2.2.2.2.2.2.2
theorem dd_QuotaLawsLaw_law_420 : (decode code 420 = .ok (.invokevirtual 51, 3)) ∧ (decode code 423 = .ok (.pop, 1)) ∧ (decode code 424 = .ok (.goto 918, 3)) ∧ (decode code 427 = .ok (.aload_n 1, 1)) ∧ (decode code 428 = .ok (.aload_n 0, 1)) ∧ (decode code 429 = .ok (.iload_n 3, 1)) ∧ (decode code 430 = .ok (.iconst 1, 1)) ∧ (decode code 431 = .ok (.iadd, 1)) ∧ (decode code 432 = .ok (.iaload, 1)) ∧ (decode code 433 = .ok (.aload_n 0, 1)) ∧ (decode code 434 = .ok (.iload_n 3, 1)) ∧ (decode code 435 = .ok (.iconst 2, 1)) := by decide +kernel
theorem d_QuotaLawsLaw_law_420 : decode code 420 = .ok (.invokevirtual 51, 3) := dd_QuotaLawsLaw_law_420.1
theorem d_QuotaLawsLaw_law_423 : decode code 423 = .ok (.pop, 1) := dd_QuotaLawsLaw_law_420.2.1
theorem d_QuotaLawsLaw_law_424 : decode code 424 = .ok (.goto 918, 3) := dd_QuotaLawsLaw_law_420.2.2.1
theorem d_QuotaLawsLaw_law_427 : decode code 427 = .ok (.aload_n 1, 1) := dd_QuotaLawsLaw_law_420.2.2.2.1
theorem d_QuotaLawsLaw_law_428 : decode code 428 = .ok (.aload_n 0, 1) := dd_QuotaLawsLaw_law_420.2.2.2.2.1
theorem d_QuotaLawsLaw_law_429 : decode code 429 = .ok (.iload_n 3, 1) := dd_QuotaLawsLaw_law_420.2.2.2.2.2.1
theorem d_QuotaLawsLaw_law_430 : decode code 430 = .ok (.iconst 1, 1) := dd_QuotaLawsLaw_law_420.2.2.2.2.2.2.1
theorem d_QuotaLawsLaw_law_431 : decode code 431 = .ok (.iadd, 1) := dd_QuotaLawsLaw_law_420.2.2.2.2.2.2.2.1
theorem d_QuotaLawsLaw_law_432 : decode code 432 = .ok (.iaload, 1) := dd_QuotaLawsLaw_law_420.2.2.2.2.2.2.2.2.1
theorem d_QuotaLawsLaw_law_433 : decode code 433 = .ok (.aload_n 0, 1) := dd_QuotaLawsLaw_law_420.2.2.2.2.2.2.2.2.2.1
theorem d_QuotaLawsLaw_law_434 : decode code 434 = .ok (.iload_n 3, 1) := dd_QuotaLawsLaw_law_420.2.2.2.2.2.2.2.2.2.2.1
theorem d_QuotaLawsLaw_law_435 : decode code 435 = .ok (.iconst 2, 1) := dd_QuotaLawsLaw_law_420.2.2.2.2.2.2.2.2.2.2.2
theorem dd_QuotaLawsLaw_law_436 : (decode code 436 = .ok (.iadd, 1)) ∧ (decode code 437 = .ok (.iaload, 1)) ∧ (decode code 438 = .ok (.invokevirtual 52, 3)) ∧ (decode code 441 = .ok (.pop, 1)) ∧ (decode code 442 = .ok (.aload_n 2, 1)) ∧ (decode code 443 = .ok (.aload_n 0, 1)) ∧ (decode code 444 = .ok (.iload_n 3, 1)) ∧ (decode code 445 = .ok (.iconst 1, 1)) ∧ (decode code 446 = .ok (.iadd, 1)) ∧ (decode code 447 = .ok (.iaload, 1)) ∧ (decode code 448 = .ok (.aload_n 0, 1)) ∧ (decode code 449 = .ok (.iload_n 3, 1)) := by decide +kernel
theorem d_QuotaLawsLaw_law_436 : decode code 436 = .ok (.iadd, 1) := dd_QuotaLawsLaw_law_436.1
theorem d_QuotaLawsLaw_law_437 : decode code 437 = .ok (.iaload, 1) := dd_QuotaLawsLaw_law_436.2.1
theorem d_QuotaLawsLaw_law_438 : decode code 438 = .ok (.invokevirtual 52, 3) := dd_QuotaLawsLaw_law_436.2.2.1
theorem d_QuotaLawsLaw_law_441 : decode code 441 = .ok (.pop, 1) := dd_QuotaLawsLaw_law_436.2.2.2.1
theorem d_QuotaLawsLaw_law_442 : decode code 442 = .ok (.aload_n 2, 1) := dd_QuotaLawsLaw_law_436.2.2.2.2.1
theorem d_QuotaLawsLaw_law_443 : decode code 443 = .ok (.aload_n 0, 1) := dd_QuotaLawsLaw_law_436.2.2.2.2.2.1
theorem d_QuotaLawsLaw_law_444 : decode code 444 = .ok (.iload_n 3, 1) := dd_QuotaLawsLaw_law_436.2.2.2.2.2.2.1
theorem d_QuotaLawsLaw_law_445 : decode code 445 = .ok (.iconst 1, 1) := dd_QuotaLawsLaw_law_436.2.2.2.2.2.2.2.1
theorem d_QuotaLawsLaw_law_446 : decode code 446 = .ok (.iadd, 1) := dd_QuotaLawsLaw_law_436.2.2.2.2.2.2.2.2.1
theorem d_QuotaLawsLaw_law_447 : decode code 447 = .ok (.iaload, 1) := dd_QuotaLawsLaw_law_436.2.2.2.2.2.2.2.2.2.1
theorem d_QuotaLawsLaw_law_448 : decode code 448 = .ok (.aload_n 0, 1) := dd_QuotaLawsLaw_law_436.2.2.2.2.2.2.2.2.2.2.1
theorem d_QuotaLawsLaw_law_449 : decode code 449 = .ok (.iload_n 3, 1) := dd_QuotaLawsLaw_law_436.2.2.2.2.2.2.2.2.2.2.2
theorem dd_QuotaLawsLaw_law_450 : (decode code 450 = .ok (.iconst 2, 1)) ∧ (decode code 451 = .ok (.iadd, 1)) ∧ (decode code 452 = .ok (.iaload, 1)) ∧ (decode code 453 = .ok (.invokevirtual 55, 3)) ∧ (decode code 456 = .ok (.pop, 1)) ∧ (decode code 457 = .ok (.goto 885, 3)) ∧ (decode code 460 = .ok (.aload_n 1, 1)) ∧ (decode code 461 = .ok (.aload_n 0, 1)) ∧ (decode code 462 = .ok (.iload_n 3, 1)) ∧ (decode code 463 = .ok (.iconst 1, 1)) ∧ (decode code 464 = .ok (.iadd, 1)) ∧ (decode code 465 = .ok (.iaload, 1)) := by decide +kernel
theorem d_QuotaLawsLaw_law_450 : decode code 450 = .ok (.iconst 2, 1) := dd_QuotaLawsLaw_law_450.1
theorem d_QuotaLawsLaw_law_451 : decode code 451 = .ok (.iadd, 1) := dd_QuotaLawsLaw_law_450.2.1
theorem d_QuotaLawsLaw_law_452 : decode code 452 = .ok (.iaload, 1) := dd_QuotaLawsLaw_law_450.2.2.1
theorem d_QuotaLawsLaw_law_453 : decode code 453 = .ok (.invokevirtual 55, 3) := dd_QuotaLawsLaw_law_450.2.2.2.1
theorem d_QuotaLawsLaw_law_456 : decode code 456 = .ok (.pop, 1) := dd_QuotaLawsLaw_law_450.2.2.2.2.1
theorem d_QuotaLawsLaw_law_457 : decode code 457 = .ok (.goto 885, 3) := dd_QuotaLawsLaw_law_450.2.2.2.2.2.1
theorem d_QuotaLawsLaw_law_460 : decode code 460 = .ok (.aload_n 1, 1) := dd_QuotaLawsLaw_law_450.2.2.2.2.2.2.1
theorem d_QuotaLawsLaw_law_461 : decode code 461 = .ok (.aload_n 0, 1) := dd_QuotaLawsLaw_law_450.2.2.2.2.2.2.2.1
theorem d_QuotaLawsLaw_law_462 : decode code 462 = .ok (.iload_n 3, 1) := dd_QuotaLawsLaw_law_450.2.2.2.2.2.2.2.2.1
theorem d_QuotaLawsLaw_law_463 : decode code 463 = .ok (.iconst 1, 1) := dd_QuotaLawsLaw_law_450.2.2.2.2.2.2.2.2.2.1
theorem d_QuotaLawsLaw_law_464 : decode code 464 = .ok (.iadd, 1) := dd_QuotaLawsLaw_law_450.2.2.2.2.2.2.2.2.2.2.1
theorem d_QuotaLawsLaw_law_465 : decode code 465 = .ok (.iaload, 1) := dd_QuotaLawsLaw_law_450.2.2.2.2.2.2.2.2.2.2.2
theorem dd_QuotaLawsLaw_law_466 : (decode code 466 = .ok (.aload_n 0, 1)) ∧ (decode code 467 = .ok (.iload_n 3, 1)) ∧ (decode code 468 = .ok (.iconst 2, 1)) ∧ (decode code 469 = .ok (.iadd, 1)) ∧ (decode code 470 = .ok (.iaload, 1)) ∧ (decode code 471 = .ok (.ifCond .eq 7, 3)) ∧ (decode code 474 = .ok (.iconst 1, 1)) ∧ (decode code 475 = .ok (.goto 4, 3)) ∧ (decode code 478 = .ok (.iconst 0, 1)) ∧ (decode code 479 = .ok (.invokevirtual 56, 3)) ∧ (decode code 482 = .ok (.aload_n 2, 1)) ∧ (decode code 483 = .ok (.aload_n 0, 1)) := by decide +kernel
theorem d_QuotaLawsLaw_law_466 : decode code 466 = .ok (.aload_n 0, 1) := dd_QuotaLawsLaw_law_466.1
theorem d_QuotaLawsLaw_law_467 : decode code 467 = .ok (.iload_n 3, 1) := dd_QuotaLawsLaw_law_466.2.1
theorem d_QuotaLawsLaw_law_468 : decode code 468 = .ok (.iconst 2, 1) := dd_QuotaLawsLaw_law_466.2.2.1
theorem d_QuotaLawsLaw_law_469 : decode code 469 = .ok (.iadd, 1) := dd_QuotaLawsLaw_law_466.2.2.2.1
theorem d_QuotaLawsLaw_law_470 : decode code 470 = .ok (.iaload, 1) := dd_QuotaLawsLaw_law_466.2.2.2.2.1
theorem d_QuotaLawsLaw_law_471 : decode code 471 = .ok (.ifCond .eq 7, 3) := dd_QuotaLawsLaw_law_466.2.2.2.2.2.1
theorem d_QuotaLawsLaw_law_474 : decode code 474 = .ok (.iconst 1, 1) := dd_QuotaLawsLaw_law_466.2.2.2.2.2.2.1
theorem d_QuotaLawsLaw_law_475 : decode code 475 = .ok (.goto 4, 3) := dd_QuotaLawsLaw_law_466.2.2.2.2.2.2.2.1
theorem d_QuotaLawsLaw_law_478 : decode code 478 = .ok (.iconst 0, 1) := dd_QuotaLawsLaw_law_466.2.2.2.2.2.2.2.2.1
theorem d_QuotaLawsLaw_law_479 : decode code 479 = .ok (.invokevirtual 56, 3) := dd_QuotaLawsLaw_law_466.2.2.2.2.2.2.2.2.2.1
theorem d_QuotaLawsLaw_law_482 : decode code 482 = .ok (.aload_n 2, 1) := dd_QuotaLawsLaw_law_466.2.2.2.2.2.2.2.2.2.2.1
theorem d_QuotaLawsLaw_law_483 : decode code 483 = .ok (.aload_n 0, 1) := dd_QuotaLawsLaw_law_466.2.2.2.2.2.2.2.2.2.2.2
theorem dd_QuotaLawsLaw_law_484 : (decode code 484 = .ok (.iload_n 3, 1)) ∧ (decode code 485 = .ok (.iconst 1, 1)) ∧ (decode code 486 = .ok (.iadd, 1)) ∧ (decode code 487 = .ok (.iaload, 1)) ∧ (decode code 488 = .ok (.aload_n 0, 1)) ∧ (decode code 489 = .ok (.iload_n 3, 1)) ∧ (decode code 490 = .ok (.iconst 2, 1)) ∧ (decode code 491 = .ok (.iadd, 1)) ∧ (decode code 492 = .ok (.iaload, 1)) ∧ (decode code 493 = .ok (.ifCond .eq 7, 3)) ∧ (decode code 496 = .ok (.iconst 1, 1)) ∧ (decode code 497 = .ok (.goto 4, 3)) := by decide +kernel
theorem d_QuotaLawsLaw_law_484 : decode code 484 = .ok (.iload_n 3, 1) := dd_QuotaLawsLaw_law_484.1
theorem d_QuotaLawsLaw_law_485 : decode code 485 = .ok (.iconst 1, 1) := dd_QuotaLawsLaw_law_484.2.1
theorem d_QuotaLawsLaw_law_486 : decode code 486 = .ok (.iadd, 1) := dd_QuotaLawsLaw_law_484.2.2.1
theorem d_QuotaLawsLaw_law_487 : decode code 487 = .ok (.iaload, 1) := dd_QuotaLawsLaw_law_484.2.2.2.1
theorem d_QuotaLawsLaw_law_488 : decode code 488 = .ok (.aload_n 0, 1) := dd_QuotaLawsLaw_law_484.2.2.2.2.1
theorem d_QuotaLawsLaw_law_489 : decode code 489 = .ok (.iload_n 3, 1) := dd_QuotaLawsLaw_law_484.2.2.2.2.2.1
theorem d_QuotaLawsLaw_law_490 : decode code 490 = .ok (.iconst 2, 1) := dd_QuotaLawsLaw_law_484.2.2.2.2.2.2.1
theorem d_QuotaLawsLaw_law_491 : decode code 491 = .ok (.iadd, 1) := dd_QuotaLawsLaw_law_484.2.2.2.2.2.2.2.1
theorem d_QuotaLawsLaw_law_492 : decode code 492 = .ok (.iaload, 1) := dd_QuotaLawsLaw_law_484.2.2.2.2.2.2.2.2.1
theorem d_QuotaLawsLaw_law_493 : decode code 493 = .ok (.ifCond .eq 7, 3) := dd_QuotaLawsLaw_law_484.2.2.2.2.2.2.2.2.2.1
theorem d_QuotaLawsLaw_law_496 : decode code 496 = .ok (.iconst 1, 1) := dd_QuotaLawsLaw_law_484.2.2.2.2.2.2.2.2.2.2.1
theorem d_QuotaLawsLaw_law_497 : decode code 497 = .ok (.goto 4, 3) := dd_QuotaLawsLaw_law_484.2.2.2.2.2.2.2.2.2.2.2
theorem dd_QuotaLawsLaw_law_500 : (decode code 500 = .ok (.iconst 0, 1)) ∧ (decode code 501 = .ok (.invokevirtual 60, 3)) ∧ (decode code 504 = .ok (.if_icmp .eq 838, 3)) ∧ (decode code 507 = .ok (.iconst 0, 1)) ∧ (decode code 508 = .ok (.ireturn, 1)) ∧ (decode code 509 = .ok (.aload_n 1, 1)) ∧ (decode code 510 = .ok (.aload_n 0, 1)) ∧ (decode code 511 = .ok (.iload_n 3, 1)) ∧ (decode code 512 = .ok (.iconst 1, 1)) ∧ (decode code 513 = .ok (.iadd, 1)) ∧ (decode code 514 = .ok (.iaload, 1)) ∧ (decode code 515 = .ok (.aload_n 0, 1)) := by decide +kernel
theorem d_QuotaLawsLaw_law_500 : decode code 500 = .ok (.iconst 0, 1) := dd_QuotaLawsLaw_law_500.1
theorem d_QuotaLawsLaw_law_501 : decode code 501 = .ok (.invokevirtual 60, 3) := dd_QuotaLawsLaw_law_500.2.1
theorem d_QuotaLawsLaw_law_504 : decode code 504 = .ok (.if_icmp .eq 838, 3) := dd_QuotaLawsLaw_law_500.2.2.1
theorem d_QuotaLawsLaw_law_507 : decode code 507 = .ok (.iconst 0, 1) := dd_QuotaLawsLaw_law_500.2.2.2.1
theorem d_QuotaLawsLaw_law_508 : decode code 508 = .ok (.ireturn, 1) := dd_QuotaLawsLaw_law_500.2.2.2.2.1
theorem d_QuotaLawsLaw_law_509 : decode code 509 = .ok (.aload_n 1, 1) := dd_QuotaLawsLaw_law_500.2.2.2.2.2.1
theorem d_QuotaLawsLaw_law_510 : decode code 510 = .ok (.aload_n 0, 1) := dd_QuotaLawsLaw_law_500.2.2.2.2.2.2.1
theorem d_QuotaLawsLaw_law_511 : decode code 511 = .ok (.iload_n 3, 1) := dd_QuotaLawsLaw_law_500.2.2.2.2.2.2.2.1
theorem d_QuotaLawsLaw_law_512 : decode code 512 = .ok (.iconst 1, 1) := dd_QuotaLawsLaw_law_500.2.2.2.2.2.2.2.2.1
theorem d_QuotaLawsLaw_law_513 : decode code 513 = .ok (.iadd, 1) := dd_QuotaLawsLaw_law_500.2.2.2.2.2.2.2.2.2.1
theorem d_QuotaLawsLaw_law_514 : decode code 514 = .ok (.iaload, 1) := dd_QuotaLawsLaw_law_500.2.2.2.2.2.2.2.2.2.2.1
theorem d_QuotaLawsLaw_law_515 : decode code 515 = .ok (.aload_n 0, 1) := dd_QuotaLawsLaw_law_500.2.2.2.2.2.2.2.2.2.2.2
theorem dd_QuotaLawsLaw_law_516 : (decode code 516 = .ok (.iload_n 3, 1)) ∧ (decode code 517 = .ok (.iconst 2, 1)) ∧ (decode code 518 = .ok (.iadd, 1)) ∧ (decode code 519 = .ok (.iaload, 1)) ∧ (decode code 520 = .ok (.invokevirtual 61, 3)) ∧ (decode code 523 = .ok (.pop, 1)) ∧ (decode code 524 = .ok (.aload_n 2, 1)) ∧ (decode code 525 = .ok (.aload_n 0, 1)) ∧ (decode code 526 = .ok (.iload_n 3, 1)) ∧ (decode code 527 = .ok (.iconst 1, 1)) ∧ (decode code 528 = .ok (.iadd, 1)) ∧ (decode code 529 = .ok (.iaload, 1)) := by decide +kernel
theorem d_QuotaLawsLaw_law_516 : decode code 516 = .ok (.iload_n 3, 1) := dd_QuotaLawsLaw_law_516.1
theorem d_QuotaLawsLaw_law_517 : decode code 517 = .ok (.iconst 2, 1) := dd_QuotaLawsLaw_law_516.2.1
theorem d_QuotaLawsLaw_law_518 : decode code 518 = .ok (.iadd, 1) := dd_QuotaLawsLaw_law_516.2.2.1
theorem d_QuotaLawsLaw_law_519 : decode code 519 = .ok (.iaload, 1) := dd_QuotaLawsLaw_law_516.2.2.2.1
theorem d_QuotaLawsLaw_law_520 : decode code 520 = .ok (.invokevirtual 61, 3) := dd_QuotaLawsLaw_law_516.2.2.2.2.1
theorem d_QuotaLawsLaw_law_523 : decode code 523 = .ok (.pop, 1) := dd_QuotaLawsLaw_law_516.2.2.2.2.2.1
theorem d_QuotaLawsLaw_law_524 : decode code 524 = .ok (.aload_n 2, 1) := dd_QuotaLawsLaw_law_516.2.2.2.2.2.2.1
theorem d_QuotaLawsLaw_law_525 : decode code 525 = .ok (.aload_n 0, 1) := dd_QuotaLawsLaw_law_516.2.2.2.2.2.2.2.1
theorem d_QuotaLawsLaw_law_526 : decode code 526 = .ok (.iload_n 3, 1) := dd_QuotaLawsLaw_law_516.2.2.2.2.2.2.2.2.1
theorem d_QuotaLawsLaw_law_527 : decode code 527 = .ok (.iconst 1, 1) := dd_QuotaLawsLaw_law_516.2.2.2.2.2.2.2.2.2.1
theorem d_QuotaLawsLaw_law_528 : decode code 528 = .ok (.iadd, 1) := dd_QuotaLawsLaw_law_516.2.2.2.2.2.2.2.2.2.2.1
theorem d_QuotaLawsLaw_law_529 : decode code 529 = .ok (.iaload, 1) := dd_QuotaLawsLaw_law_516.2.2.2.2.2.2.2.2.2.2.2
theorem dd_QuotaLawsLaw_law_530 : (decode code 530 = .ok (.aload_n 0, 1)) ∧ (decode code 531 = .ok (.iload_n 3, 1)) ∧ (decode code 532 = .ok (.iconst 2, 1)) ∧ (decode code 533 = .ok (.iadd, 1)) ∧ (decode code 534 = .ok (.iaload, 1)) ∧ (decode code 535 = .ok (.invokevirtual 64, 3)) ∧ (decode code 538 = .ok (.pop, 1)) ∧ (decode code 539 = .ok (.goto 803, 3)) ∧ (decode code 542 = .ok (.aload_n 1, 1)) ∧ (decode code 543 = .ok (.aload_n 0, 1)) ∧ (decode code 544 = .ok (.iload_n 3, 1)) ∧ (decode code 545 = .ok (.iconst 1, 1)) := by decide +kernel
theorem d_QuotaLawsLaw_law_530 : decode code 530 = .ok (.aload_n 0, 1) := dd_QuotaLawsLaw_law_530.1
theorem d_QuotaLawsLaw_law_531 : decode code 531 = .ok (.iload_n 3, 1) := dd_QuotaLawsLaw_law_530.2.1
theorem d_QuotaLawsLaw_law_532 : decode code 532 = .ok (.iconst 2, 1) := dd_QuotaLawsLaw_law_530.2.2.1
theorem d_QuotaLawsLaw_law_533 : decode code 533 = .ok (.iadd, 1) := dd_QuotaLawsLaw_law_530.2.2.2.1
theorem d_QuotaLawsLaw_law_534 : decode code 534 = .ok (.iaload, 1) := dd_QuotaLawsLaw_law_530.2.2.2.2.1
theorem d_QuotaLawsLaw_law_535 : decode code 535 = .ok (.invokevirtual 64, 3) := dd_QuotaLawsLaw_law_530.2.2.2.2.2.1
theorem d_QuotaLawsLaw_law_538 : decode code 538 = .ok (.pop, 1) := dd_QuotaLawsLaw_law_530.2.2.2.2.2.2.1
theorem d_QuotaLawsLaw_law_539 : decode code 539 = .ok (.goto 803, 3) := dd_QuotaLawsLaw_law_530.2.2.2.2.2.2.2.1
theorem d_QuotaLawsLaw_law_542 : decode code 542 = .ok (.aload_n 1, 1) := dd_QuotaLawsLaw_law_530.2.2.2.2.2.2.2.2.1
theorem d_QuotaLawsLaw_law_543 : decode code 543 = .ok (.aload_n 0, 1) := dd_QuotaLawsLaw_law_530.2.2.2.2.2.2.2.2.2.1
theorem d_QuotaLawsLaw_law_544 : decode code 544 = .ok (.iload_n 3, 1) := dd_QuotaLawsLaw_law_530.2.2.2.2.2.2.2.2.2.2.1
theorem d_QuotaLawsLaw_law_545 : decode code 545 = .ok (.iconst 1, 1) := dd_QuotaLawsLaw_law_530.2.2.2.2.2.2.2.2.2.2.2
theorem dd_QuotaLawsLaw_law_546 : (decode code 546 = .ok (.iadd, 1)) ∧ (decode code 547 = .ok (.iaload, 1)) ∧ (decode code 548 = .ok (.aload_n 0, 1)) ∧ (decode code 549 = .ok (.iload_n 3, 1)) ∧ (decode code 550 = .ok (.iconst 2, 1)) ∧ (decode code 551 = .ok (.iadd, 1)) ∧ (decode code 552 = .ok (.iaload, 1)) ∧ (decode code 553 = .ok (.aload_n 0, 1)) ∧ (decode code 554 = .ok (.iload_n 3, 1)) ∧ (decode code 555 = .ok (.iconst 3, 1)) ∧ (decode code 556 = .ok (.iadd, 1)) ∧ (decode code 557 = .ok (.iaload, 1)) := by decide +kernel
theorem d_QuotaLawsLaw_law_546 : decode code 546 = .ok (.iadd, 1) := dd_QuotaLawsLaw_law_546.1
theorem d_QuotaLawsLaw_law_547 : decode code 547 = .ok (.iaload, 1) := dd_QuotaLawsLaw_law_546.2.1
theorem d_QuotaLawsLaw_law_548 : decode code 548 = .ok (.aload_n 0, 1) := dd_QuotaLawsLaw_law_546.2.2.1
theorem d_QuotaLawsLaw_law_549 : decode code 549 = .ok (.iload_n 3, 1) := dd_QuotaLawsLaw_law_546.2.2.2.1
theorem d_QuotaLawsLaw_law_550 : decode code 550 = .ok (.iconst 2, 1) := dd_QuotaLawsLaw_law_546.2.2.2.2.1
theorem d_QuotaLawsLaw_law_551 : decode code 551 = .ok (.iadd, 1) := dd_QuotaLawsLaw_law_546.2.2.2.2.2.1
theorem d_QuotaLawsLaw_law_552 : decode code 552 = .ok (.iaload, 1) := dd_QuotaLawsLaw_law_546.2.2.2.2.2.2.1
theorem d_QuotaLawsLaw_law_553 : decode code 553 = .ok (.aload_n 0, 1) := dd_QuotaLawsLaw_law_546.2.2.2.2.2.2.2.1
theorem d_QuotaLawsLaw_law_554 : decode code 554 = .ok (.iload_n 3, 1) := dd_QuotaLawsLaw_law_546.2.2.2.2.2.2.2.2.1
theorem d_QuotaLawsLaw_law_555 : decode code 555 = .ok (.iconst 3, 1) := dd_QuotaLawsLaw_law_546.2.2.2.2.2.2.2.2.2.1
theorem d_QuotaLawsLaw_law_556 : decode code 556 = .ok (.iadd, 1) := dd_QuotaLawsLaw_law_546.2.2.2.2.2.2.2.2.2.2.1
theorem d_QuotaLawsLaw_law_557 : decode code 557 = .ok (.iaload, 1) := dd_QuotaLawsLaw_law_546.2.2.2.2.2.2.2.2.2.2.2
theorem dd_QuotaLawsLaw_law_558 : (decode code 558 = .ok (.ifCond .eq 7, 3)) ∧ (decode code 561 = .ok (.iconst 1, 1)) ∧ (decode code 562 = .ok (.goto 4, 3)) ∧ (decode code 565 = .ok (.iconst 0, 1)) ∧ (decode code 566 = .ok (.invokevirtual 65, 3)) ∧ (decode code 569 = .ok (.pop, 1)) ∧ (decode code 570 = .ok (.aload_n 2, 1)) ∧ (decode code 571 = .ok (.aload_n 0, 1)) ∧ (decode code 572 = .ok (.iload_n 3, 1)) ∧ (decode code 573 = .ok (.iconst 1, 1)) ∧ (decode code 574 = .ok (.iadd, 1)) ∧ (decode code 575 = .ok (.iaload, 1)) := by decide +kernel
theorem d_QuotaLawsLaw_law_558 : decode code 558 = .ok (.ifCond .eq 7, 3) := dd_QuotaLawsLaw_law_558.1
theorem d_QuotaLawsLaw_law_561 : decode code 561 = .ok (.iconst 1, 1) := dd_QuotaLawsLaw_law_558.2.1
theorem d_QuotaLawsLaw_law_562 : decode code 562 = .ok (.goto 4, 3) := dd_QuotaLawsLaw_law_558.2.2.1
theorem d_QuotaLawsLaw_law_565 : decode code 565 = .ok (.iconst 0, 1) := dd_QuotaLawsLaw_law_558.2.2.2.1
theorem d_QuotaLawsLaw_law_566 : decode code 566 = .ok (.invokevirtual 65, 3) := dd_QuotaLawsLaw_law_558.2.2.2.2.1
theorem d_QuotaLawsLaw_law_569 : decode code 569 = .ok (.pop, 1) := dd_QuotaLawsLaw_law_558.2.2.2.2.2.1
theorem d_QuotaLawsLaw_law_570 : decode code 570 = .ok (.aload_n 2, 1) := dd_QuotaLawsLaw_law_558.2.2.2.2.2.2.1
theorem d_QuotaLawsLaw_law_571 : decode code 571 = .ok (.aload_n 0, 1) := dd_QuotaLawsLaw_law_558.2.2.2.2.2.2.2.1
theorem d_QuotaLawsLaw_law_572 : decode code 572 = .ok (.iload_n 3, 1) := dd_QuotaLawsLaw_law_558.2.2.2.2.2.2.2.2.1
theorem d_QuotaLawsLaw_law_573 : decode code 573 = .ok (.iconst 1, 1) := dd_QuotaLawsLaw_law_558.2.2.2.2.2.2.2.2.2.1
theorem d_QuotaLawsLaw_law_574 : decode code 574 = .ok (.iadd, 1) := dd_QuotaLawsLaw_law_558.2.2.2.2.2.2.2.2.2.2.1
theorem d_QuotaLawsLaw_law_575 : decode code 575 = .ok (.iaload, 1) := dd_QuotaLawsLaw_law_558.2.2.2.2.2.2.2.2.2.2.2
theorem dd_QuotaLawsLaw_law_576 : (decode code 576 = .ok (.aload_n 0, 1)) ∧ (decode code 577 = .ok (.iload_n 3, 1)) ∧ (decode code 578 = .ok (.iconst 2, 1)) ∧ (decode code 579 = .ok (.iadd, 1)) ∧ (decode code 580 = .ok (.iaload, 1)) ∧ (decode code 581 = .ok (.aload_n 0, 1)) ∧ (decode code 582 = .ok (.iload_n 3, 1)) ∧ (decode code 583 = .ok (.iconst 3, 1)) ∧ (decode code 584 = .ok (.iadd, 1)) ∧ (decode code 585 = .ok (.iaload, 1)) ∧ (decode code 586 = .ok (.ifCond .eq 7, 3)) ∧ (decode code 589 = .ok (.iconst 1, 1)) := by decide +kernel
theorem d_QuotaLawsLaw_law_576 : decode code 576 = .ok (.aload_n 0, 1) := dd_QuotaLawsLaw_law_576.1
theorem d_QuotaLawsLaw_law_577 : decode code 577 = .ok (.iload_n 3, 1) := dd_QuotaLawsLaw_law_576.2.1
theorem d_QuotaLawsLaw_law_578 : decode code 578 = .ok (.iconst 2, 1) := dd_QuotaLawsLaw_law_576.2.2.1
theorem d_QuotaLawsLaw_law_579 : decode code 579 = .ok (.iadd, 1) := dd_QuotaLawsLaw_law_576.2.2.2.1
theorem d_QuotaLawsLaw_law_580 : decode code 580 = .ok (.iaload, 1) := dd_QuotaLawsLaw_law_576.2.2.2.2.1
theorem d_QuotaLawsLaw_law_581 : decode code 581 = .ok (.aload_n 0, 1) := dd_QuotaLawsLaw_law_576.2.2.2.2.2.1
theorem d_QuotaLawsLaw_law_582 : decode code 582 = .ok (.iload_n 3, 1) := dd_QuotaLawsLaw_law_576.2.2.2.2.2.2.1
theorem d_QuotaLawsLaw_law_583 : decode code 583 = .ok (.iconst 3, 1) := dd_QuotaLawsLaw_law_576.2.2.2.2.2.2.2.1
theorem d_QuotaLawsLaw_law_584 : decode code 584 = .ok (.iadd, 1) := dd_QuotaLawsLaw_law_576.2.2.2.2.2.2.2.2.1
theorem d_QuotaLawsLaw_law_585 : decode code 585 = .ok (.iaload, 1) := dd_QuotaLawsLaw_law_576.2.2.2.2.2.2.2.2.2.1
theorem d_QuotaLawsLaw_law_586 : decode code 586 = .ok (.ifCond .eq 7, 3) := dd_QuotaLawsLaw_law_576.2.2.2.2.2.2.2.2.2.2.1
theorem d_QuotaLawsLaw_law_589 : decode code 589 = .ok (.iconst 1, 1) := dd_QuotaLawsLaw_law_576.2.2.2.2.2.2.2.2.2.2.2
theorem dd_QuotaLawsLaw_law_590 : (decode code 590 = .ok (.goto 4, 3)) ∧ (decode code 593 = .ok (.iconst 0, 1)) ∧ (decode code 594 = .ok (.invokevirtual 69, 3)) ∧ (decode code 597 = .ok (.pop, 1)) ∧ (decode code 598 = .ok (.goto 744, 3)) ∧ (decode code 601 = .ok (.aload_n 1, 1)) ∧ (decode code 602 = .ok (.aload_n 0, 1)) ∧ (decode code 603 = .ok (.iload_n 3, 1)) ∧ (decode code 604 = .ok (.iconst 1, 1)) ∧ (decode code 605 = .ok (.iadd, 1)) ∧ (decode code 606 = .ok (.iaload, 1)) ∧ (decode code 607 = .ok (.aload_n 0, 1)) := by decide +kernel
theorem d_QuotaLawsLaw_law_590 : decode code 590 = .ok (.goto 4, 3) := dd_QuotaLawsLaw_law_590.1
theorem d_QuotaLawsLaw_law_593 : decode code 593 = .ok (.iconst 0, 1) := dd_QuotaLawsLaw_law_590.2.1
theorem d_QuotaLawsLaw_law_594 : decode code 594 = .ok (.invokevirtual 69, 3) := dd_QuotaLawsLaw_law_590.2.2.1
theorem d_QuotaLawsLaw_law_597 : decode code 597 = .ok (.pop, 1) := dd_QuotaLawsLaw_law_590.2.2.2.1
theorem d_QuotaLawsLaw_law_598 : decode code 598 = .ok (.goto 744, 3) := dd_QuotaLawsLaw_law_590.2.2.2.2.1
theorem d_QuotaLawsLaw_law_601 : decode code 601 = .ok (.aload_n 1, 1) := dd_QuotaLawsLaw_law_590.2.2.2.2.2.1
theorem d_QuotaLawsLaw_law_602 : decode code 602 = .ok (.aload_n 0, 1) := dd_QuotaLawsLaw_law_590.2.2.2.2.2.2.1
theorem d_QuotaLawsLaw_law_603 : decode code 603 = .ok (.iload_n 3, 1) := dd_QuotaLawsLaw_law_590.2.2.2.2.2.2.2.1
theorem d_QuotaLawsLaw_law_604 : decode code 604 = .ok (.iconst 1, 1) := dd_QuotaLawsLaw_law_590.2.2.2.2.2.2.2.2.1
theorem d_QuotaLawsLaw_law_605 : decode code 605 = .ok (.iadd, 1) := dd_QuotaLawsLaw_law_590.2.2.2.2.2.2.2.2.2.1
theorem d_QuotaLawsLaw_law_606 : decode code 606 = .ok (.iaload, 1) := dd_QuotaLawsLaw_law_590.2.2.2.2.2.2.2.2.2.2.1
theorem d_QuotaLawsLaw_law_607 : decode code 607 = .ok (.aload_n 0, 1) := dd_QuotaLawsLaw_law_590.2.2.2.2.2.2.2.2.2.2.2
theorem dd_QuotaLawsLaw_law_608 : (decode code 608 = .ok (.iload_n 3, 1)) ∧ (decode code 609 = .ok (.iconst 2, 1)) ∧ (decode code 610 = .ok (.iadd, 1)) ∧ (decode code 611 = .ok (.iaload, 1)) ∧ (decode code 612 = .ok (.aload_n 0, 1)) ∧ (decode code 613 = .ok (.iload_n 3, 1)) ∧ (decode code 614 = .ok (.iconst 3, 1)) ∧ (decode code 615 = .ok (.iadd, 1)) ∧ (decode code 616 = .ok (.iaload, 1)) ∧ (decode code 617 = .ok (.ifCond .eq 7, 3)) ∧ (decode code 620 = .ok (.iconst 1, 1)) ∧ (decode code 621 = .ok (.goto 4, 3)) := by decide +kernel
theorem d_QuotaLawsLaw_law_608 : decode code 608 = .ok (.iload_n 3, 1) := dd_QuotaLawsLaw_law_608.1
theorem d_QuotaLawsLaw_law_609 : decode code 609 = .ok (.iconst 2, 1) := dd_QuotaLawsLaw_law_608.2.1
theorem d_QuotaLawsLaw_law_610 : decode code 610 = .ok (.iadd, 1) := dd_QuotaLawsLaw_law_608.2.2.1
theorem d_QuotaLawsLaw_law_611 : decode code 611 = .ok (.iaload, 1) := dd_QuotaLawsLaw_law_608.2.2.2.1
theorem d_QuotaLawsLaw_law_612 : decode code 612 = .ok (.aload_n 0, 1) := dd_QuotaLawsLaw_law_608.2.2.2.2.1
theorem d_QuotaLawsLaw_law_613 : decode code 613 = .ok (.iload_n 3, 1) := dd_QuotaLawsLaw_law_608.2.2.2.2.2.1
theorem d_QuotaLawsLaw_law_614 : decode code 614 = .ok (.iconst 3, 1) := dd_QuotaLawsLaw_law_608.2.2.2.2.2.2.1
theorem d_QuotaLawsLaw_law_615 : decode code 615 = .ok (.iadd, 1) := dd_QuotaLawsLaw_law_608.2.2.2.2.2.2.2.1
theorem d_QuotaLawsLaw_law_616 : decode code 616 = .ok (.iaload, 1) := dd_QuotaLawsLaw_law_608.2.2.2.2.2.2.2.2.1
theorem d_QuotaLawsLaw_law_617 : decode code 617 = .ok (.ifCond .eq 7, 3) := dd_QuotaLawsLaw_law_608.2.2.2.2.2.2.2.2.2.1
theorem d_QuotaLawsLaw_law_620 : decode code 620 = .ok (.iconst 1, 1) := dd_QuotaLawsLaw_law_608.2.2.2.2.2.2.2.2.2.2.1
theorem d_QuotaLawsLaw_law_621 : decode code 621 = .ok (.goto 4, 3) := dd_QuotaLawsLaw_law_608.2.2.2.2.2.2.2.2.2.2.2
theorem dd_QuotaLawsLaw_law_624 : (decode code 624 = .ok (.iconst 0, 1)) ∧ (decode code 625 = .ok (.invokevirtual 70, 3)) ∧ (decode code 628 = .ok (.pop, 1)) ∧ (decode code 629 = .ok (.aload_n 2, 1)) ∧ (decode code 630 = .ok (.aload_n 0, 1)) ∧ (decode code 631 = .ok (.iload_n 3, 1)) ∧ (decode code 632 = .ok (.iconst 1, 1)) ∧ (decode code 633 = .ok (.iadd, 1)) ∧ (decode code 634 = .ok (.iaload, 1)) ∧ (decode code 635 = .ok (.aload_n 0, 1)) ∧ (decode code 636 = .ok (.iload_n 3, 1)) ∧ (decode code 637 = .ok (.iconst 2, 1)) := by decide +kernel
theorem d_QuotaLawsLaw_law_624 : decode code 624 = .ok (.iconst 0, 1) := dd_QuotaLawsLaw_law_624.1
theorem d_QuotaLawsLaw_law_625 : decode code 625 = .ok (.invokevirtual 70, 3) := dd_QuotaLawsLaw_law_624.2.1
theorem d_QuotaLawsLaw_law_628 : decode code 628 = .ok (.pop, 1) := dd_QuotaLawsLaw_law_624.2.2.1
theorem d_QuotaLawsLaw_law_629 : decode code 629 = .ok (.aload_n 2, 1) := dd_QuotaLawsLaw_law_624.2.2.2.1
theorem d_QuotaLawsLaw_law_630 : decode code 630 = .ok (.aload_n 0, 1) := dd_QuotaLawsLaw_law_624.2.2.2.2.1
theorem d_QuotaLawsLaw_law_631 : decode code 631 = .ok (.iload_n 3, 1) := dd_QuotaLawsLaw_law_624.2.2.2.2.2.1
theorem d_QuotaLawsLaw_law_632 : decode code 632 = .ok (.iconst 1, 1) := dd_QuotaLawsLaw_law_624.2.2.2.2.2.2.1
theorem d_QuotaLawsLaw_law_633 : decode code 633 = .ok (.iadd, 1) := dd_QuotaLawsLaw_law_624.2.2.2.2.2.2.2.1
theorem d_QuotaLawsLaw_law_634 : decode code 634 = .ok (.iaload, 1) := dd_QuotaLawsLaw_law_624.2.2.2.2.2.2.2.2.1
theorem d_QuotaLawsLaw_law_635 : decode code 635 = .ok (.aload_n 0, 1) := dd_QuotaLawsLaw_law_624.2.2.2.2.2.2.2.2.2.1
theorem d_QuotaLawsLaw_law_636 : decode code 636 = .ok (.iload_n 3, 1) := dd_QuotaLawsLaw_law_624.2.2.2.2.2.2.2.2.2.2.1
theorem d_QuotaLawsLaw_law_637 : decode code 637 = .ok (.iconst 2, 1) := dd_QuotaLawsLaw_law_624.2.2.2.2.2.2.2.2.2.2.2
theorem dd_QuotaLawsLaw_law_638 : (decode code 638 = .ok (.iadd, 1)) ∧ (decode code 639 = .ok (.iaload, 1)) ∧ (decode code 640 = .ok (.aload_n 0, 1)) ∧ (decode code 641 = .ok (.iload_n 3, 1)) ∧ (decode code 642 = .ok (.iconst 3, 1)) ∧ (decode code 643 = .ok (.iadd, 1)) ∧ (decode code 644 = .ok (.iaload, 1)) ∧ (decode code 645 = .ok (.ifCond .eq 7, 3)) ∧ (decode code 648 = .ok (.iconst 1, 1)) ∧ (decode code 649 = .ok (.goto 4, 3)) ∧ (decode code 652 = .ok (.iconst 0, 1)) ∧ (decode code 653 = .ok (.invokevirtual 73, 3)) := by decide +kernel
theorem d_QuotaLawsLaw_law_638 : decode code 638 = .ok (.iadd, 1) := dd_QuotaLawsLaw_law_638.1
theorem d_QuotaLawsLaw_law_639 : decode code 639 = .ok (.iaload, 1) := dd_QuotaLawsLaw_law_638.2.1
theorem d_QuotaLawsLaw_law_640 : decode code 640 = .ok (.aload_n 0, 1) := dd_QuotaLawsLaw_law_638.2.2.1
theorem d_QuotaLawsLaw_law_641 : decode code 641 = .ok (.iload_n 3, 1) := dd_QuotaLawsLaw_law_638.2.2.2.1
theorem d_QuotaLawsLaw_law_642 : decode code 642 = .ok (.iconst 3, 1) := dd_QuotaLawsLaw_law_638.2.2.2.2.1
theorem d_QuotaLawsLaw_law_643 : decode code 643 = .ok (.iadd, 1) := dd_QuotaLawsLaw_law_638.2.2.2.2.2.1
theorem d_QuotaLawsLaw_law_644 : decode code 644 = .ok (.iaload, 1) := dd_QuotaLawsLaw_law_638.2.2.2.2.2.2.1
theorem d_QuotaLawsLaw_law_645 : decode code 645 = .ok (.ifCond .eq 7, 3) := dd_QuotaLawsLaw_law_638.2.2.2.2.2.2.2.1
theorem d_QuotaLawsLaw_law_648 : decode code 648 = .ok (.iconst 1, 1) := dd_QuotaLawsLaw_law_638.2.2.2.2.2.2.2.2.1
theorem d_QuotaLawsLaw_law_649 : decode code 649 = .ok (.goto 4, 3) := dd_QuotaLawsLaw_law_638.2.2.2.2.2.2.2.2.2.1
theorem d_QuotaLawsLaw_law_652 : decode code 652 = .ok (.iconst 0, 1) := dd_QuotaLawsLaw_law_638.2.2.2.2.2.2.2.2.2.2.1
theorem d_QuotaLawsLaw_law_653 : decode code 653 = .ok (.invokevirtual 73, 3) := dd_QuotaLawsLaw_law_638.2.2.2.2.2.2.2.2.2.2.2
theorem dd_QuotaLawsLaw_law_656 : (decode code 656 = .ok (.pop, 1)) ∧ (decode code 657 = .ok (.goto 685, 3)) ∧ (decode code 660 = .ok (.aload_n 1, 1)) ∧ (decode code 661 = .ok (.aload_n 0, 1)) ∧ (decode code 662 = .ok (.iload_n 3, 1)) ∧ (decode code 663 = .ok (.iconst 1, 1)) ∧ (decode code 664 = .ok (.iadd, 1)) ∧ (decode code 665 = .ok (.iaload, 1)) ∧ (decode code 666 = .ok (.aload_n 0, 1)) ∧ (decode code 667 = .ok (.iload_n 3, 1)) ∧ (decode code 668 = .ok (.iconst 2, 1)) ∧ (decode code 669 = .ok (.iadd, 1)) := by decide +kernel
theorem d_QuotaLawsLaw_law_656 : decode code 656 = .ok (.pop, 1) := dd_QuotaLawsLaw_law_656.1
theorem d_QuotaLawsLaw_law_657 : decode code 657 = .ok (.goto 685, 3) := dd_QuotaLawsLaw_law_656.2.1
theorem d_QuotaLawsLaw_law_660 : decode code 660 = .ok (.aload_n 1, 1) := dd_QuotaLawsLaw_law_656.2.2.1
theorem d_QuotaLawsLaw_law_661 : decode code 661 = .ok (.aload_n 0, 1) := dd_QuotaLawsLaw_law_656.2.2.2.1
theorem d_QuotaLawsLaw_law_662 : decode code 662 = .ok (.iload_n 3, 1) := dd_QuotaLawsLaw_law_656.2.2.2.2.1
theorem d_QuotaLawsLaw_law_663 : decode code 663 = .ok (.iconst 1, 1) := dd_QuotaLawsLaw_law_656.2.2.2.2.2.1
theorem d_QuotaLawsLaw_law_664 : decode code 664 = .ok (.iadd, 1) := dd_QuotaLawsLaw_law_656.2.2.2.2.2.2.1
theorem d_QuotaLawsLaw_law_665 : decode code 665 = .ok (.iaload, 1) := dd_QuotaLawsLaw_law_656.2.2.2.2.2.2.2.1
theorem d_QuotaLawsLaw_law_666 : decode code 666 = .ok (.aload_n 0, 1) := dd_QuotaLawsLaw_law_656.2.2.2.2.2.2.2.2.1
theorem d_QuotaLawsLaw_law_667 : decode code 667 = .ok (.iload_n 3, 1) := dd_QuotaLawsLaw_law_656.2.2.2.2.2.2.2.2.2.1
theorem d_QuotaLawsLaw_law_668 : decode code 668 = .ok (.iconst 2, 1) := dd_QuotaLawsLaw_law_656.2.2.2.2.2.2.2.2.2.2.1
theorem d_QuotaLawsLaw_law_669 : decode code 669 = .ok (.iadd, 1) := dd_QuotaLawsLaw_law_656.2.2.2.2.2.2.2.2.2.2.2
theorem dd_QuotaLawsLaw_law_670 : (decode code 670 = .ok (.iaload, 1)) ∧ (decode code 671 = .ok (.invokevirtual 74, 3)) ∧ (decode code 674 = .ok (.pop, 1)) ∧ (decode code 675 = .ok (.aload_n 2, 1)) ∧ (decode code 676 = .ok (.aload_n 0, 1)) ∧ (decode code 677 = .ok (.iload_n 3, 1)) ∧ (decode code 678 = .ok (.iconst 1, 1)) ∧ (decode code 679 = .ok (.iadd, 1)) ∧ (decode code 680 = .ok (.iaload, 1)) ∧ (decode code 681 = .ok (.aload_n 0, 1)) ∧ (decode code 682 = .ok (.iload_n 3, 1)) ∧ (decode code 683 = .ok (.iconst 2, 1)) := by decide +kernel
theorem d_QuotaLawsLaw_law_670 : decode code 670 = .ok (.iaload, 1) := dd_QuotaLawsLaw_law_670.1
theorem d_QuotaLawsLaw_law_671 : decode code 671 = .ok (.invokevirtual 74, 3) := dd_QuotaLawsLaw_law_670.2.1
theorem d_QuotaLawsLaw_law_674 : decode code 674 = .ok (.pop, 1) := dd_QuotaLawsLaw_law_670.2.2.1
theorem d_QuotaLawsLaw_law_675 : decode code 675 = .ok (.aload_n 2, 1) := dd_QuotaLawsLaw_law_670.2.2.2.1
theorem d_QuotaLawsLaw_law_676 : decode code 676 = .ok (.aload_n 0, 1) := dd_QuotaLawsLaw_law_670.2.2.2.2.1
theorem d_QuotaLawsLaw_law_677 : decode code 677 = .ok (.iload_n 3, 1) := dd_QuotaLawsLaw_law_670.2.2.2.2.2.1
theorem d_QuotaLawsLaw_law_678 : decode code 678 = .ok (.iconst 1, 1) := dd_QuotaLawsLaw_law_670.2.2.2.2.2.2.1
theorem d_QuotaLawsLaw_law_679 : decode code 679 = .ok (.iadd, 1) := dd_QuotaLawsLaw_law_670.2.2.2.2.2.2.2.1
theorem d_QuotaLawsLaw_law_680 : decode code 680 = .ok (.iaload, 1) := dd_QuotaLawsLaw_law_670.2.2.2.2.2.2.2.2.1
theorem d_QuotaLawsLaw_law_681 : decode code 681 = .ok (.aload_n 0, 1) := dd_QuotaLawsLaw_law_670.2.2.2.2.2.2.2.2.2.1
theorem d_QuotaLawsLaw_law_682 : decode code 682 = .ok (.iload_n 3, 1) := dd_QuotaLawsLaw_law_670.2.2.2.2.2.2.2.2.2.2.1
theorem d_QuotaLawsLaw_law_683 : decode code 683 = .ok (.iconst 2, 1) := dd_QuotaLawsLaw_law_670.2.2.2.2.2.2.2.2.2.2.2
theorem dd_QuotaLawsLaw_law_684 : (decode code 684 = .ok (.iadd, 1)) ∧ (decode code 685 = .ok (.iaload, 1)) ∧ (decode code 686 = .ok (.invokevirtual 77, 3)) ∧ (decode code 689 = .ok (.pop, 1)) ∧ (decode code 690 = .ok (.goto 652, 3)) ∧ (decode code 693 = .ok (.aload_n 1, 1)) ∧ (decode code 694 = .ok (.aload_n 0, 1)) ∧ (decode code 695 = .ok (.iload_n 3, 1)) ∧ (decode code 696 = .ok (.iconst 1, 1)) ∧ (decode code 697 = .ok (.iadd, 1)) ∧ (decode code 698 = .ok (.iaload, 1)) ∧ (decode code 699 = .ok (.invokevirtual 78, 3)) := by decide +kernel
theorem d_QuotaLawsLaw_law_684 : decode code 684 = .ok (.iadd, 1) := dd_QuotaLawsLaw_law_684.1
theorem d_QuotaLawsLaw_law_685 : decode code 685 = .ok (.iaload, 1) := dd_QuotaLawsLaw_law_684.2.1
theorem d_QuotaLawsLaw_law_686 : decode code 686 = .ok (.invokevirtual 77, 3) := dd_QuotaLawsLaw_law_684.2.2.1
theorem d_QuotaLawsLaw_law_689 : decode code 689 = .ok (.pop, 1) := dd_QuotaLawsLaw_law_684.2.2.2.1
theorem d_QuotaLawsLaw_law_690 : decode code 690 = .ok (.goto 652, 3) := dd_QuotaLawsLaw_law_684.2.2.2.2.1
theorem d_QuotaLawsLaw_law_693 : decode code 693 = .ok (.aload_n 1, 1) := dd_QuotaLawsLaw_law_684.2.2.2.2.2.1
theorem d_QuotaLawsLaw_law_694 : decode code 694 = .ok (.aload_n 0, 1) := dd_QuotaLawsLaw_law_684.2.2.2.2.2.2.1
theorem d_QuotaLawsLaw_law_695 : decode code 695 = .ok (.iload_n 3, 1) := dd_QuotaLawsLaw_law_684.2.2.2.2.2.2.2.1
theorem d_QuotaLawsLaw_law_696 : decode code 696 = .ok (.iconst 1, 1) := dd_QuotaLawsLaw_law_684.2.2.2.2.2.2.2.2.1
theorem d_QuotaLawsLaw_law_697 : decode code 697 = .ok (.iadd, 1) := dd_QuotaLawsLaw_law_684.2.2.2.2.2.2.2.2.2.1
theorem d_QuotaLawsLaw_law_698 : decode code 698 = .ok (.iaload, 1) := dd_QuotaLawsLaw_law_684.2.2.2.2.2.2.2.2.2.2.1
theorem d_QuotaLawsLaw_law_699 : decode code 699 = .ok (.invokevirtual 78, 3) := dd_QuotaLawsLaw_law_684.2.2.2.2.2.2.2.2.2.2.2
theorem dd_QuotaLawsLaw_law_702 : (decode code 702 = .ok (.pop, 1)) ∧ (decode code 703 = .ok (.aload_n 2, 1)) ∧ (decode code 704 = .ok (.aload_n 0, 1)) ∧ (decode code 705 = .ok (.iload_n 3, 1)) ∧ (decode code 706 = .ok (.iconst 1, 1)) ∧ (decode code 707 = .ok (.iadd, 1)) ∧ (decode code 708 = .ok (.iaload, 1)) ∧ (decode code 709 = .ok (.invokevirtual 81, 3)) ∧ (decode code 712 = .ok (.pop, 1)) ∧ (decode code 713 = .ok (.goto 629, 3)) ∧ (decode code 716 = .ok (.aload_n 1, 1)) ∧ (decode code 717 = .ok (.aload_n 0, 1)) := by decide +kernel
theorem d_QuotaLawsLaw_law_702 : decode code 702 = .ok (.pop, 1) := dd_QuotaLawsLaw_law_702.1
theorem d_QuotaLawsLaw_law_703 : decode code 703 = .ok (.aload_n 2, 1) := dd_QuotaLawsLaw_law_702.2.1
theorem d_QuotaLawsLaw_law_704 : decode code 704 = .ok (.aload_n 0, 1) := dd_QuotaLawsLaw_law_702.2.2.1
theorem d_QuotaLawsLaw_law_705 : decode code 705 = .ok (.iload_n 3, 1) := dd_QuotaLawsLaw_law_702.2.2.2.1
theorem d_QuotaLawsLaw_law_706 : decode code 706 = .ok (.iconst 1, 1) := dd_QuotaLawsLaw_law_702.2.2.2.2.1
theorem d_QuotaLawsLaw_law_707 : decode code 707 = .ok (.iadd, 1) := dd_QuotaLawsLaw_law_702.2.2.2.2.2.1
theorem d_QuotaLawsLaw_law_708 : decode code 708 = .ok (.iaload, 1) := dd_QuotaLawsLaw_law_702.2.2.2.2.2.2.1
theorem d_QuotaLawsLaw_law_709 : decode code 709 = .ok (.invokevirtual 81, 3) := dd_QuotaLawsLaw_law_702.2.2.2.2.2.2.2.1
theorem d_QuotaLawsLaw_law_712 : decode code 712 = .ok (.pop, 1) := dd_QuotaLawsLaw_law_702.2.2.2.2.2.2.2.2.1
theorem d_QuotaLawsLaw_law_713 : decode code 713 = .ok (.goto 629, 3) := dd_QuotaLawsLaw_law_702.2.2.2.2.2.2.2.2.2.1
theorem d_QuotaLawsLaw_law_716 : decode code 716 = .ok (.aload_n 1, 1) := dd_QuotaLawsLaw_law_702.2.2.2.2.2.2.2.2.2.2.1
theorem d_QuotaLawsLaw_law_717 : decode code 717 = .ok (.aload_n 0, 1) := dd_QuotaLawsLaw_law_702.2.2.2.2.2.2.2.2.2.2.2
theorem dd_QuotaLawsLaw_law_718 : (decode code 718 = .ok (.iload_n 3, 1)) ∧ (decode code 719 = .ok (.iconst 1, 1)) ∧ (decode code 720 = .ok (.iadd, 1)) ∧ (decode code 721 = .ok (.iaload, 1)) ∧ (decode code 722 = .ok (.aload_n 0, 1)) ∧ (decode code 723 = .ok (.iload_n 3, 1)) ∧ (decode code 724 = .ok (.iconst 2, 1)) ∧ (decode code 725 = .ok (.iadd, 1)) ∧ (decode code 726 = .ok (.iaload, 1)) ∧ (decode code 727 = .ok (.invokevirtual 82, 3)) ∧ (decode code 730 = .ok (.pop, 1)) ∧ (decode code 731 = .ok (.aload_n 2, 1)) := by decide +kernel
theorem d_QuotaLawsLaw_law_718 : decode code 718 = .ok (.iload_n 3, 1) := dd_QuotaLawsLaw_law_718.1
theorem d_QuotaLawsLaw_law_719 : decode code 719 = .ok (.iconst 1, 1) := dd_QuotaLawsLaw_law_718.2.1
theorem d_QuotaLawsLaw_law_720 : decode code 720 = .ok (.iadd, 1) := dd_QuotaLawsLaw_law_718.2.2.1
theorem d_QuotaLawsLaw_law_721 : decode code 721 = .ok (.iaload, 1) := dd_QuotaLawsLaw_law_718.2.2.2.1
theorem d_QuotaLawsLaw_law_722 : decode code 722 = .ok (.aload_n 0, 1) := dd_QuotaLawsLaw_law_718.2.2.2.2.1
theorem d_QuotaLawsLaw_law_723 : decode code 723 = .ok (.iload_n 3, 1) := dd_QuotaLawsLaw_law_718.2.2.2.2.2.1
theorem d_QuotaLawsLaw_law_724 : decode code 724 = .ok (.iconst 2, 1) := dd_QuotaLawsLaw_law_718.2.2.2.2.2.2.1
theorem d_QuotaLawsLaw_law_725 : decode code 725 = .ok (.iadd, 1) := dd_QuotaLawsLaw_law_718.2.2.2.2.2.2.2.1
theorem d_QuotaLawsLaw_law_726 : decode code 726 = .ok (.iaload, 1) := dd_QuotaLawsLaw_law_718.2.2.2.2.2.2.2.2.1
theorem d_QuotaLawsLaw_law_727 : decode code 727 = .ok (.invokevirtual 82, 3) := dd_QuotaLawsLaw_law_718.2.2.2.2.2.2.2.2.2.1
theorem d_QuotaLawsLaw_law_730 : decode code 730 = .ok (.pop, 1) := dd_QuotaLawsLaw_law_718.2.2.2.2.2.2.2.2.2.2.1
theorem d_QuotaLawsLaw_law_731 : decode code 731 = .ok (.aload_n 2, 1) := dd_QuotaLawsLaw_law_718.2.2.2.2.2.2.2.2.2.2.2
theorem dd_QuotaLawsLaw_law_732 : (decode code 732 = .ok (.aload_n 0, 1)) ∧ (decode code 733 = .ok (.iload_n 3, 1)) ∧ (decode code 734 = .ok (.iconst 1, 1)) ∧ (decode code 735 = .ok (.iadd, 1)) ∧ (decode code 736 = .ok (.iaload, 1)) ∧ (decode code 737 = .ok (.aload_n 0, 1)) ∧ (decode code 738 = .ok (.iload_n 3, 1)) ∧ (decode code 739 = .ok (.iconst 2, 1)) ∧ (decode code 740 = .ok (.iadd, 1)) ∧ (decode code 741 = .ok (.iaload, 1)) ∧ (decode code 742 = .ok (.invokevirtual 85, 3)) ∧ (decode code 745 = .ok (.pop, 1)) := by decide +kernel
theorem d_QuotaLawsLaw_law_732 : decode code 732 = .ok (.aload_n 0, 1) := dd_QuotaLawsLaw_law_732.1
theorem d_QuotaLawsLaw_law_733 : decode code 733 = .ok (.iload_n 3, 1) := dd_QuotaLawsLaw_law_732.2.1
theorem d_QuotaLawsLaw_law_734 : decode code 734 = .ok (.iconst 1, 1) := dd_QuotaLawsLaw_law_732.2.2.1
theorem d_QuotaLawsLaw_law_735 : decode code 735 = .ok (.iadd, 1) := dd_QuotaLawsLaw_law_732.2.2.2.1
theorem d_QuotaLawsLaw_law_736 : decode code 736 = .ok (.iaload, 1) := dd_QuotaLawsLaw_law_732.2.2.2.2.1
theorem d_QuotaLawsLaw_law_737 : decode code 737 = .ok (.aload_n 0, 1) := dd_QuotaLawsLaw_law_732.2.2.2.2.2.1
theorem d_QuotaLawsLaw_law_738 : decode code 738 = .ok (.iload_n 3, 1) := dd_QuotaLawsLaw_law_732.2.2.2.2.2.2.1
theorem d_QuotaLawsLaw_law_739 : decode code 739 = .ok (.iconst 2, 1) := dd_QuotaLawsLaw_law_732.2.2.2.2.2.2.2.1
theorem d_QuotaLawsLaw_law_740 : decode code 740 = .ok (.iadd, 1) := dd_QuotaLawsLaw_law_732.2.2.2.2.2.2.2.2.1
theorem d_QuotaLawsLaw_law_741 : decode code 741 = .ok (.iaload, 1) := dd_QuotaLawsLaw_law_732.2.2.2.2.2.2.2.2.2.1
theorem d_QuotaLawsLaw_law_742 : decode code 742 = .ok (.invokevirtual 85, 3) := dd_QuotaLawsLaw_law_732.2.2.2.2.2.2.2.2.2.2.1
theorem d_QuotaLawsLaw_law_745 : decode code 745 = .ok (.pop, 1) := dd_QuotaLawsLaw_law_732.2.2.2.2.2.2.2.2.2.2.2
theorem dd_QuotaLawsLaw_law_746 : (decode code 746 = .ok (.goto 596, 3)) ∧ (decode code 749 = .ok (.aload_n 1, 1)) ∧ (decode code 750 = .ok (.invokevirtual 86, 3)) ∧ (decode code 753 = .ok (.pop, 1)) ∧ (decode code 754 = .ok (.aload_n 2, 1)) ∧ (decode code 755 = .ok (.invokevirtual 89, 3)) ∧ (decode code 758 = .ok (.pop, 1)) ∧ (decode code 759 = .ok (.goto 583, 3)) ∧ (decode code 762 = .ok (.aload_n 1, 1)) ∧ (decode code 763 = .ok (.invokevirtual 90, 3)) ∧ (decode code 766 = .ok (.pop, 1)) ∧ (decode code 767 = .ok (.aload_n 2, 1)) := by decide +kernel
theorem d_QuotaLawsLaw_law_746 : decode code 746 = .ok (.goto 596, 3) := dd_QuotaLawsLaw_law_746.1
theorem d_QuotaLawsLaw_law_749 : decode code 749 = .ok (.aload_n 1, 1) := dd_QuotaLawsLaw_law_746.2.1
theorem d_QuotaLawsLaw_law_750 : decode code 750 = .ok (.invokevirtual 86, 3) := dd_QuotaLawsLaw_law_746.2.2.1
theorem d_QuotaLawsLaw_law_753 : decode code 753 = .ok (.pop, 1) := dd_QuotaLawsLaw_law_746.2.2.2.1
theorem d_QuotaLawsLaw_law_754 : decode code 754 = .ok (.aload_n 2, 1) := dd_QuotaLawsLaw_law_746.2.2.2.2.1
theorem d_QuotaLawsLaw_law_755 : decode code 755 = .ok (.invokevirtual 89, 3) := dd_QuotaLawsLaw_law_746.2.2.2.2.2.1
theorem d_QuotaLawsLaw_law_758 : decode code 758 = .ok (.pop, 1) := dd_QuotaLawsLaw_law_746.2.2.2.2.2.2.1
theorem d_QuotaLawsLaw_law_759 : decode code 759 = .ok (.goto 583, 3) := dd_QuotaLawsLaw_law_746.2.2.2.2.2.2.2.1
theorem d_QuotaLawsLaw_law_762 : decode code 762 = .ok (.aload_n 1, 1) := dd_QuotaLawsLaw_law_746.2.2.2.2.2.2.2.2.1
theorem d_QuotaLawsLaw_law_763 : decode code 763 = .ok (.invokevirtual 90, 3) := dd_QuotaLawsLaw_law_746.2.2.2.2.2.2.2.2.2.1
theorem d_QuotaLawsLaw_law_766 : decode code 766 = .ok (.pop, 1) := dd_QuotaLawsLaw_law_746.2.2.2.2.2.2.2.2.2.2.1
theorem d_QuotaLawsLaw_law_767 : decode code 767 = .ok (.aload_n 2, 1) := dd_QuotaLawsLaw_law_746.2.2.2.2.2.2.2.2.2.2.2
theorem dd_QuotaLawsLaw_law_768 : (decode code 768 = .ok (.invokevirtual 93, 3)) ∧ (decode code 771 = .ok (.pop, 1)) ∧ (decode code 772 = .ok (.goto 570, 3)) ∧ (decode code 775 = .ok (.aload_n 1, 1)) ∧ (decode code 776 = .ok (.aload_n 0, 1)) ∧ (decode code 777 = .ok (.iload_n 3, 1)) ∧ (decode code 778 = .ok (.iconst 1, 1)) ∧ (decode code 779 = .ok (.iadd, 1)) ∧ (decode code 780 = .ok (.iaload, 1)) ∧ (decode code 781 = .ok (.invokevirtual 94, 3)) ∧ (decode code 784 = .ok (.pop, 1)) ∧ (decode code 785 = .ok (.aload_n 2, 1)) := by decide +kernel
theorem d_QuotaLawsLaw_law_768 : decode code 768 = .ok (.invokevirtual 93, 3) := dd_QuotaLawsLaw_law_768.1
theorem d_QuotaLawsLaw_law_771 : decode code 771 = .ok (.pop, 1) := dd_QuotaLawsLaw_law_768.2.1
theorem d_QuotaLawsLaw_law_772 : decode code 772 = .ok (.goto 570, 3) := dd_QuotaLawsLaw_law_768.2.2.1
theorem d_QuotaLawsLaw_law_775 : decode code 775 = .ok (.aload_n 1, 1) := dd_QuotaLawsLaw_law_768.2.2.2.1
theorem d_QuotaLawsLaw_law_776 : decode code 776 = .ok (.aload_n 0, 1) := dd_QuotaLawsLaw_law_768.2.2.2.2.1
theorem d_QuotaLawsLaw_law_777 : decode code 777 = .ok (.iload_n 3, 1) := dd_QuotaLawsLaw_law_768.2.2.2.2.2.1
theorem d_QuotaLawsLaw_law_778 : decode code 778 = .ok (.iconst 1, 1) := dd_QuotaLawsLaw_law_768.2.2.2.2.2.2.1
theorem d_QuotaLawsLaw_law_779 : decode code 779 = .ok (.iadd, 1) := dd_QuotaLawsLaw_law_768.2.2.2.2.2.2.2.1
theorem d_QuotaLawsLaw_law_780 : decode code 780 = .ok (.iaload, 1) := dd_QuotaLawsLaw_law_768.2.2.2.2.2.2.2.2.1
theorem d_QuotaLawsLaw_law_781 : decode code 781 = .ok (.invokevirtual 94, 3) := dd_QuotaLawsLaw_law_768.2.2.2.2.2.2.2.2.2.1
theorem d_QuotaLawsLaw_law_784 : decode code 784 = .ok (.pop, 1) := dd_QuotaLawsLaw_law_768.2.2.2.2.2.2.2.2.2.2.1
theorem d_QuotaLawsLaw_law_785 : decode code 785 = .ok (.aload_n 2, 1) := dd_QuotaLawsLaw_law_768.2.2.2.2.2.2.2.2.2.2.2
theorem dd_QuotaLawsLaw_law_786 : (decode code 786 = .ok (.aload_n 0, 1)) ∧ (decode code 787 = .ok (.iload_n 3, 1)) ∧ (decode code 788 = .ok (.iconst 1, 1)) ∧ (decode code 789 = .ok (.iadd, 1)) ∧ (decode code 790 = .ok (.iaload, 1)) ∧ (decode code 791 = .ok (.invokevirtual 97, 3)) ∧ (decode code 794 = .ok (.pop, 1)) ∧ (decode code 795 = .ok (.goto 547, 3)) ∧ (decode code 798 = .ok (.aload_n 1, 1)) ∧ (decode code 799 = .ok (.aload_n 0, 1)) ∧ (decode code 800 = .ok (.iload_n 3, 1)) ∧ (decode code 801 = .ok (.iconst 1, 1)) := by decide +kernel
theorem d_QuotaLawsLaw_law_786 : decode code 786 = .ok (.aload_n 0, 1) := dd_QuotaLawsLaw_law_786.1
theorem d_QuotaLawsLaw_law_787 : decode code 787 = .ok (.iload_n 3, 1) := dd_QuotaLawsLaw_law_786.2.1
theorem d_QuotaLawsLaw_law_788 : decode code 788 = .ok (.iconst 1, 1) := dd_QuotaLawsLaw_law_786.2.2.1
theorem d_QuotaLawsLaw_law_789 : decode code 789 = .ok (.iadd, 1) := dd_QuotaLawsLaw_law_786.2.2.2.1
theorem d_QuotaLawsLaw_law_790 : decode code 790 = .ok (.iaload, 1) := dd_QuotaLawsLaw_law_786.2.2.2.2.1
theorem d_QuotaLawsLaw_law_791 : decode code 791 = .ok (.invokevirtual 97, 3) := dd_QuotaLawsLaw_law_786.2.2.2.2.2.1
theorem d_QuotaLawsLaw_law_794 : decode code 794 = .ok (.pop, 1) := dd_QuotaLawsLaw_law_786.2.2.2.2.2.2.1
theorem d_QuotaLawsLaw_law_795 : decode code 795 = .ok (.goto 547, 3) := dd_QuotaLawsLaw_law_786.2.2.2.2.2.2.2.1
theorem d_QuotaLawsLaw_law_798 : decode code 798 = .ok (.aload_n 1, 1) := dd_QuotaLawsLaw_law_786.2.2.2.2.2.2.2.2.1
theorem d_QuotaLawsLaw_law_799 : decode code 799 = .ok (.aload_n 0, 1) := dd_QuotaLawsLaw_law_786.2.2.2.2.2.2.2.2.2.1
theorem d_QuotaLawsLaw_law_800 : decode code 800 = .ok (.iload_n 3, 1) := dd_QuotaLawsLaw_law_786.2.2.2.2.2.2.2.2.2.2.1
theorem d_QuotaLawsLaw_law_801 : decode code 801 = .ok (.iconst 1, 1) := dd_QuotaLawsLaw_law_786.2.2.2.2.2.2.2.2.2.2.2
theorem dd_QuotaLawsLaw_law_802 : (decode code 802 = .ok (.iadd, 1)) ∧ (decode code 803 = .ok (.iaload, 1)) ∧ (decode code 804 = .ok (.invokevirtual 98, 3)) ∧ (decode code 807 = .ok (.pop, 1)) ∧ (decode code 808 = .ok (.aload_n 2, 1)) ∧ (decode code 809 = .ok (.aload_n 0, 1)) ∧ (decode code 810 = .ok (.iload_n 3, 1)) ∧ (decode code 811 = .ok (.iconst 1, 1)) ∧ (decode code 812 = .ok (.iadd, 1)) ∧ (decode code 813 = .ok (.iaload, 1)) ∧ (decode code 814 = .ok (.invokevirtual 101, 3)) ∧ (decode code 817 = .ok (.pop, 1)) := by decide +kernel
theorem d_QuotaLawsLaw_law_802 : decode code 802 = .ok (.iadd, 1) := dd_QuotaLawsLaw_law_802.1
theorem d_QuotaLawsLaw_law_803 : decode code 803 = .ok (.iaload, 1) := dd_QuotaLawsLaw_law_802.2.1
theorem d_QuotaLawsLaw_law_804 : decode code 804 = .ok (.invokevirtual 98, 3) := dd_QuotaLawsLaw_law_802.2.2.1
theorem d_QuotaLawsLaw_law_807 : decode code 807 = .ok (.pop, 1) := dd_QuotaLawsLaw_law_802.2.2.2.1
theorem d_QuotaLawsLaw_law_808 : decode code 808 = .ok (.aload_n 2, 1) := dd_QuotaLawsLaw_law_802.2.2.2.2.1
theorem d_QuotaLawsLaw_law_809 : decode code 809 = .ok (.aload_n 0, 1) := dd_QuotaLawsLaw_law_802.2.2.2.2.2.1
theorem d_QuotaLawsLaw_law_810 : decode code 810 = .ok (.iload_n 3, 1) := dd_QuotaLawsLaw_law_802.2.2.2.2.2.2.1
theorem d_QuotaLawsLaw_law_811 : decode code 811 = .ok (.iconst 1, 1) := dd_QuotaLawsLaw_law_802.2.2.2.2.2.2.2.1
theorem d_QuotaLawsLaw_law_812 : decode code 812 = .ok (.iadd, 1) := dd_QuotaLawsLaw_law_802.2.2.2.2.2.2.2.2.1
theorem d_QuotaLawsLaw_law_813 : decode code 813 = .ok (.iaload, 1) := dd_QuotaLawsLaw_law_802.2.2.2.2.2.2.2.2.2.1
theorem d_QuotaLawsLaw_law_814 : decode code 814 = .ok (.invokevirtual 101, 3) := dd_QuotaLawsLaw_law_802.2.2.2.2.2.2.2.2.2.2.1
theorem d_QuotaLawsLaw_law_817 : decode code 817 = .ok (.pop, 1) := dd_QuotaLawsLaw_law_802.2.2.2.2.2.2.2.2.2.2.2
theorem dd_QuotaLawsLaw_law_818 : (decode code 818 = .ok (.goto 524, 3)) ∧ (decode code 821 = .ok (.aload_n 1, 1)) ∧ (decode code 822 = .ok (.aload_n 0, 1)) ∧ (decode code 823 = .ok (.iload_n 3, 1)) ∧ (decode code 824 = .ok (.iconst 1, 1)) ∧ (decode code 825 = .ok (.iadd, 1)) ∧ (decode code 826 = .ok (.iaload, 1)) ∧ (decode code 827 = .ok (.invokevirtual 102, 3)) ∧ (decode code 830 = .ok (.pop, 1)) ∧ (decode code 831 = .ok (.aload_n 2, 1)) ∧ (decode code 832 = .ok (.aload_n 0, 1)) ∧ (decode code 833 = .ok (.iload_n 3, 1)) := by decide +kernel
theorem d_QuotaLawsLaw_law_818 : decode code 818 = .ok (.goto 524, 3) := dd_QuotaLawsLaw_law_818.1
theorem d_QuotaLawsLaw_law_821 : decode code 821 = .ok (.aload_n 1, 1) := dd_QuotaLawsLaw_law_818.2.1
theorem d_QuotaLawsLaw_law_822 : decode code 822 = .ok (.aload_n 0, 1) := dd_QuotaLawsLaw_law_818.2.2.1
theorem d_QuotaLawsLaw_law_823 : decode code 823 = .ok (.iload_n 3, 1) := dd_QuotaLawsLaw_law_818.2.2.2.1
theorem d_QuotaLawsLaw_law_824 : decode code 824 = .ok (.iconst 1, 1) := dd_QuotaLawsLaw_law_818.2.2.2.2.1
theorem d_QuotaLawsLaw_law_825 : decode code 825 = .ok (.iadd, 1) := dd_QuotaLawsLaw_law_818.2.2.2.2.2.1
theorem d_QuotaLawsLaw_law_826 : decode code 826 = .ok (.iaload, 1) := dd_QuotaLawsLaw_law_818.2.2.2.2.2.2.1
theorem d_QuotaLawsLaw_law_827 : decode code 827 = .ok (.invokevirtual 102, 3) := dd_QuotaLawsLaw_law_818.2.2.2.2.2.2.2.1
theorem d_QuotaLawsLaw_law_830 : decode code 830 = .ok (.pop, 1) := dd_QuotaLawsLaw_law_818.2.2.2.2.2.2.2.2.1
theorem d_QuotaLawsLaw_law_831 : decode code 831 = .ok (.aload_n 2, 1) := dd_QuotaLawsLaw_law_818.2.2.2.2.2.2.2.2.2.1
theorem d_QuotaLawsLaw_law_832 : decode code 832 = .ok (.aload_n 0, 1) := dd_QuotaLawsLaw_law_818.2.2.2.2.2.2.2.2.2.2.1
theorem d_QuotaLawsLaw_law_833 : decode code 833 = .ok (.iload_n 3, 1) := dd_QuotaLawsLaw_law_818.2.2.2.2.2.2.2.2.2.2.2
theorem dd_QuotaLawsLaw_law_834 : (decode code 834 = .ok (.iconst 1, 1)) ∧ (decode code 835 = .ok (.iadd, 1)) ∧ (decode code 836 = .ok (.iaload, 1)) ∧ (decode code 837 = .ok (.invokevirtual 105, 3)) ∧ (decode code 840 = .ok (.pop, 1)) ∧ (decode code 841 = .ok (.goto 501, 3)) ∧ (decode code 844 = .ok (.aload_n 1, 1)) ∧ (decode code 845 = .ok (.aload_n 0, 1)) ∧ (decode code 846 = .ok (.iload_n 3, 1)) ∧ (decode code 847 = .ok (.iconst 1, 1)) ∧ (decode code 848 = .ok (.iadd, 1)) ∧ (decode code 849 = .ok (.iaload, 1)) := by decide +kernel
theorem d_QuotaLawsLaw_law_834 : decode code 834 = .ok (.iconst 1, 1) := dd_QuotaLawsLaw_law_834.1
theorem d_QuotaLawsLaw_law_835 : decode code 835 = .ok (.iadd, 1) := dd_QuotaLawsLaw_law_834.2.1
theorem d_QuotaLawsLaw_law_836 : decode code 836 = .ok (.iaload, 1) := dd_QuotaLawsLaw_law_834.2.2.1
theorem d_QuotaLawsLaw_law_837 : decode code 837 = .ok (.invokevirtual 105, 3) := dd_QuotaLawsLaw_law_834.2.2.2.1
theorem d_QuotaLawsLaw_law_840 : decode code 840 = .ok (.pop, 1) := dd_QuotaLawsLaw_law_834.2.2.2.2.1
theorem d_QuotaLawsLaw_law_841 : decode code 841 = .ok (.goto 501, 3) := dd_QuotaLawsLaw_law_834.2.2.2.2.2.1
theorem d_QuotaLawsLaw_law_844 : decode code 844 = .ok (.aload_n 1, 1) := dd_QuotaLawsLaw_law_834.2.2.2.2.2.2.1
theorem d_QuotaLawsLaw_law_845 : decode code 845 = .ok (.aload_n 0, 1) := dd_QuotaLawsLaw_law_834.2.2.2.2.2.2.2.1
theorem d_QuotaLawsLaw_law_846 : decode code 846 = .ok (.iload_n 3, 1) := dd_QuotaLawsLaw_law_834.2.2.2.2.2.2.2.2.1
theorem d_QuotaLawsLaw_law_847 : decode code 847 = .ok (.iconst 1, 1) := dd_QuotaLawsLaw_law_834.2.2.2.2.2.2.2.2.2.1
theorem d_QuotaLawsLaw_law_848 : decode code 848 = .ok (.iadd, 1) := dd_QuotaLawsLaw_law_834.2.2.2.2.2.2.2.2.2.2.1
theorem d_QuotaLawsLaw_law_849 : decode code 849 = .ok (.iaload, 1) := dd_QuotaLawsLaw_law_834.2.2.2.2.2.2.2.2.2.2.2
theorem dd_QuotaLawsLaw_law_850 : (decode code 850 = .ok (.invokevirtual 106, 3)) ∧ (decode code 853 = .ok (.pop, 1)) ∧ (decode code 854 = .ok (.aload_n 2, 1)) ∧ (decode code 855 = .ok (.aload_n 0, 1)) ∧ (decode code 856 = .ok (.iload_n 3, 1)) ∧ (decode code 857 = .ok (.iconst 1, 1)) ∧ (decode code 858 = .ok (.iadd, 1)) ∧ (decode code 859 = .ok (.iaload, 1)) ∧ (decode code 860 = .ok (.invokevirtual 109, 3)) ∧ (decode code 863 = .ok (.pop, 1)) ∧ (decode code 864 = .ok (.goto 478, 3)) ∧ (decode code 867 = .ok (.aload_n 1, 1)) := by decide +kernel
theorem d_QuotaLawsLaw_law_850 : decode code 850 = .ok (.invokevirtual 106, 3) := dd_QuotaLawsLaw_law_850.1
theorem d_QuotaLawsLaw_law_853 : decode code 853 = .ok (.pop, 1) := dd_QuotaLawsLaw_law_850.2.1
theorem d_QuotaLawsLaw_law_854 : decode code 854 = .ok (.aload_n 2, 1) := dd_QuotaLawsLaw_law_850.2.2.1
theorem d_QuotaLawsLaw_law_855 : decode code 855 = .ok (.aload_n 0, 1) := dd_QuotaLawsLaw_law_850.2.2.2.1
theorem d_QuotaLawsLaw_law_856 : decode code 856 = .ok (.iload_n 3, 1) := dd_QuotaLawsLaw_law_850.2.2.2.2.1
theorem d_QuotaLawsLaw_law_857 : decode code 857 = .ok (.iconst 1, 1) := dd_QuotaLawsLaw_law_850.2.2.2.2.2.1
theorem d_QuotaLawsLaw_law_858 : decode code 858 = .ok (.iadd, 1) := dd_QuotaLawsLaw_law_850.2.2.2.2.2.2.1
theorem d_QuotaLawsLaw_law_859 : decode code 859 = .ok (.iaload, 1) := dd_QuotaLawsLaw_law_850.2.2.2.2.2.2.2.1
theorem d_QuotaLawsLaw_law_860 : decode code 860 = .ok (.invokevirtual 109, 3) := dd_QuotaLawsLaw_law_850.2.2.2.2.2.2.2.2.1
theorem d_QuotaLawsLaw_law_863 : decode code 863 = .ok (.pop, 1) := dd_QuotaLawsLaw_law_850.2.2.2.2.2.2.2.2.2.1
theorem d_QuotaLawsLaw_law_864 : decode code 864 = .ok (.goto 478, 3) := dd_QuotaLawsLaw_law_850.2.2.2.2.2.2.2.2.2.2.1
theorem d_QuotaLawsLaw_law_867 : decode code 867 = .ok (.aload_n 1, 1) := dd_QuotaLawsLaw_law_850.2.2.2.2.2.2.2.2.2.2.2
theorem dd_QuotaLawsLaw_law_868 : (decode code 868 = .ok (.aload_n 0, 1)) ∧ (decode code 869 = .ok (.iload_n 3, 1)) ∧ (decode code 870 = .ok (.iconst 1, 1)) ∧ (decode code 871 = .ok (.iadd, 1)) ∧ (decode code 872 = .ok (.iaload, 1)) ∧ (decode code 873 = .ok (.aload_n 0, 1)) ∧ (decode code 874 = .ok (.iload_n 3, 1)) ∧ (decode code 875 = .ok (.iconst 2, 1)) ∧ (decode code 876 = .ok (.iadd, 1)) ∧ (decode code 877 = .ok (.iaload, 1)) ∧ (decode code 878 = .ok (.invokevirtual 110, 3)) ∧ (decode code 881 = .ok (.pop, 1)) := by decide +kernel
theorem d_QuotaLawsLaw_law_868 : decode code 868 = .ok (.aload_n 0, 1) := dd_QuotaLawsLaw_law_868.1
theorem d_QuotaLawsLaw_law_869 : decode code 869 = .ok (.iload_n 3, 1) := dd_QuotaLawsLaw_law_868.2.1
theorem d_QuotaLawsLaw_law_870 : decode code 870 = .ok (.iconst 1, 1) := dd_QuotaLawsLaw_law_868.2.2.1
theorem d_QuotaLawsLaw_law_871 : decode code 871 = .ok (.iadd, 1) := dd_QuotaLawsLaw_law_868.2.2.2.1
theorem d_QuotaLawsLaw_law_872 : decode code 872 = .ok (.iaload, 1) := dd_QuotaLawsLaw_law_868.2.2.2.2.1
theorem d_QuotaLawsLaw_law_873 : decode code 873 = .ok (.aload_n 0, 1) := dd_QuotaLawsLaw_law_868.2.2.2.2.2.1
theorem d_QuotaLawsLaw_law_874 : decode code 874 = .ok (.iload_n 3, 1) := dd_QuotaLawsLaw_law_868.2.2.2.2.2.2.1
theorem d_QuotaLawsLaw_law_875 : decode code 875 = .ok (.iconst 2, 1) := dd_QuotaLawsLaw_law_868.2.2.2.2.2.2.2.1
theorem d_QuotaLawsLaw_law_876 : decode code 876 = .ok (.iadd, 1) := dd_QuotaLawsLaw_law_868.2.2.2.2.2.2.2.2.1
theorem d_QuotaLawsLaw_law_877 : decode code 877 = .ok (.iaload, 1) := dd_QuotaLawsLaw_law_868.2.2.2.2.2.2.2.2.2.1
theorem d_QuotaLawsLaw_law_878 : decode code 878 = .ok (.invokevirtual 110, 3) := dd_QuotaLawsLaw_law_868.2.2.2.2.2.2.2.2.2.2.1
theorem d_QuotaLawsLaw_law_881 : decode code 881 = .ok (.pop, 1) := dd_QuotaLawsLaw_law_868.2.2.2.2.2.2.2.2.2.2.2
theorem dd_QuotaLawsLaw_law_882 : (decode code 882 = .ok (.aload_n 2, 1)) ∧ (decode code 883 = .ok (.aload_n 0, 1)) ∧ (decode code 884 = .ok (.iload_n 3, 1)) ∧ (decode code 885 = .ok (.iconst 1, 1)) ∧ (decode code 886 = .ok (.iadd, 1)) ∧ (decode code 887 = .ok (.iaload, 1)) ∧ (decode code 888 = .ok (.aload_n 0, 1)) ∧ (decode code 889 = .ok (.iload_n 3, 1)) ∧ (decode code 890 = .ok (.iconst 2, 1)) ∧ (decode code 891 = .ok (.iadd, 1)) ∧ (decode code 892 = .ok (.iaload, 1)) ∧ (decode code 893 = .ok (.invokevirtual 113, 3)) := by decide +kernel
theorem d_QuotaLawsLaw_law_882 : decode code 882 = .ok (.aload_n 2, 1) := dd_QuotaLawsLaw_law_882.1
theorem d_QuotaLawsLaw_law_883 : decode code 883 = .ok (.aload_n 0, 1) := dd_QuotaLawsLaw_law_882.2.1
theorem d_QuotaLawsLaw_law_884 : decode code 884 = .ok (.iload_n 3, 1) := dd_QuotaLawsLaw_law_882.2.2.1
theorem d_QuotaLawsLaw_law_885 : decode code 885 = .ok (.iconst 1, 1) := dd_QuotaLawsLaw_law_882.2.2.2.1
theorem d_QuotaLawsLaw_law_886 : decode code 886 = .ok (.iadd, 1) := dd_QuotaLawsLaw_law_882.2.2.2.2.1
theorem d_QuotaLawsLaw_law_887 : decode code 887 = .ok (.iaload, 1) := dd_QuotaLawsLaw_law_882.2.2.2.2.2.1
theorem d_QuotaLawsLaw_law_888 : decode code 888 = .ok (.aload_n 0, 1) := dd_QuotaLawsLaw_law_882.2.2.2.2.2.2.1
theorem d_QuotaLawsLaw_law_889 : decode code 889 = .ok (.iload_n 3, 1) := dd_QuotaLawsLaw_law_882.2.2.2.2.2.2.2.1
theorem d_QuotaLawsLaw_law_890 : decode code 890 = .ok (.iconst 2, 1) := dd_QuotaLawsLaw_law_882.2.2.2.2.2.2.2.2.1
theorem d_QuotaLawsLaw_law_891 : decode code 891 = .ok (.iadd, 1) := dd_QuotaLawsLaw_law_882.2.2.2.2.2.2.2.2.2.1
theorem d_QuotaLawsLaw_law_892 : decode code 892 = .ok (.iaload, 1) := dd_QuotaLawsLaw_law_882.2.2.2.2.2.2.2.2.2.2.1
theorem d_QuotaLawsLaw_law_893 : decode code 893 = .ok (.invokevirtual 113, 3) := dd_QuotaLawsLaw_law_882.2.2.2.2.2.2.2.2.2.2.2
theorem dd_QuotaLawsLaw_law_896 : (decode code 896 = .ok (.pop, 1)) ∧ (decode code 897 = .ok (.goto 445, 3)) ∧ (decode code 900 = .ok (.aload_n 1, 1)) ∧ (decode code 901 = .ok (.aload_n 0, 1)) ∧ (decode code 902 = .ok (.iload_n 3, 1)) ∧ (decode code 903 = .ok (.iconst 1, 1)) ∧ (decode code 904 = .ok (.iadd, 1)) ∧ (decode code 905 = .ok (.iaload, 1)) ∧ (decode code 906 = .ok (.invokevirtual 114, 3)) ∧ (decode code 909 = .ok (.pop, 1)) ∧ (decode code 910 = .ok (.aload_n 2, 1)) ∧ (decode code 911 = .ok (.aload_n 0, 1)) := by decide +kernel
theorem d_QuotaLawsLaw_law_896 : decode code 896 = .ok (.pop, 1) := dd_QuotaLawsLaw_law_896.1
theorem d_QuotaLawsLaw_law_897 : decode code 897 = .ok (.goto 445, 3) := dd_QuotaLawsLaw_law_896.2.1
theorem d_QuotaLawsLaw_law_900 : decode code 900 = .ok (.aload_n 1, 1) := dd_QuotaLawsLaw_law_896.2.2.1
theorem d_QuotaLawsLaw_law_901 : decode code 901 = .ok (.aload_n 0, 1) := dd_QuotaLawsLaw_law_896.2.2.2.1
theorem d_QuotaLawsLaw_law_902 : decode code 902 = .ok (.iload_n 3, 1) := dd_QuotaLawsLaw_law_896.2.2.2.2.1
theorem d_QuotaLawsLaw_law_903 : decode code 903 = .ok (.iconst 1, 1) := dd_QuotaLawsLaw_law_896.2.2.2.2.2.1
theorem d_QuotaLawsLaw_law_904 : decode code 904 = .ok (.iadd, 1) := dd_QuotaLawsLaw_law_896.2.2.2.2.2.2.1
theorem d_QuotaLawsLaw_law_905 : decode code 905 = .ok (.iaload, 1) := dd_QuotaLawsLaw_law_896.2.2.2.2.2.2.2.1
theorem d_QuotaLawsLaw_law_906 : decode code 906 = .ok (.invokevirtual 114, 3) := dd_QuotaLawsLaw_law_896.2.2.2.2.2.2.2.2.1
theorem d_QuotaLawsLaw_law_909 : decode code 909 = .ok (.pop, 1) := dd_QuotaLawsLaw_law_896.2.2.2.2.2.2.2.2.2.1
theorem d_QuotaLawsLaw_law_910 : decode code 910 = .ok (.aload_n 2, 1) := dd_QuotaLawsLaw_law_896.2.2.2.2.2.2.2.2.2.2.1
theorem d_QuotaLawsLaw_law_911 : decode code 911 = .ok (.aload_n 0, 1) := dd_QuotaLawsLaw_law_896.2.2.2.2.2.2.2.2.2.2.2
theorem dd_QuotaLawsLaw_law_912 : (decode code 912 = .ok (.iload_n 3, 1)) ∧ (decode code 913 = .ok (.iconst 1, 1)) ∧ (decode code 914 = .ok (.iadd, 1)) ∧ (decode code 915 = .ok (.iaload, 1)) ∧ (decode code 916 = .ok (.invokevirtual 117, 3)) ∧ (decode code 919 = .ok (.pop, 1)) ∧ (decode code 920 = .ok (.goto 422, 3)) ∧ (decode code 923 = .ok (.aload_n 1, 1)) ∧ (decode code 924 = .ok (.aload_n 0, 1)) ∧ (decode code 925 = .ok (.iload_n 3, 1)) ∧ (decode code 926 = .ok (.iconst 1, 1)) ∧ (decode code 927 = .ok (.iadd, 1)) := by decide +kernel
theorem d_QuotaLawsLaw_law_912 : decode code 912 = .ok (.iload_n 3, 1) := dd_QuotaLawsLaw_law_912.1
theorem d_QuotaLawsLaw_law_913 : decode code 913 = .ok (.iconst 1, 1) := dd_QuotaLawsLaw_law_912.2.1
theorem d_QuotaLawsLaw_law_914 : decode code 914 = .ok (.iadd, 1) := dd_QuotaLawsLaw_law_912.2.2.1
theorem d_QuotaLawsLaw_law_915 : decode code 915 = .ok (.iaload, 1) := dd_QuotaLawsLaw_law_912.2.2.2.1
theorem d_QuotaLawsLaw_law_916 : decode code 916 = .ok (.invokevirtual 117, 3) := dd_QuotaLawsLaw_law_912.2.2.2.2.1
theorem d_QuotaLawsLaw_law_919 : decode code 919 = .ok (.pop, 1) := dd_QuotaLawsLaw_law_912.2.2.2.2.2.1
theorem d_QuotaLawsLaw_law_920 : decode code 920 = .ok (.goto 422, 3) := dd_QuotaLawsLaw_law_912.2.2.2.2.2.2.1
theorem d_QuotaLawsLaw_law_923 : decode code 923 = .ok (.aload_n 1, 1) := dd_QuotaLawsLaw_law_912.2.2.2.2.2.2.2.1
theorem d_QuotaLawsLaw_law_924 : decode code 924 = .ok (.aload_n 0, 1) := dd_QuotaLawsLaw_law_912.2.2.2.2.2.2.2.2.1
theorem d_QuotaLawsLaw_law_925 : decode code 925 = .ok (.iload_n 3, 1) := dd_QuotaLawsLaw_law_912.2.2.2.2.2.2.2.2.2.1
theorem d_QuotaLawsLaw_law_926 : decode code 926 = .ok (.iconst 1, 1) := dd_QuotaLawsLaw_law_912.2.2.2.2.2.2.2.2.2.2.1
theorem d_QuotaLawsLaw_law_927 : decode code 927 = .ok (.iadd, 1) := dd_QuotaLawsLaw_law_912.2.2.2.2.2.2.2.2.2.2.2
theorem dd_QuotaLawsLaw_law_928 : (decode code 928 = .ok (.iaload, 1)) ∧ (decode code 929 = .ok (.aload_n 0, 1)) ∧ (decode code 930 = .ok (.iload_n 3, 1)) ∧ (decode code 931 = .ok (.iconst 2, 1)) ∧ (decode code 932 = .ok (.iadd, 1)) ∧ (decode code 933 = .ok (.iaload, 1)) ∧ (decode code 934 = .ok (.invokevirtual 118, 3)) ∧ (decode code 937 = .ok (.pop2, 1)) ∧ (decode code 938 = .ok (.aload_n 2, 1)) ∧ (decode code 939 = .ok (.aload_n 0, 1)) ∧ (decode code 940 = .ok (.iload_n 3, 1)) ∧ (decode code 941 = .ok (.iconst 1, 1)) := by decide +kernel
theorem d_QuotaLawsLaw_law_928 : decode code 928 = .ok (.iaload, 1) := dd_QuotaLawsLaw_law_928.1
theorem d_QuotaLawsLaw_law_929 : decode code 929 = .ok (.aload_n 0, 1) := dd_QuotaLawsLaw_law_928.2.1
theorem d_QuotaLawsLaw_law_930 : decode code 930 = .ok (.iload_n 3, 1) := dd_QuotaLawsLaw_law_928.2.2.1
theorem d_QuotaLawsLaw_law_931 : decode code 931 = .ok (.iconst 2, 1) := dd_QuotaLawsLaw_law_928.2.2.2.1
theorem d_QuotaLawsLaw_law_932 : decode code 932 = .ok (.iadd, 1) := dd_QuotaLawsLaw_law_928.2.2.2.2.1
theorem d_QuotaLawsLaw_law_933 : decode code 933 = .ok (.iaload, 1) := dd_QuotaLawsLaw_law_928.2.2.2.2.2.1
theorem d_QuotaLawsLaw_law_934 : decode code 934 = .ok (.invokevirtual 118, 3) := dd_QuotaLawsLaw_law_928.2.2.2.2.2.2.1
theorem d_QuotaLawsLaw_law_937 : decode code 937 = .ok (.pop2, 1) := dd_QuotaLawsLaw_law_928.2.2.2.2.2.2.2.1
theorem d_QuotaLawsLaw_law_938 : decode code 938 = .ok (.aload_n 2, 1) := dd_QuotaLawsLaw_law_928.2.2.2.2.2.2.2.2.1
theorem d_QuotaLawsLaw_law_939 : decode code 939 = .ok (.aload_n 0, 1) := dd_QuotaLawsLaw_law_928.2.2.2.2.2.2.2.2.2.1
theorem d_QuotaLawsLaw_law_940 : decode code 940 = .ok (.iload_n 3, 1) := dd_QuotaLawsLaw_law_928.2.2.2.2.2.2.2.2.2.2.1
theorem d_QuotaLawsLaw_law_941 : decode code 941 = .ok (.iconst 1, 1) := dd_QuotaLawsLaw_law_928.2.2.2.2.2.2.2.2.2.2.2
theorem dd_QuotaLawsLaw_law_942 : (decode code 942 = .ok (.iadd, 1)) ∧ (decode code 943 = .ok (.iaload, 1)) ∧ (decode code 944 = .ok (.aload_n 0, 1)) ∧ (decode code 945 = .ok (.iload_n 3, 1)) ∧ (decode code 946 = .ok (.iconst 2, 1)) ∧ (decode code 947 = .ok (.iadd, 1)) ∧ (decode code 948 = .ok (.iaload, 1)) ∧ (decode code 949 = .ok (.invokevirtual 122, 3)) ∧ (decode code 952 = .ok (.pop2, 1)) ∧ (decode code 953 = .ok (.goto 389, 3)) ∧ (decode code 956 = .ok (.aload_n 1, 1)) ∧ (decode code 957 = .ok (.aload_n 0, 1)) := by decide +kernel
theorem d_QuotaLawsLaw_law_942 : decode code 942 = .ok (.iadd, 1) := dd_QuotaLawsLaw_law_942.1
theorem d_QuotaLawsLaw_law_943 : decode code 943 = .ok (.iaload, 1) := dd_QuotaLawsLaw_law_942.2.1
theorem d_QuotaLawsLaw_law_944 : decode code 944 = .ok (.aload_n 0, 1) := dd_QuotaLawsLaw_law_942.2.2.1
theorem d_QuotaLawsLaw_law_945 : decode code 945 = .ok (.iload_n 3, 1) := dd_QuotaLawsLaw_law_942.2.2.2.1
theorem d_QuotaLawsLaw_law_946 : decode code 946 = .ok (.iconst 2, 1) := dd_QuotaLawsLaw_law_942.2.2.2.2.1
theorem d_QuotaLawsLaw_law_947 : decode code 947 = .ok (.iadd, 1) := dd_QuotaLawsLaw_law_942.2.2.2.2.2.1
theorem d_QuotaLawsLaw_law_948 : decode code 948 = .ok (.iaload, 1) := dd_QuotaLawsLaw_law_942.2.2.2.2.2.2.1
theorem d_QuotaLawsLaw_law_949 : decode code 949 = .ok (.invokevirtual 122, 3) := dd_QuotaLawsLaw_law_942.2.2.2.2.2.2.2.1
theorem d_QuotaLawsLaw_law_952 : decode code 952 = .ok (.pop2, 1) := dd_QuotaLawsLaw_law_942.2.2.2.2.2.2.2.2.1
theorem d_QuotaLawsLaw_law_953 : decode code 953 = .ok (.goto 389, 3) := dd_QuotaLawsLaw_law_942.2.2.2.2.2.2.2.2.2.1
theorem d_QuotaLawsLaw_law_956 : decode code 956 = .ok (.aload_n 1, 1) := dd_QuotaLawsLaw_law_942.2.2.2.2.2.2.2.2.2.2.1
theorem d_QuotaLawsLaw_law_957 : decode code 957 = .ok (.aload_n 0, 1) := dd_QuotaLawsLaw_law_942.2.2.2.2.2.2.2.2.2.2.2
theorem dd_QuotaLawsLaw_law_958 : (decode code 958 = .ok (.iload_n 3, 1)) ∧ (decode code 959 = .ok (.iconst 1, 1)) ∧ (decode code 960 = .ok (.iadd, 1)) ∧ (decode code 961 = .ok (.iaload, 1)) ∧ (decode code 962 = .ok (.aload_n 0, 1)) ∧ (decode code 963 = .ok (.iload_n 3, 1)) ∧ (decode code 964 = .ok (.iconst 2, 1)) ∧ (decode code 965 = .ok (.iadd, 1)) ∧ (decode code 966 = .ok (.iaload, 1)) ∧ (decode code 967 = .ok (.aload_n 0, 1)) ∧ (decode code 968 = .ok (.iload_n 3, 1)) ∧ (decode code 969 = .ok (.iconst 3, 1)) := by decide +kernel
theorem d_QuotaLawsLaw_law_958 : decode code 958 = .ok (.iload_n 3, 1) := dd_QuotaLawsLaw_law_958.1
theorem d_QuotaLawsLaw_law_959 : decode code 959 = .ok (.iconst 1, 1) := dd_QuotaLawsLaw_law_958.2.1
theorem d_QuotaLawsLaw_law_960 : decode code 960 = .ok (.iadd, 1) := dd_QuotaLawsLaw_law_958.2.2.1
theorem d_QuotaLawsLaw_law_961 : decode code 961 = .ok (.iaload, 1) := dd_QuotaLawsLaw_law_958.2.2.2.1
theorem d_QuotaLawsLaw_law_962 : decode code 962 = .ok (.aload_n 0, 1) := dd_QuotaLawsLaw_law_958.2.2.2.2.1
theorem d_QuotaLawsLaw_law_963 : decode code 963 = .ok (.iload_n 3, 1) := dd_QuotaLawsLaw_law_958.2.2.2.2.2.1
theorem d_QuotaLawsLaw_law_964 : decode code 964 = .ok (.iconst 2, 1) := dd_QuotaLawsLaw_law_958.2.2.2.2.2.2.1
theorem d_QuotaLawsLaw_law_965 : decode code 965 = .ok (.iadd, 1) := dd_QuotaLawsLaw_law_958.2.2.2.2.2.2.2.1
theorem d_QuotaLawsLaw_law_966 : decode code 966 = .ok (.iaload, 1) := dd_QuotaLawsLaw_law_958.2.2.2.2.2.2.2.2.1
theorem d_QuotaLawsLaw_law_967 : decode code 967 = .ok (.aload_n 0, 1) := dd_QuotaLawsLaw_law_958.2.2.2.2.2.2.2.2.2.1
theorem d_QuotaLawsLaw_law_968 : decode code 968 = .ok (.iload_n 3, 1) := dd_QuotaLawsLaw_law_958.2.2.2.2.2.2.2.2.2.2.1
theorem d_QuotaLawsLaw_law_969 : decode code 969 = .ok (.iconst 3, 1) := dd_QuotaLawsLaw_law_958.2.2.2.2.2.2.2.2.2.2.2
theorem dd_QuotaLawsLaw_law_970 : (decode code 970 = .ok (.iadd, 1)) ∧ (decode code 971 = .ok (.iaload, 1)) ∧ (decode code 972 = .ok (.invokevirtual 123, 3)) ∧ (decode code 975 = .ok (.pop, 1)) ∧ (decode code 976 = .ok (.aload_n 2, 1)) ∧ (decode code 977 = .ok (.aload_n 0, 1)) ∧ (decode code 978 = .ok (.iload_n 3, 1)) ∧ (decode code 979 = .ok (.iconst 1, 1)) ∧ (decode code 980 = .ok (.iadd, 1)) ∧ (decode code 981 = .ok (.iaload, 1)) ∧ (decode code 982 = .ok (.aload_n 0, 1)) ∧ (decode code 983 = .ok (.iload_n 3, 1)) := by decide +kernel
theorem d_QuotaLawsLaw_law_970 : decode code 970 = .ok (.iadd, 1) := dd_QuotaLawsLaw_law_970.1
theorem d_QuotaLawsLaw_law_971 : decode code 971 = .ok (.iaload, 1) := dd_QuotaLawsLaw_law_970.2.1
theorem d_QuotaLawsLaw_law_972 : decode code 972 = .ok (.invokevirtual 123, 3) := dd_QuotaLawsLaw_law_970.2.2.1
theorem d_QuotaLawsLaw_law_975 : decode code 975 = .ok (.pop, 1) := dd_QuotaLawsLaw_law_970.2.2.2.1
theorem d_QuotaLawsLaw_law_976 : decode code 976 = .ok (.aload_n 2, 1) := dd_QuotaLawsLaw_law_970.2.2.2.2.1
theorem d_QuotaLawsLaw_law_977 : decode code 977 = .ok (.aload_n 0, 1) := dd_QuotaLawsLaw_law_970.2.2.2.2.2.1
theorem d_QuotaLawsLaw_law_978 : decode code 978 = .ok (.iload_n 3, 1) := dd_QuotaLawsLaw_law_970.2.2.2.2.2.2.1
theorem d_QuotaLawsLaw_law_979 : decode code 979 = .ok (.iconst 1, 1) := dd_QuotaLawsLaw_law_970.2.2.2.2.2.2.2.1
theorem d_QuotaLawsLaw_law_980 : decode code 980 = .ok (.iadd, 1) := dd_QuotaLawsLaw_law_970.2.2.2.2.2.2.2.2.1
theorem d_QuotaLawsLaw_law_981 : decode code 981 = .ok (.iaload, 1) := dd_QuotaLawsLaw_law_970.2.2.2.2.2.2.2.2.2.1
theorem d_QuotaLawsLaw_law_982 : decode code 982 = .ok (.aload_n 0, 1) := dd_QuotaLawsLaw_law_970.2.2.2.2.2.2.2.2.2.2.1
theorem d_QuotaLawsLaw_law_983 : decode code 983 = .ok (.iload_n 3, 1) := dd_QuotaLawsLaw_law_970.2.2.2.2.2.2.2.2.2.2.2
theorem dd_QuotaLawsLaw_law_984 : (decode code 984 = .ok (.iconst 2, 1)) ∧ (decode code 985 = .ok (.iadd, 1)) ∧ (decode code 986 = .ok (.iaload, 1)) ∧ (decode code 987 = .ok (.aload_n 0, 1)) ∧ (decode code 988 = .ok (.iload_n 3, 1)) ∧ (decode code 989 = .ok (.iconst 3, 1)) ∧ (decode code 990 = .ok (.iadd, 1)) ∧ (decode code 991 = .ok (.iaload, 1)) ∧ (decode code 992 = .ok (.invokevirtual 127, 3)) ∧ (decode code 995 = .ok (.pop, 1)) ∧ (decode code 996 = .ok (.goto 346, 3)) ∧ (decode code 999 = .ok (.aload_n 1, 1)) := by decide +kernel
theorem d_QuotaLawsLaw_law_984 : decode code 984 = .ok (.iconst 2, 1) := dd_QuotaLawsLaw_law_984.1
theorem d_QuotaLawsLaw_law_985 : decode code 985 = .ok (.iadd, 1) := dd_QuotaLawsLaw_law_984.2.1
theorem d_QuotaLawsLaw_law_986 : decode code 986 = .ok (.iaload, 1) := dd_QuotaLawsLaw_law_984.2.2.1
theorem d_QuotaLawsLaw_law_987 : decode code 987 = .ok (.aload_n 0, 1) := dd_QuotaLawsLaw_law_984.2.2.2.1
theorem d_QuotaLawsLaw_law_988 : decode code 988 = .ok (.iload_n 3, 1) := dd_QuotaLawsLaw_law_984.2.2.2.2.1
theorem d_QuotaLawsLaw_law_989 : decode code 989 = .ok (.iconst 3, 1) := dd_QuotaLawsLaw_law_984.2.2.2.2.2.1
theorem d_QuotaLawsLaw_law_990 : decode code 990 = .ok (.iadd, 1) := dd_QuotaLawsLaw_law_984.2.2.2.2.2.2.1
theorem d_QuotaLawsLaw_law_991 : decode code 991 = .ok (.iaload, 1) := dd_QuotaLawsLaw_law_984.2.2.2.2.2.2.2.1
theorem d_QuotaLawsLaw_law_992 : decode code 992 = .ok (.invokevirtual 127, 3) := dd_QuotaLawsLaw_law_984.2.2.2.2.2.2.2.2.1
theorem d_QuotaLawsLaw_law_995 : decode code 995 = .ok (.pop, 1) := dd_QuotaLawsLaw_law_984.2.2.2.2.2.2.2.2.2.1
theorem d_QuotaLawsLaw_law_996 : decode code 996 = .ok (.goto 346, 3) := dd_QuotaLawsLaw_law_984.2.2.2.2.2.2.2.2.2.2.1
theorem d_QuotaLawsLaw_law_999 : decode code 999 = .ok (.aload_n 1, 1) := dd_QuotaLawsLaw_law_984.2.2.2.2.2.2.2.2.2.2.2
theorem dd_QuotaLawsLaw_law_1000 : (decode code 1000 = .ok (.aload_n 0, 1)) ∧ (decode code 1001 = .ok (.iload_n 3, 1)) ∧ (decode code 1002 = .ok (.iconst 1, 1)) ∧ (decode code 1003 = .ok (.iadd, 1)) ∧ (decode code 1004 = .ok (.iaload, 1)) ∧ (decode code 1005 = .ok (.invokevirtual 128, 3)) ∧ (decode code 1008 = .ok (.pop, 1)) ∧ (decode code 1009 = .ok (.aload_n 2, 1)) ∧ (decode code 1010 = .ok (.aload_n 0, 1)) ∧ (decode code 1011 = .ok (.iload_n 3, 1)) ∧ (decode code 1012 = .ok (.iconst 1, 1)) ∧ (decode code 1013 = .ok (.iadd, 1)) := by decide +kernel
theorem d_QuotaLawsLaw_law_1000 : decode code 1000 = .ok (.aload_n 0, 1) := dd_QuotaLawsLaw_law_1000.1
theorem d_QuotaLawsLaw_law_1001 : decode code 1001 = .ok (.iload_n 3, 1) := dd_QuotaLawsLaw_law_1000.2.1
theorem d_QuotaLawsLaw_law_1002 : decode code 1002 = .ok (.iconst 1, 1) := dd_QuotaLawsLaw_law_1000.2.2.1
theorem d_QuotaLawsLaw_law_1003 : decode code 1003 = .ok (.iadd, 1) := dd_QuotaLawsLaw_law_1000.2.2.2.1
theorem d_QuotaLawsLaw_law_1004 : decode code 1004 = .ok (.iaload, 1) := dd_QuotaLawsLaw_law_1000.2.2.2.2.1
theorem d_QuotaLawsLaw_law_1005 : decode code 1005 = .ok (.invokevirtual 128, 3) := dd_QuotaLawsLaw_law_1000.2.2.2.2.2.1
theorem d_QuotaLawsLaw_law_1008 : decode code 1008 = .ok (.pop, 1) := dd_QuotaLawsLaw_law_1000.2.2.2.2.2.2.1
theorem d_QuotaLawsLaw_law_1009 : decode code 1009 = .ok (.aload_n 2, 1) := dd_QuotaLawsLaw_law_1000.2.2.2.2.2.2.2.1
theorem d_QuotaLawsLaw_law_1010 : decode code 1010 = .ok (.aload_n 0, 1) := dd_QuotaLawsLaw_law_1000.2.2.2.2.2.2.2.2.1
theorem d_QuotaLawsLaw_law_1011 : decode code 1011 = .ok (.iload_n 3, 1) := dd_QuotaLawsLaw_law_1000.2.2.2.2.2.2.2.2.2.1
theorem d_QuotaLawsLaw_law_1012 : decode code 1012 = .ok (.iconst 1, 1) := dd_QuotaLawsLaw_law_1000.2.2.2.2.2.2.2.2.2.2.1
theorem d_QuotaLawsLaw_law_1013 : decode code 1013 = .ok (.iadd, 1) := dd_QuotaLawsLaw_law_1000.2.2.2.2.2.2.2.2.2.2.2
theorem dd_QuotaLawsLaw_law_1014 : (decode code 1014 = .ok (.iaload, 1)) ∧ (decode code 1015 = .ok (.invokevirtual 131, 3)) ∧ (decode code 1018 = .ok (.pop, 1)) ∧ (decode code 1019 = .ok (.goto 323, 3)) ∧ (decode code 1022 = .ok (.aload_n 1, 1)) ∧ (decode code 1023 = .ok (.invokevirtual 132, 3)) ∧ (decode code 1026 = .ok (.pop2, 1)) ∧ (decode code 1027 = .ok (.aload_n 2, 1)) ∧ (decode code 1028 = .ok (.invokevirtual 136, 3)) ∧ (decode code 1031 = .ok (.pop2, 1)) ∧ (decode code 1032 = .ok (.goto 310, 3)) ∧ (decode code 1035 = .ok (.aload_n 1, 1)) := by decide +kernel
theorem d_QuotaLawsLaw_law_1014 : decode code 1014 = .ok (.iaload, 1) := dd_QuotaLawsLaw_law_1014.1
theorem d_QuotaLawsLaw_law_1015 : decode code 1015 = .ok (.invokevirtual 131, 3) := dd_QuotaLawsLaw_law_1014.2.1
theorem d_QuotaLawsLaw_law_1018 : decode code 1018 = .ok (.pop, 1) := dd_QuotaLawsLaw_law_1014.2.2.1
theorem d_QuotaLawsLaw_law_1019 : decode code 1019 = .ok (.goto 323, 3) := dd_QuotaLawsLaw_law_1014.2.2.2.1
theorem d_QuotaLawsLaw_law_1022 : decode code 1022 = .ok (.aload_n 1, 1) := dd_QuotaLawsLaw_law_1014.2.2.2.2.1
theorem d_QuotaLawsLaw_law_1023 : decode code 1023 = .ok (.invokevirtual 132, 3) := dd_QuotaLawsLaw_law_1014.2.2.2.2.2.1
theorem d_QuotaLawsLaw_law_1026 : decode code 1026 = .ok (.pop2, 1) := dd_QuotaLawsLaw_law_1014.2.2.2.2.2.2.1
theorem d_QuotaLawsLaw_law_1027 : decode code 1027 = .ok (.aload_n 2, 1) := dd_QuotaLawsLaw_law_1014.2.2.2.2.2.2.2.1
theorem d_QuotaLawsLaw_law_1028 : decode code 1028 = .ok (.invokevirtual 136, 3) := dd_QuotaLawsLaw_law_1014.2.2.2.2.2.2.2.2.1
theorem d_QuotaLawsLaw_law_1031 : decode code 1031 = .ok (.pop2, 1) := dd_QuotaLawsLaw_law_1014.2.2.2.2.2.2.2.2.2.1
theorem d_QuotaLawsLaw_law_1032 : decode code 1032 = .ok (.goto 310, 3) := dd_QuotaLawsLaw_law_1014.2.2.2.2.2.2.2.2.2.2.1
theorem d_QuotaLawsLaw_law_1035 : decode code 1035 = .ok (.aload_n 1, 1) := dd_QuotaLawsLaw_law_1014.2.2.2.2.2.2.2.2.2.2.2
theorem dd_QuotaLawsLaw_law_1036 : (decode code 1036 = .ok (.aload_n 0, 1)) ∧ (decode code 1037 = .ok (.iload_n 3, 1)) ∧ (decode code 1038 = .ok (.iconst 1, 1)) ∧ (decode code 1039 = .ok (.iadd, 1)) ∧ (decode code 1040 = .ok (.iaload, 1)) ∧ (decode code 1041 = .ok (.aload_n 0, 1)) ∧ (decode code 1042 = .ok (.iload_n 3, 1)) ∧ (decode code 1043 = .ok (.iconst 2, 1)) ∧ (decode code 1044 = .ok (.iadd, 1)) ∧ (decode code 1045 = .ok (.iaload, 1)) ∧ (decode code 1046 = .ok (.aload_n 0, 1)) ∧ (decode code 1047 = .ok (.iload_n 3, 1)) := by decide +kernel
theorem d_QuotaLawsLaw_law_1036 : decode code 1036 = .ok (.aload_n 0, 1) := dd_QuotaLawsLaw_law_1036.1
theorem d_QuotaLawsLaw_law_1037 : decode code 1037 = .ok (.iload_n 3, 1) := dd_QuotaLawsLaw_law_1036.2.1
theorem d_QuotaLawsLaw_law_1038 : decode code 1038 = .ok (.iconst 1, 1) := dd_QuotaLawsLaw_law_1036.2.2.1
theorem d_QuotaLawsLaw_law_1039 : decode code 1039 = .ok (.iadd, 1) := dd_QuotaLawsLaw_law_1036.2.2.2.1
theorem d_QuotaLawsLaw_law_1040 : decode code 1040 = .ok (.iaload, 1) := dd_QuotaLawsLaw_law_1036.2.2.2.2.1
theorem d_QuotaLawsLaw_law_1041 : decode code 1041 = .ok (.aload_n 0, 1) := dd_QuotaLawsLaw_law_1036.2.2.2.2.2.1
theorem d_QuotaLawsLaw_law_1042 : decode code 1042 = .ok (.iload_n 3, 1) := dd_QuotaLawsLaw_law_1036.2.2.2.2.2.2.1
theorem d_QuotaLawsLaw_law_1043 : decode code 1043 = .ok (.iconst 2, 1) := dd_QuotaLawsLaw_law_1036.2.2.2.2.2.2.2.1
theorem d_QuotaLawsLaw_law_1044 : decode code 1044 = .ok (.iadd, 1) := dd_QuotaLawsLaw_law_1036.2.2.2.2.2.2.2.2.1
theorem d_QuotaLawsLaw_law_1045 : decode code 1045 = .ok (.iaload, 1) := dd_QuotaLawsLaw_law_1036.2.2.2.2.2.2.2.2.2.1
theorem d_QuotaLawsLaw_law_1046 : decode code 1046 = .ok (.aload_n 0, 1) := dd_QuotaLawsLaw_law_1036.2.2.2.2.2.2.2.2.2.2.1
theorem d_QuotaLawsLaw_law_1047 : decode code 1047 = .ok (.iload_n 3, 1) := dd_QuotaLawsLaw_law_1036.2.2.2.2.2.2.2.2.2.2.2
theorem dd_QuotaLawsLaw_law_1048 : (decode code 1048 = .ok (.iconst 3, 1)) ∧ (decode code 1049 = .ok (.iadd, 1)) ∧ (decode code 1050 = .ok (.iaload, 1)) ∧ (decode code 1051 = .ok (.invokevirtual 137, 3)) ∧ (decode code 1054 = .ok (.pop, 1)) ∧ (decode code 1055 = .ok (.aload_n 2, 1)) ∧ (decode code 1056 = .ok (.aload_n 0, 1)) ∧ (decode code 1057 = .ok (.iload_n 3, 1)) ∧ (decode code 1058 = .ok (.iconst 1, 1)) ∧ (decode code 1059 = .ok (.iadd, 1)) ∧ (decode code 1060 = .ok (.iaload, 1)) ∧ (decode code 1061 = .ok (.aload_n 0, 1)) := by decide +kernel
theorem d_QuotaLawsLaw_law_1048 : decode code 1048 = .ok (.iconst 3, 1) := dd_QuotaLawsLaw_law_1048.1
theorem d_QuotaLawsLaw_law_1049 : decode code 1049 = .ok (.iadd, 1) := dd_QuotaLawsLaw_law_1048.2.1
theorem d_QuotaLawsLaw_law_1050 : decode code 1050 = .ok (.iaload, 1) := dd_QuotaLawsLaw_law_1048.2.2.1
theorem d_QuotaLawsLaw_law_1051 : decode code 1051 = .ok (.invokevirtual 137, 3) := dd_QuotaLawsLaw_law_1048.2.2.2.1
theorem d_QuotaLawsLaw_law_1054 : decode code 1054 = .ok (.pop, 1) := dd_QuotaLawsLaw_law_1048.2.2.2.2.1
theorem d_QuotaLawsLaw_law_1055 : decode code 1055 = .ok (.aload_n 2, 1) := dd_QuotaLawsLaw_law_1048.2.2.2.2.2.1
theorem d_QuotaLawsLaw_law_1056 : decode code 1056 = .ok (.aload_n 0, 1) := dd_QuotaLawsLaw_law_1048.2.2.2.2.2.2.1
theorem d_QuotaLawsLaw_law_1057 : decode code 1057 = .ok (.iload_n 3, 1) := dd_QuotaLawsLaw_law_1048.2.2.2.2.2.2.2.1
theorem d_QuotaLawsLaw_law_1058 : decode code 1058 = .ok (.iconst 1, 1) := dd_QuotaLawsLaw_law_1048.2.2.2.2.2.2.2.2.1
theorem d_QuotaLawsLaw_law_1059 : decode code 1059 = .ok (.iadd, 1) := dd_QuotaLawsLaw_law_1048.2.2.2.2.2.2.2.2.2.1
theorem d_QuotaLawsLaw_law_1060 : decode code 1060 = .ok (.iaload, 1) := dd_QuotaLawsLaw_law_1048.2.2.2.2.2.2.2.2.2.2.1
theorem d_QuotaLawsLaw_law_1061 : decode code 1061 = .ok (.aload_n 0, 1) := dd_QuotaLawsLaw_law_1048.2.2.2.2.2.2.2.2.2.2.2
theorem dd_QuotaLawsLaw_law_1062 : (decode code 1062 = .ok (.iload_n 3, 1)) ∧ (decode code 1063 = .ok (.iconst 2, 1)) ∧ (decode code 1064 = .ok (.iadd, 1)) ∧ (decode code 1065 = .ok (.iaload, 1)) ∧ (decode code 1066 = .ok (.aload_n 0, 1)) ∧ (decode code 1067 = .ok (.iload_n 3, 1)) ∧ (decode code 1068 = .ok (.iconst 3, 1)) ∧ (decode code 1069 = .ok (.iadd, 1)) ∧ (decode code 1070 = .ok (.iaload, 1)) ∧ (decode code 1071 = .ok (.invokevirtual 140, 3)) ∧ (decode code 1074 = .ok (.pop, 1)) ∧ (decode code 1075 = .ok (.goto 267, 3)) := by decide +kernel
theorem d_QuotaLawsLaw_law_1062 : decode code 1062 = .ok (.iload_n 3, 1) := dd_QuotaLawsLaw_law_1062.1
theorem d_QuotaLawsLaw_law_1063 : decode code 1063 = .ok (.iconst 2, 1) := dd_QuotaLawsLaw_law_1062.2.1
theorem d_QuotaLawsLaw_law_1064 : decode code 1064 = .ok (.iadd, 1) := dd_QuotaLawsLaw_law_1062.2.2.1
theorem d_QuotaLawsLaw_law_1065 : decode code 1065 = .ok (.iaload, 1) := dd_QuotaLawsLaw_law_1062.2.2.2.1
theorem d_QuotaLawsLaw_law_1066 : decode code 1066 = .ok (.aload_n 0, 1) := dd_QuotaLawsLaw_law_1062.2.2.2.2.1
theorem d_QuotaLawsLaw_law_1067 : decode code 1067 = .ok (.iload_n 3, 1) := dd_QuotaLawsLaw_law_1062.2.2.2.2.2.1
theorem d_QuotaLawsLaw_law_1068 : decode code 1068 = .ok (.iconst 3, 1) := dd_QuotaLawsLaw_law_1062.2.2.2.2.2.2.1
theorem d_QuotaLawsLaw_law_1069 : decode code 1069 = .ok (.iadd, 1) := dd_QuotaLawsLaw_law_1062.2.2.2.2.2.2.2.1
theorem d_QuotaLawsLaw_law_1070 : decode code 1070 = .ok (.iaload, 1) := dd_QuotaLawsLaw_law_1062.2.2.2.2.2.2.2.2.1
theorem d_QuotaLawsLaw_law_1071 : decode code 1071 = .ok (.invokevirtual 140, 3) := dd_QuotaLawsLaw_law_1062.2.2.2.2.2.2.2.2.2.1
theorem d_QuotaLawsLaw_law_1074 : decode code 1074 = .ok (.pop, 1) := dd_QuotaLawsLaw_law_1062.2.2.2.2.2.2.2.2.2.2.1
theorem d_QuotaLawsLaw_law_1075 : decode code 1075 = .ok (.goto 267, 3) := dd_QuotaLawsLaw_law_1062.2.2.2.2.2.2.2.2.2.2.2
theorem dd_QuotaLawsLaw_law_1078 : (decode code 1078 = .ok (.aload_n 1, 1)) ∧ (decode code 1079 = .ok (.aload_n 0, 1)) ∧ (decode code 1080 = .ok (.iload_n 3, 1)) ∧ (decode code 1081 = .ok (.iconst 1, 1)) ∧ (decode code 1082 = .ok (.iadd, 1)) ∧ (decode code 1083 = .ok (.iaload, 1)) ∧ (decode code 1084 = .ok (.aload_n 0, 1)) ∧ (decode code 1085 = .ok (.iload_n 3, 1)) ∧ (decode code 1086 = .ok (.iconst 2, 1)) ∧ (decode code 1087 = .ok (.iadd, 1)) ∧ (decode code 1088 = .ok (.iaload, 1)) ∧ (decode code 1089 = .ok (.aload_n 0, 1)) := by decide +kernel
theorem d_QuotaLawsLaw_law_1078 : decode code 1078 = .ok (.aload_n 1, 1) := dd_QuotaLawsLaw_law_1078.1
theorem d_QuotaLawsLaw_law_1079 : decode code 1079 = .ok (.aload_n 0, 1) := dd_QuotaLawsLaw_law_1078.2.1
theorem d_QuotaLawsLaw_law_1080 : decode code 1080 = .ok (.iload_n 3, 1) := dd_QuotaLawsLaw_law_1078.2.2.1
theorem d_QuotaLawsLaw_law_1081 : decode code 1081 = .ok (.iconst 1, 1) := dd_QuotaLawsLaw_law_1078.2.2.2.1
theorem d_QuotaLawsLaw_law_1082 : decode code 1082 = .ok (.iadd, 1) := dd_QuotaLawsLaw_law_1078.2.2.2.2.1
theorem d_QuotaLawsLaw_law_1083 : decode code 1083 = .ok (.iaload, 1) := dd_QuotaLawsLaw_law_1078.2.2.2.2.2.1
theorem d_QuotaLawsLaw_law_1084 : decode code 1084 = .ok (.aload_n 0, 1) := dd_QuotaLawsLaw_law_1078.2.2.2.2.2.2.1
theorem d_QuotaLawsLaw_law_1085 : decode code 1085 = .ok (.iload_n 3, 1) := dd_QuotaLawsLaw_law_1078.2.2.2.2.2.2.2.1
theorem d_QuotaLawsLaw_law_1086 : decode code 1086 = .ok (.iconst 2, 1) := dd_QuotaLawsLaw_law_1078.2.2.2.2.2.2.2.2.1
theorem d_QuotaLawsLaw_law_1087 : decode code 1087 = .ok (.iadd, 1) := dd_QuotaLawsLaw_law_1078.2.2.2.2.2.2.2.2.2.1
theorem d_QuotaLawsLaw_law_1088 : decode code 1088 = .ok (.iaload, 1) := dd_QuotaLawsLaw_law_1078.2.2.2.2.2.2.2.2.2.2.1
theorem d_QuotaLawsLaw_law_1089 : decode code 1089 = .ok (.aload_n 0, 1) := dd_QuotaLawsLaw_law_1078.2.2.2.2.2.2.2.2.2.2.2
theorem dd_QuotaLawsLaw_law_1090 : (decode code 1090 = .ok (.iload_n 3, 1)) ∧ (decode code 1091 = .ok (.iconst 3, 1)) ∧ (decode code 1092 = .ok (.iadd, 1)) ∧ (decode code 1093 = .ok (.iaload, 1)) ∧ (decode code 1094 = .ok (.invokevirtual 141, 3)) ∧ (decode code 1097 = .ok (.pop, 1)) ∧ (decode code 1098 = .ok (.aload_n 2, 1)) ∧ (decode code 1099 = .ok (.aload_n 0, 1)) ∧ (decode code 1100 = .ok (.iload_n 3, 1)) ∧ (decode code 1101 = .ok (.iconst 1, 1)) ∧ (decode code 1102 = .ok (.iadd, 1)) ∧ (decode code 1103 = .ok (.iaload, 1)) := by decide +kernel
theorem d_QuotaLawsLaw_law_1090 : decode code 1090 = .ok (.iload_n 3, 1) := dd_QuotaLawsLaw_law_1090.1
theorem d_QuotaLawsLaw_law_1091 : decode code 1091 = .ok (.iconst 3, 1) := dd_QuotaLawsLaw_law_1090.2.1
theorem d_QuotaLawsLaw_law_1092 : decode code 1092 = .ok (.iadd, 1) := dd_QuotaLawsLaw_law_1090.2.2.1
theorem d_QuotaLawsLaw_law_1093 : decode code 1093 = .ok (.iaload, 1) := dd_QuotaLawsLaw_law_1090.2.2.2.1
theorem d_QuotaLawsLaw_law_1094 : decode code 1094 = .ok (.invokevirtual 141, 3) := dd_QuotaLawsLaw_law_1090.2.2.2.2.1
theorem d_QuotaLawsLaw_law_1097 : decode code 1097 = .ok (.pop, 1) := dd_QuotaLawsLaw_law_1090.2.2.2.2.2.1
theorem d_QuotaLawsLaw_law_1098 : decode code 1098 = .ok (.aload_n 2, 1) := dd_QuotaLawsLaw_law_1090.2.2.2.2.2.2.1
theorem d_QuotaLawsLaw_law_1099 : decode code 1099 = .ok (.aload_n 0, 1) := dd_QuotaLawsLaw_law_1090.2.2.2.2.2.2.2.1
theorem d_QuotaLawsLaw_law_1100 : decode code 1100 = .ok (.iload_n 3, 1) := dd_QuotaLawsLaw_law_1090.2.2.2.2.2.2.2.2.1
theorem d_QuotaLawsLaw_law_1101 : decode code 1101 = .ok (.iconst 1, 1) := dd_QuotaLawsLaw_law_1090.2.2.2.2.2.2.2.2.2.1
theorem d_QuotaLawsLaw_law_1102 : decode code 1102 = .ok (.iadd, 1) := dd_QuotaLawsLaw_law_1090.2.2.2.2.2.2.2.2.2.2.1
theorem d_QuotaLawsLaw_law_1103 : decode code 1103 = .ok (.iaload, 1) := dd_QuotaLawsLaw_law_1090.2.2.2.2.2.2.2.2.2.2.2
theorem dd_QuotaLawsLaw_law_1104 : (decode code 1104 = .ok (.aload_n 0, 1)) ∧ (decode code 1105 = .ok (.iload_n 3, 1)) ∧ (decode code 1106 = .ok (.iconst 2, 1)) ∧ (decode code 1107 = .ok (.iadd, 1)) ∧ (decode code 1108 = .ok (.iaload, 1)) ∧ (decode code 1109 = .ok (.aload_n 0, 1)) ∧ (decode code 1110 = .ok (.iload_n 3, 1)) ∧ (decode code 1111 = .ok (.iconst 3, 1)) ∧ (decode code 1112 = .ok (.iadd, 1)) ∧ (decode code 1113 = .ok (.iaload, 1)) ∧ (decode code 1114 = .ok (.invokevirtual 144, 3)) ∧ (decode code 1117 = .ok (.pop, 1)) := by decide +kernel
theorem d_QuotaLawsLaw_law_1104 : decode code 1104 = .ok (.aload_n 0, 1) := dd_QuotaLawsLaw_law_1104.1
theorem d_QuotaLawsLaw_law_1105 : decode code 1105 = .ok (.iload_n 3, 1) := dd_QuotaLawsLaw_law_1104.2.1
theorem d_QuotaLawsLaw_law_1106 : decode code 1106 = .ok (.iconst 2, 1) := dd_QuotaLawsLaw_law_1104.2.2.1
theorem d_QuotaLawsLaw_law_1107 : decode code 1107 = .ok (.iadd, 1) := dd_QuotaLawsLaw_law_1104.2.2.2.1
theorem d_QuotaLawsLaw_law_1108 : decode code 1108 = .ok (.iaload, 1) := dd_QuotaLawsLaw_law_1104.2.2.2.2.1
theorem d_QuotaLawsLaw_law_1109 : decode code 1109 = .ok (.aload_n 0, 1) := dd_QuotaLawsLaw_law_1104.2.2.2.2.2.1
theorem d_QuotaLawsLaw_law_1110 : decode code 1110 = .ok (.iload_n 3, 1) := dd_QuotaLawsLaw_law_1104.2.2.2.2.2.2.1
theorem d_QuotaLawsLaw_law_1111 : decode code 1111 = .ok (.iconst 3, 1) := dd_QuotaLawsLaw_law_1104.2.2.2.2.2.2.2.1
theorem d_QuotaLawsLaw_law_1112 : decode code 1112 = .ok (.iadd, 1) := dd_QuotaLawsLaw_law_1104.2.2.2.2.2.2.2.2.1
theorem d_QuotaLawsLaw_law_1113 : decode code 1113 = .ok (.iaload, 1) := dd_QuotaLawsLaw_law_1104.2.2.2.2.2.2.2.2.2.1
theorem d_QuotaLawsLaw_law_1114 : decode code 1114 = .ok (.invokevirtual 144, 3) := dd_QuotaLawsLaw_law_1104.2.2.2.2.2.2.2.2.2.2.1
theorem d_QuotaLawsLaw_law_1117 : decode code 1117 = .ok (.pop, 1) := dd_QuotaLawsLaw_law_1104.2.2.2.2.2.2.2.2.2.2.2
theorem dd_QuotaLawsLaw_law_1118 : (decode code 1118 = .ok (.goto 224, 3)) ∧ (decode code 1121 = .ok (.aload_n 1, 1)) ∧ (decode code 1122 = .ok (.aload_n 0, 1)) ∧ (decode code 1123 = .ok (.iload_n 3, 1)) ∧ (decode code 1124 = .ok (.iconst 1, 1)) ∧ (decode code 1125 = .ok (.iadd, 1)) ∧ (decode code 1126 = .ok (.iaload, 1)) ∧ (decode code 1127 = .ok (.invokevirtual 145, 3)) ∧ (decode code 1130 = .ok (.pop, 1)) ∧ (decode code 1131 = .ok (.aload_n 2, 1)) ∧ (decode code 1132 = .ok (.aload_n 0, 1)) ∧ (decode code 1133 = .ok (.iload_n 3, 1)) := by decide +kernel
theorem d_QuotaLawsLaw_law_1118 : decode code 1118 = .ok (.goto 224, 3) := dd_QuotaLawsLaw_law_1118.1
theorem d_QuotaLawsLaw_law_1121 : decode code 1121 = .ok (.aload_n 1, 1) := dd_QuotaLawsLaw_law_1118.2.1
theorem d_QuotaLawsLaw_law_1122 : decode code 1122 = .ok (.aload_n 0, 1) := dd_QuotaLawsLaw_law_1118.2.2.1
theorem d_QuotaLawsLaw_law_1123 : decode code 1123 = .ok (.iload_n 3, 1) := dd_QuotaLawsLaw_law_1118.2.2.2.1
theorem d_QuotaLawsLaw_law_1124 : decode code 1124 = .ok (.iconst 1, 1) := dd_QuotaLawsLaw_law_1118.2.2.2.2.1
theorem d_QuotaLawsLaw_law_1125 : decode code 1125 = .ok (.iadd, 1) := dd_QuotaLawsLaw_law_1118.2.2.2.2.2.1
theorem d_QuotaLawsLaw_law_1126 : decode code 1126 = .ok (.iaload, 1) := dd_QuotaLawsLaw_law_1118.2.2.2.2.2.2.1
theorem d_QuotaLawsLaw_law_1127 : decode code 1127 = .ok (.invokevirtual 145, 3) := dd_QuotaLawsLaw_law_1118.2.2.2.2.2.2.2.1
theorem d_QuotaLawsLaw_law_1130 : decode code 1130 = .ok (.pop, 1) := dd_QuotaLawsLaw_law_1118.2.2.2.2.2.2.2.2.1
theorem d_QuotaLawsLaw_law_1131 : decode code 1131 = .ok (.aload_n 2, 1) := dd_QuotaLawsLaw_law_1118.2.2.2.2.2.2.2.2.2.1
theorem d_QuotaLawsLaw_law_1132 : decode code 1132 = .ok (.aload_n 0, 1) := dd_QuotaLawsLaw_law_1118.2.2.2.2.2.2.2.2.2.2.1
theorem d_QuotaLawsLaw_law_1133 : decode code 1133 = .ok (.iload_n 3, 1) := dd_QuotaLawsLaw_law_1118.2.2.2.2.2.2.2.2.2.2.2
theorem dd_QuotaLawsLaw_law_1134 : (decode code 1134 = .ok (.iconst 1, 1)) ∧ (decode code 1135 = .ok (.iadd, 1)) ∧ (decode code 1136 = .ok (.iaload, 1)) ∧ (decode code 1137 = .ok (.invokevirtual 148, 3)) ∧ (decode code 1140 = .ok (.pop, 1)) ∧ (decode code 1141 = .ok (.goto 201, 3)) ∧ (decode code 1144 = .ok (.aload_n 1, 1)) ∧ (decode code 1145 = .ok (.aload_n 0, 1)) ∧ (decode code 1146 = .ok (.iload_n 3, 1)) ∧ (decode code 1147 = .ok (.iconst 1, 1)) ∧ (decode code 1148 = .ok (.iadd, 1)) ∧ (decode code 1149 = .ok (.iaload, 1)) := by decide +kernel
theorem d_QuotaLawsLaw_law_1134 : decode code 1134 = .ok (.iconst 1, 1) := dd_QuotaLawsLaw_law_1134.1
theorem d_QuotaLawsLaw_law_1135 : decode code 1135 = .ok (.iadd, 1) := dd_QuotaLawsLaw_law_1134.2.1
theorem d_QuotaLawsLaw_law_1136 : decode code 1136 = .ok (.iaload, 1) := dd_QuotaLawsLaw_law_1134.2.2.1
theorem d_QuotaLawsLaw_law_1137 : decode code 1137 = .ok (.invokevirtual 148, 3) := dd_QuotaLawsLaw_law_1134.2.2.2.1
theorem d_QuotaLawsLaw_law_1140 : decode code 1140 = .ok (.pop, 1) := dd_QuotaLawsLaw_law_1134.2.2.2.2.1
theorem d_QuotaLawsLaw_law_1141 : decode code 1141 = .ok (.goto 201, 3) := dd_QuotaLawsLaw_law_1134.2.2.2.2.2.1
theorem d_QuotaLawsLaw_law_1144 : decode code 1144 = .ok (.aload_n 1, 1) := dd_QuotaLawsLaw_law_1134.2.2.2.2.2.2.1
theorem d_QuotaLawsLaw_law_1145 : decode code 1145 = .ok (.aload_n 0, 1) := dd_QuotaLawsLaw_law_1134.2.2.2.2.2.2.2.1
theorem d_QuotaLawsLaw_law_1146 : decode code 1146 = .ok (.iload_n 3, 1) := dd_QuotaLawsLaw_law_1134.2.2.2.2.2.2.2.2.1
theorem d_QuotaLawsLaw_law_1147 : decode code 1147 = .ok (.iconst 1, 1) := dd_QuotaLawsLaw_law_1134.2.2.2.2.2.2.2.2.2.1
theorem d_QuotaLawsLaw_law_1148 : decode code 1148 = .ok (.iadd, 1) := dd_QuotaLawsLaw_law_1134.2.2.2.2.2.2.2.2.2.2.1
theorem d_QuotaLawsLaw_law_1149 : decode code 1149 = .ok (.iaload, 1) := dd_QuotaLawsLaw_law_1134.2.2.2.2.2.2.2.2.2.2.2
theorem dd_QuotaLawsLaw_law_1150 : (decode code 1150 = .ok (.invokevirtual 149, 3)) ∧ (decode code 1153 = .ok (.pop, 1)) ∧ (decode code 1154 = .ok (.aload_n 2, 1)) ∧ (decode code 1155 = .ok (.aload_n 0, 1)) ∧ (decode code 1156 = .ok (.iload_n 3, 1)) ∧ (decode code 1157 = .ok (.iconst 1, 1)) ∧ (decode code 1158 = .ok (.iadd, 1)) ∧ (decode code 1159 = .ok (.iaload, 1)) ∧ (decode code 1160 = .ok (.invokevirtual 152, 3)) ∧ (decode code 1163 = .ok (.pop, 1)) ∧ (decode code 1164 = .ok (.goto 178, 3)) ∧ (decode code 1167 = .ok (.aload_n 1, 1)) := by decide +kernel
theorem d_QuotaLawsLaw_law_1150 : decode code 1150 = .ok (.invokevirtual 149, 3) := dd_QuotaLawsLaw_law_1150.1
theorem d_QuotaLawsLaw_law_1153 : decode code 1153 = .ok (.pop, 1) := dd_QuotaLawsLaw_law_1150.2.1
theorem d_QuotaLawsLaw_law_1154 : decode code 1154 = .ok (.aload_n 2, 1) := dd_QuotaLawsLaw_law_1150.2.2.1
theorem d_QuotaLawsLaw_law_1155 : decode code 1155 = .ok (.aload_n 0, 1) := dd_QuotaLawsLaw_law_1150.2.2.2.1
theorem d_QuotaLawsLaw_law_1156 : decode code 1156 = .ok (.iload_n 3, 1) := dd_QuotaLawsLaw_law_1150.2.2.2.2.1
theorem d_QuotaLawsLaw_law_1157 : decode code 1157 = .ok (.iconst 1, 1) := dd_QuotaLawsLaw_law_1150.2.2.2.2.2.1
theorem d_QuotaLawsLaw_law_1158 : decode code 1158 = .ok (.iadd, 1) := dd_QuotaLawsLaw_law_1150.2.2.2.2.2.2.1
theorem d_QuotaLawsLaw_law_1159 : decode code 1159 = .ok (.iaload, 1) := dd_QuotaLawsLaw_law_1150.2.2.2.2.2.2.2.1
theorem d_QuotaLawsLaw_law_1160 : decode code 1160 = .ok (.invokevirtual 152, 3) := dd_QuotaLawsLaw_law_1150.2.2.2.2.2.2.2.2.1
theorem d_QuotaLawsLaw_law_1163 : decode code 1163 = .ok (.pop, 1) := dd_QuotaLawsLaw_law_1150.2.2.2.2.2.2.2.2.2.1
theorem d_QuotaLawsLaw_law_1164 : decode code 1164 = .ok (.goto 178, 3) := dd_QuotaLawsLaw_law_1150.2.2.2.2.2.2.2.2.2.2.1
theorem d_QuotaLawsLaw_law_1167 : decode code 1167 = .ok (.aload_n 1, 1) := dd_QuotaLawsLaw_law_1150.2.2.2.2.2.2.2.2.2.2.2
theorem dd_QuotaLawsLaw_law_1168 : (decode code 1168 = .ok (.aload_n 0, 1)) ∧ (decode code 1169 = .ok (.iload_n 3, 1)) ∧ (decode code 1170 = .ok (.iconst 1, 1)) ∧ (decode code 1171 = .ok (.iadd, 1)) ∧ (decode code 1172 = .ok (.iaload, 1)) ∧ (decode code 1173 = .ok (.aload_n 0, 1)) ∧ (decode code 1174 = .ok (.iload_n 3, 1)) ∧ (decode code 1175 = .ok (.iconst 2, 1)) ∧ (decode code 1176 = .ok (.iadd, 1)) ∧ (decode code 1177 = .ok (.iaload, 1)) ∧ (decode code 1178 = .ok (.aload_n 0, 1)) ∧ (decode code 1179 = .ok (.iload_n 3, 1)) := by decide +kernel
theorem d_QuotaLawsLaw_law_1168 : decode code 1168 = .ok (.aload_n 0, 1) := dd_QuotaLawsLaw_law_1168.1
theorem d_QuotaLawsLaw_law_1169 : decode code 1169 = .ok (.iload_n 3, 1) := dd_QuotaLawsLaw_law_1168.2.1
theorem d_QuotaLawsLaw_law_1170 : decode code 1170 = .ok (.iconst 1, 1) := dd_QuotaLawsLaw_law_1168.2.2.1
theorem d_QuotaLawsLaw_law_1171 : decode code 1171 = .ok (.iadd, 1) := dd_QuotaLawsLaw_law_1168.2.2.2.1
theorem d_QuotaLawsLaw_law_1172 : decode code 1172 = .ok (.iaload, 1) := dd_QuotaLawsLaw_law_1168.2.2.2.2.1
theorem d_QuotaLawsLaw_law_1173 : decode code 1173 = .ok (.aload_n 0, 1) := dd_QuotaLawsLaw_law_1168.2.2.2.2.2.1
theorem d_QuotaLawsLaw_law_1174 : decode code 1174 = .ok (.iload_n 3, 1) := dd_QuotaLawsLaw_law_1168.2.2.2.2.2.2.1
theorem d_QuotaLawsLaw_law_1175 : decode code 1175 = .ok (.iconst 2, 1) := dd_QuotaLawsLaw_law_1168.2.2.2.2.2.2.2.1
theorem d_QuotaLawsLaw_law_1176 : decode code 1176 = .ok (.iadd, 1) := dd_QuotaLawsLaw_law_1168.2.2.2.2.2.2.2.2.1
theorem d_QuotaLawsLaw_law_1177 : decode code 1177 = .ok (.iaload, 1) := dd_QuotaLawsLaw_law_1168.2.2.2.2.2.2.2.2.2.1
theorem d_QuotaLawsLaw_law_1178 : decode code 1178 = .ok (.aload_n 0, 1) := dd_QuotaLawsLaw_law_1168.2.2.2.2.2.2.2.2.2.2.1
theorem d_QuotaLawsLaw_law_1179 : decode code 1179 = .ok (.iload_n 3, 1) := dd_QuotaLawsLaw_law_1168.2.2.2.2.2.2.2.2.2.2.2
theorem dd_QuotaLawsLaw_law_1180 : (decode code 1180 = .ok (.iconst 3, 1)) ∧ (decode code 1181 = .ok (.iadd, 1)) ∧ (decode code 1182 = .ok (.iaload, 1)) ∧ (decode code 1183 = .ok (.invokevirtual 153, 3)) ∧ (decode code 1186 = .ok (.pop, 1)) ∧ (decode code 1187 = .ok (.aload_n 2, 1)) ∧ (decode code 1188 = .ok (.aload_n 0, 1)) ∧ (decode code 1189 = .ok (.iload_n 3, 1)) ∧ (decode code 1190 = .ok (.iconst 1, 1)) ∧ (decode code 1191 = .ok (.iadd, 1)) ∧ (decode code 1192 = .ok (.iaload, 1)) ∧ (decode code 1193 = .ok (.aload_n 0, 1)) := by decide +kernel
theorem d_QuotaLawsLaw_law_1180 : decode code 1180 = .ok (.iconst 3, 1) := dd_QuotaLawsLaw_law_1180.1
theorem d_QuotaLawsLaw_law_1181 : decode code 1181 = .ok (.iadd, 1) := dd_QuotaLawsLaw_law_1180.2.1
theorem d_QuotaLawsLaw_law_1182 : decode code 1182 = .ok (.iaload, 1) := dd_QuotaLawsLaw_law_1180.2.2.1
theorem d_QuotaLawsLaw_law_1183 : decode code 1183 = .ok (.invokevirtual 153, 3) := dd_QuotaLawsLaw_law_1180.2.2.2.1
theorem d_QuotaLawsLaw_law_1186 : decode code 1186 = .ok (.pop, 1) := dd_QuotaLawsLaw_law_1180.2.2.2.2.1
theorem d_QuotaLawsLaw_law_1187 : decode code 1187 = .ok (.aload_n 2, 1) := dd_QuotaLawsLaw_law_1180.2.2.2.2.2.1
theorem d_QuotaLawsLaw_law_1188 : decode code 1188 = .ok (.aload_n 0, 1) := dd_QuotaLawsLaw_law_1180.2.2.2.2.2.2.1
theorem d_QuotaLawsLaw_law_1189 : decode code 1189 = .ok (.iload_n 3, 1) := dd_QuotaLawsLaw_law_1180.2.2.2.2.2.2.2.1
theorem d_QuotaLawsLaw_law_1190 : decode code 1190 = .ok (.iconst 1, 1) := dd_QuotaLawsLaw_law_1180.2.2.2.2.2.2.2.2.1
theorem d_QuotaLawsLaw_law_1191 : decode code 1191 = .ok (.iadd, 1) := dd_QuotaLawsLaw_law_1180.2.2.2.2.2.2.2.2.2.1
theorem d_QuotaLawsLaw_law_1192 : decode code 1192 = .ok (.iaload, 1) := dd_QuotaLawsLaw_law_1180.2.2.2.2.2.2.2.2.2.2.1
theorem d_QuotaLawsLaw_law_1193 : decode code 1193 = .ok (.aload_n 0, 1) := dd_QuotaLawsLaw_law_1180.2.2.2.2.2.2.2.2.2.2.2
theorem dd_QuotaLawsLaw_law_1194 : (decode code 1194 = .ok (.iload_n 3, 1)) ∧ (decode code 1195 = .ok (.iconst 2, 1)) ∧ (decode code 1196 = .ok (.iadd, 1)) ∧ (decode code 1197 = .ok (.iaload, 1)) ∧ (decode code 1198 = .ok (.aload_n 0, 1)) ∧ (decode code 1199 = .ok (.iload_n 3, 1)) ∧ (decode code 1200 = .ok (.iconst 3, 1)) ∧ (decode code 1201 = .ok (.iadd, 1)) ∧ (decode code 1202 = .ok (.iaload, 1)) ∧ (decode code 1203 = .ok (.invokevirtual 156, 3)) ∧ (decode code 1206 = .ok (.pop, 1)) ∧ (decode code 1207 = .ok (.goto 135, 3)) := by decide +kernel
theorem d_QuotaLawsLaw_law_1194 : decode code 1194 = .ok (.iload_n 3, 1) := dd_QuotaLawsLaw_law_1194.1
theorem d_QuotaLawsLaw_law_1195 : decode code 1195 = .ok (.iconst 2, 1) := dd_QuotaLawsLaw_law_1194.2.1
theorem d_QuotaLawsLaw_law_1196 : decode code 1196 = .ok (.iadd, 1) := dd_QuotaLawsLaw_law_1194.2.2.1
theorem d_QuotaLawsLaw_law_1197 : decode code 1197 = .ok (.iaload, 1) := dd_QuotaLawsLaw_law_1194.2.2.2.1
theorem d_QuotaLawsLaw_law_1198 : decode code 1198 = .ok (.aload_n 0, 1) := dd_QuotaLawsLaw_law_1194.2.2.2.2.1
theorem d_QuotaLawsLaw_law_1199 : decode code 1199 = .ok (.iload_n 3, 1) := dd_QuotaLawsLaw_law_1194.2.2.2.2.2.1
theorem d_QuotaLawsLaw_law_1200 : decode code 1200 = .ok (.iconst 3, 1) := dd_QuotaLawsLaw_law_1194.2.2.2.2.2.2.1
theorem d_QuotaLawsLaw_law_1201 : decode code 1201 = .ok (.iadd, 1) := dd_QuotaLawsLaw_law_1194.2.2.2.2.2.2.2.1
theorem d_QuotaLawsLaw_law_1202 : decode code 1202 = .ok (.iaload, 1) := dd_QuotaLawsLaw_law_1194.2.2.2.2.2.2.2.2.1
theorem d_QuotaLawsLaw_law_1203 : decode code 1203 = .ok (.invokevirtual 156, 3) := dd_QuotaLawsLaw_law_1194.2.2.2.2.2.2.2.2.2.1
theorem d_QuotaLawsLaw_law_1206 : decode code 1206 = .ok (.pop, 1) := dd_QuotaLawsLaw_law_1194.2.2.2.2.2.2.2.2.2.2.1
theorem d_QuotaLawsLaw_law_1207 : decode code 1207 = .ok (.goto 135, 3) := dd_QuotaLawsLaw_law_1194.2.2.2.2.2.2.2.2.2.2.2
theorem dd_QuotaLawsLaw_law_1210 : (decode code 1210 = .ok (.aload_n 1, 1)) ∧ (decode code 1211 = .ok (.aload_n 0, 1)) ∧ (decode code 1212 = .ok (.iload_n 3, 1)) ∧ (decode code 1213 = .ok (.iconst 1, 1)) ∧ (decode code 1214 = .ok (.iadd, 1)) ∧ (decode code 1215 = .ok (.iaload, 1)) ∧ (decode code 1216 = .ok (.aload_n 0, 1)) ∧ (decode code 1217 = .ok (.iload_n 3, 1)) ∧ (decode code 1218 = .ok (.iconst 2, 1)) ∧ (decode code 1219 = .ok (.iadd, 1)) ∧ (decode code 1220 = .ok (.iaload, 1)) ∧ (decode code 1221 = .ok (.aload_n 0, 1)) := by decide +kernel
theorem d_QuotaLawsLaw_law_1210 : decode code 1210 = .ok (.aload_n 1, 1) := dd_QuotaLawsLaw_law_1210.1
theorem d_QuotaLawsLaw_law_1211 : decode code 1211 = .ok (.aload_n 0, 1) := dd_QuotaLawsLaw_law_1210.2.1
theorem d_QuotaLawsLaw_law_1212 : decode code 1212 = .ok (.iload_n 3, 1) := dd_QuotaLawsLaw_law_1210.2.2.1
theorem d_QuotaLawsLaw_law_1213 : decode code 1213 = .ok (.iconst 1, 1) := dd_QuotaLawsLaw_law_1210.2.2.2.1
theorem d_QuotaLawsLaw_law_1214 : decode code 1214 = .ok (.iadd, 1) := dd_QuotaLawsLaw_law_1210.2.2.2.2.1
theorem d_QuotaLawsLaw_law_1215 : decode code 1215 = .ok (.iaload, 1) := dd_QuotaLawsLaw_law_1210.2.2.2.2.2.1
theorem d_QuotaLawsLaw_law_1216 : decode code 1216 = .ok (.aload_n 0, 1) := dd_QuotaLawsLaw_law_1210.2.2.2.2.2.2.1
theorem d_QuotaLawsLaw_law_1217 : decode code 1217 = .ok (.iload_n 3, 1) := dd_QuotaLawsLaw_law_1210.2.2.2.2.2.2.2.1
theorem d_QuotaLawsLaw_law_1218 : decode code 1218 = .ok (.iconst 2, 1) := dd_QuotaLawsLaw_law_1210.2.2.2.2.2.2.2.2.1
theorem d_QuotaLawsLaw_law_1219 : decode code 1219 = .ok (.iadd, 1) := dd_QuotaLawsLaw_law_1210.2.2.2.2.2.2.2.2.2.1
theorem d_QuotaLawsLaw_law_1220 : decode code 1220 = .ok (.iaload, 1) := dd_QuotaLawsLaw_law_1210.2.2.2.2.2.2.2.2.2.2.1
theorem d_QuotaLawsLaw_law_1221 : decode code 1221 = .ok (.aload_n 0, 1) := dd_QuotaLawsLaw_law_1210.2.2.2.2.2.2.2.2.2.2.2
theorem dd_QuotaLawsLaw_law_1222 : (decode code 1222 = .ok (.iload_n 3, 1)) ∧ (decode code 1223 = .ok (.iconst 3, 1)) ∧ (decode code 1224 = .ok (.iadd, 1)) ∧ (decode code 1225 = .ok (.iaload, 1)) ∧ (decode code 1226 = .ok (.invokevirtual 157, 3)) ∧ (decode code 1229 = .ok (.pop, 1)) ∧ (decode code 1230 = .ok (.aload_n 2, 1)) ∧ (decode code 1231 = .ok (.aload_n 0, 1)) ∧ (decode code 1232 = .ok (.iload_n 3, 1)) ∧ (decode code 1233 = .ok (.iconst 1, 1)) ∧ (decode code 1234 = .ok (.iadd, 1)) ∧ (decode code 1235 = .ok (.iaload, 1)) := by decide +kernel
theorem d_QuotaLawsLaw_law_1222 : decode code 1222 = .ok (.iload_n 3, 1) := dd_QuotaLawsLaw_law_1222.1
theorem d_QuotaLawsLaw_law_1223 : decode code 1223 = .ok (.iconst 3, 1) := dd_QuotaLawsLaw_law_1222.2.1
theorem d_QuotaLawsLaw_law_1224 : decode code 1224 = .ok (.iadd, 1) := dd_QuotaLawsLaw_law_1222.2.2.1
theorem d_QuotaLawsLaw_law_1225 : decode code 1225 = .ok (.iaload, 1) := dd_QuotaLawsLaw_law_1222.2.2.2.1
theorem d_QuotaLawsLaw_law_1226 : decode code 1226 = .ok (.invokevirtual 157, 3) := dd_QuotaLawsLaw_law_1222.2.2.2.2.1
theorem d_QuotaLawsLaw_law_1229 : decode code 1229 = .ok (.pop, 1) := dd_QuotaLawsLaw_law_1222.2.2.2.2.2.1
theorem d_QuotaLawsLaw_law_1230 : decode code 1230 = .ok (.aload_n 2, 1) := dd_QuotaLawsLaw_law_1222.2.2.2.2.2.2.1
theorem d_QuotaLawsLaw_law_1231 : decode code 1231 = .ok (.aload_n 0, 1) := dd_QuotaLawsLaw_law_1222.2.2.2.2.2.2.2.1
theorem d_QuotaLawsLaw_law_1232 : decode code 1232 = .ok (.iload_n 3, 1) := dd_QuotaLawsLaw_law_1222.2.2.2.2.2.2.2.2.1
theorem d_QuotaLawsLaw_law_1233 : decode code 1233 = .ok (.iconst 1, 1) := dd_QuotaLawsLaw_law_1222.2.2.2.2.2.2.2.2.2.1
theorem d_QuotaLawsLaw_law_1234 : decode code 1234 = .ok (.iadd, 1) := dd_QuotaLawsLaw_law_1222.2.2.2.2.2.2.2.2.2.2.1
theorem d_QuotaLawsLaw_law_1235 : decode code 1235 = .ok (.iaload, 1) := dd_QuotaLawsLaw_law_1222.2.2.2.2.2.2.2.2.2.2.2
theorem dd_QuotaLawsLaw_law_1236 : (decode code 1236 = .ok (.aload_n 0, 1)) ∧ (decode code 1237 = .ok (.iload_n 3, 1)) ∧ (decode code 1238 = .ok (.iconst 2, 1)) ∧ (decode code 1239 = .ok (.iadd, 1)) ∧ (decode code 1240 = .ok (.iaload, 1)) ∧ (decode code 1241 = .ok (.aload_n 0, 1)) ∧ (decode code 1242 = .ok (.iload_n 3, 1)) ∧ (decode code 1243 = .ok (.iconst 3, 1)) ∧ (decode code 1244 = .ok (.iadd, 1)) ∧ (decode code 1245 = .ok (.iaload, 1)) ∧ (decode code 1246 = .ok (.invokevirtual 160, 3)) ∧ (decode code 1249 = .ok (.pop, 1)) := by decide +kernel
theorem d_QuotaLawsLaw_law_1236 : decode code 1236 = .ok (.aload_n 0, 1) := dd_QuotaLawsLaw_law_1236.1
theorem d_QuotaLawsLaw_law_1237 : decode code 1237 = .ok (.iload_n 3, 1) := dd_QuotaLawsLaw_law_1236.2.1
theorem d_QuotaLawsLaw_law_1238 : decode code 1238 = .ok (.iconst 2, 1) := dd_QuotaLawsLaw_law_1236.2.2.1
theorem d_QuotaLawsLaw_law_1239 : decode code 1239 = .ok (.iadd, 1) := dd_QuotaLawsLaw_law_1236.2.2.2.1
theorem d_QuotaLawsLaw_law_1240 : decode code 1240 = .ok (.iaload, 1) := dd_QuotaLawsLaw_law_1236.2.2.2.2.1
theorem d_QuotaLawsLaw_law_1241 : decode code 1241 = .ok (.aload_n 0, 1) := dd_QuotaLawsLaw_law_1236.2.2.2.2.2.1
theorem d_QuotaLawsLaw_law_1242 : decode code 1242 = .ok (.iload_n 3, 1) := dd_QuotaLawsLaw_law_1236.2.2.2.2.2.2.1
theorem d_QuotaLawsLaw_law_1243 : decode code 1243 = .ok (.iconst 3, 1) := dd_QuotaLawsLaw_law_1236.2.2.2.2.2.2.2.1
theorem d_QuotaLawsLaw_law_1244 : decode code 1244 = .ok (.iadd, 1) := dd_QuotaLawsLaw_law_1236.2.2.2.2.2.2.2.2.1
theorem d_QuotaLawsLaw_law_1245 : decode code 1245 = .ok (.iaload, 1) := dd_QuotaLawsLaw_law_1236.2.2.2.2.2.2.2.2.2.1
theorem d_QuotaLawsLaw_law_1246 : decode code 1246 = .ok (.invokevirtual 160, 3) := dd_QuotaLawsLaw_law_1236.2.2.2.2.2.2.2.2.2.2.1
theorem d_QuotaLawsLaw_law_1249 : decode code 1249 = .ok (.pop, 1) := dd_QuotaLawsLaw_law_1236.2.2.2.2.2.2.2.2.2.2.2
theorem dd_QuotaLawsLaw_law_1250 : (decode code 1250 = .ok (.goto 92, 3)) ∧ (decode code 1253 = .ok (.aload_n 1, 1)) ∧ (decode code 1254 = .ok (.aload_n 0, 1)) ∧ (decode code 1255 = .ok (.iload_n 3, 1)) ∧ (decode code 1256 = .ok (.iconst 1, 1)) ∧ (decode code 1257 = .ok (.iadd, 1)) ∧ (decode code 1258 = .ok (.iaload, 1)) ∧ (decode code 1259 = .ok (.aload_n 0, 1)) ∧ (decode code 1260 = .ok (.iload_n 3, 1)) ∧ (decode code 1261 = .ok (.iconst 2, 1)) ∧ (decode code 1262 = .ok (.iadd, 1)) ∧ (decode code 1263 = .ok (.iaload, 1)) := by decide +kernel
theorem d_QuotaLawsLaw_law_1250 : decode code 1250 = .ok (.goto 92, 3) := dd_QuotaLawsLaw_law_1250.1
theorem d_QuotaLawsLaw_law_1253 : decode code 1253 = .ok (.aload_n 1, 1) := dd_QuotaLawsLaw_law_1250.2.1
theorem d_QuotaLawsLaw_law_1254 : decode code 1254 = .ok (.aload_n 0, 1) := dd_QuotaLawsLaw_law_1250.2.2.1
theorem d_QuotaLawsLaw_law_1255 : decode code 1255 = .ok (.iload_n 3, 1) := dd_QuotaLawsLaw_law_1250.2.2.2.1
theorem d_QuotaLawsLaw_law_1256 : decode code 1256 = .ok (.iconst 1, 1) := dd_QuotaLawsLaw_law_1250.2.2.2.2.1
theorem d_QuotaLawsLaw_law_1257 : decode code 1257 = .ok (.iadd, 1) := dd_QuotaLawsLaw_law_1250.2.2.2.2.2.1
theorem d_QuotaLawsLaw_law_1258 : decode code 1258 = .ok (.iaload, 1) := dd_QuotaLawsLaw_law_1250.2.2.2.2.2.2.1
theorem d_QuotaLawsLaw_law_1259 : decode code 1259 = .ok (.aload_n 0, 1) := dd_QuotaLawsLaw_law_1250.2.2.2.2.2.2.2.1
theorem d_QuotaLawsLaw_law_1260 : decode code 1260 = .ok (.iload_n 3, 1) := dd_QuotaLawsLaw_law_1250.2.2.2.2.2.2.2.2.1
theorem d_QuotaLawsLaw_law_1261 : decode code 1261 = .ok (.iconst 2, 1) := dd_QuotaLawsLaw_law_1250.2.2.2.2.2.2.2.2.2.1
theorem d_QuotaLawsLaw_law_1262 : decode code 1262 = .ok (.iadd, 1) := dd_QuotaLawsLaw_law_1250.2.2.2.2.2.2.2.2.2.2.1
theorem d_QuotaLawsLaw_law_1263 : decode code 1263 = .ok (.iaload, 1) := dd_QuotaLawsLaw_law_1250.2.2.2.2.2.2.2.2.2.2.2
theorem dd_QuotaLawsLaw_law_1264 : (decode code 1264 = .ok (.aload_n 0, 1)) ∧ (decode code 1265 = .ok (.iload_n 3, 1)) ∧ (decode code 1266 = .ok (.iconst 3, 1)) ∧ (decode code 1267 = .ok (.iadd, 1)) ∧ (decode code 1268 = .ok (.iaload, 1)) ∧ (decode code 1269 = .ok (.aload_n 0, 1)) ∧ (decode code 1270 = .ok (.iload_n 3, 1)) ∧ (decode code 1271 = .ok (.iconst 4, 1)) ∧ (decode code 1272 = .ok (.iadd, 1)) ∧ (decode code 1273 = .ok (.iaload, 1)) ∧ (decode code 1274 = .ok (.invokevirtual 161, 3)) ∧ (decode code 1277 = .ok (.pop, 1)) := by decide +kernel
theorem d_QuotaLawsLaw_law_1264 : decode code 1264 = .ok (.aload_n 0, 1) := dd_QuotaLawsLaw_law_1264.1
theorem d_QuotaLawsLaw_law_1265 : decode code 1265 = .ok (.iload_n 3, 1) := dd_QuotaLawsLaw_law_1264.2.1
theorem d_QuotaLawsLaw_law_1266 : decode code 1266 = .ok (.iconst 3, 1) := dd_QuotaLawsLaw_law_1264.2.2.1
theorem d_QuotaLawsLaw_law_1267 : decode code 1267 = .ok (.iadd, 1) := dd_QuotaLawsLaw_law_1264.2.2.2.1
theorem d_QuotaLawsLaw_law_1268 : decode code 1268 = .ok (.iaload, 1) := dd_QuotaLawsLaw_law_1264.2.2.2.2.1
theorem d_QuotaLawsLaw_law_1269 : decode code 1269 = .ok (.aload_n 0, 1) := dd_QuotaLawsLaw_law_1264.2.2.2.2.2.1
theorem d_QuotaLawsLaw_law_1270 : decode code 1270 = .ok (.iload_n 3, 1) := dd_QuotaLawsLaw_law_1264.2.2.2.2.2.2.1
theorem d_QuotaLawsLaw_law_1271 : decode code 1271 = .ok (.iconst 4, 1) := dd_QuotaLawsLaw_law_1264.2.2.2.2.2.2.2.1
theorem d_QuotaLawsLaw_law_1272 : decode code 1272 = .ok (.iadd, 1) := dd_QuotaLawsLaw_law_1264.2.2.2.2.2.2.2.2.1
theorem d_QuotaLawsLaw_law_1273 : decode code 1273 = .ok (.iaload, 1) := dd_QuotaLawsLaw_law_1264.2.2.2.2.2.2.2.2.2.1
theorem d_QuotaLawsLaw_law_1274 : decode code 1274 = .ok (.invokevirtual 161, 3) := dd_QuotaLawsLaw_law_1264.2.2.2.2.2.2.2.2.2.2.1
theorem d_QuotaLawsLaw_law_1277 : decode code 1277 = .ok (.pop, 1) := dd_QuotaLawsLaw_law_1264.2.2.2.2.2.2.2.2.2.2.2
theorem dd_QuotaLawsLaw_law_1278 : (decode code 1278 = .ok (.aload_n 2, 1)) ∧ (decode code 1279 = .ok (.aload_n 0, 1)) ∧ (decode code 1280 = .ok (.iload_n 3, 1)) ∧ (decode code 1281 = .ok (.iconst 1, 1)) ∧ (decode code 1282 = .ok (.iadd, 1)) ∧ (decode code 1283 = .ok (.iaload, 1)) ∧ (decode code 1284 = .ok (.aload_n 0, 1)) ∧ (decode code 1285 = .ok (.iload_n 3, 1)) ∧ (decode code 1286 = .ok (.iconst 2, 1)) ∧ (decode code 1287 = .ok (.iadd, 1)) ∧ (decode code 1288 = .ok (.iaload, 1)) ∧ (decode code 1289 = .ok (.aload_n 0, 1)) := by decide +kernel
theorem d_QuotaLawsLaw_law_1278 : decode code 1278 = .ok (.aload_n 2, 1) := dd_QuotaLawsLaw_law_1278.1
theorem d_QuotaLawsLaw_law_1279 : decode code 1279 = .ok (.aload_n 0, 1) := dd_QuotaLawsLaw_law_1278.2.1
theorem d_QuotaLawsLaw_law_1280 : decode code 1280 = .ok (.iload_n 3, 1) := dd_QuotaLawsLaw_law_1278.2.2.1
theorem d_QuotaLawsLaw_law_1281 : decode code 1281 = .ok (.iconst 1, 1) := dd_QuotaLawsLaw_law_1278.2.2.2.1
theorem d_QuotaLawsLaw_law_1282 : decode code 1282 = .ok (.iadd, 1) := dd_QuotaLawsLaw_law_1278.2.2.2.2.1
theorem d_QuotaLawsLaw_law_1283 : decode code 1283 = .ok (.iaload, 1) := dd_QuotaLawsLaw_law_1278.2.2.2.2.2.1
theorem d_QuotaLawsLaw_law_1284 : decode code 1284 = .ok (.aload_n 0, 1) := dd_QuotaLawsLaw_law_1278.2.2.2.2.2.2.1
theorem d_QuotaLawsLaw_law_1285 : decode code 1285 = .ok (.iload_n 3, 1) := dd_QuotaLawsLaw_law_1278.2.2.2.2.2.2.2.1
theorem d_QuotaLawsLaw_law_1286 : decode code 1286 = .ok (.iconst 2, 1) := dd_QuotaLawsLaw_law_1278.2.2.2.2.2.2.2.2.1
theorem d_QuotaLawsLaw_law_1287 : decode code 1287 = .ok (.iadd, 1) := dd_QuotaLawsLaw_law_1278.2.2.2.2.2.2.2.2.2.1
theorem d_QuotaLawsLaw_law_1288 : decode code 1288 = .ok (.iaload, 1) := dd_QuotaLawsLaw_law_1278.2.2.2.2.2.2.2.2.2.2.1
theorem d_QuotaLawsLaw_law_1289 : decode code 1289 = .ok (.aload_n 0, 1) := dd_QuotaLawsLaw_law_1278.2.2.2.2.2.2.2.2.2.2.2
theorem dd_QuotaLawsLaw_law_1290 : (decode code 1290 = .ok (.iload_n 3, 1)) ∧ (decode code 1291 = .ok (.iconst 3, 1)) ∧ (decode code 1292 = .ok (.iadd, 1)) ∧ (decode code 1293 = .ok (.iaload, 1)) ∧ (decode code 1294 = .ok (.aload_n 0, 1)) ∧ (decode code 1295 = .ok (.iload_n 3, 1)) ∧ (decode code 1296 = .ok (.iconst 4, 1)) ∧ (decode code 1297 = .ok (.iadd, 1)) ∧ (decode code 1298 = .ok (.iaload, 1)) ∧ (decode code 1299 = .ok (.invokevirtual 165, 3)) ∧ (decode code 1302 = .ok (.pop, 1)) ∧ (decode code 1303 = .ok (.goto 39, 3)) := by decide +kernel
theorem d_QuotaLawsLaw_law_1290 : decode code 1290 = .ok (.iload_n 3, 1) := dd_QuotaLawsLaw_law_1290.1
theorem d_QuotaLawsLaw_law_1291 : decode code 1291 = .ok (.iconst 3, 1) := dd_QuotaLawsLaw_law_1290.2.1
theorem d_QuotaLawsLaw_law_1292 : decode code 1292 = .ok (.iadd, 1) := dd_QuotaLawsLaw_law_1290.2.2.1
theorem d_QuotaLawsLaw_law_1293 : decode code 1293 = .ok (.iaload, 1) := dd_QuotaLawsLaw_law_1290.2.2.2.1
theorem d_QuotaLawsLaw_law_1294 : decode code 1294 = .ok (.aload_n 0, 1) := dd_QuotaLawsLaw_law_1290.2.2.2.2.1
theorem d_QuotaLawsLaw_law_1295 : decode code 1295 = .ok (.iload_n 3, 1) := dd_QuotaLawsLaw_law_1290.2.2.2.2.2.1
theorem d_QuotaLawsLaw_law_1296 : decode code 1296 = .ok (.iconst 4, 1) := dd_QuotaLawsLaw_law_1290.2.2.2.2.2.2.1
theorem d_QuotaLawsLaw_law_1297 : decode code 1297 = .ok (.iadd, 1) := dd_QuotaLawsLaw_law_1290.2.2.2.2.2.2.2.1
theorem d_QuotaLawsLaw_law_1298 : decode code 1298 = .ok (.iaload, 1) := dd_QuotaLawsLaw_law_1290.2.2.2.2.2.2.2.2.1
theorem d_QuotaLawsLaw_law_1299 : decode code 1299 = .ok (.invokevirtual 165, 3) := dd_QuotaLawsLaw_law_1290.2.2.2.2.2.2.2.2.2.1
theorem d_QuotaLawsLaw_law_1302 : decode code 1302 = .ok (.pop, 1) := dd_QuotaLawsLaw_law_1290.2.2.2.2.2.2.2.2.2.2.1
theorem d_QuotaLawsLaw_law_1303 : decode code 1303 = .ok (.goto 39, 3) := dd_QuotaLawsLaw_law_1290.2.2.2.2.2.2.2.2.2.2.2
theorem dd_QuotaLawsLaw_law_1306 : (decode code 1306 = .ok (.aload_n 1, 1)) ∧ (decode code 1307 = .ok (.invokevirtual 166, 3)) ∧ (decode code 1310 = .ok (.pop, 1)) ∧ (decode code 1311 = .ok (.aload_n 2, 1)) ∧ (decode code 1312 = .ok (.invokevirtual 169, 3)) ∧ (decode code 1315 = .ok (.pop, 1)) ∧ (decode code 1316 = .ok (.goto 26, 3)) ∧ (decode code 1319 = .ok (.aload_n 1, 1)) ∧ (decode code 1320 = .ok (.aload_n 0, 1)) ∧ (decode code 1321 = .ok (.iload_n 3, 1)) ∧ (decode code 1322 = .ok (.iconst 1, 1)) ∧ (decode code 1323 = .ok (.iadd, 1)) := by decide +kernel
theorem d_QuotaLawsLaw_law_1306 : decode code 1306 = .ok (.aload_n 1, 1) := dd_QuotaLawsLaw_law_1306.1
theorem d_QuotaLawsLaw_law_1307 : decode code 1307 = .ok (.invokevirtual 166, 3) := dd_QuotaLawsLaw_law_1306.2.1
theorem d_QuotaLawsLaw_law_1310 : decode code 1310 = .ok (.pop, 1) := dd_QuotaLawsLaw_law_1306.2.2.1
theorem d_QuotaLawsLaw_law_1311 : decode code 1311 = .ok (.aload_n 2, 1) := dd_QuotaLawsLaw_law_1306.2.2.2.1
theorem d_QuotaLawsLaw_law_1312 : decode code 1312 = .ok (.invokevirtual 169, 3) := dd_QuotaLawsLaw_law_1306.2.2.2.2.1
theorem d_QuotaLawsLaw_law_1315 : decode code 1315 = .ok (.pop, 1) := dd_QuotaLawsLaw_law_1306.2.2.2.2.2.1
theorem d_QuotaLawsLaw_law_1316 : decode code 1316 = .ok (.goto 26, 3) := dd_QuotaLawsLaw_law_1306.2.2.2.2.2.2.1
theorem d_QuotaLawsLaw_law_1319 : decode code 1319 = .ok (.aload_n 1, 1) := dd_QuotaLawsLaw_law_1306.2.2.2.2.2.2.2.1
theorem d_QuotaLawsLaw_law_1320 : decode code 1320 = .ok (.aload_n 0, 1) := dd_QuotaLawsLaw_law_1306.2.2.2.2.2.2.2.2.1
theorem d_QuotaLawsLaw_law_1321 : decode code 1321 = .ok (.iload_n 3, 1) := dd_QuotaLawsLaw_law_1306.2.2.2.2.2.2.2.2.2.1
theorem d_QuotaLawsLaw_law_1322 : decode code 1322 = .ok (.iconst 1, 1) := dd_QuotaLawsLaw_law_1306.2.2.2.2.2.2.2.2.2.2.1
theorem d_QuotaLawsLaw_law_1323 : decode code 1323 = .ok (.iadd, 1) := dd_QuotaLawsLaw_law_1306.2.2.2.2.2.2.2.2.2.2.2
theorem dd_QuotaLawsLaw_law_1324 : (decode code 1324 = .ok (.iaload, 1)) ∧ (decode code 1325 = .ok (.invokevirtual 170, 3)) ∧ (decode code 1328 = .ok (.pop, 1)) ∧ (decode code 1329 = .ok (.aload_n 2, 1)) ∧ (decode code 1330 = .ok (.aload_n 0, 1)) ∧ (decode code 1331 = .ok (.iload_n 3, 1)) ∧ (decode code 1332 = .ok (.iconst 1, 1)) ∧ (decode code 1333 = .ok (.iadd, 1)) ∧ (decode code 1334 = .ok (.iaload, 1)) ∧ (decode code 1335 = .ok (.invokevirtual 173, 3)) ∧ (decode code 1338 = .ok (.pop, 1)) ∧ (decode code 1339 = .ok (.goto 3, 3)) := by decide +kernel
theorem d_QuotaLawsLaw_law_1324 : decode code 1324 = .ok (.iaload, 1) := dd_QuotaLawsLaw_law_1324.1
theorem d_QuotaLawsLaw_law_1325 : decode code 1325 = .ok (.invokevirtual 170, 3) := dd_QuotaLawsLaw_law_1324.2.1
theorem d_QuotaLawsLaw_law_1328 : decode code 1328 = .ok (.pop, 1) := dd_QuotaLawsLaw_law_1324.2.2.1
theorem d_QuotaLawsLaw_law_1329 : decode code 1329 = .ok (.aload_n 2, 1) := dd_QuotaLawsLaw_law_1324.2.2.2.1
theorem d_QuotaLawsLaw_law_1330 : decode code 1330 = .ok (.aload_n 0, 1) := dd_QuotaLawsLaw_law_1324.2.2.2.2.1
theorem d_QuotaLawsLaw_law_1331 : decode code 1331 = .ok (.iload_n 3, 1) := dd_QuotaLawsLaw_law_1324.2.2.2.2.2.1
theorem d_QuotaLawsLaw_law_1332 : decode code 1332 = .ok (.iconst 1, 1) := dd_QuotaLawsLaw_law_1324.2.2.2.2.2.2.1
theorem d_QuotaLawsLaw_law_1333 : decode code 1333 = .ok (.iadd, 1) := dd_QuotaLawsLaw_law_1324.2.2.2.2.2.2.2.1
theorem d_QuotaLawsLaw_law_1334 : decode code 1334 = .ok (.iaload, 1) := dd_QuotaLawsLaw_law_1324.2.2.2.2.2.2.2.2.1
theorem d_QuotaLawsLaw_law_1335 : decode code 1335 = .ok (.invokevirtual 173, 3) := dd_QuotaLawsLaw_law_1324.2.2.2.2.2.2.2.2.2.1
theorem d_QuotaLawsLaw_law_1338 : decode code 1338 = .ok (.pop, 1) := dd_QuotaLawsLaw_law_1324.2.2.2.2.2.2.2.2.2.2.1
theorem d_QuotaLawsLaw_law_1339 : decode code 1339 = .ok (.goto 3, 3) := dd_QuotaLawsLaw_law_1324.2.2.2.2.2.2.2.2.2.2.2
theorem dd_QuotaLawsLaw_law_1342 : (decode code 1342 = .ok (.iinc 3 5, 3)) ∧ (decode code 1345 = .ok (.goto (-1327), 3)) ∧ (decode code 1348 = .ok (.iconst 1, 1)) ∧ (decode code 1349 = .ok (.ireturn, 1)) := by decide +kernel
theorem d_QuotaLawsLaw_law_1342 : decode code 1342 = .ok (.iinc 3 5, 3) := dd_QuotaLawsLaw_law_1342.1
theorem d_QuotaLawsLaw_law_1345 : decode code 1345 = .ok (.goto (-1327), 3) := dd_QuotaLawsLaw_law_1342.2.1
theorem d_QuotaLawsLaw_law_1348 : decode code 1348 = .ok (.iconst 1, 1) := dd_QuotaLawsLaw_law_1342.2.2.1
theorem d_QuotaLawsLaw_law_1349 : decode code 1349 = .ok (.ireturn, 1) := dd_QuotaLawsLaw_law_1342.2.2.2
