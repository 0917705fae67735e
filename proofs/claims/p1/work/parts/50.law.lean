/-! QuotaLawsLaw law ([I)Z -/
theorem d_QuotaLawsLaw_law_0 : decode code 0 = .ok (.new 7, 3) := by decide +kernel
theorem d_QuotaLawsLaw_law_3 : decode code 3 = .ok (.dup, 1) := by decide +kernel
theorem d_QuotaLawsLaw_law_4 : decode code 4 = .ok (.invokespecial 9, 3) := by decide +kernel
theorem d_QuotaLawsLaw_law_7 : decode code 7 = .ok (.astore_n 1, 1) := by decide +kernel
theorem d_QuotaLawsLaw_law_8 : decode code 8 = .ok (.new 10, 3) := by decide +kernel
theorem d_QuotaLawsLaw_law_11 : decode code 11 = .ok (.dup, 1) := by decide +kernel
theorem d_QuotaLawsLaw_law_12 : decode code 12 = .ok (.invokespecial 12, 3) := by decide +kernel
theorem d_QuotaLawsLaw_law_15 : decode code 15 = .ok (.astore_n 2, 1) := by decide +kernel
theorem d_QuotaLawsLaw_law_16 : decode code 16 = .ok (.iconst 0, 1) := by decide +kernel
theorem d_QuotaLawsLaw_law_17 : decode code 17 = .ok (.istore_n 3, 1) := by decide +kernel
theorem d_QuotaLawsLaw_law_18 : decode code 18 = .ok (.iload_n 3, 1) := by decide +kernel
theorem d_QuotaLawsLaw_law_19 : decode code 19 = .ok (.aload_n 0, 1) := by decide +kernel
theorem d_QuotaLawsLaw_law_20 : decode code 20 = .ok (.arraylength, 1) := by decide +kernel
theorem d_QuotaLawsLaw_law_21 : decode code 21 = .ok (.iconst 5, 1) := by decide +kernel
theorem d_QuotaLawsLaw_law_22 : decode code 22 = .ok (.isub, 1) := by decide +kernel
theorem d_QuotaLawsLaw_law_23 : decode code 23 = .ok (.if_icmp .gt 1327, 3) := by decide +kernel
theorem d_QuotaLawsLaw_law_26 : decode code 26 = .ok (.aload_n 0, 1) := by decide +kernel
theorem d_QuotaLawsLaw_law_27 : decode code 27 = .ok (.iload_n 3, 1) := by decide +kernel
theorem d_QuotaLawsLaw_law_28 : decode code 28 = .ok (.iaload, 1) := by decide +kernel
theorem d_QuotaLawsLaw_law_29 : decode code 29 = .ok (.bipush 63, 2) := by decide +kernel
theorem d_QuotaLawsLaw_law_31 : decode code 31 = .ok (.iand, 1) := by decide +kernel
theorem d_QuotaLawsLaw_law_32 : decode code 32 = .ok (.tableswitch 1312 0 37 #[168, 191, 214, 227, 240, 263, 296, 329, 362, 395, 428, 477, 510, 569, 628, 661, 684, 717, 730, 743, 766, 789, 812, 835, 868, 891, 925, 968, 991, 1005, 1048, 1091, 1114, 1137, 1180, 1223, 1276, 1289], 168) := by decide +kernel
theorem d_QuotaLawsLaw_law_200 : decode code 200 = .ok (.aload_n 1, 1) := by decide +kernel
theorem d_QuotaLawsLaw_law_201 : decode code 201 = .ok (.aload_n 0, 1) := by decide +kernel
theorem d_QuotaLawsLaw_law_202 : decode code 202 = .ok (.iload_n 3, 1) := by decide +kernel
theorem d_QuotaLawsLaw_law_203 : decode code 203 = .ok (.iconst 1, 1) := by decide +kernel
theorem d_QuotaLawsLaw_law_204 : decode code 204 = .ok (.iadd, 1) := by decide +kernel
theorem d_QuotaLawsLaw_law_205 : decode code 205 = .ok (.iaload, 1) := by decide +kernel
theorem d_QuotaLawsLaw_law_206 : decode code 206 = .ok (.invokevirtual 13, 3) := by decide +kernel
theorem d_QuotaLawsLaw_law_209 : decode code 209 = .ok (.aload_n 2, 1) := by decide +kernel
theorem d_QuotaLawsLaw_law_210 : decode code 210 = .ok (.aload_n 0, 1) := by decide +kernel
theorem d_QuotaLawsLaw_law_211 : decode code 211 = .ok (.iload_n 3, 1) := by decide +kernel
theorem d_QuotaLawsLaw_law_212 : decode code 212 = .ok (.iconst 1, 1) := by decide +kernel
theorem d_QuotaLawsLaw_law_213 : decode code 213 = .ok (.iadd, 1) := by decide +kernel
theorem d_QuotaLawsLaw_law_214 : decode code 214 = .ok (.iaload, 1) := by decide +kernel
theorem d_QuotaLawsLaw_law_215 : decode code 215 = .ok (.invokevirtual 17, 3) := by decide +kernel
theorem d_QuotaLawsLaw_law_218 : decode code 218 = .ok (.if_icmp .eq 1126, 3) := by decide +kernel
theorem d_QuotaLawsLaw_law_221 : decode code 221 = .ok (.iconst 0, 1) := by decide +kernel
theorem d_QuotaLawsLaw_law_222 : decode code 222 = .ok (.ireturn, 1) := by decide +kernel
theorem d_QuotaLawsLaw_law_223 : decode code 223 = .ok (.aload_n 1, 1) := by decide +kernel
theorem d_QuotaLawsLaw_law_224 : decode code 224 = .ok (.aload_n 0, 1) := by decide +kernel
theorem d_QuotaLawsLaw_law_225 : decode code 225 = .ok (.iload_n 3, 1) := by decide +kernel
theorem d_QuotaLawsLaw_law_226 : decode code 226 = .ok (.iconst 1, 1) := by decide +kernel
theorem d_QuotaLawsLaw_law_227 : decode code 227 = .ok (.iadd, 1) := by decide +kernel
theorem d_QuotaLawsLaw_law_228 : decode code 228 = .ok (.iaload, 1) := by decide +kernel
theorem d_QuotaLawsLaw_law_229 : decode code 229 = .ok (.invokevirtual 18, 3) := by decide +kernel
theorem d_QuotaLawsLaw_law_232 : decode code 232 = .ok (.aload_n 2, 1) := by decide +kernel
theorem d_QuotaLawsLaw_law_233 : decode code 233 = .ok (.aload_n 0, 1) := by decide +kernel
theorem d_QuotaLawsLaw_law_234 : decode code 234 = .ok (.iload_n 3, 1) := by decide +kernel
theorem d_QuotaLawsLaw_law_235 : decode code 235 = .ok (.iconst 1, 1) := by decide +kernel
theorem d_QuotaLawsLaw_law_236 : decode code 236 = .ok (.iadd, 1) := by decide +kernel
theorem d_QuotaLawsLaw_law_237 : decode code 237 = .ok (.iaload, 1) := by decide +kernel
theorem d_QuotaLawsLaw_law_238 : decode code 238 = .ok (.invokevirtual 21, 3) := by decide +kernel
theorem d_QuotaLawsLaw_law_241 : decode code 241 = .ok (.if_icmp .eq 1103, 3) := by decide +kernel
theorem d_QuotaLawsLaw_law_244 : decode code 244 = .ok (.iconst 0, 1) := by decide +kernel
theorem d_QuotaLawsLaw_law_245 : decode code 245 = .ok (.ireturn, 1) := by decide +kernel
theorem d_QuotaLawsLaw_law_246 : decode code 246 = .ok (.aload_n 1, 1) := by decide +kernel
theorem d_QuotaLawsLaw_law_247 : decode code 247 = .ok (.invokevirtual 22, 3) := by decide +kernel
theorem d_QuotaLawsLaw_law_250 : decode code 250 = .ok (.aload_n 2, 1) := by decide +kernel
theorem d_QuotaLawsLaw_law_251 : decode code 251 = .ok (.invokevirtual 26, 3) := by decide +kernel
theorem d_QuotaLawsLaw_law_254 : decode code 254 = .ok (.if_icmp .eq 1090, 3) := by decide +kernel
theorem d_QuotaLawsLaw_law_257 : decode code 257 = .ok (.iconst 0, 1) := by decide +kernel
theorem d_QuotaLawsLaw_law_258 : decode code 258 = .ok (.ireturn, 1) := by decide +kernel
theorem d_QuotaLawsLaw_law_259 : decode code 259 = .ok (.aload_n 1, 1) := by decide +kernel
theorem d_QuotaLawsLaw_law_260 : decode code 260 = .ok (.invokevirtual 27, 3) := by decide +kernel
theorem d_QuotaLawsLaw_law_263 : decode code 263 = .ok (.aload_n 2, 1) := by decide +kernel
theorem d_QuotaLawsLaw_law_264 : decode code 264 = .ok (.invokevirtual 30, 3) := by decide +kernel
theorem d_QuotaLawsLaw_law_267 : decode code 267 = .ok (.if_icmp .eq 1077, 3) := by decide +kernel
theorem d_QuotaLawsLaw_law_270 : decode code 270 = .ok (.iconst 0, 1) := by decide +kernel
theorem d_QuotaLawsLaw_law_271 : decode code 271 = .ok (.ireturn, 1) := by decide +kernel
theorem d_QuotaLawsLaw_law_272 : decode code 272 = .ok (.aload_n 1, 1) := by decide +kernel
theorem d_QuotaLawsLaw_law_273 : decode code 273 = .ok (.aload_n 0, 1) := by decide +kernel
theorem d_QuotaLawsLaw_law_274 : decode code 274 = .ok (.iload_n 3, 1) := by decide +kernel
theorem d_QuotaLawsLaw_law_275 : decode code 275 = .ok (.iconst 1, 1) := by decide +kernel
theorem d_QuotaLawsLaw_law_276 : decode code 276 = .ok (.iadd, 1) := by decide +kernel
theorem d_QuotaLawsLaw_law_277 : decode code 277 = .ok (.iaload, 1) := by decide +kernel
theorem d_QuotaLawsLaw_law_278 : decode code 278 = .ok (.invokevirtual 31, 3) := by decide +kernel
theorem d_QuotaLawsLaw_law_281 : decode code 281 = .ok (.aload_n 2, 1) := by decide +kernel
theorem d_QuotaLawsLaw_law_282 : decode code 282 = .ok (.aload_n 0, 1) := by decide +kernel
theorem d_QuotaLawsLaw_law_283 : decode code 283 = .ok (.iload_n 3, 1) := by decide +kernel
theorem d_QuotaLawsLaw_law_284 : decode code 284 = .ok (.iconst 1, 1) := by decide +kernel
theorem d_QuotaLawsLaw_law_285 : decode code 285 = .ok (.iadd, 1) := by decide +kernel
theorem d_QuotaLawsLaw_law_286 : decode code 286 = .ok (.iaload, 1) := by decide +kernel
theorem d_QuotaLawsLaw_law_287 : decode code 287 = .ok (.invokevirtual 34, 3) := by decide +kernel
theorem d_QuotaLawsLaw_law_290 : decode code 290 = .ok (.if_icmp .eq 1054, 3) := by decide +kernel
theorem d_QuotaLawsLaw_law_293 : decode code 293 = .ok (.iconst 0, 1) := by decide +kernel
theorem d_QuotaLawsLaw_law_294 : decode code 294 = .ok (.ireturn, 1) := by decide +kernel
theorem d_QuotaLawsLaw_law_295 : decode code 295 = .ok (.aload_n 1, 1) := by decide +kernel
theorem d_QuotaLawsLaw_law_296 : decode code 296 = .ok (.aload_n 0, 1) := by decide +kernel
theorem d_QuotaLawsLaw_law_297 : decode code 297 = .ok (.iload_n 3, 1) := by decide +kernel
theorem d_QuotaLawsLaw_law_298 : decode code 298 = .ok (.iconst 1, 1) := by decide +kernel
theorem d_QuotaLawsLaw_law_299 : decode code 299 = .ok (.iadd, 1) := by decide +kernel
theorem d_QuotaLawsLaw_law_300 : decode code 300 = .ok (.iaload, 1) := by decide +kernel
theorem d_QuotaLawsLaw_law_301 : decode code 301 = .ok (.aload_n 0, 1) := by decide +kernel
theorem d_QuotaLawsLaw_law_302 : decode code 302 = .ok (.iload_n 3, 1) := by decide +kernel
theorem d_QuotaLawsLaw_law_303 : decode code 303 = .ok (.iconst 2, 1) := by decide +kernel
theorem d_QuotaLawsLaw_law_304 : decode code 304 = .ok (.iadd, 1) := by decide +kernel
theorem d_QuotaLawsLaw_law_305 : decode code 305 = .ok (.iaload, 1) := by decide +kernel
theorem d_QuotaLawsLaw_law_306 : decode code 306 = .ok (.invokevirtual 35, 3) := by decide +kernel
theorem d_QuotaLawsLaw_law_309 : decode code 309 = .ok (.aload_n 2, 1) := by decide +kernel
theorem d_QuotaLawsLaw_law_310 : decode code 310 = .ok (.aload_n 0, 1) := by decide +kernel
theorem d_QuotaLawsLaw_law_311 : decode code 311 = .ok (.iload_n 3, 1) := by decide +kernel
theorem d_QuotaLawsLaw_law_312 : decode code 312 = .ok (.iconst 1, 1) := by decide +kernel
theorem d_QuotaLawsLaw_law_313 : decode code 313 = .ok (.iadd, 1) := by decide +kernel
theorem d_QuotaLawsLaw_law_314 : decode code 314 = .ok (.iaload, 1) := by decide +kernel
theorem d_QuotaLawsLaw_law_315 : decode code 315 = .ok (.aload_n 0, 1) := by decide +kernel
theorem d_QuotaLawsLaw_law_316 : decode code 316 = .ok (.iload_n 3, 1) := by decide +kernel
theorem d_QuotaLawsLaw_law_317 : decode code 317 = .ok (.iconst 2, 1) := by decide +kernel
theorem d_QuotaLawsLaw_law_318 : decode code 318 = .ok (.iadd, 1) := by decide +kernel
theorem d_QuotaLawsLaw_law_319 : decode code 319 = .ok (.iaload, 1) := by decide +kernel
theorem d_QuotaLawsLaw_law_320 : decode code 320 = .ok (.invokevirtual 39, 3) := by decide +kernel
theorem d_QuotaLawsLaw_law_323 : decode code 323 = .ok (.if_icmp .eq 1021, 3) := by decide +kernel
theorem d_QuotaLawsLaw_law_326 : decode code 326 = .ok (.iconst 0, 1) := by decide +kernel
theorem d_QuotaLawsLaw_law_327 : decode code 327 = .ok (.ireturn, 1) := by decide +kernel
theorem d_QuotaLawsLaw_law_328 : decode code 328 = .ok (.aload_n 1, 1) := by decide +kernel
theorem d_QuotaLawsLaw_law_329 : decode code 329 = .ok (.aload_n 0, 1) := by decide +kernel
theorem d_QuotaLawsLaw_law_330 : decode code 330 = .ok (.iload_n 3, 1) := by decide +kernel
theorem d_QuotaLawsLaw_law_331 : decode code 331 = .ok (.iconst 1, 1) := by decide +kernel
theorem d_QuotaLawsLaw_law_332 : decode code 332 = .ok (.iadd, 1) := by decide +kernel
theorem d_QuotaLawsLaw_law_333 : decode code 333 = .ok (.iaload, 1) := by decide +kernel
theorem d_QuotaLawsLaw_law_334 : decode code 334 = .ok (.aload_n 0, 1) := by decide +kernel
theorem d_QuotaLawsLaw_law_335 : decode code 335 = .ok (.iload_n 3, 1) := by decide +kernel
theorem d_QuotaLawsLaw_law_336 : decode code 336 = .ok (.iconst 2, 1) := by decide +kernel
theorem d_QuotaLawsLaw_law_337 : decode code 337 = .ok (.iadd, 1) := by decide +kernel
theorem d_QuotaLawsLaw_law_338 : decode code 338 = .ok (.iaload, 1) := by decide +kernel
theorem d_QuotaLawsLaw_law_339 : decode code 339 = .ok (.invokevirtual 40, 3) := by decide +kernel
theorem d_QuotaLawsLaw_law_342 : decode code 342 = .ok (.aload_n 2, 1) := by decide +kernel
theorem d_QuotaLawsLaw_law_343 : decode code 343 = .ok (.aload_n 0, 1) := by decide +kernel
theorem d_QuotaLawsLaw_law_344 : decode code 344 = .ok (.iload_n 3, 1) := by decide +kernel
theorem d_QuotaLawsLaw_law_345 : decode code 345 = .ok (.iconst 1, 1) := by decide +kernel
theorem d_QuotaLawsLaw_law_346 : decode code 346 = .ok (.iadd, 1) := by decide +kernel
theorem d_QuotaLawsLaw_law_347 : decode code 347 = .ok (.iaload, 1) := by decide +kernel
theorem d_QuotaLawsLaw_law_348 : decode code 348 = .ok (.aload_n 0, 1) := by decide +kernel
theorem d_QuotaLawsLaw_law_349 : decode code 349 = .ok (.iload_n 3, 1) := by decide +kernel
theorem d_QuotaLawsLaw_law_350 : decode code 350 = .ok (.iconst 2, 1) := by decide +kernel
theorem d_QuotaLawsLaw_law_351 : decode code 351 = .ok (.iadd, 1) := by decide +kernel
theorem d_QuotaLawsLaw_law_352 : decode code 352 = .ok (.iaload, 1) := by decide +kernel
theorem d_QuotaLawsLaw_law_353 : decode code 353 = .ok (.invokevirtual 43, 3) := by decide +kernel
theorem d_QuotaLawsLaw_law_356 : decode code 356 = .ok (.if_icmp .eq 988, 3) := by decide +kernel
theorem d_QuotaLawsLaw_law_359 : decode code 359 = .ok (.iconst 0, 1) := by decide +kernel
theorem d_QuotaLawsLaw_law_360 : decode code 360 = .ok (.ireturn, 1) := by decide +kernel
theorem d_QuotaLawsLaw_law_361 : decode code 361 = .ok (.aload_n 1, 1) := by decide +kernel
theorem d_QuotaLawsLaw_law_362 : decode code 362 = .ok (.aload_n 0, 1) := by decide +kernel
theorem d_QuotaLawsLaw_law_363 : decode code 363 = .ok (.iload_n 3, 1) := by decide +kernel
theorem d_QuotaLawsLaw_law_364 : decode code 364 = .ok (.iconst 1, 1) := by decide +kernel
theorem d_QuotaLawsLaw_law_365 : decode code 365 = .ok (.iadd, 1) := by decide +kernel
theorem d_QuotaLawsLaw_law_366 : decode code 366 = .ok (.iaload, 1) := by decide +kernel
theorem d_QuotaLawsLaw_law_367 : decode code 367 = .ok (.aload_n 0, 1) := by decide +kernel
theorem d_QuotaLawsLaw_law_368 : decode code 368 = .ok (.iload_n 3, 1) := by decide +kernel
theorem d_QuotaLawsLaw_law_369 : decode code 369 = .ok (.iconst 2, 1) := by decide +kernel
theorem d_QuotaLawsLaw_law_370 : decode code 370 = .ok (.iadd, 1) := by decide +kernel
theorem d_QuotaLawsLaw_law_371 : decode code 371 = .ok (.iaload, 1) := by decide +kernel
theorem d_QuotaLawsLaw_law_372 : decode code 372 = .ok (.invokevirtual 44, 3) := by decide +kernel
theorem d_QuotaLawsLaw_law_375 : decode code 375 = .ok (.aload_n 2, 1) := by decide +kernel
theorem d_QuotaLawsLaw_law_376 : decode code 376 = .ok (.aload_n 0, 1) := by decide +kernel
theorem d_QuotaLawsLaw_law_377 : decode code 377 = .ok (.iload_n 3, 1) := by decide +kernel
theorem d_QuotaLawsLaw_law_378 : decode code 378 = .ok (.iconst 1, 1) := by decide +kernel
theorem d_QuotaLawsLaw_law_379 : decode code 379 = .ok (.iadd, 1) := by decide +kernel
theorem d_QuotaLawsLaw_law_380 : decode code 380 = .ok (.iaload, 1) := by decide +kernel
theorem d_QuotaLawsLaw_law_381 : decode code 381 = .ok (.aload_n 0, 1) := by decide +kernel
theorem d_QuotaLawsLaw_law_382 : decode code 382 = .ok (.iload_n 3, 1) := by decide +kernel
theorem d_QuotaLawsLaw_law_383 : decode code 383 = .ok (.iconst 2, 1) := by decide +kernel
theorem d_QuotaLawsLaw_law_384 : decode code 384 = .ok (.iadd, 1) := by decide +kernel
theorem d_QuotaLawsLaw_law_385 : decode code 385 = .ok (.iaload, 1) := by decide +kernel
theorem d_QuotaLawsLaw_law_386 : decode code 386 = .ok (.invokevirtual 47, 3) := by decide +kernel
theorem d_QuotaLawsLaw_law_389 : decode code 389 = .ok (.if_icmp .eq 955, 3) := by decide +kernel
theorem d_QuotaLawsLaw_law_392 : decode code 392 = .ok (.iconst 0, 1) := by decide +kernel
theorem d_QuotaLawsLaw_law_393 : decode code 393 = .ok (.ireturn, 1) := by decide +kernel
theorem d_QuotaLawsLaw_law_394 : decode code 394 = .ok (.aload_n 1, 1) := by decide +kernel
theorem d_QuotaLawsLaw_law_395 : decode code 395 = .ok (.aload_n 0, 1) := by decide +kernel
theorem d_QuotaLawsLaw_law_396 : decode code 396 = .ok (.iload_n 3, 1) := by decide +kernel
theorem d_QuotaLawsLaw_law_397 : decode code 397 = .ok (.iconst 1, 1) := by decide +kernel
theorem d_QuotaLawsLaw_law_398 : decode code 398 = .ok (.iadd, 1) := by decide +kernel
theorem d_QuotaLawsLaw_law_399 : decode code 399 = .ok (.iaload, 1) := by decide +kernel
theorem d_QuotaLawsLaw_law_400 : decode code 400 = .ok (.aload_n 0, 1) := by decide +kernel
theorem d_QuotaLawsLaw_law_401 : decode code 401 = .ok (.iload_n 3, 1) := by decide +kernel
theorem d_QuotaLawsLaw_law_402 : decode code 402 = .ok (.iconst 2, 1) := by decide +kernel
theorem d_QuotaLawsLaw_law_403 : decode code 403 = .ok (.iadd, 1) := by decide +kernel
theorem d_QuotaLawsLaw_law_404 : decode code 404 = .ok (.iaload, 1) := by decide +kernel
theorem d_QuotaLawsLaw_law_405 : decode code 405 = .ok (.invokevirtual 48, 3) := by decide +kernel
theorem d_QuotaLawsLaw_law_408 : decode code 408 = .ok (.aload_n 2, 1) := by decide +kernel
theorem d_QuotaLawsLaw_law_409 : decode code 409 = .ok (.aload_n 0, 1) := by decide +kernel
theorem d_QuotaLawsLaw_law_410 : decode code 410 = .ok (.iload_n 3, 1) := by decide +kernel
theorem d_QuotaLawsLaw_law_411 : decode code 411 = .ok (.iconst 1, 1) := by decide +kernel
theorem d_QuotaLawsLaw_law_412 : decode code 412 = .ok (.iadd, 1) := by decide +kernel
theorem d_QuotaLawsLaw_law_413 : decode code 413 = .ok (.iaload, 1) := by decide +kernel
theorem d_QuotaLawsLaw_law_414 : decode code 414 = .ok (.aload_n 0, 1) := by decide +kernel
theorem d_QuotaLawsLaw_law_415 : decode code 415 = .ok (.iload_n 3, 1) := by decide +kernel
theorem d_QuotaLawsLaw_law_416 : decode code 416 = .ok (.iconst 2, 1) := by decide +kernel
theorem d_QuotaLawsLaw_law_417 : decode code 417 = .ok (.iadd, 1) := by decide +kernel
theorem d_QuotaLawsLaw_law_418 : decode code 418 = .ok (.iaload, 1) := by decide +kernel
theorem d_QuotaLawsLaw_law_419 : decode code 419 = .ok (.invokevirtual 51, 3) := by decide +kernel
theorem d_QuotaLawsLaw_law_422 : decode code 422 = .ok (.if_icmp .eq 922, 3) := by decide +kernel
theorem d_QuotaLawsLaw_law_425 : decode code 425 = .ok (.iconst 0, 1) := by decide +kernel
theorem d_QuotaLawsLaw_law_426 : decode code 426 = .ok (.ireturn, 1) := by decide +kernel
theorem d_QuotaLawsLaw_law_427 : decode code 427 = .ok (.aload_n 1, 1) := by decide +kernel
theorem d_QuotaLawsLaw_law_428 : decode code 428 = .ok (.aload_n 0, 1) := by decide +kernel
theorem d_QuotaLawsLaw_law_429 : decode code 429 = .ok (.iload_n 3, 1) := by decide +kernel
theorem d_QuotaLawsLaw_law_430 : decode code 430 = .ok (.iconst 1, 1) := by decide +kernel
theorem d_QuotaLawsLaw_law_431 : decode code 431 = .ok (.iadd, 1) := by decide +kernel
theorem d_QuotaLawsLaw_law_432 : decode code 432 = .ok (.iaload, 1) := by decide +kernel
theorem d_QuotaLawsLaw_law_433 : decode code 433 = .ok (.aload_n 0, 1) := by decide +kernel
theorem d_QuotaLawsLaw_law_434 : decode code 434 = .ok (.iload_n 3, 1) := by decide +kernel
theorem d_QuotaLawsLaw_law_435 : decode code 435 = .ok (.iconst 2, 1) := by decide +kernel
theorem d_QuotaLawsLaw_law_436 : decode code 436 = .ok (.iadd, 1) := by decide +kernel
theorem d_QuotaLawsLaw_law_437 : decode code 437 = .ok (.iaload, 1) := by decide +kernel
theorem d_QuotaLawsLaw_law_438 : decode code 438 = .ok (.invokevirtual 52, 3) := by decide +kernel
theorem d_QuotaLawsLaw_law_441 : decode code 441 = .ok (.aload_n 2, 1) := by decide +kernel
theorem d_QuotaLawsLaw_law_442 : decode code 442 = .ok (.aload_n 0, 1) := by decide +kernel
theorem d_QuotaLawsLaw_law_443 : decode code 443 = .ok (.iload_n 3, 1) := by decide +kernel
theorem d_QuotaLawsLaw_law_444 : decode code 444 = .ok (.iconst 1, 1) := by decide +kernel
theorem d_QuotaLawsLaw_law_445 : decode code 445 = .ok (.iadd, 1) := by decide +kernel
theorem d_QuotaLawsLaw_law_446 : decode code 446 = .ok (.iaload, 1) := by decide +kernel
theorem d_QuotaLawsLaw_law_447 : decode code 447 = .ok (.aload_n 0, 1) := by decide +kernel
theorem d_QuotaLawsLaw_law_448 : decode code 448 = .ok (.iload_n 3, 1) := by decide +kernel
theorem d_QuotaLawsLaw_law_449 : decode code 449 = .ok (.iconst 2, 1) := by decide +kernel
theorem d_QuotaLawsLaw_law_450 : decode code 450 = .ok (.iadd, 1) := by decide +kernel
theorem d_QuotaLawsLaw_law_451 : decode code 451 = .ok (.iaload, 1) := by decide +kernel
theorem d_QuotaLawsLaw_law_452 : decode code 452 = .ok (.invokevirtual 55, 3) := by decide +kernel
theorem d_QuotaLawsLaw_law_455 : decode code 455 = .ok (.if_icmp .eq 889, 3) := by decide +kernel
theorem d_QuotaLawsLaw_law_458 : decode code 458 = .ok (.iconst 0, 1) := by decide +kernel
theorem d_QuotaLawsLaw_law_459 : decode code 459 = .ok (.ireturn, 1) := by decide +kernel
theorem d_QuotaLawsLaw_law_460 : decode code 460 = .ok (.aload_n 1, 1) := by decide +kernel
theorem d_QuotaLawsLaw_law_461 : decode code 461 = .ok (.aload_n 0, 1) := by decide +kernel
theorem d_QuotaLawsLaw_law_462 : decode code 462 = .ok (.iload_n 3, 1) := by decide +kernel
theorem d_QuotaLawsLaw_law_463 : decode code 463 = .ok (.iconst 1, 1) := by decide +kernel
theorem d_QuotaLawsLaw_law_464 : decode code 464 = .ok (.iadd, 1) := by decide +kernel
theorem d_QuotaLawsLaw_law_465 : decode code 465 = .ok (.iaload, 1) := by decide +kernel
theorem d_QuotaLawsLaw_law_466 : decode code 466 = .ok (.aload_n 0, 1) := by decide +kernel
theorem d_QuotaLawsLaw_law_467 : decode code 467 = .ok (.iload_n 3, 1) := by decide +kernel
theorem d_QuotaLawsLaw_law_468 : decode code 468 = .ok (.iconst 2, 1) := by decide +kernel
theorem d_QuotaLawsLaw_law_469 : decode code 469 = .ok (.iadd, 1) := by decide +kernel
theorem d_QuotaLawsLaw_law_470 : decode code 470 = .ok (.iaload, 1) := by decide +kernel
theorem d_QuotaLawsLaw_law_471 : decode code 471 = .ok (.ifCond .eq 7, 3) := by decide +kernel
theorem d_QuotaLawsLaw_law_474 : decode code 474 = .ok (.iconst 1, 1) := by decide +kernel
theorem d_QuotaLawsLaw_law_475 : decode code 475 = .ok (.goto 4, 3) := by decide +kernel
theorem d_QuotaLawsLaw_law_478 : decode code 478 = .ok (.iconst 0, 1) := by decide +kernel
theorem d_QuotaLawsLaw_law_479 : decode code 479 = .ok (.invokevirtual 56, 3) := by decide +kernel
theorem d_QuotaLawsLaw_law_482 : decode code 482 = .ok (.aload_n 2, 1) := by decide +kernel
theorem d_QuotaLawsLaw_law_483 : decode code 483 = .ok (.aload_n 0, 1) := by decide +kernel
theorem d_QuotaLawsLaw_law_484 : decode code 484 = .ok (.iload_n 3, 1) := by decide +kernel
theorem d_QuotaLawsLaw_law_485 : decode code 485 = .ok (.iconst 1, 1) := by decide +kernel
theorem d_QuotaLawsLaw_law_486 : decode code 486 = .ok (.iadd, 1) := by decide +kernel
theorem d_QuotaLawsLaw_law_487 : decode code 487 = .ok (.iaload, 1) := by decide +kernel
theorem d_QuotaLawsLaw_law_488 : decode code 488 = .ok (.aload_n 0, 1) := by decide +kernel
theorem d_QuotaLawsLaw_law_489 : decode code 489 = .ok (.iload_n 3, 1) := by decide +kernel
theorem d_QuotaLawsLaw_law_490 : decode code 490 = .ok (.iconst 2, 1) := by decide +kernel
theorem d_QuotaLawsLaw_law_491 : decode code 491 = .ok (.iadd, 1) := by decide +kernel
theorem d_QuotaLawsLaw_law_492 : decode code 492 = .ok (.iaload, 1) := by decide +kernel
theorem d_QuotaLawsLaw_law_493 : decode code 493 = .ok (.ifCond .eq 7, 3) := by decide +kernel
theorem d_QuotaLawsLaw_law_496 : decode code 496 = .ok (.iconst 1, 1) := by decide +kernel
theorem d_QuotaLawsLaw_law_497 : decode code 497 = .ok (.goto 4, 3) := by decide +kernel
theorem d_QuotaLawsLaw_law_500 : decode code 500 = .ok (.iconst 0, 1) := by decide +kernel
theorem d_QuotaLawsLaw_law_501 : decode code 501 = .ok (.invokevirtual 60, 3) := by decide +kernel
theorem d_QuotaLawsLaw_law_504 : decode code 504 = .ok (.if_icmp .eq 840, 3) := by decide +kernel
theorem d_QuotaLawsLaw_law_507 : decode code 507 = .ok (.iconst 0, 1) := by decide +kernel
theorem d_QuotaLawsLaw_law_508 : decode code 508 = .ok (.ireturn, 1) := by decide +kernel
theorem d_QuotaLawsLaw_law_509 : decode code 509 = .ok (.aload_n 1, 1) := by decide +kernel
theorem d_QuotaLawsLaw_law_510 : decode code 510 = .ok (.aload_n 0, 1) := by decide +kernel
theorem d_QuotaLawsLaw_law_511 : decode code 511 = .ok (.iload_n 3, 1) := by decide +kernel
theorem d_QuotaLawsLaw_law_512 : decode code 512 = .ok (.iconst 1, 1) := by decide +kernel
theorem d_QuotaLawsLaw_law_513 : decode code 513 = .ok (.iadd, 1) := by decide +kernel
theorem d_QuotaLawsLaw_law_514 : decode code 514 = .ok (.iaload, 1) := by decide +kernel
theorem d_QuotaLawsLaw_law_515 : decode code 515 = .ok (.aload_n 0, 1) := by decide +kernel
theorem d_QuotaLawsLaw_law_516 : decode code 516 = .ok (.iload_n 3, 1) := by decide +kernel
theorem d_QuotaLawsLaw_law_517 : decode code 517 = .ok (.iconst 2, 1) := by decide +kernel
theorem d_QuotaLawsLaw_law_518 : decode code 518 = .ok (.iadd, 1) := by decide +kernel
theorem d_QuotaLawsLaw_law_519 : decode code 519 = .ok (.iaload, 1) := by decide +kernel
theorem d_QuotaLawsLaw_law_520 : decode code 520 = .ok (.invokevirtual 61, 3) := by decide +kernel
theorem d_QuotaLawsLaw_law_523 : decode code 523 = .ok (.aload_n 2, 1) := by decide +kernel
theorem d_QuotaLawsLaw_law_524 : decode code 524 = .ok (.aload_n 0, 1) := by decide +kernel
theorem d_QuotaLawsLaw_law_525 : decode code 525 = .ok (.iload_n 3, 1) := by decide +kernel
theorem d_QuotaLawsLaw_law_526 : decode code 526 = .ok (.iconst 1, 1) := by decide +kernel
theorem d_QuotaLawsLaw_law_527 : decode code 527 = .ok (.iadd, 1) := by decide +kernel
theorem d_QuotaLawsLaw_law_528 : decode code 528 = .ok (.iaload, 1) := by decide +kernel
theorem d_QuotaLawsLaw_law_529 : decode code 529 = .ok (.aload_n 0, 1) := by decide +kernel
theorem d_QuotaLawsLaw_law_530 : decode code 530 = .ok (.iload_n 3, 1) := by decide +kernel
theorem d_QuotaLawsLaw_law_531 : decode code 531 = .ok (.iconst 2, 1) := by decide +kernel
theorem d_QuotaLawsLaw_law_532 : decode code 532 = .ok (.iadd, 1) := by decide +kernel
theorem d_QuotaLawsLaw_law_533 : decode code 533 = .ok (.iaload, 1) := by decide +kernel
theorem d_QuotaLawsLaw_law_534 : decode code 534 = .ok (.invokevirtual 64, 3) := by decide +kernel
theorem d_QuotaLawsLaw_law_537 : decode code 537 = .ok (.if_icmp .eq 807, 3) := by decide +kernel
theorem d_QuotaLawsLaw_law_540 : decode code 540 = .ok (.iconst 0, 1) := by decide +kernel
theorem d_QuotaLawsLaw_law_541 : decode code 541 = .ok (.ireturn, 1) := by decide +kernel
theorem d_QuotaLawsLaw_law_542 : decode code 542 = .ok (.aload_n 1, 1) := by decide +kernel
theorem d_QuotaLawsLaw_law_543 : decode code 543 = .ok (.aload_n 0, 1) := by decide +kernel
theorem d_QuotaLawsLaw_law_544 : decode code 544 = .ok (.iload_n 3, 1) := by decide +kernel
theorem d_QuotaLawsLaw_law_545 : decode code 545 = .ok (.iconst 1, 1) := by decide +kernel
theorem d_QuotaLawsLaw_law_546 : decode code 546 = .ok (.iadd, 1) := by decide +kernel
theorem d_QuotaLawsLaw_law_547 : decode code 547 = .ok (.iaload, 1) := by decide +kernel
theorem d_QuotaLawsLaw_law_548 : decode code 548 = .ok (.aload_n 0, 1) := by decide +kernel
theorem d_QuotaLawsLaw_law_549 : decode code 549 = .ok (.iload_n 3, 1) := by decide +kernel
theorem d_QuotaLawsLaw_law_550 : decode code 550 = .ok (.iconst 2, 1) := by decide +kernel
theorem d_QuotaLawsLaw_law_551 : decode code 551 = .ok (.iadd, 1) := by decide +kernel
theorem d_QuotaLawsLaw_law_552 : decode code 552 = .ok (.iaload, 1) := by decide +kernel
theorem d_QuotaLawsLaw_law_553 : decode code 553 = .ok (.aload_n 0, 1) := by decide +kernel
theorem d_QuotaLawsLaw_law_554 : decode code 554 = .ok (.iload_n 3, 1) := by decide +kernel
theorem d_QuotaLawsLaw_law_555 : decode code 555 = .ok (.iconst 3, 1) := by decide +kernel
theorem d_QuotaLawsLaw_law_556 : decode code 556 = .ok (.iadd, 1) := by decide +kernel
theorem d_QuotaLawsLaw_law_557 : decode code 557 = .ok (.iaload, 1) := by decide +kernel
theorem d_QuotaLawsLaw_law_558 : decode code 558 = .ok (.ifCond .eq 7, 3) := by decide +kernel
theorem d_QuotaLawsLaw_law_561 : decode code 561 = .ok (.iconst 1, 1) := by decide +kernel
theorem d_QuotaLawsLaw_law_562 : decode code 562 = .ok (.goto 4, 3) := by decide +kernel
theorem d_QuotaLawsLaw_law_565 : decode code 565 = .ok (.iconst 0, 1) := by decide +kernel
theorem d_QuotaLawsLaw_law_566 : decode code 566 = .ok (.invokevirtual 65, 3) := by decide +kernel
theorem d_QuotaLawsLaw_law_569 : decode code 569 = .ok (.aload_n 2, 1) := by decide +kernel
theorem d_QuotaLawsLaw_law_570 : decode code 570 = .ok (.aload_n 0, 1) := by decide +kernel
theorem d_QuotaLawsLaw_law_571 : decode code 571 = .ok (.iload_n 3, 1) := by decide +kernel
theorem d_QuotaLawsLaw_law_572 : decode code 572 = .ok (.iconst 1, 1) := by decide +kernel
theorem d_QuotaLawsLaw_law_573 : decode code 573 = .ok (.iadd, 1) := by decide +kernel
theorem d_QuotaLawsLaw_law_574 : decode code 574 = .ok (.iaload, 1) := by decide +kernel
theorem d_QuotaLawsLaw_law_575 : decode code 575 = .ok (.aload_n 0, 1) := by decide +kernel
theorem d_QuotaLawsLaw_law_576 : decode code 576 = .ok (.iload_n 3, 1) := by decide +kernel
theorem d_QuotaLawsLaw_law_577 : decode code 577 = .ok (.iconst 2, 1) := by decide +kernel
theorem d_QuotaLawsLaw_law_578 : decode code 578 = .ok (.iadd, 1) := by decide +kernel
theorem d_QuotaLawsLaw_law_579 : decode code 579 = .ok (.iaload, 1) := by decide +kernel
theorem d_QuotaLawsLaw_law_580 : decode code 580 = .ok (.aload_n 0, 1) := by decide +kernel
theorem d_QuotaLawsLaw_law_581 : decode code 581 = .ok (.iload_n 3, 1) := by decide +kernel
theorem d_QuotaLawsLaw_law_582 : decode code 582 = .ok (.iconst 3, 1) := by decide +kernel
theorem d_QuotaLawsLaw_law_583 : decode code 583 = .ok (.iadd, 1) := by decide +kernel
theorem d_QuotaLawsLaw_law_584 : decode code 584 = .ok (.iaload, 1) := by decide +kernel
theorem d_QuotaLawsLaw_law_585 : decode code 585 = .ok (.ifCond .eq 7, 3) := by decide +kernel
theorem d_QuotaLawsLaw_law_588 : decode code 588 = .ok (.iconst 1, 1) := by decide +kernel
theorem d_QuotaLawsLaw_law_589 : decode code 589 = .ok (.goto 4, 3) := by decide +kernel
theorem d_QuotaLawsLaw_law_592 : decode code 592 = .ok (.iconst 0, 1) := by decide +kernel
theorem d_QuotaLawsLaw_law_593 : decode code 593 = .ok (.invokevirtual 69, 3) := by decide +kernel
theorem d_QuotaLawsLaw_law_596 : decode code 596 = .ok (.if_icmp .eq 748, 3) := by decide +kernel
theorem d_QuotaLawsLaw_law_599 : decode code 599 = .ok (.iconst 0, 1) := by decide +kernel
theorem d_QuotaLawsLaw_law_600 : decode code 600 = .ok (.ireturn, 1) := by decide +kernel
theorem d_QuotaLawsLaw_law_601 : decode code 601 = .ok (.aload_n 1, 1) := by decide +kernel
theorem d_QuotaLawsLaw_law_602 : decode code 602 = .ok (.aload_n 0, 1) := by decide +kernel
theorem d_QuotaLawsLaw_law_603 : decode code 603 = .ok (.iload_n 3, 1) := by decide +kernel
theorem d_QuotaLawsLaw_law_604 : decode code 604 = .ok (.iconst 1, 1) := by decide +kernel
theorem d_QuotaLawsLaw_law_605 : decode code 605 = .ok (.iadd, 1) := by decide +kernel
theorem d_QuotaLawsLaw_law_606 : decode code 606 = .ok (.iaload, 1) := by decide +kernel
theorem d_QuotaLawsLaw_law_607 : decode code 607 = .ok (.aload_n 0, 1) := by decide +kernel
theorem d_QuotaLawsLaw_law_608 : decode code 608 = .ok (.iload_n 3, 1) := by decide +kernel
theorem d_QuotaLawsLaw_law_609 : decode code 609 = .ok (.iconst 2, 1) := by decide +kernel
theorem d_QuotaLawsLaw_law_610 : decode code 610 = .ok (.iadd, 1) := by decide +kernel
theorem d_QuotaLawsLaw_law_611 : decode code 611 = .ok (.iaload, 1) := by decide +kernel
theorem d_QuotaLawsLaw_law_612 : decode code 612 = .ok (.aload_n 0, 1) := by decide +kernel
theorem d_QuotaLawsLaw_law_613 : decode code 613 = .ok (.iload_n 3, 1) := by decide +kernel
theorem d_QuotaLawsLaw_law_614 : decode code 614 = .ok (.iconst 3, 1) := by decide +kernel
theorem d_QuotaLawsLaw_law_615 : decode code 615 = .ok (.iadd, 1) := by decide +kernel
theorem d_QuotaLawsLaw_law_616 : decode code 616 = .ok (.iaload, 1) := by decide +kernel
theorem d_QuotaLawsLaw_law_617 : decode code 617 = .ok (.ifCond .eq 7, 3) := by decide +kernel
theorem d_QuotaLawsLaw_law_620 : decode code 620 = .ok (.iconst 1, 1) := by decide +kernel
theorem d_QuotaLawsLaw_law_621 : decode code 621 = .ok (.goto 4, 3) := by decide +kernel
theorem d_QuotaLawsLaw_law_624 : decode code 624 = .ok (.iconst 0, 1) := by decide +kernel
theorem d_QuotaLawsLaw_law_625 : decode code 625 = .ok (.invokevirtual 70, 3) := by decide +kernel
theorem d_QuotaLawsLaw_law_628 : decode code 628 = .ok (.aload_n 2, 1) := by decide +kernel
theorem d_QuotaLawsLaw_law_629 : decode code 629 = .ok (.aload_n 0, 1) := by decide +kernel
theorem d_QuotaLawsLaw_law_630 : decode code 630 = .ok (.iload_n 3, 1) := by decide +kernel
theorem d_QuotaLawsLaw_law_631 : decode code 631 = .ok (.iconst 1, 1) := by decide +kernel
theorem d_QuotaLawsLaw_law_632 : decode code 632 = .ok (.iadd, 1) := by decide +kernel
theorem d_QuotaLawsLaw_law_633 : decode code 633 = .ok (.iaload, 1) := by decide +kernel
theorem d_QuotaLawsLaw_law_634 : decode code 634 = .ok (.aload_n 0, 1) := by decide +kernel
theorem d_QuotaLawsLaw_law_635 : decode code 635 = .ok (.iload_n 3, 1) := by decide +kernel
theorem d_QuotaLawsLaw_law_636 : decode code 636 = .ok (.iconst 2, 1) := by decide +kernel
theorem d_QuotaLawsLaw_law_637 : decode code 637 = .ok (.iadd, 1) := by decide +kernel
theorem d_QuotaLawsLaw_law_638 : decode code 638 = .ok (.iaload, 1) := by decide +kernel
theorem d_QuotaLawsLaw_law_639 : decode code 639 = .ok (.aload_n 0, 1) := by decide +kernel
theorem d_QuotaLawsLaw_law_640 : decode code 640 = .ok (.iload_n 3, 1) := by decide +kernel
theorem d_QuotaLawsLaw_law_641 : decode code 641 = .ok (.iconst 3, 1) := by decide +kernel
theorem d_QuotaLawsLaw_law_642 : decode code 642 = .ok (.iadd, 1) := by decide +kernel
theorem d_QuotaLawsLaw_law_643 : decode code 643 = .ok (.iaload, 1) := by decide +kernel
theorem d_QuotaLawsLaw_law_644 : decode code 644 = .ok (.ifCond .eq 7, 3) := by decide +kernel
theorem d_QuotaLawsLaw_law_647 : decode code 647 = .ok (.iconst 1, 1) := by decide +kernel
theorem d_QuotaLawsLaw_law_648 : decode code 648 = .ok (.goto 4, 3) := by decide +kernel
theorem d_QuotaLawsLaw_law_651 : decode code 651 = .ok (.iconst 0, 1) := by decide +kernel
theorem d_QuotaLawsLaw_law_652 : decode code 652 = .ok (.invokevirtual 73, 3) := by decide +kernel
theorem d_QuotaLawsLaw_law_655 : decode code 655 = .ok (.if_icmp .eq 689, 3) := by decide +kernel
theorem d_QuotaLawsLaw_law_658 : decode code 658 = .ok (.iconst 0, 1) := by decide +kernel
theorem d_QuotaLawsLaw_law_659 : decode code 659 = .ok (.ireturn, 1) := by decide +kernel
theorem d_QuotaLawsLaw_law_660 : decode code 660 = .ok (.aload_n 1, 1) := by decide +kernel
theorem d_QuotaLawsLaw_law_661 : decode code 661 = .ok (.aload_n 0, 1) := by decide +kernel
theorem d_QuotaLawsLaw_law_662 : decode code 662 = .ok (.iload_n 3, 1) := by decide +kernel
theorem d_QuotaLawsLaw_law_663 : decode code 663 = .ok (.iconst 1, 1) := by decide +kernel
theorem d_QuotaLawsLaw_law_664 : decode code 664 = .ok (.iadd, 1) := by decide +kernel
theorem d_QuotaLawsLaw_law_665 : decode code 665 = .ok (.iaload, 1) := by decide +kernel
theorem d_QuotaLawsLaw_law_666 : decode code 666 = .ok (.aload_n 0, 1) := by decide +kernel
theorem d_QuotaLawsLaw_law_667 : decode code 667 = .ok (.iload_n 3, 1) := by decide +kernel
theorem d_QuotaLawsLaw_law_668 : decode code 668 = .ok (.iconst 2, 1) := by decide +kernel
theorem d_QuotaLawsLaw_law_669 : decode code 669 = .ok (.iadd, 1) := by decide +kernel
theorem d_QuotaLawsLaw_law_670 : decode code 670 = .ok (.iaload, 1) := by decide +kernel
theorem d_QuotaLawsLaw_law_671 : decode code 671 = .ok (.invokevirtual 74, 3) := by decide +kernel
theorem d_QuotaLawsLaw_law_674 : decode code 674 = .ok (.aload_n 2, 1) := by decide +kernel
theorem d_QuotaLawsLaw_law_675 : decode code 675 = .ok (.aload_n 0, 1) := by decide +kernel
theorem d_QuotaLawsLaw_law_676 : decode code 676 = .ok (.iload_n 3, 1) := by decide +kernel
theorem d_QuotaLawsLaw_law_677 : decode code 677 = .ok (.iconst 1, 1) := by decide +kernel
theorem d_QuotaLawsLaw_law_678 : decode code 678 = .ok (.iadd, 1) := by decide +kernel
theorem d_QuotaLawsLaw_law_679 : decode code 679 = .ok (.iaload, 1) := by decide +kernel
theorem d_QuotaLawsLaw_law_680 : decode code 680 = .ok (.aload_n 0, 1) := by decide +kernel
theorem d_QuotaLawsLaw_law_681 : decode code 681 = .ok (.iload_n 3, 1) := by decide +kernel
theorem d_QuotaLawsLaw_law_682 : decode code 682 = .ok (.iconst 2, 1) := by decide +kernel
theorem d_QuotaLawsLaw_law_683 : decode code 683 = .ok (.iadd, 1) := by decide +kernel
theorem d_QuotaLawsLaw_law_684 : decode code 684 = .ok (.iaload, 1) := by decide +kernel
theorem d_QuotaLawsLaw_law_685 : decode code 685 = .ok (.invokevirtual 77, 3) := by decide +kernel
theorem d_QuotaLawsLaw_law_688 : decode code 688 = .ok (.if_icmp .eq 656, 3) := by decide +kernel
theorem d_QuotaLawsLaw_law_691 : decode code 691 = .ok (.iconst 0, 1) := by decide +kernel
theorem d_QuotaLawsLaw_law_692 : decode code 692 = .ok (.ireturn, 1) := by decide +kernel
theorem d_QuotaLawsLaw_law_693 : decode code 693 = .ok (.aload_n 1, 1) := by decide +kernel
theorem d_QuotaLawsLaw_law_694 : decode code 694 = .ok (.aload_n 0, 1) := by decide +kernel
theorem d_QuotaLawsLaw_law_695 : decode code 695 = .ok (.iload_n 3, 1) := by decide +kernel
theorem d_QuotaLawsLaw_law_696 : decode code 696 = .ok (.iconst 1, 1) := by decide +kernel
theorem d_QuotaLawsLaw_law_697 : decode code 697 = .ok (.iadd, 1) := by decide +kernel
theorem d_QuotaLawsLaw_law_698 : decode code 698 = .ok (.iaload, 1) := by decide +kernel
theorem d_QuotaLawsLaw_law_699 : decode code 699 = .ok (.invokevirtual 78, 3) := by decide +kernel
theorem d_QuotaLawsLaw_law_702 : decode code 702 = .ok (.aload_n 2, 1) := by decide +kernel
theorem d_QuotaLawsLaw_law_703 : decode code 703 = .ok (.aload_n 0, 1) := by decide +kernel
theorem d_QuotaLawsLaw_law_704 : decode code 704 = .ok (.iload_n 3, 1) := by decide +kernel
theorem d_QuotaLawsLaw_law_705 : decode code 705 = .ok (.iconst 1, 1) := by decide +kernel
theorem d_QuotaLawsLaw_law_706 : decode code 706 = .ok (.iadd, 1) := by decide +kernel
theorem d_QuotaLawsLaw_law_707 : decode code 707 = .ok (.iaload, 1) := by decide +kernel
theorem d_QuotaLawsLaw_law_708 : decode code 708 = .ok (.invokevirtual 81, 3) := by decide +kernel
theorem d_QuotaLawsLaw_law_711 : decode code 711 = .ok (.if_icmp .eq 633, 3) := by decide +kernel
theorem d_QuotaLawsLaw_law_714 : decode code 714 = .ok (.iconst 0, 1) := by decide +kernel
theorem d_QuotaLawsLaw_law_715 : decode code 715 = .ok (.ireturn, 1) := by decide +kernel
theorem d_QuotaLawsLaw_law_716 : decode code 716 = .ok (.aload_n 1, 1) := by decide +kernel
theorem d_QuotaLawsLaw_law_717 : decode code 717 = .ok (.aload_n 0, 1) := by decide +kernel
theorem d_QuotaLawsLaw_law_718 : decode code 718 = .ok (.iload_n 3, 1) := by decide +kernel
theorem d_QuotaLawsLaw_law_719 : decode code 719 = .ok (.iconst 1, 1) := by decide +kernel
theorem d_QuotaLawsLaw_law_720 : decode code 720 = .ok (.iadd, 1) := by decide +kernel
theorem d_QuotaLawsLaw_law_721 : decode code 721 = .ok (.iaload, 1) := by decide +kernel
theorem d_QuotaLawsLaw_law_722 : decode code 722 = .ok (.aload_n 0, 1) := by decide +kernel
theorem d_QuotaLawsLaw_law_723 : decode code 723 = .ok (.iload_n 3, 1) := by decide +kernel
theorem d_QuotaLawsLaw_law_724 : decode code 724 = .ok (.iconst 2, 1) := by decide +kernel
theorem d_QuotaLawsLaw_law_725 : decode code 725 = .ok (.iadd, 1) := by decide +kernel
theorem d_QuotaLawsLaw_law_726 : decode code 726 = .ok (.iaload, 1) := by decide +kernel
theorem d_QuotaLawsLaw_law_727 : decode code 727 = .ok (.invokevirtual 82, 3) := by decide +kernel
theorem d_QuotaLawsLaw_law_730 : decode code 730 = .ok (.aload_n 2, 1) := by decide +kernel
theorem d_QuotaLawsLaw_law_731 : decode code 731 = .ok (.aload_n 0, 1) := by decide +kernel
theorem d_QuotaLawsLaw_law_732 : decode code 732 = .ok (.iload_n 3, 1) := by decide +kernel
theorem d_QuotaLawsLaw_law_733 : decode code 733 = .ok (.iconst 1, 1) := by decide +kernel
theorem d_QuotaLawsLaw_law_734 : decode code 734 = .ok (.iadd, 1) := by decide +kernel
theorem d_QuotaLawsLaw_law_735 : decode code 735 = .ok (.iaload, 1) := by decide +kernel
theorem d_QuotaLawsLaw_law_736 : decode code 736 = .ok (.aload_n 0, 1) := by decide +kernel
theorem d_QuotaLawsLaw_law_737 : decode code 737 = .ok (.iload_n 3, 1) := by decide +kernel
theorem d_QuotaLawsLaw_law_738 : decode code 738 = .ok (.iconst 2, 1) := by decide +kernel
theorem d_QuotaLawsLaw_law_739 : decode code 739 = .ok (.iadd, 1) := by decide +kernel
theorem d_QuotaLawsLaw_law_740 : decode code 740 = .ok (.iaload, 1) := by decide +kernel
theorem d_QuotaLawsLaw_law_741 : decode code 741 = .ok (.invokevirtual 85, 3) := by decide +kernel
theorem d_QuotaLawsLaw_law_744 : decode code 744 = .ok (.if_icmp .eq 600, 3) := by decide +kernel
theorem d_QuotaLawsLaw_law_747 : decode code 747 = .ok (.iconst 0, 1) := by decide +kernel
theorem d_QuotaLawsLaw_law_748 : decode code 748 = .ok (.ireturn, 1) := by decide +kernel
theorem d_QuotaLawsLaw_law_749 : decode code 749 = .ok (.aload_n 1, 1) := by decide +kernel
theorem d_QuotaLawsLaw_law_750 : decode code 750 = .ok (.invokevirtual 86, 3) := by decide +kernel
theorem d_QuotaLawsLaw_law_753 : decode code 753 = .ok (.aload_n 2, 1) := by decide +kernel
theorem d_QuotaLawsLaw_law_754 : decode code 754 = .ok (.invokevirtual 89, 3) := by decide +kernel
theorem d_QuotaLawsLaw_law_757 : decode code 757 = .ok (.if_icmp .eq 587, 3) := by decide +kernel
theorem d_QuotaLawsLaw_law_760 : decode code 760 = .ok (.iconst 0, 1) := by decide +kernel
theorem d_QuotaLawsLaw_law_761 : decode code 761 = .ok (.ireturn, 1) := by decide +kernel
theorem d_QuotaLawsLaw_law_762 : decode code 762 = .ok (.aload_n 1, 1) := by decide +kernel
theorem d_QuotaLawsLaw_law_763 : decode code 763 = .ok (.invokevirtual 90, 3) := by decide +kernel
theorem d_QuotaLawsLaw_law_766 : decode code 766 = .ok (.aload_n 2, 1) := by decide +kernel
theorem d_QuotaLawsLaw_law_767 : decode code 767 = .ok (.invokevirtual 93, 3) := by decide +kernel
theorem d_QuotaLawsLaw_law_770 : decode code 770 = .ok (.if_icmp .eq 574, 3) := by decide +kernel
theorem d_QuotaLawsLaw_law_773 : decode code 773 = .ok (.iconst 0, 1) := by decide +kernel
theorem d_QuotaLawsLaw_law_774 : decode code 774 = .ok (.ireturn, 1) := by decide +kernel
theorem d_QuotaLawsLaw_law_775 : decode code 775 = .ok (.aload_n 1, 1) := by decide +kernel
theorem d_QuotaLawsLaw_law_776 : decode code 776 = .ok (.aload_n 0, 1) := by decide +kernel
theorem d_QuotaLawsLaw_law_777 : decode code 777 = .ok (.iload_n 3, 1) := by decide +kernel
theorem d_QuotaLawsLaw_law_778 : decode code 778 = .ok (.iconst 1, 1) := by decide +kernel
theorem d_QuotaLawsLaw_law_779 : decode code 779 = .ok (.iadd, 1) := by decide +kernel
theorem d_QuotaLawsLaw_law_780 : decode code 780 = .ok (.iaload, 1) := by decide +kernel
theorem d_QuotaLawsLaw_law_781 : decode code 781 = .ok (.invokevirtual 94, 3) := by decide +kernel
theorem d_QuotaLawsLaw_law_784 : decode code 784 = .ok (.aload_n 2, 1) := by decide +kernel
theorem d_QuotaLawsLaw_law_785 : decode code 785 = .ok (.aload_n 0, 1) := by decide +kernel
theorem d_QuotaLawsLaw_law_786 : decode code 786 = .ok (.iload_n 3, 1) := by decide +kernel
theorem d_QuotaLawsLaw_law_787 : decode code 787 = .ok (.iconst 1, 1) := by decide +kernel
theorem d_QuotaLawsLaw_law_788 : decode code 788 = .ok (.iadd, 1) := by decide +kernel
theorem d_QuotaLawsLaw_law_789 : decode code 789 = .ok (.iaload, 1) := by decide +kernel
theorem d_QuotaLawsLaw_law_790 : decode code 790 = .ok (.invokevirtual 97, 3) := by decide +kernel
theorem d_QuotaLawsLaw_law_793 : decode code 793 = .ok (.if_icmp .eq 551, 3) := by decide +kernel
theorem d_QuotaLawsLaw_law_796 : decode code 796 = .ok (.iconst 0, 1) := by decide +kernel
theorem d_QuotaLawsLaw_law_797 : decode code 797 = .ok (.ireturn, 1) := by decide +kernel
theorem d_QuotaLawsLaw_law_798 : decode code 798 = .ok (.aload_n 1, 1) := by decide +kernel
theorem d_QuotaLawsLaw_law_799 : decode code 799 = .ok (.aload_n 0, 1) := by decide +kernel
theorem d_QuotaLawsLaw_law_800 : decode code 800 = .ok (.iload_n 3, 1) := by decide +kernel
theorem d_QuotaLawsLaw_law_801 : decode code 801 = .ok (.iconst 1, 1) := by decide +kernel
theorem d_QuotaLawsLaw_law_802 : decode code 802 = .ok (.iadd, 1) := by decide +kernel
theorem d_QuotaLawsLaw_law_803 : decode code 803 = .ok (.iaload, 1) := by decide +kernel
theorem d_QuotaLawsLaw_law_804 : decode code 804 = .ok (.invokevirtual 98, 3) := by decide +kernel
theorem d_QuotaLawsLaw_law_807 : decode code 807 = .ok (.aload_n 2, 1) := by decide +kernel
theorem d_QuotaLawsLaw_law_808 : decode code 808 = .ok (.aload_n 0, 1) := by decide +kernel
theorem d_QuotaLawsLaw_law_809 : decode code 809 = .ok (.iload_n 3, 1) := by decide +kernel
theorem d_QuotaLawsLaw_law_810 : decode code 810 = .ok (.iconst 1, 1) := by decide +kernel
theorem d_QuotaLawsLaw_law_811 : decode code 811 = .ok (.iadd, 1) := by decide +kernel
theorem d_QuotaLawsLaw_law_812 : decode code 812 = .ok (.iaload, 1) := by decide +kernel
theorem d_QuotaLawsLaw_law_813 : decode code 813 = .ok (.invokevirtual 101, 3) := by decide +kernel
theorem d_QuotaLawsLaw_law_816 : decode code 816 = .ok (.if_icmp .eq 528, 3) := by decide +kernel
theorem d_QuotaLawsLaw_law_819 : decode code 819 = .ok (.iconst 0, 1) := by decide +kernel
theorem d_QuotaLawsLaw_law_820 : decode code 820 = .ok (.ireturn, 1) := by decide +kernel
theorem d_QuotaLawsLaw_law_821 : decode code 821 = .ok (.aload_n 1, 1) := by decide +kernel
theorem d_QuotaLawsLaw_law_822 : decode code 822 = .ok (.aload_n 0, 1) := by decide +kernel
theorem d_QuotaLawsLaw_law_823 : decode code 823 = .ok (.iload_n 3, 1) := by decide +kernel
theorem d_QuotaLawsLaw_law_824 : decode code 824 = .ok (.iconst 1, 1) := by decide +kernel
theorem d_QuotaLawsLaw_law_825 : decode code 825 = .ok (.iadd, 1) := by decide +kernel
theorem d_QuotaLawsLaw_law_826 : decode code 826 = .ok (.iaload, 1) := by decide +kernel
theorem d_QuotaLawsLaw_law_827 : decode code 827 = .ok (.invokevirtual 102, 3) := by decide +kernel
theorem d_QuotaLawsLaw_law_830 : decode code 830 = .ok (.aload_n 2, 1) := by decide +kernel
theorem d_QuotaLawsLaw_law_831 : decode code 831 = .ok (.aload_n 0, 1) := by decide +kernel
theorem d_QuotaLawsLaw_law_832 : decode code 832 = .ok (.iload_n 3, 1) := by decide +kernel
theorem d_QuotaLawsLaw_law_833 : decode code 833 = .ok (.iconst 1, 1) := by decide +kernel
theorem d_QuotaLawsLaw_law_834 : decode code 834 = .ok (.iadd, 1) := by decide +kernel
theorem d_QuotaLawsLaw_law_835 : decode code 835 = .ok (.iaload, 1) := by decide +kernel
theorem d_QuotaLawsLaw_law_836 : decode code 836 = .ok (.invokevirtual 105, 3) := by decide +kernel
theorem d_QuotaLawsLaw_law_839 : decode code 839 = .ok (.if_icmp .eq 505, 3) := by decide +kernel
theorem d_QuotaLawsLaw_law_842 : decode code 842 = .ok (.iconst 0, 1) := by decide +kernel
theorem d_QuotaLawsLaw_law_843 : decode code 843 = .ok (.ireturn, 1) := by decide +kernel
theorem d_QuotaLawsLaw_law_844 : decode code 844 = .ok (.aload_n 1, 1) := by decide +kernel
theorem d_QuotaLawsLaw_law_845 : decode code 845 = .ok (.aload_n 0, 1) := by decide +kernel
theorem d_QuotaLawsLaw_law_846 : decode code 846 = .ok (.iload_n 3, 1) := by decide +kernel
theorem d_QuotaLawsLaw_law_847 : decode code 847 = .ok (.iconst 1, 1) := by decide +kernel
theorem d_QuotaLawsLaw_law_848 : decode code 848 = .ok (.iadd, 1) := by decide +kernel
theorem d_QuotaLawsLaw_law_849 : decode code 849 = .ok (.iaload, 1) := by decide +kernel
theorem d_QuotaLawsLaw_law_850 : decode code 850 = .ok (.invokevirtual 106, 3) := by decide +kernel
theorem d_QuotaLawsLaw_law_853 : decode code 853 = .ok (.aload_n 2, 1) := by decide +kernel
theorem d_QuotaLawsLaw_law_854 : decode code 854 = .ok (.aload_n 0, 1) := by decide +kernel
theorem d_QuotaLawsLaw_law_855 : decode code 855 = .ok (.iload_n 3, 1) := by decide +kernel
theorem d_QuotaLawsLaw_law_856 : decode code 856 = .ok (.iconst 1, 1) := by decide +kernel
theorem d_QuotaLawsLaw_law_857 : decode code 857 = .ok (.iadd, 1) := by decide +kernel
theorem d_QuotaLawsLaw_law_858 : decode code 858 = .ok (.iaload, 1) := by decide +kernel
theorem d_QuotaLawsLaw_law_859 : decode code 859 = .ok (.invokevirtual 109, 3) := by decide +kernel
theorem d_QuotaLawsLaw_law_862 : decode code 862 = .ok (.if_icmp .eq 482, 3) := by decide +kernel
theorem d_QuotaLawsLaw_law_865 : decode code 865 = .ok (.iconst 0, 1) := by decide +kernel
theorem d_QuotaLawsLaw_law_866 : decode code 866 = .ok (.ireturn, 1) := by decide +kernel
theorem d_QuotaLawsLaw_law_867 : decode code 867 = .ok (.aload_n 1, 1) := by decide +kernel
theorem d_QuotaLawsLaw_law_868 : decode code 868 = .ok (.aload_n 0, 1) := by decide +kernel
theorem d_QuotaLawsLaw_law_869 : decode code 869 = .ok (.iload_n 3, 1) := by decide +kernel
theorem d_QuotaLawsLaw_law_870 : decode code 870 = .ok (.iconst 1, 1) := by decide +kernel
theorem d_QuotaLawsLaw_law_871 : decode code 871 = .ok (.iadd, 1) := by decide +kernel
theorem d_QuotaLawsLaw_law_872 : decode code 872 = .ok (.iaload, 1) := by decide +kernel
theorem d_QuotaLawsLaw_law_873 : decode code 873 = .ok (.aload_n 0, 1) := by decide +kernel
theorem d_QuotaLawsLaw_law_874 : decode code 874 = .ok (.iload_n 3, 1) := by decide +kernel
theorem d_QuotaLawsLaw_law_875 : decode code 875 = .ok (.iconst 2, 1) := by decide +kernel
theorem d_QuotaLawsLaw_law_876 : decode code 876 = .ok (.iadd, 1) := by decide +kernel
theorem d_QuotaLawsLaw_law_877 : decode code 877 = .ok (.iaload, 1) := by decide +kernel
theorem d_QuotaLawsLaw_law_878 : decode code 878 = .ok (.invokevirtual 110, 3) := by decide +kernel
theorem d_QuotaLawsLaw_law_881 : decode code 881 = .ok (.aload_n 2, 1) := by decide +kernel
theorem d_QuotaLawsLaw_law_882 : decode code 882 = .ok (.aload_n 0, 1) := by decide +kernel
theorem d_QuotaLawsLaw_law_883 : decode code 883 = .ok (.iload_n 3, 1) := by decide +kernel
theorem d_QuotaLawsLaw_law_884 : decode code 884 = .ok (.iconst 1, 1) := by decide +kernel
theorem d_QuotaLawsLaw_law_885 : decode code 885 = .ok (.iadd, 1) := by decide +kernel
theorem d_QuotaLawsLaw_law_886 : decode code 886 = .ok (.iaload, 1) := by decide +kernel
theorem d_QuotaLawsLaw_law_887 : decode code 887 = .ok (.aload_n 0, 1) := by decide +kernel
theorem d_QuotaLawsLaw_law_888 : decode code 888 = .ok (.iload_n 3, 1) := by decide +kernel
theorem d_QuotaLawsLaw_law_889 : decode code 889 = .ok (.iconst 2, 1) := by decide +kernel
theorem d_QuotaLawsLaw_law_890 : decode code 890 = .ok (.iadd, 1) := by decide +kernel
theorem d_QuotaLawsLaw_law_891 : decode code 891 = .ok (.iaload, 1) := by decide +kernel
theorem d_QuotaLawsLaw_law_892 : decode code 892 = .ok (.invokevirtual 113, 3) := by decide +kernel
theorem d_QuotaLawsLaw_law_895 : decode code 895 = .ok (.if_icmp .eq 449, 3) := by decide +kernel
theorem d_QuotaLawsLaw_law_898 : decode code 898 = .ok (.iconst 0, 1) := by decide +kernel
theorem d_QuotaLawsLaw_law_899 : decode code 899 = .ok (.ireturn, 1) := by decide +kernel
theorem d_QuotaLawsLaw_law_900 : decode code 900 = .ok (.aload_n 1, 1) := by decide +kernel
theorem d_QuotaLawsLaw_law_901 : decode code 901 = .ok (.aload_n 0, 1) := by decide +kernel
theorem d_QuotaLawsLaw_law_902 : decode code 902 = .ok (.iload_n 3, 1) := by decide +kernel
theorem d_QuotaLawsLaw_law_903 : decode code 903 = .ok (.iconst 1, 1) := by decide +kernel
theorem d_QuotaLawsLaw_law_904 : decode code 904 = .ok (.iadd, 1) := by decide +kernel
theorem d_QuotaLawsLaw_law_905 : decode code 905 = .ok (.iaload, 1) := by decide +kernel
theorem d_QuotaLawsLaw_law_906 : decode code 906 = .ok (.invokevirtual 114, 3) := by decide +kernel
theorem d_QuotaLawsLaw_law_909 : decode code 909 = .ok (.aload_n 2, 1) := by decide +kernel
theorem d_QuotaLawsLaw_law_910 : decode code 910 = .ok (.aload_n 0, 1) := by decide +kernel
theorem d_QuotaLawsLaw_law_911 : decode code 911 = .ok (.iload_n 3, 1) := by decide +kernel
theorem d_QuotaLawsLaw_law_912 : decode code 912 = .ok (.iconst 1, 1) := by decide +kernel
theorem d_QuotaLawsLaw_law_913 : decode code 913 = .ok (.iadd, 1) := by decide +kernel
theorem d_QuotaLawsLaw_law_914 : decode code 914 = .ok (.iaload, 1) := by decide +kernel
theorem d_QuotaLawsLaw_law_915 : decode code 915 = .ok (.invokevirtual 117, 3) := by decide +kernel
theorem d_QuotaLawsLaw_law_918 : decode code 918 = .ok (.if_icmp .eq 426, 3) := by decide +kernel
theorem d_QuotaLawsLaw_law_921 : decode code 921 = .ok (.iconst 0, 1) := by decide +kernel
theorem d_QuotaLawsLaw_law_922 : decode code 922 = .ok (.ireturn, 1) := by decide +kernel
theorem d_QuotaLawsLaw_law_923 : decode code 923 = .ok (.aload_n 1, 1) := by decide +kernel
theorem d_QuotaLawsLaw_law_924 : decode code 924 = .ok (.aload_n 0, 1) := by decide +kernel
theorem d_QuotaLawsLaw_law_925 : decode code 925 = .ok (.iload_n 3, 1) := by decide +kernel
theorem d_QuotaLawsLaw_law_926 : decode code 926 = .ok (.iconst 1, 1) := by decide +kernel
theorem d_QuotaLawsLaw_law_927 : decode code 927 = .ok (.iadd, 1) := by decide +kernel
theorem d_QuotaLawsLaw_law_928 : decode code 928 = .ok (.iaload, 1) := by decide +kernel
theorem d_QuotaLawsLaw_law_929 : decode code 929 = .ok (.aload_n 0, 1) := by decide +kernel
theorem d_QuotaLawsLaw_law_930 : decode code 930 = .ok (.iload_n 3, 1) := by decide +kernel
theorem d_QuotaLawsLaw_law_931 : decode code 931 = .ok (.iconst 2, 1) := by decide +kernel
theorem d_QuotaLawsLaw_law_932 : decode code 932 = .ok (.iadd, 1) := by decide +kernel
theorem d_QuotaLawsLaw_law_933 : decode code 933 = .ok (.iaload, 1) := by decide +kernel
theorem d_QuotaLawsLaw_law_934 : decode code 934 = .ok (.invokevirtual 118, 3) := by decide +kernel
theorem d_QuotaLawsLaw_law_937 : decode code 937 = .ok (.aload_n 2, 1) := by decide +kernel
theorem d_QuotaLawsLaw_law_938 : decode code 938 = .ok (.aload_n 0, 1) := by decide +kernel
theorem d_QuotaLawsLaw_law_939 : decode code 939 = .ok (.iload_n 3, 1) := by decide +kernel
theorem d_QuotaLawsLaw_law_940 : decode code 940 = .ok (.iconst 1, 1) := by decide +kernel
theorem d_QuotaLawsLaw_law_941 : decode code 941 = .ok (.iadd, 1) := by decide +kernel
theorem d_QuotaLawsLaw_law_942 : decode code 942 = .ok (.iaload, 1) := by decide +kernel
theorem d_QuotaLawsLaw_law_943 : decode code 943 = .ok (.aload_n 0, 1) := by decide +kernel
theorem d_QuotaLawsLaw_law_944 : decode code 944 = .ok (.iload_n 3, 1) := by decide +kernel
theorem d_QuotaLawsLaw_law_945 : decode code 945 = .ok (.iconst 2, 1) := by decide +kernel
theorem d_QuotaLawsLaw_law_946 : decode code 946 = .ok (.iadd, 1) := by decide +kernel
theorem d_QuotaLawsLaw_law_947 : decode code 947 = .ok (.iaload, 1) := by decide +kernel
theorem d_QuotaLawsLaw_law_948 : decode code 948 = .ok (.invokevirtual 122, 3) := by decide +kernel
theorem d_QuotaLawsLaw_law_951 : decode code 951 = .ok (.lcmp, 1) := by decide +kernel
theorem d_QuotaLawsLaw_law_952 : decode code 952 = .ok (.ifCond .eq 392, 3) := by decide +kernel
theorem d_QuotaLawsLaw_law_955 : decode code 955 = .ok (.iconst 0, 1) := by decide +kernel
theorem d_QuotaLawsLaw_law_956 : decode code 956 = .ok (.ireturn, 1) := by decide +kernel
theorem d_QuotaLawsLaw_law_957 : decode code 957 = .ok (.aload_n 1, 1) := by decide +kernel
theorem d_QuotaLawsLaw_law_958 : decode code 958 = .ok (.aload_n 0, 1) := by decide +kernel
theorem d_QuotaLawsLaw_law_959 : decode code 959 = .ok (.iload_n 3, 1) := by decide +kernel
theorem d_QuotaLawsLaw_law_960 : decode code 960 = .ok (.iconst 1, 1) := by decide +kernel
theorem d_QuotaLawsLaw_law_961 : decode code 961 = .ok (.iadd, 1) := by decide +kernel
theorem d_QuotaLawsLaw_law_962 : decode code 962 = .ok (.iaload, 1) := by decide +kernel
theorem d_QuotaLawsLaw_law_963 : decode code 963 = .ok (.aload_n 0, 1) := by decide +kernel
theorem d_QuotaLawsLaw_law_964 : decode code 964 = .ok (.iload_n 3, 1) := by decide +kernel
theorem d_QuotaLawsLaw_law_965 : decode code 965 = .ok (.iconst 2, 1) := by decide +kernel
theorem d_QuotaLawsLaw_law_966 : decode code 966 = .ok (.iadd, 1) := by decide +kernel
theorem d_QuotaLawsLaw_law_967 : decode code 967 = .ok (.iaload, 1) := by decide +kernel
theorem d_QuotaLawsLaw_law_968 : decode code 968 = .ok (.aload_n 0, 1) := by decide +kernel
theorem d_QuotaLawsLaw_law_969 : decode code 969 = .ok (.iload_n 3, 1) := by decide +kernel
theorem d_QuotaLawsLaw_law_970 : decode code 970 = .ok (.iconst 3, 1) := by decide +kernel
theorem d_QuotaLawsLaw_law_971 : decode code 971 = .ok (.iadd, 1) := by decide +kernel
theorem d_QuotaLawsLaw_law_972 : decode code 972 = .ok (.iaload, 1) := by decide +kernel
theorem d_QuotaLawsLaw_law_973 : decode code 973 = .ok (.invokevirtual 123, 3) := by decide +kernel
theorem d_QuotaLawsLaw_law_976 : decode code 976 = .ok (.aload_n 2, 1) := by decide +kernel
theorem d_QuotaLawsLaw_law_977 : decode code 977 = .ok (.aload_n 0, 1) := by decide +kernel
theorem d_QuotaLawsLaw_law_978 : decode code 978 = .ok (.iload_n 3, 1) := by decide +kernel
theorem d_QuotaLawsLaw_law_979 : decode code 979 = .ok (.iconst 1, 1) := by decide +kernel
theorem d_QuotaLawsLaw_law_980 : decode code 980 = .ok (.iadd, 1) := by decide +kernel
theorem d_QuotaLawsLaw_law_981 : decode code 981 = .ok (.iaload, 1) := by decide +kernel
theorem d_QuotaLawsLaw_law_982 : decode code 982 = .ok (.aload_n 0, 1) := by decide +kernel
theorem d_QuotaLawsLaw_law_983 : decode code 983 = .ok (.iload_n 3, 1) := by decide +kernel
theorem d_QuotaLawsLaw_law_984 : decode code 984 = .ok (.iconst 2, 1) := by decide +kernel
theorem d_QuotaLawsLaw_law_985 : decode code 985 = .ok (.iadd, 1) := by decide +kernel
theorem d_QuotaLawsLaw_law_986 : decode code 986 = .ok (.iaload, 1) := by decide +kernel
theorem d_QuotaLawsLaw_law_987 : decode code 987 = .ok (.aload_n 0, 1) := by decide +kernel
theorem d_QuotaLawsLaw_law_988 : decode code 988 = .ok (.iload_n 3, 1) := by decide +kernel
theorem d_QuotaLawsLaw_law_989 : decode code 989 = .ok (.iconst 3, 1) := by decide +kernel
theorem d_QuotaLawsLaw_law_990 : decode code 990 = .ok (.iadd, 1) := by decide +kernel
theorem d_QuotaLawsLaw_law_991 : decode code 991 = .ok (.iaload, 1) := by decide +kernel
theorem d_QuotaLawsLaw_law_992 : decode code 992 = .ok (.invokevirtual 127, 3) := by decide +kernel
theorem d_QuotaLawsLaw_law_995 : decode code 995 = .ok (.if_icmp .eq 349, 3) := by decide +kernel
theorem d_QuotaLawsLaw_law_998 : decode code 998 = .ok (.iconst 0, 1) := by decide +kernel
theorem d_QuotaLawsLaw_law_999 : decode code 999 = .ok (.ireturn, 1) := by decide +kernel
theorem d_QuotaLawsLaw_law_1000 : decode code 1000 = .ok (.aload_n 1, 1) := by decide +kernel
theorem d_QuotaLawsLaw_law_1001 : decode code 1001 = .ok (.aload_n 0, 1) := by decide +kernel
theorem d_QuotaLawsLaw_law_1002 : decode code 1002 = .ok (.iload_n 3, 1) := by decide +kernel
theorem d_QuotaLawsLaw_law_1003 : decode code 1003 = .ok (.iconst 1, 1) := by decide +kernel
theorem d_QuotaLawsLaw_law_1004 : decode code 1004 = .ok (.iadd, 1) := by decide +kernel
theorem d_QuotaLawsLaw_law_1005 : decode code 1005 = .ok (.iaload, 1) := by decide +kernel
theorem d_QuotaLawsLaw_law_1006 : decode code 1006 = .ok (.invokevirtual 128, 3) := by decide +kernel
theorem d_QuotaLawsLaw_law_1009 : decode code 1009 = .ok (.aload_n 2, 1) := by decide +kernel
theorem d_QuotaLawsLaw_law_1010 : decode code 1010 = .ok (.aload_n 0, 1) := by decide +kernel
theorem d_QuotaLawsLaw_law_1011 : decode code 1011 = .ok (.iload_n 3, 1) := by decide +kernel
theorem d_QuotaLawsLaw_law_1012 : decode code 1012 = .ok (.iconst 1, 1) := by decide +kernel
theorem d_QuotaLawsLaw_law_1013 : decode code 1013 = .ok (.iadd, 1) := by decide +kernel
theorem d_QuotaLawsLaw_law_1014 : decode code 1014 = .ok (.iaload, 1) := by decide +kernel
theorem d_QuotaLawsLaw_law_1015 : decode code 1015 = .ok (.invokevirtual 131, 3) := by decide +kernel
theorem d_QuotaLawsLaw_law_1018 : decode code 1018 = .ok (.if_icmp .eq 326, 3) := by decide +kernel
theorem d_QuotaLawsLaw_law_1021 : decode code 1021 = .ok (.iconst 0, 1) := by decide +kernel
theorem d_QuotaLawsLaw_law_1022 : decode code 1022 = .ok (.ireturn, 1) := by decide +kernel
theorem d_QuotaLawsLaw_law_1023 : decode code 1023 = .ok (.aload_n 1, 1) := by decide +kernel
theorem d_QuotaLawsLaw_law_1024 : decode code 1024 = .ok (.invokevirtual 132, 3) := by decide +kernel
theorem d_QuotaLawsLaw_law_1027 : decode code 1027 = .ok (.aload_n 2, 1) := by decide +kernel
theorem d_QuotaLawsLaw_law_1028 : decode code 1028 = .ok (.invokevirtual 136, 3) := by decide +kernel
theorem d_QuotaLawsLaw_law_1031 : decode code 1031 = .ok (.lcmp, 1) := by decide +kernel
theorem d_QuotaLawsLaw_law_1032 : decode code 1032 = .ok (.ifCond .eq 312, 3) := by decide +kernel
theorem d_QuotaLawsLaw_law_1035 : decode code 1035 = .ok (.iconst 0, 1) := by decide +kernel
theorem d_QuotaLawsLaw_law_1036 : decode code 1036 = .ok (.ireturn, 1) := by decide +kernel
theorem d_QuotaLawsLaw_law_1037 : decode code 1037 = .ok (.aload_n 1, 1) := by decide +kernel
theorem d_QuotaLawsLaw_law_1038 : decode code 1038 = .ok (.aload_n 0, 1) := by decide +kernel
theorem d_QuotaLawsLaw_law_1039 : decode code 1039 = .ok (.iload_n 3, 1) := by decide +kernel
theorem d_QuotaLawsLaw_law_1040 : decode code 1040 = .ok (.iconst 1, 1) := by decide +kernel
theorem d_QuotaLawsLaw_law_1041 : decode code 1041 = .ok (.iadd, 1) := by decide +kernel
theorem d_QuotaLawsLaw_law_1042 : decode code 1042 = .ok (.iaload, 1) := by decide +kernel
theorem d_QuotaLawsLaw_law_1043 : decode code 1043 = .ok (.aload_n 0, 1) := by decide +kernel
theorem d_QuotaLawsLaw_law_1044 : decode code 1044 = .ok (.iload_n 3, 1) := by decide +kernel
theorem d_QuotaLawsLaw_law_1045 : decode code 1045 = .ok (.iconst 2, 1) := by decide +kernel
theorem d_QuotaLawsLaw_law_1046 : decode code 1046 = .ok (.iadd, 1) := by decide +kernel
theorem d_QuotaLawsLaw_law_1047 : decode code 1047 = .ok (.iaload, 1) := by decide +kernel
theorem d_QuotaLawsLaw_law_1048 : decode code 1048 = .ok (.aload_n 0, 1) := by decide +kernel
theorem d_QuotaLawsLaw_law_1049 : decode code 1049 = .ok (.iload_n 3, 1) := by decide +kernel
theorem d_QuotaLawsLaw_law_1050 : decode code 1050 = .ok (.iconst 3, 1) := by decide +kernel
theorem d_QuotaLawsLaw_law_1051 : decode code 1051 = .ok (.iadd, 1) := by decide +kernel
theorem d_QuotaLawsLaw_law_1052 : decode code 1052 = .ok (.iaload, 1) := by decide +kernel
theorem d_QuotaLawsLaw_law_1053 : decode code 1053 = .ok (.invokevirtual 137, 3) := by decide +kernel
theorem d_QuotaLawsLaw_law_1056 : decode code 1056 = .ok (.aload_n 2, 1) := by decide +kernel
theorem d_QuotaLawsLaw_law_1057 : decode code 1057 = .ok (.aload_n 0, 1) := by decide +kernel
theorem d_QuotaLawsLaw_law_1058 : decode code 1058 = .ok (.iload_n 3, 1) := by decide +kernel
theorem d_QuotaLawsLaw_law_1059 : decode code 1059 = .ok (.iconst 1, 1) := by decide +kernel
theorem d_QuotaLawsLaw_law_1060 : decode code 1060 = .ok (.iadd, 1) := by decide +kernel
theorem d_QuotaLawsLaw_law_1061 : decode code 1061 = .ok (.iaload, 1) := by decide +kernel
theorem d_QuotaLawsLaw_law_1062 : decode code 1062 = .ok (.aload_n 0, 1) := by decide +kernel
theorem d_QuotaLawsLaw_law_1063 : decode code 1063 = .ok (.iload_n 3, 1) := by decide +kernel
theorem d_QuotaLawsLaw_law_1064 : decode code 1064 = .ok (.iconst 2, 1) := by decide +kernel
theorem d_QuotaLawsLaw_law_1065 : decode code 1065 = .ok (.iadd, 1) := by decide +kernel
theorem d_QuotaLawsLaw_law_1066 : decode code 1066 = .ok (.iaload, 1) := by decide +kernel
theorem d_QuotaLawsLaw_law_1067 : decode code 1067 = .ok (.aload_n 0, 1) := by decide +kernel
theorem d_QuotaLawsLaw_law_1068 : decode code 1068 = .ok (.iload_n 3, 1) := by decide +kernel
theorem d_QuotaLawsLaw_law_1069 : decode code 1069 = .ok (.iconst 3, 1) := by decide +kernel
theorem d_QuotaLawsLaw_law_1070 : decode code 1070 = .ok (.iadd, 1) := by decide +kernel
theorem d_QuotaLawsLaw_law_1071 : decode code 1071 = .ok (.iaload, 1) := by decide +kernel
theorem d_QuotaLawsLaw_law_1072 : decode code 1072 = .ok (.invokevirtual 140, 3) := by decide +kernel
theorem d_QuotaLawsLaw_law_1075 : decode code 1075 = .ok (.if_icmp .eq 269, 3) := by decide +kernel
theorem d_QuotaLawsLaw_law_1078 : decode code 1078 = .ok (.iconst 0, 1) := by decide +kernel
theorem d_QuotaLawsLaw_law_1079 : decode code 1079 = .ok (.ireturn, 1) := by decide +kernel
theorem d_QuotaLawsLaw_law_1080 : decode code 1080 = .ok (.aload_n 1, 1) := by decide +kernel
theorem d_QuotaLawsLaw_law_1081 : decode code 1081 = .ok (.aload_n 0, 1) := by decide +kernel
theorem d_QuotaLawsLaw_law_1082 : decode code 1082 = .ok (.iload_n 3, 1) := by decide +kernel
theorem d_QuotaLawsLaw_law_1083 : decode code 1083 = .ok (.iconst 1, 1) := by decide +kernel
theorem d_QuotaLawsLaw_law_1084 : decode code 1084 = .ok (.iadd, 1) := by decide +kernel
theorem d_QuotaLawsLaw_law_1085 : decode code 1085 = .ok (.iaload, 1) := by decide +kernel
theorem d_QuotaLawsLaw_law_1086 : decode code 1086 = .ok (.aload_n 0, 1) := by decide +kernel
theorem d_QuotaLawsLaw_law_1087 : decode code 1087 = .ok (.iload_n 3, 1) := by decide +kernel
theorem d_QuotaLawsLaw_law_1088 : decode code 1088 = .ok (.iconst 2, 1) := by decide +kernel
theorem d_QuotaLawsLaw_law_1089 : decode code 1089 = .ok (.iadd, 1) := by decide +kernel
theorem d_QuotaLawsLaw_law_1090 : decode code 1090 = .ok (.iaload, 1) := by decide +kernel
theorem d_QuotaLawsLaw_law_1091 : decode code 1091 = .ok (.aload_n 0, 1) := by decide +kernel
theorem d_QuotaLawsLaw_law_1092 : decode code 1092 = .ok (.iload_n 3, 1) := by decide +kernel
theorem d_QuotaLawsLaw_law_1093 : decode code 1093 = .ok (.iconst 3, 1) := by decide +kernel
theorem d_QuotaLawsLaw_law_1094 : decode code 1094 = .ok (.iadd, 1) := by decide +kernel
theorem d_QuotaLawsLaw_law_1095 : decode code 1095 = .ok (.iaload, 1) := by decide +kernel
theorem d_QuotaLawsLaw_law_1096 : decode code 1096 = .ok (.invokevirtual 141, 3) := by decide +kernel
theorem d_QuotaLawsLaw_law_1099 : decode code 1099 = .ok (.aload_n 2, 1) := by decide +kernel
theorem d_QuotaLawsLaw_law_1100 : decode code 1100 = .ok (.aload_n 0, 1) := by decide +kernel
theorem d_QuotaLawsLaw_law_1101 : decode code 1101 = .ok (.iload_n 3, 1) := by decide +kernel
theorem d_QuotaLawsLaw_law_1102 : decode code 1102 = .ok (.iconst 1, 1) := by decide +kernel
theorem d_QuotaLawsLaw_law_1103 : decode code 1103 = .ok (.iadd, 1) := by decide +kernel
theorem d_QuotaLawsLaw_law_1104 : decode code 1104 = .ok (.iaload, 1) := by decide +kernel
theorem d_QuotaLawsLaw_law_1105 : decode code 1105 = .ok (.aload_n 0, 1) := by decide +kernel
theorem d_QuotaLawsLaw_law_1106 : decode code 1106 = .ok (.iload_n 3, 1) := by decide +kernel
theorem d_QuotaLawsLaw_law_1107 : decode code 1107 = .ok (.iconst 2, 1) := by decide +kernel
theorem d_QuotaLawsLaw_law_1108 : decode code 1108 = .ok (.iadd, 1) := by decide +kernel
theorem d_QuotaLawsLaw_law_1109 : decode code 1109 = .ok (.iaload, 1) := by decide +kernel
theorem d_QuotaLawsLaw_law_1110 : decode code 1110 = .ok (.aload_n 0, 1) := by decide +kernel
theorem d_QuotaLawsLaw_law_1111 : decode code 1111 = .ok (.iload_n 3, 1) := by decide +kernel
theorem d_QuotaLawsLaw_law_1112 : decode code 1112 = .ok (.iconst 3, 1) := by decide +kernel
theorem d_QuotaLawsLaw_law_1113 : decode code 1113 = .ok (.iadd, 1) := by decide +kernel
theorem d_QuotaLawsLaw_law_1114 : decode code 1114 = .ok (.iaload, 1) := by decide +kernel
theorem d_QuotaLawsLaw_law_1115 : decode code 1115 = .ok (.invokevirtual 144, 3) := by decide +kernel
theorem d_QuotaLawsLaw_law_1118 : decode code 1118 = .ok (.if_icmp .eq 226, 3) := by decide +kernel
theorem d_QuotaLawsLaw_law_1121 : decode code 1121 = .ok (.iconst 0, 1) := by decide +kernel
theorem d_QuotaLawsLaw_law_1122 : decode code 1122 = .ok (.ireturn, 1) := by decide +kernel
theorem d_QuotaLawsLaw_law_1123 : decode code 1123 = .ok (.aload_n 1, 1) := by decide +kernel
theorem d_QuotaLawsLaw_law_1124 : decode code 1124 = .ok (.aload_n 0, 1) := by decide +kernel
theorem d_QuotaLawsLaw_law_1125 : decode code 1125 = .ok (.iload_n 3, 1) := by decide +kernel
theorem d_QuotaLawsLaw_law_1126 : decode code 1126 = .ok (.iconst 1, 1) := by decide +kernel
theorem d_QuotaLawsLaw_law_1127 : decode code 1127 = .ok (.iadd, 1) := by decide +kernel
theorem d_QuotaLawsLaw_law_1128 : decode code 1128 = .ok (.iaload, 1) := by decide +kernel
theorem d_QuotaLawsLaw_law_1129 : decode code 1129 = .ok (.invokevirtual 145, 3) := by decide +kernel
theorem d_QuotaLawsLaw_law_1132 : decode code 1132 = .ok (.aload_n 2, 1) := by decide +kernel
theorem d_QuotaLawsLaw_law_1133 : decode code 1133 = .ok (.aload_n 0, 1) := by decide +kernel
theorem d_QuotaLawsLaw_law_1134 : decode code 1134 = .ok (.iload_n 3, 1) := by decide +kernel
theorem d_QuotaLawsLaw_law_1135 : decode code 1135 = .ok (.iconst 1, 1) := by decide +kernel
theorem d_QuotaLawsLaw_law_1136 : decode code 1136 = .ok (.iadd, 1) := by decide +kernel
theorem d_QuotaLawsLaw_law_1137 : decode code 1137 = .ok (.iaload, 1) := by decide +kernel
theorem d_QuotaLawsLaw_law_1138 : decode code 1138 = .ok (.invokevirtual 148, 3) := by decide +kernel
theorem d_QuotaLawsLaw_law_1141 : decode code 1141 = .ok (.if_icmp .eq 203, 3) := by decide +kernel
theorem d_QuotaLawsLaw_law_1144 : decode code 1144 = .ok (.iconst 0, 1) := by decide +kernel
theorem d_QuotaLawsLaw_law_1145 : decode code 1145 = .ok (.ireturn, 1) := by decide +kernel
theorem d_QuotaLawsLaw_law_1146 : decode code 1146 = .ok (.aload_n 1, 1) := by decide +kernel
theorem d_QuotaLawsLaw_law_1147 : decode code 1147 = .ok (.aload_n 0, 1) := by decide +kernel
theorem d_QuotaLawsLaw_law_1148 : decode code 1148 = .ok (.iload_n 3, 1) := by decide +kernel
theorem d_QuotaLawsLaw_law_1149 : decode code 1149 = .ok (.iconst 1, 1) := by decide +kernel
theorem d_QuotaLawsLaw_law_1150 : decode code 1150 = .ok (.iadd, 1) := by decide +kernel
theorem d_QuotaLawsLaw_law_1151 : decode code 1151 = .ok (.iaload, 1) := by decide +kernel
theorem d_QuotaLawsLaw_law_1152 : decode code 1152 = .ok (.invokevirtual 149, 3) := by decide +kernel
theorem d_QuotaLawsLaw_law_1155 : decode code 1155 = .ok (.aload_n 2, 1) := by decide +kernel
theorem d_QuotaLawsLaw_law_1156 : decode code 1156 = .ok (.aload_n 0, 1) := by decide +kernel
theorem d_QuotaLawsLaw_law_1157 : decode code 1157 = .ok (.iload_n 3, 1) := by decide +kernel
theorem d_QuotaLawsLaw_law_1158 : decode code 1158 = .ok (.iconst 1, 1) := by decide +kernel
theorem d_QuotaLawsLaw_law_1159 : decode code 1159 = .ok (.iadd, 1) := by decide +kernel
theorem d_QuotaLawsLaw_law_1160 : decode code 1160 = .ok (.iaload, 1) := by decide +kernel
theorem d_QuotaLawsLaw_law_1161 : decode code 1161 = .ok (.invokevirtual 152, 3) := by decide +kernel
theorem d_QuotaLawsLaw_law_1164 : decode code 1164 = .ok (.if_icmp .eq 180, 3) := by decide +kernel
theorem d_QuotaLawsLaw_law_1167 : decode code 1167 = .ok (.iconst 0, 1) := by decide +kernel
theorem d_QuotaLawsLaw_law_1168 : decode code 1168 = .ok (.ireturn, 1) := by decide +kernel
theorem d_QuotaLawsLaw_law_1169 : decode code 1169 = .ok (.aload_n 1, 1) := by decide +kernel
theorem d_QuotaLawsLaw_law_1170 : decode code 1170 = .ok (.aload_n 0, 1) := by decide +kernel
theorem d_QuotaLawsLaw_law_1171 : decode code 1171 = .ok (.iload_n 3, 1) := by decide +kernel
theorem d_QuotaLawsLaw_law_1172 : decode code 1172 = .ok (.iconst 1, 1) := by decide +kernel
theorem d_QuotaLawsLaw_law_1173 : decode code 1173 = .ok (.iadd, 1) := by decide +kernel
theorem d_QuotaLawsLaw_law_1174 : decode code 1174 = .ok (.iaload, 1) := by decide +kernel
theorem d_QuotaLawsLaw_law_1175 : decode code 1175 = .ok (.aload_n 0, 1) := by decide +kernel
theorem d_QuotaLawsLaw_law_1176 : decode code 1176 = .ok (.iload_n 3, 1) := by decide +kernel
theorem d_QuotaLawsLaw_law_1177 : decode code 1177 = .ok (.iconst 2, 1) := by decide +kernel
theorem d_QuotaLawsLaw_law_1178 : decode code 1178 = .ok (.iadd, 1) := by decide +kernel
theorem d_QuotaLawsLaw_law_1179 : decode code 1179 = .ok (.iaload, 1) := by decide +kernel
theorem d_QuotaLawsLaw_law_1180 : decode code 1180 = .ok (.aload_n 0, 1) := by decide +kernel
theorem d_QuotaLawsLaw_law_1181 : decode code 1181 = .ok (.iload_n 3, 1) := by decide +kernel
theorem d_QuotaLawsLaw_law_1182 : decode code 1182 = .ok (.iconst 3, 1) := by decide +kernel
theorem d_QuotaLawsLaw_law_1183 : decode code 1183 = .ok (.iadd, 1) := by decide +kernel
theorem d_QuotaLawsLaw_law_1184 : decode code 1184 = .ok (.iaload, 1) := by decide +kernel
theorem d_QuotaLawsLaw_law_1185 : decode code 1185 = .ok (.invokevirtual 153, 3) := by decide +kernel
theorem d_QuotaLawsLaw_law_1188 : decode code 1188 = .ok (.aload_n 2, 1) := by decide +kernel
theorem d_QuotaLawsLaw_law_1189 : decode code 1189 = .ok (.aload_n 0, 1) := by decide +kernel
theorem d_QuotaLawsLaw_law_1190 : decode code 1190 = .ok (.iload_n 3, 1) := by decide +kernel
theorem d_QuotaLawsLaw_law_1191 : decode code 1191 = .ok (.iconst 1, 1) := by decide +kernel
theorem d_QuotaLawsLaw_law_1192 : decode code 1192 = .ok (.iadd, 1) := by decide +kernel
theorem d_QuotaLawsLaw_law_1193 : decode code 1193 = .ok (.iaload, 1) := by decide +kernel
theorem d_QuotaLawsLaw_law_1194 : decode code 1194 = .ok (.aload_n 0, 1) := by decide +kernel
theorem d_QuotaLawsLaw_law_1195 : decode code 1195 = .ok (.iload_n 3, 1) := by decide +kernel
theorem d_QuotaLawsLaw_law_1196 : decode code 1196 = .ok (.iconst 2, 1) := by decide +kernel
theorem d_QuotaLawsLaw_law_1197 : decode code 1197 = .ok (.iadd, 1) := by decide +kernel
theorem d_QuotaLawsLaw_law_1198 : decode code 1198 = .ok (.iaload, 1) := by decide +kernel
theorem d_QuotaLawsLaw_law_1199 : decode code 1199 = .ok (.aload_n 0, 1) := by decide +kernel
theorem d_QuotaLawsLaw_law_1200 : decode code 1200 = .ok (.iload_n 3, 1) := by decide +kernel
theorem d_QuotaLawsLaw_law_1201 : decode code 1201 = .ok (.iconst 3, 1) := by decide +kernel
theorem d_QuotaLawsLaw_law_1202 : decode code 1202 = .ok (.iadd, 1) := by decide +kernel
theorem d_QuotaLawsLaw_law_1203 : decode code 1203 = .ok (.iaload, 1) := by decide +kernel
theorem d_QuotaLawsLaw_law_1204 : decode code 1204 = .ok (.invokevirtual 156, 3) := by decide +kernel
theorem d_QuotaLawsLaw_law_1207 : decode code 1207 = .ok (.if_icmp .eq 137, 3) := by decide +kernel
theorem d_QuotaLawsLaw_law_1210 : decode code 1210 = .ok (.iconst 0, 1) := by decide +kernel
theorem d_QuotaLawsLaw_law_1211 : decode code 1211 = .ok (.ireturn, 1) := by decide +kernel
theorem d_QuotaLawsLaw_law_1212 : decode code 1212 = .ok (.aload_n 1, 1) := by decide +kernel
theorem d_QuotaLawsLaw_law_1213 : decode code 1213 = .ok (.aload_n 0, 1) := by decide +kernel
theorem d_QuotaLawsLaw_law_1214 : decode code 1214 = .ok (.iload_n 3, 1) := by decide +kernel
theorem d_QuotaLawsLaw_law_1215 : decode code 1215 = .ok (.iconst 1, 1) := by decide +kernel
theorem d_QuotaLawsLaw_law_1216 : decode code 1216 = .ok (.iadd, 1) := by decide +kernel
theorem d_QuotaLawsLaw_law_1217 : decode code 1217 = .ok (.iaload, 1) := by decide +kernel
theorem d_QuotaLawsLaw_law_1218 : decode code 1218 = .ok (.aload_n 0, 1) := by decide +kernel
theorem d_QuotaLawsLaw_law_1219 : decode code 1219 = .ok (.iload_n 3, 1) := by decide +kernel
theorem d_QuotaLawsLaw_law_1220 : decode code 1220 = .ok (.iconst 2, 1) := by decide +kernel
theorem d_QuotaLawsLaw_law_1221 : decode code 1221 = .ok (.iadd, 1) := by decide +kernel
theorem d_QuotaLawsLaw_law_1222 : decode code 1222 = .ok (.iaload, 1) := by decide +kernel
theorem d_QuotaLawsLaw_law_1223 : decode code 1223 = .ok (.aload_n 0, 1) := by decide +kernel
theorem d_QuotaLawsLaw_law_1224 : decode code 1224 = .ok (.iload_n 3, 1) := by decide +kernel
theorem d_QuotaLawsLaw_law_1225 : decode code 1225 = .ok (.iconst 3, 1) := by decide +kernel
theorem d_QuotaLawsLaw_law_1226 : decode code 1226 = .ok (.iadd, 1) := by decide +kernel
theorem d_QuotaLawsLaw_law_1227 : decode code 1227 = .ok (.iaload, 1) := by decide +kernel
theorem d_QuotaLawsLaw_law_1228 : decode code 1228 = .ok (.invokevirtual 157, 3) := by decide +kernel
theorem d_QuotaLawsLaw_law_1231 : decode code 1231 = .ok (.aload_n 2, 1) := by decide +kernel
theorem d_QuotaLawsLaw_law_1232 : decode code 1232 = .ok (.aload_n 0, 1) := by decide +kernel
theorem d_QuotaLawsLaw_law_1233 : decode code 1233 = .ok (.iload_n 3, 1) := by decide +kernel
theorem d_QuotaLawsLaw_law_1234 : decode code 1234 = .ok (.iconst 1, 1) := by decide +kernel
theorem d_QuotaLawsLaw_law_1235 : decode code 1235 = .ok (.iadd, 1) := by decide +kernel
theorem d_QuotaLawsLaw_law_1236 : decode code 1236 = .ok (.iaload, 1) := by decide +kernel
theorem d_QuotaLawsLaw_law_1237 : decode code 1237 = .ok (.aload_n 0, 1) := by decide +kernel
theorem d_QuotaLawsLaw_law_1238 : decode code 1238 = .ok (.iload_n 3, 1) := by decide +kernel
theorem d_QuotaLawsLaw_law_1239 : decode code 1239 = .ok (.iconst 2, 1) := by decide +kernel
theorem d_QuotaLawsLaw_law_1240 : decode code 1240 = .ok (.iadd, 1) := by decide +kernel
theorem d_QuotaLawsLaw_law_1241 : decode code 1241 = .ok (.iaload, 1) := by decide +kernel
theorem d_QuotaLawsLaw_law_1242 : decode code 1242 = .ok (.aload_n 0, 1) := by decide +kernel
theorem d_QuotaLawsLaw_law_1243 : decode code 1243 = .ok (.iload_n 3, 1) := by decide +kernel
theorem d_QuotaLawsLaw_law_1244 : decode code 1244 = .ok (.iconst 3, 1) := by decide +kernel
theorem d_QuotaLawsLaw_law_1245 : decode code 1245 = .ok (.iadd, 1) := by decide +kernel
theorem d_QuotaLawsLaw_law_1246 : decode code 1246 = .ok (.iaload, 1) := by decide +kernel
theorem d_QuotaLawsLaw_law_1247 : decode code 1247 = .ok (.invokevirtual 160, 3) := by decide +kernel
theorem d_QuotaLawsLaw_law_1250 : decode code 1250 = .ok (.if_icmp .eq 94, 3) := by decide +kernel
theorem d_QuotaLawsLaw_law_1253 : decode code 1253 = .ok (.iconst 0, 1) := by decide +kernel
theorem d_QuotaLawsLaw_law_1254 : decode code 1254 = .ok (.ireturn, 1) := by decide +kernel
theorem d_QuotaLawsLaw_law_1255 : decode code 1255 = .ok (.aload_n 1, 1) := by decide +kernel
theorem d_QuotaLawsLaw_law_1256 : decode code 1256 = .ok (.aload_n 0, 1) := by decide +kernel
theorem d_QuotaLawsLaw_law_1257 : decode code 1257 = .ok (.iload_n 3, 1) := by decide +kernel
theorem d_QuotaLawsLaw_law_1258 : decode code 1258 = .ok (.iconst 1, 1) := by decide +kernel
theorem d_QuotaLawsLaw_law_1259 : decode code 1259 = .ok (.iadd, 1) := by decide +kernel
theorem d_QuotaLawsLaw_law_1260 : decode code 1260 = .ok (.iaload, 1) := by decide +kernel
theorem d_QuotaLawsLaw_law_1261 : decode code 1261 = .ok (.aload_n 0, 1) := by decide +kernel
theorem d_QuotaLawsLaw_law_1262 : decode code 1262 = .ok (.iload_n 3, 1) := by decide +kernel
theorem d_QuotaLawsLaw_law_1263 : decode code 1263 = .ok (.iconst 2, 1) := by decide +kernel
theorem d_QuotaLawsLaw_law_1264 : decode code 1264 = .ok (.iadd, 1) := by decide +kernel
theorem d_QuotaLawsLaw_law_1265 : decode code 1265 = .ok (.iaload, 1) := by decide +kernel
theorem d_QuotaLawsLaw_law_1266 : decode code 1266 = .ok (.aload_n 0, 1) := by decide +kernel
theorem d_QuotaLawsLaw_law_1267 : decode code 1267 = .ok (.iload_n 3, 1) := by decide +kernel
theorem d_QuotaLawsLaw_law_1268 : decode code 1268 = .ok (.iconst 3, 1) := by decide +kernel
theorem d_QuotaLawsLaw_law_1269 : decode code 1269 = .ok (.iadd, 1) := by decide +kernel
theorem d_QuotaLawsLaw_law_1270 : decode code 1270 = .ok (.iaload, 1) := by decide +kernel
theorem d_QuotaLawsLaw_law_1271 : decode code 1271 = .ok (.aload_n 0, 1) := by decide +kernel
theorem d_QuotaLawsLaw_law_1272 : decode code 1272 = .ok (.iload_n 3, 1) := by decide +kernel
theorem d_QuotaLawsLaw_law_1273 : decode code 1273 = .ok (.iconst 4, 1) := by decide +kernel
theorem d_QuotaLawsLaw_law_1274 : decode code 1274 = .ok (.iadd, 1) := by decide +kernel
theorem d_QuotaLawsLaw_law_1275 : decode code 1275 = .ok (.iaload, 1) := by decide +kernel
theorem d_QuotaLawsLaw_law_1276 : decode code 1276 = .ok (.invokevirtual 161, 3) := by decide +kernel
theorem d_QuotaLawsLaw_law_1279 : decode code 1279 = .ok (.aload_n 2, 1) := by decide +kernel
theorem d_QuotaLawsLaw_law_1280 : decode code 1280 = .ok (.aload_n 0, 1) := by decide +kernel
theorem d_QuotaLawsLaw_law_1281 : decode code 1281 = .ok (.iload_n 3, 1) := by decide +kernel
theorem d_QuotaLawsLaw_law_1282 : decode code 1282 = .ok (.iconst 1, 1) := by decide +kernel
theorem d_QuotaLawsLaw_law_1283 : decode code 1283 = .ok (.iadd, 1) := by decide +kernel
theorem d_QuotaLawsLaw_law_1284 : decode code 1284 = .ok (.iaload, 1) := by decide +kernel
theorem d_QuotaLawsLaw_law_1285 : decode code 1285 = .ok (.aload_n 0, 1) := by decide +kernel
theorem d_QuotaLawsLaw_law_1286 : decode code 1286 = .ok (.iload_n 3, 1) := by decide +kernel
theorem d_QuotaLawsLaw_law_1287 : decode code 1287 = .ok (.iconst 2, 1) := by decide +kernel
theorem d_QuotaLawsLaw_law_1288 : decode code 1288 = .ok (.iadd, 1) := by decide +kernel
theorem d_QuotaLawsLaw_law_1289 : decode code 1289 = .ok (.iaload, 1) := by decide +kernel
theorem d_QuotaLawsLaw_law_1290 : decode code 1290 = .ok (.aload_n 0, 1) := by decide +kernel
theorem d_QuotaLawsLaw_law_1291 : decode code 1291 = .ok (.iload_n 3, 1) := by decide +kernel
theorem d_QuotaLawsLaw_law_1292 : decode code 1292 = .ok (.iconst 3, 1) := by decide +kernel
theorem d_QuotaLawsLaw_law_1293 : decode code 1293 = .ok (.iadd, 1) := by decide +kernel
theorem d_QuotaLawsLaw_law_1294 : decode code 1294 = .ok (.iaload, 1) := by decide +kernel
theorem d_QuotaLawsLaw_law_1295 : decode code 1295 = .ok (.aload_n 0, 1) := by decide +kernel
theorem d_QuotaLawsLaw_law_1296 : decode code 1296 = .ok (.iload_n 3, 1) := by decide +kernel
theorem d_QuotaLawsLaw_law_1297 : decode code 1297 = .ok (.iconst 4, 1) := by decide +kernel
theorem d_QuotaLawsLaw_law_1298 : decode code 1298 = .ok (.iadd, 1) := by decide +kernel
theorem d_QuotaLawsLaw_law_1299 : decode code 1299 = .ok (.iaload, 1) := by decide +kernel
theorem d_QuotaLawsLaw_law_1300 : decode code 1300 = .ok (.invokevirtual 165, 3) := by decide +kernel
theorem d_QuotaLawsLaw_law_1303 : decode code 1303 = .ok (.if_icmp .eq 41, 3) := by decide +kernel
theorem d_QuotaLawsLaw_law_1306 : decode code 1306 = .ok (.iconst 0, 1) := by decide +kernel
theorem d_QuotaLawsLaw_law_1307 : decode code 1307 = .ok (.ireturn, 1) := by decide +kernel
theorem d_QuotaLawsLaw_law_1308 : decode code 1308 = .ok (.aload_n 1, 1) := by decide +kernel
theorem d_QuotaLawsLaw_law_1309 : decode code 1309 = .ok (.invokevirtual 166, 3) := by decide +kernel
theorem d_QuotaLawsLaw_law_1312 : decode code 1312 = .ok (.aload_n 2, 1) := by decide +kernel
theorem d_QuotaLawsLaw_law_1313 : decode code 1313 = .ok (.invokevirtual 169, 3) := by decide +kernel
theorem d_QuotaLawsLaw_law_1316 : decode code 1316 = .ok (.if_icmp .eq 28, 3) := by decide +kernel
theorem d_QuotaLawsLaw_law_1319 : decode code 1319 = .ok (.iconst 0, 1) := by decide +kernel
theorem d_QuotaLawsLaw_law_1320 : decode code 1320 = .ok (.ireturn, 1) := by decide +kernel
theorem d_QuotaLawsLaw_law_1321 : decode code 1321 = .ok (.aload_n 1, 1) := by decide +kernel
theorem d_QuotaLawsLaw_law_1322 : decode code 1322 = .ok (.aload_n 0, 1) := by decide +kernel
theorem d_QuotaLawsLaw_law_1323 : decode code 1323 = .ok (.iload_n 3, 1) := by decide +kernel
theorem d_QuotaLawsLaw_law_1324 : decode code 1324 = .ok (.iconst 1, 1) := by decide +kernel
theorem d_QuotaLawsLaw_law_1325 : decode code 1325 = .ok (.iadd, 1) := by decide +kernel
theorem d_QuotaLawsLaw_law_1326 : decode code 1326 = .ok (.iaload, 1) := by decide +kernel
theorem d_QuotaLawsLaw_law_1327 : decode code 1327 = .ok (.invokevirtual 170, 3) := by decide +kernel
theorem d_QuotaLawsLaw_law_1330 : decode code 1330 = .ok (.aload_n 2, 1) := by decide +kernel
theorem d_QuotaLawsLaw_law_1331 : decode code 1331 = .ok (.aload_n 0, 1) := by decide +kernel
theorem d_QuotaLawsLaw_law_1332 : decode code 1332 = .ok (.iload_n 3, 1) := by decide +kernel
theorem d_QuotaLawsLaw_law_1333 : decode code 1333 = .ok (.iconst 1, 1) := by decide +kernel
theorem d_QuotaLawsLaw_law_1334 : decode code 1334 = .ok (.iadd, 1) := by decide +kernel
theorem d_QuotaLawsLaw_law_1335 : decode code 1335 = .ok (.iaload, 1) := by decide +kernel
theorem d_QuotaLawsLaw_law_1336 : decode code 1336 = .ok (.invokevirtual 173, 3) := by decide +kernel
theorem d_QuotaLawsLaw_law_1339 : decode code 1339 = .ok (.if_icmp .eq 5, 3) := by decide +kernel
theorem d_QuotaLawsLaw_law_1342 : decode code 1342 = .ok (.iconst 0, 1) := by decide +kernel
theorem d_QuotaLawsLaw_law_1343 : decode code 1343 = .ok (.ireturn, 1) := by decide +kernel
theorem d_QuotaLawsLaw_law_1344 : decode code 1344 = .ok (.iinc 3 5, 3) := by decide +kernel
theorem d_QuotaLawsLaw_law_1347 : decode code 1347 = .ok (.goto (-1329), 3) := by decide +kernel
theorem d_QuotaLawsLaw_law_1350 : decode code 1350 = .ok (.iconst 1, 1) := by decide +kernel
theorem d_QuotaLawsLaw_law_1351 : decode code 1351 = .ok (.ireturn, 1) := by decide +kernel
def f_QuotaLawsLaw_law_1344 (sc : Nat × (Nat → Int32)) (rec18 : Nat → Nat → Int32 → mH → Option (Int32 × mH)) (b1 : Nat) (b2 : Nat) (b3 : Int32) (h : mH) : Option (Int32 × mH) :=
  rec18 b1 b2 (b3 + (5 : Int32)) h
set_option maxRecDepth 20000 in
theorem t_QuotaLawsLaw_law_1344 {sc : Nat × (Nat → Int32)} (rec18 : Nat → Nat → Int32 → mH → Option (Int32 × mH)) (hrec18 : ∀ (b1 : Nat) (b2 : Nat) (b3 : Int32) (h : mH) (r : Int32) (h' : mH), rec18 b1 b2 b3 h = some (r, h') → G sc y_QuotaLawsLaw_law code 4 (some .boolean) 8 176 18 [(0, .ref 1300), (1, .ref b1), (2, .ref b2), (3, .int b3)] [] h (some (.int r)) h') (b1 : Nat) (b2 : Nat) (b3 : Int32) (h : mH) (r : Int32) (h' : mH) (hf : f_QuotaLawsLaw_law_1344 sc rec18 b1 b2 b3 h = some (r, h')) : G sc y_QuotaLawsLaw_law code 4 (some .boolean) 8 176 1344 [(0, .ref 1300), (1, .ref b1), (2, .ref b2), (3, .int b3)] [] h (some (.int r)) h' := by
  unfold f_QuotaLawsLaw_law_1344 at hf
  refine g_iinc (pc := 1344) 3 (b3 + (5 : Int32)) [(3, .int (b3 + (5 : Int32))), (0, .ref 1300), (1, .ref b1), (2, .ref b2)] d_QuotaLawsLaw_law_1344 rfl rfl (Nat.le_of_ble_eq_true rfl) rfl ?_
  refine g_goto (pc := 1347) 18 d_QuotaLawsLaw_law_1347 (by decide) ?_
  refine g_lv [1, 2, 3, 0] rfl ?_
  exact hrec18 _ _ _ _ _ _  hf
def f_QuotaLawsLaw_law_652 (sc : Nat × (Nat → Int32)) (rec18 : Nat → Nat → Int32 → mH → Option (Int32 × mH)) (b1 : Nat) (b2 : Nat) (b3 : Int32) (s0 : Int32) (s1 : Nat) (s2 : Int32) (s3 : Int32) (s4 : Int32) (h : mH) : Option (Int32 × mH) :=
  bd1 (kC h s1 8) fun _ =>
  bd2 (f_M_want s1 s2 s3 s4 h) fun x688 h686 =>
  if s0 = x688 then
    f_QuotaLawsLaw_law_1344 sc rec18 b1 b2 b3 h686
  else
    some ((0 : Int32), h686)
set_option maxRecDepth 20000 in
theorem t_QuotaLawsLaw_law_652 {sc : Nat × (Nat → Int32)} (rec18 : Nat → Nat → Int32 → mH → Option (Int32 × mH)) (hrec18 : ∀ (b1 : Nat) (b2 : Nat) (b3 : Int32) (h : mH) (r : Int32) (h' : mH), rec18 b1 b2 b3 h = some (r, h') → G sc y_QuotaLawsLaw_law code 4 (some .boolean) 8 176 18 [(0, .ref 1300), (1, .ref b1), (2, .ref b2), (3, .int b3)] [] h (some (.int r)) h') (b1 : Nat) (b2 : Nat) (b3 : Int32) (s0 : Int32) (s1 : Nat) (s2 : Int32) (s3 : Int32) (s4 : Int32) (h : mH) (r : Int32) (h' : mH) (hf : f_QuotaLawsLaw_law_652 sc rec18 b1 b2 b3 s0 s1 s2 s3 s4 h = some (r, h')) : G sc y_QuotaLawsLaw_law code 4 (some .boolean) 8 176 652 [(0, .ref 1300), (1, .ref b1), (2, .ref b2), (3, .int b3)] [.int s4, .int s3, .int s2, .ref s1, .int s0] h (some (.int r)) h' := by
  unfold f_QuotaLawsLaw_law_652 at hf
  obtain ⟨u685, e684, hf⟩ := bd1_e hf
  obtain ⟨x688, h686, e687, hf⟩ := bd2_e hf
  refine g_callV (pc := 652) (ci := 8) [.int s2, .int s3, .int s4] (site_of si_M_want (by decide) (by decide)) wd_1217 wd_1218 wd_1219 d_QuotaLawsLaw_law_652 rfl e684 (Nat.le_of_ble_eq_true rfl) (fun z => absurd z (by decide)) (fun z => absurd z (by decide)) (fun z => absurd z (by decide)) (c_M_want e687) rfl ?_
  refine g_st [.int x688, .int s0] rfl ?_
  refine g_icmpeq (pc := 655) 1344 d_QuotaLawsLaw_law_655 (by decide) (fun c689 => ?_) (fun c689 => ?_)
  · replace hf := (if_pos c689).symm.trans hf
    refine g_lv [0, 1, 2, 3] rfl ?_
    exact t_QuotaLawsLaw_law_1344 rec18 hrec18 _ _ _ _ _ _  hf
  · replace hf := (if_neg c689).symm.trans hf
    refine g_iconst (pc := 658) (0 : Int32) d_QuotaLawsLaw_law_658 (by decide) ?_
    obtain ⟨rfl, rfl⟩ := ret2 hf
    exact g_zret (pc := 659) rfl rfl d_QuotaLawsLaw_law_659
def f_QuotaLawsLaw_law_625 (sc : Nat × (Nat → Int32)) (rec18 : Nat → Nat → Int32 → mH → Option (Int32 × mH)) (b1 : Nat) (b2 : Nat) (b3 : Int32) (s0 : Nat) (s1 : Int32) (s2 : Int32) (s3 : Int32) (h : mH) : Option (Int32 × mH) :=
  bd1 (kC h s0 0) fun _ =>
  bd2 (f_Q_want s0 s1 s2 s3 h) fun x676 h674 =>
  bd1 (sX sc (b3 + (1 : Int32))) fun x677 =>
  bd1 (sX sc (b3 + (2 : Int32))) fun x679 =>
  bd1 (sX sc (b3 + (3 : Int32))) fun x681 =>
  if x681 = 0 then
    f_QuotaLawsLaw_law_652 sc rec18 b1 b2 b3 x676 b2 x677 x679 (0 : Int32) h674
  else
    f_QuotaLawsLaw_law_652 sc rec18 b1 b2 b3 x676 b2 x677 x679 (1 : Int32) h674
set_option maxRecDepth 20000 in
theorem t_QuotaLawsLaw_law_625 {sc : Nat × (Nat → Int32)} (rec18 : Nat → Nat → Int32 → mH → Option (Int32 × mH)) (hrec18 : ∀ (b1 : Nat) (b2 : Nat) (b3 : Int32) (h : mH) (r : Int32) (h' : mH), rec18 b1 b2 b3 h = some (r, h') → G sc y_QuotaLawsLaw_law code 4 (some .boolean) 8 176 18 [(0, .ref 1300), (1, .ref b1), (2, .ref b2), (3, .int b3)] [] h (some (.int r)) h') (b1 : Nat) (b2 : Nat) (b3 : Int32) (s0 : Nat) (s1 : Int32) (s2 : Int32) (s3 : Int32) (h : mH) (r : Int32) (h' : mH) (hf : f_QuotaLawsLaw_law_625 sc rec18 b1 b2 b3 s0 s1 s2 s3 h = some (r, h')) : G sc y_QuotaLawsLaw_law code 4 (some .boolean) 8 176 625 [(0, .ref 1300), (1, .ref b1), (2, .ref b2), (3, .int b3)] [.int s3, .int s2, .int s1, .ref s0] h (some (.int r)) h' := by
  unfold f_QuotaLawsLaw_law_625 at hf
  obtain ⟨u673, e672, hf⟩ := bd1_e hf
  obtain ⟨x676, h674, e675, hf⟩ := bd2_e hf
  refine g_callV (pc := 625) (ci := 0) [.int s1, .int s2, .int s3] (site_of si_Q_want (by decide) (by decide)) wd_602 wd_603 wd_604 d_QuotaLawsLaw_law_625 rfl e672 (Nat.le_of_ble_eq_true rfl) (fun z => absurd z (by decide)) (fun z => absurd z (by decide)) (fun z => absurd z (by decide)) (c_Q_want e675) rfl ?_
  refine g_st [.int x676] rfl ?_
  refine g_aload_n (pc := 628) 2 d_QuotaLawsLaw_law_628 rfl rfl ?_
  refine g_aload_n (pc := 629) 0 d_QuotaLawsLaw_law_629 rfl rfl ?_
  refine g_iload_n (pc := 630) 3 d_QuotaLawsLaw_law_630 rfl rfl ?_
  refine g_iconst (pc := 631) (1 : Int32) d_QuotaLawsLaw_law_631 (by decide) ?_
  refine g_iadd (pc := 632) d_QuotaLawsLaw_law_632 ?_
  obtain ⟨x677, e678, hf⟩ := bd1_e hf
  refine g_sld (pc := 633) d_QuotaLawsLaw_law_633 e678 ?_
  refine g_aload_n (pc := 634) 0 d_QuotaLawsLaw_law_634 rfl rfl ?_
  refine g_iload_n (pc := 635) 3 d_QuotaLawsLaw_law_635 rfl rfl ?_
  refine g_iconst (pc := 636) (2 : Int32) d_QuotaLawsLaw_law_636 (by decide) ?_
  refine g_iadd (pc := 637) d_QuotaLawsLaw_law_637 ?_
  obtain ⟨x679, e680, hf⟩ := bd1_e hf
  refine g_sld (pc := 638) d_QuotaLawsLaw_law_638 e680 ?_
  refine g_aload_n (pc := 639) 0 d_QuotaLawsLaw_law_639 rfl rfl ?_
  refine g_iload_n (pc := 640) 3 d_QuotaLawsLaw_law_640 rfl rfl ?_
  refine g_iconst (pc := 641) (3 : Int32) d_QuotaLawsLaw_law_641 (by decide) ?_
  refine g_iadd (pc := 642) d_QuotaLawsLaw_law_642 ?_
  obtain ⟨x681, e682, hf⟩ := bd1_e hf
  refine g_sld (pc := 643) d_QuotaLawsLaw_law_643 e682 ?_
  refine g_ifeq (pc := 644) 651 d_QuotaLawsLaw_law_644 (by decide) (fun c683 => ?_) (fun c683 => ?_)
  · replace hf := (if_pos c683).symm.trans hf
    refine g_iconst (pc := 651) (0 : Int32) d_QuotaLawsLaw_law_651 (by decide) ?_
    refine g_lv [0, 1, 2, 3] rfl ?_
    exact t_QuotaLawsLaw_law_652 rec18 hrec18 _ _ _ _ _ _ _ _ _ _ _  hf
  · replace hf := (if_neg c683).symm.trans hf
    refine g_iconst (pc := 647) (1 : Int32) d_QuotaLawsLaw_law_647 (by decide) ?_
    refine g_goto (pc := 648) 652 d_QuotaLawsLaw_law_648 (by decide) ?_
    refine g_lv [0, 1, 2, 3] rfl ?_
    exact t_QuotaLawsLaw_law_652 rec18 hrec18 _ _ _ _ _ _ _ _ _ _ _  hf
def f_QuotaLawsLaw_law_593 (sc : Nat × (Nat → Int32)) (rec18 : Nat → Nat → Int32 → mH → Option (Int32 × mH)) (b1 : Nat) (b2 : Nat) (b3 : Int32) (s0 : Int32) (s1 : Nat) (s2 : Int32) (s3 : Int32) (s4 : Int32) (h : mH) : Option (Int32 × mH) :=
  bd1 (kC h s1 8) fun _ =>
  bd2 (f_M_refuse s1 s2 s3 s4 h) fun x706 h704 =>
  if s0 = x706 then
    f_QuotaLawsLaw_law_1344 sc rec18 b1 b2 b3 h704
  else
    some ((0 : Int32), h704)
set_option maxRecDepth 20000 in
theorem t_QuotaLawsLaw_law_593 {sc : Nat × (Nat → Int32)} (rec18 : Nat → Nat → Int32 → mH → Option (Int32 × mH)) (hrec18 : ∀ (b1 : Nat) (b2 : Nat) (b3 : Int32) (h : mH) (r : Int32) (h' : mH), rec18 b1 b2 b3 h = some (r, h') → G sc y_QuotaLawsLaw_law code 4 (some .boolean) 8 176 18 [(0, .ref 1300), (1, .ref b1), (2, .ref b2), (3, .int b3)] [] h (some (.int r)) h') (b1 : Nat) (b2 : Nat) (b3 : Int32) (s0 : Int32) (s1 : Nat) (s2 : Int32) (s3 : Int32) (s4 : Int32) (h : mH) (r : Int32) (h' : mH) (hf : f_QuotaLawsLaw_law_593 sc rec18 b1 b2 b3 s0 s1 s2 s3 s4 h = some (r, h')) : G sc y_QuotaLawsLaw_law code 4 (some .boolean) 8 176 593 [(0, .ref 1300), (1, .ref b1), (2, .ref b2), (3, .int b3)] [.int s4, .int s3, .int s2, .ref s1, .int s0] h (some (.int r)) h' := by
  unfold f_QuotaLawsLaw_law_593 at hf
  obtain ⟨u703, e702, hf⟩ := bd1_e hf
  obtain ⟨x706, h704, e705, hf⟩ := bd2_e hf
  refine g_callV (pc := 593) (ci := 8) [.int s2, .int s3, .int s4] (site_of si_M_refuse (by decide) (by decide)) wd_1213 wd_1214 wd_1215 d_QuotaLawsLaw_law_593 rfl e702 (Nat.le_of_ble_eq_true rfl) (fun z => absurd z (by decide)) (fun z => absurd z (by decide)) (fun z => absurd z (by decide)) (c_M_refuse e705) rfl ?_
  refine g_st [.int x706, .int s0] rfl ?_
  refine g_icmpeq (pc := 596) 1344 d_QuotaLawsLaw_law_596 (by decide) (fun c707 => ?_) (fun c707 => ?_)
  · replace hf := (if_pos c707).symm.trans hf
    refine g_lv [0, 1, 2, 3] rfl ?_
    exact t_QuotaLawsLaw_law_1344 rec18 hrec18 _ _ _ _ _ _  hf
  · replace hf := (if_neg c707).symm.trans hf
    refine g_iconst (pc := 599) (0 : Int32) d_QuotaLawsLaw_law_599 (by decide) ?_
    obtain ⟨rfl, rfl⟩ := ret2 hf
    exact g_zret (pc := 600) rfl rfl d_QuotaLawsLaw_law_600
def f_QuotaLawsLaw_law_566 (sc : Nat × (Nat → Int32)) (rec18 : Nat → Nat → Int32 → mH → Option (Int32 × mH)) (b1 : Nat) (b2 : Nat) (b3 : Int32) (s0 : Nat) (s1 : Int32) (s2 : Int32) (s3 : Int32) (h : mH) : Option (Int32 × mH) :=
  bd1 (kC h s0 0) fun _ =>
  bd2 (f_Q_refuse s0 s1 s2 s3 h) fun x694 h692 =>
  bd1 (sX sc (b3 + (1 : Int32))) fun x695 =>
  bd1 (sX sc (b3 + (2 : Int32))) fun x697 =>
  bd1 (sX sc (b3 + (3 : Int32))) fun x699 =>
  if x699 = 0 then
    f_QuotaLawsLaw_law_593 sc rec18 b1 b2 b3 x694 b2 x695 x697 (0 : Int32) h692
  else
    f_QuotaLawsLaw_law_593 sc rec18 b1 b2 b3 x694 b2 x695 x697 (1 : Int32) h692
set_option maxRecDepth 20000 in
theorem t_QuotaLawsLaw_law_566 {sc : Nat × (Nat → Int32)} (rec18 : Nat → Nat → Int32 → mH → Option (Int32 × mH)) (hrec18 : ∀ (b1 : Nat) (b2 : Nat) (b3 : Int32) (h : mH) (r : Int32) (h' : mH), rec18 b1 b2 b3 h = some (r, h') → G sc y_QuotaLawsLaw_law code 4 (some .boolean) 8 176 18 [(0, .ref 1300), (1, .ref b1), (2, .ref b2), (3, .int b3)] [] h (some (.int r)) h') (b1 : Nat) (b2 : Nat) (b3 : Int32) (s0 : Nat) (s1 : Int32) (s2 : Int32) (s3 : Int32) (h : mH) (r : Int32) (h' : mH) (hf : f_QuotaLawsLaw_law_566 sc rec18 b1 b2 b3 s0 s1 s2 s3 h = some (r, h')) : G sc y_QuotaLawsLaw_law code 4 (some .boolean) 8 176 566 [(0, .ref 1300), (1, .ref b1), (2, .ref b2), (3, .int b3)] [.int s3, .int s2, .int s1, .ref s0] h (some (.int r)) h' := by
  unfold f_QuotaLawsLaw_law_566 at hf
  obtain ⟨u691, e690, hf⟩ := bd1_e hf
  obtain ⟨x694, h692, e693, hf⟩ := bd2_e hf
  refine g_callV (pc := 566) (ci := 0) [.int s1, .int s2, .int s3] (site_of si_Q_refuse (by decide) (by decide)) wd_598 wd_599 wd_600 d_QuotaLawsLaw_law_566 rfl e690 (Nat.le_of_ble_eq_true rfl) (fun z => absurd z (by decide)) (fun z => absurd z (by decide)) (fun z => absurd z (by decide)) (c_Q_refuse e693) rfl ?_
  refine g_st [.int x694] rfl ?_
  refine g_aload_n (pc := 569) 2 d_QuotaLawsLaw_law_569 rfl rfl ?_
  refine g_aload_n (pc := 570) 0 d_QuotaLawsLaw_law_570 rfl rfl ?_
  refine g_iload_n (pc := 571) 3 d_QuotaLawsLaw_law_571 rfl rfl ?_
  refine g_iconst (pc := 572) (1 : Int32) d_QuotaLawsLaw_law_572 (by decide) ?_
  refine g_iadd (pc := 573) d_QuotaLawsLaw_law_573 ?_
  obtain ⟨x695, e696, hf⟩ := bd1_e hf
  refine g_sld (pc := 574) d_QuotaLawsLaw_law_574 e696 ?_
  refine g_aload_n (pc := 575) 0 d_QuotaLawsLaw_law_575 rfl rfl ?_
  refine g_iload_n (pc := 576) 3 d_QuotaLawsLaw_law_576 rfl rfl ?_
  refine g_iconst (pc := 577) (2 : Int32) d_QuotaLawsLaw_law_577 (by decide) ?_
  refine g_iadd (pc := 578) d_QuotaLawsLaw_law_578 ?_
  obtain ⟨x697, e698, hf⟩ := bd1_e hf
  refine g_sld (pc := 579) d_QuotaLawsLaw_law_579 e698 ?_
  refine g_aload_n (pc := 580) 0 d_QuotaLawsLaw_law_580 rfl rfl ?_
  refine g_iload_n (pc := 581) 3 d_QuotaLawsLaw_law_581 rfl rfl ?_
  refine g_iconst (pc := 582) (3 : Int32) d_QuotaLawsLaw_law_582 (by decide) ?_
  refine g_iadd (pc := 583) d_QuotaLawsLaw_law_583 ?_
  obtain ⟨x699, e700, hf⟩ := bd1_e hf
  refine g_sld (pc := 584) d_QuotaLawsLaw_law_584 e700 ?_
  refine g_ifeq (pc := 585) 592 d_QuotaLawsLaw_law_585 (by decide) (fun c701 => ?_) (fun c701 => ?_)
  · replace hf := (if_pos c701).symm.trans hf
    refine g_iconst (pc := 592) (0 : Int32) d_QuotaLawsLaw_law_592 (by decide) ?_
    refine g_lv [0, 1, 2, 3] rfl ?_
    exact t_QuotaLawsLaw_law_593 rec18 hrec18 _ _ _ _ _ _ _ _ _ _ _  hf
  · replace hf := (if_neg c701).symm.trans hf
    refine g_iconst (pc := 588) (1 : Int32) d_QuotaLawsLaw_law_588 (by decide) ?_
    refine g_goto (pc := 589) 593 d_QuotaLawsLaw_law_589 (by decide) ?_
    refine g_lv [0, 1, 2, 3] rfl ?_
    exact t_QuotaLawsLaw_law_593 rec18 hrec18 _ _ _ _ _ _ _ _ _ _ _  hf
def f_QuotaLawsLaw_law_501 (sc : Nat × (Nat → Int32)) (rec18 : Nat → Nat → Int32 → mH → Option (Int32 × mH)) (b1 : Nat) (b2 : Nat) (b3 : Int32) (s0 : Int32) (s1 : Nat) (s2 : Int32) (s3 : Int32) (h : mH) : Option (Int32 × mH) :=
  bd1 (kC h s1 8) fun _ =>
  bd2 (f_M_watch s1 s2 s3 h) fun x722 h720 =>
  if s0 = x722 then
    f_QuotaLawsLaw_law_1344 sc rec18 b1 b2 b3 h720
  else
    some ((0 : Int32), h720)
set_option maxRecDepth 20000 in
theorem t_QuotaLawsLaw_law_501 {sc : Nat × (Nat → Int32)} (rec18 : Nat → Nat → Int32 → mH → Option (Int32 × mH)) (hrec18 : ∀ (b1 : Nat) (b2 : Nat) (b3 : Int32) (h : mH) (r : Int32) (h' : mH), rec18 b1 b2 b3 h = some (r, h') → G sc y_QuotaLawsLaw_law code 4 (some .boolean) 8 176 18 [(0, .ref 1300), (1, .ref b1), (2, .ref b2), (3, .int b3)] [] h (some (.int r)) h') (b1 : Nat) (b2 : Nat) (b3 : Int32) (s0 : Int32) (s1 : Nat) (s2 : Int32) (s3 : Int32) (h : mH) (r : Int32) (h' : mH) (hf : f_QuotaLawsLaw_law_501 sc rec18 b1 b2 b3 s0 s1 s2 s3 h = some (r, h')) : G sc y_QuotaLawsLaw_law code 4 (some .boolean) 8 176 501 [(0, .ref 1300), (1, .ref b1), (2, .ref b2), (3, .int b3)] [.int s3, .int s2, .ref s1, .int s0] h (some (.int r)) h' := by
  unfold f_QuotaLawsLaw_law_501 at hf
  obtain ⟨u719, e718, hf⟩ := bd1_e hf
  obtain ⟨x722, h720, e721, hf⟩ := bd2_e hf
  refine g_callV (pc := 501) (ci := 8) [.int s2, .int s3] (site_of si_M_watch (by decide) (by decide)) wd_1200 wd_1201 wd_1202 d_QuotaLawsLaw_law_501 rfl e718 (Nat.le_of_ble_eq_true rfl) (fun z => absurd z (by decide)) (fun z => absurd z (by decide)) (fun z => absurd z (by decide)) (c_M_watch e721) rfl ?_
  refine g_st [.int x722, .int s0] rfl ?_
  refine g_icmpeq (pc := 504) 1344 d_QuotaLawsLaw_law_504 (by decide) (fun c723 => ?_) (fun c723 => ?_)
  · replace hf := (if_pos c723).symm.trans hf
    refine g_lv [0, 1, 2, 3] rfl ?_
    exact t_QuotaLawsLaw_law_1344 rec18 hrec18 _ _ _ _ _ _  hf
  · replace hf := (if_neg c723).symm.trans hf
    refine g_iconst (pc := 507) (0 : Int32) d_QuotaLawsLaw_law_507 (by decide) ?_
    obtain ⟨rfl, rfl⟩ := ret2 hf
    exact g_zret (pc := 508) rfl rfl d_QuotaLawsLaw_law_508
def f_QuotaLawsLaw_law_479 (sc : Nat × (Nat → Int32)) (rec18 : Nat → Nat → Int32 → mH → Option (Int32 × mH)) (b1 : Nat) (b2 : Nat) (b3 : Int32) (s0 : Nat) (s1 : Int32) (s2 : Int32) (h : mH) : Option (Int32 × mH) :=
  bd1 (kC h s0 0) fun _ =>
  bd2 (f_Q_watch s0 s1 s2 h) fun x712 h710 =>
  bd1 (sX sc (b3 + (1 : Int32))) fun x713 =>
  bd1 (sX sc (b3 + (2 : Int32))) fun x715 =>
  if x715 = 0 then
    f_QuotaLawsLaw_law_501 sc rec18 b1 b2 b3 x712 b2 x713 (0 : Int32) h710
  else
    f_QuotaLawsLaw_law_501 sc rec18 b1 b2 b3 x712 b2 x713 (1 : Int32) h710
set_option maxRecDepth 20000 in
theorem t_QuotaLawsLaw_law_479 {sc : Nat × (Nat → Int32)} (rec18 : Nat → Nat → Int32 → mH → Option (Int32 × mH)) (hrec18 : ∀ (b1 : Nat) (b2 : Nat) (b3 : Int32) (h : mH) (r : Int32) (h' : mH), rec18 b1 b2 b3 h = some (r, h') → G sc y_QuotaLawsLaw_law code 4 (some .boolean) 8 176 18 [(0, .ref 1300), (1, .ref b1), (2, .ref b2), (3, .int b3)] [] h (some (.int r)) h') (b1 : Nat) (b2 : Nat) (b3 : Int32) (s0 : Nat) (s1 : Int32) (s2 : Int32) (h : mH) (r : Int32) (h' : mH) (hf : f_QuotaLawsLaw_law_479 sc rec18 b1 b2 b3 s0 s1 s2 h = some (r, h')) : G sc y_QuotaLawsLaw_law code 4 (some .boolean) 8 176 479 [(0, .ref 1300), (1, .ref b1), (2, .ref b2), (3, .int b3)] [.int s2, .int s1, .ref s0] h (some (.int r)) h' := by
  unfold f_QuotaLawsLaw_law_479 at hf
  obtain ⟨u709, e708, hf⟩ := bd1_e hf
  obtain ⟨x712, h710, e711, hf⟩ := bd2_e hf
  refine g_callV (pc := 479) (ci := 0) [.int s1, .int s2] (site_of si_Q_watch (by decide) (by decide)) wd_584 wd_585 wd_586 d_QuotaLawsLaw_law_479 rfl e708 (Nat.le_of_ble_eq_true rfl) (fun z => absurd z (by decide)) (fun z => absurd z (by decide)) (fun z => absurd z (by decide)) (c_Q_watch e711) rfl ?_
  refine g_st [.int x712] rfl ?_
  refine g_aload_n (pc := 482) 2 d_QuotaLawsLaw_law_482 rfl rfl ?_
  refine g_aload_n (pc := 483) 0 d_QuotaLawsLaw_law_483 rfl rfl ?_
  refine g_iload_n (pc := 484) 3 d_QuotaLawsLaw_law_484 rfl rfl ?_
  refine g_iconst (pc := 485) (1 : Int32) d_QuotaLawsLaw_law_485 (by decide) ?_
  refine g_iadd (pc := 486) d_QuotaLawsLaw_law_486 ?_
  obtain ⟨x713, e714, hf⟩ := bd1_e hf
  refine g_sld (pc := 487) d_QuotaLawsLaw_law_487 e714 ?_
  refine g_aload_n (pc := 488) 0 d_QuotaLawsLaw_law_488 rfl rfl ?_
  refine g_iload_n (pc := 489) 3 d_QuotaLawsLaw_law_489 rfl rfl ?_
  refine g_iconst (pc := 490) (2 : Int32) d_QuotaLawsLaw_law_490 (by decide) ?_
  refine g_iadd (pc := 491) d_QuotaLawsLaw_law_491 ?_
  obtain ⟨x715, e716, hf⟩ := bd1_e hf
  refine g_sld (pc := 492) d_QuotaLawsLaw_law_492 e716 ?_
  refine g_ifeq (pc := 493) 500 d_QuotaLawsLaw_law_493 (by decide) (fun c717 => ?_) (fun c717 => ?_)
  · replace hf := (if_pos c717).symm.trans hf
    refine g_iconst (pc := 500) (0 : Int32) d_QuotaLawsLaw_law_500 (by decide) ?_
    refine g_lv [0, 1, 2, 3] rfl ?_
    exact t_QuotaLawsLaw_law_501 rec18 hrec18 _ _ _ _ _ _ _ _ _ _  hf
  · replace hf := (if_neg c717).symm.trans hf
    refine g_iconst (pc := 496) (1 : Int32) d_QuotaLawsLaw_law_496 (by decide) ?_
    refine g_goto (pc := 497) 501 d_QuotaLawsLaw_law_497 (by decide) ?_
    refine g_lv [0, 1, 2, 3] rfl ?_
    exact t_QuotaLawsLaw_law_501 rec18 hrec18 _ _ _ _ _ _ _ _ _ _  hf
def f_QuotaLawsLaw_law_18b (sc : Nat × (Nat → Int32)) (rec18 : Nat → Nat → Int32 → mH → Option (Int32 × mH)) (b1 : Nat) (b2 : Nat) (b3 : Int32) (h : mH) : Option (Int32 × mH) :=
  if ((Int32.ofNat sc.1) - (5 : Int32)) < b3 then
    some ((1 : Int32), h)
  else
    bd1 (sX sc b3) fun x19 =>
    if (x19 &&& (63 : Int32)) = (0 : Int32) then
      bd1 (sX sc (b3 + (1 : Int32))) fun x22 =>
      bd1 (kC h b1 0) fun _ =>
      bd2 (f_Q_feed b1 x22 h) fun x28 h26 =>
      bd1 (sX sc (b3 + (1 : Int32))) fun x29 =>
      bd1 (kC h26 b2 8) fun _ =>
      bd2 (f_M_feed b2 x29 h26) fun x35 h33 =>
      if x28 = x35 then
        f_QuotaLawsLaw_law_1344 sc rec18 b1 b2 b3 h33
      else
        some ((0 : Int32), h33)
    else
    if (x19 &&& (63 : Int32)) = (1 : Int32) then
      bd1 (sX sc (b3 + (1 : Int32))) fun x38 =>
      bd1 (kC h b1 0) fun _ =>
      bd2 (f_Q_end b1 x38 h) fun x44 h42 =>
      bd1 (sX sc (b3 + (1 : Int32))) fun x45 =>
      bd1 (kC h42 b2 8) fun _ =>
      bd2 (f_M_end b2 x45 h42) fun x51 h49 =>
      if x44 = x51 then
        f_QuotaLawsLaw_law_1344 sc rec18 b1 b2 b3 h49
      else
        some ((0 : Int32), h49)
    else
    if (x19 &&& (63 : Int32)) = (2 : Int32) then
      bd1 (kC h b1 0) fun _ =>
      bd2 (f_Q_text b1 h) fun x58 h56 =>
      bd1 (kC h56 b2 8) fun _ =>
      bd2 (f_M_text b2 h56) fun x63 h61 =>
      if x58 = x63 then
        f_QuotaLawsLaw_law_1344 sc rec18 b1 b2 b3 h61
      else
        some ((0 : Int32), h61)
    else
    if (x19 &&& (63 : Int32)) = (3 : Int32) then
      bd1 (kC h b1 0) fun _ =>
      bd2 (f_Q_fault b1 h) fun x70 h68 =>
      bd1 (kC h68 b2 8) fun _ =>
      bd2 (f_M_fault b2 h68) fun x75 h73 =>
      if x70 = x75 then
        f_QuotaLawsLaw_law_1344 sc rec18 b1 b2 b3 h73
      else
        some ((0 : Int32), h73)
    else
    if (x19 &&& (63 : Int32)) = (4 : Int32) then
      bd1 (sX sc (b3 + (1 : Int32))) fun x78 =>
      bd1 (kC h b1 0) fun _ =>
      bd2 (f_Q_rule b1 x78 h) fun x84 h82 =>
      bd1 (sX sc (b3 + (1 : Int32))) fun x85 =>
      bd1 (kC h82 b2 8) fun _ =>
      bd2 (f_M_rule b2 x85 h82) fun x91 h89 =>
      if x84 = x91 then
        f_QuotaLawsLaw_law_1344 sc rec18 b1 b2 b3 h89
      else
        some ((0 : Int32), h89)
    else
    if (x19 &&& (63 : Int32)) = (5 : Int32) then
      bd1 (sX sc (b3 + (1 : Int32))) fun x94 =>
      bd1 (sX sc (b3 + (2 : Int32))) fun x96 =>
      bd1 (kC h b1 0) fun _ =>
      bd2 (f_Q_law b1 x94 x96 h) fun x102 h100 =>
      bd1 (sX sc (b3 + (1 : Int32))) fun x103 =>
      bd1 (sX sc (b3 + (2 : Int32))) fun x105 =>
      bd1 (kC h100 b2 8) fun _ =>
      bd2 (f_M_law b2 x103 x105 h100) fun x111 h109 =>
      if x102 = x111 then
        f_QuotaLawsLaw_law_1344 sc rec18 b1 b2 b3 h109
      else
        some ((0 : Int32), h109)
    else
    if (x19 &&& (63 : Int32)) = (6 : Int32) then
      bd1 (sX sc (b3 + (1 : Int32))) fun x114 =>
      bd1 (sX sc (b3 + (2 : Int32))) fun x116 =>
      bd1 (kC h b1 0) fun _ =>
      bd2 (f_Q_one b1 x114 x116 h) fun x122 h120 =>
      bd1 (sX sc (b3 + (1 : Int32))) fun x123 =>
      bd1 (sX sc (b3 + (2 : Int32))) fun x125 =>
      bd1 (kC h120 b2 8) fun _ =>
      bd2 (f_M_one b2 x123 x125 h120) fun x131 h129 =>
      if x122 = x131 then
        f_QuotaLawsLaw_law_1344 sc rec18 b1 b2 b3 h129
      else
        some ((0 : Int32), h129)
    else
    if (x19 &&& (63 : Int32)) = (7 : Int32) then
      bd1 (sX sc (b3 + (1 : Int32))) fun x134 =>
      bd1 (sX sc (b3 + (2 : Int32))) fun x136 =>
      bd1 (kC h b1 0) fun _ =>
      bd2 (f_Q_broken b1 x134 x136 h) fun x142 h140 =>
      bd1 (sX sc (b3 + (1 : Int32))) fun x143 =>
      bd1 (sX sc (b3 + (2 : Int32))) fun x145 =>
      bd1 (kC h140 b2 8) fun _ =>
      bd2 (f_M_broken b2 x143 x145 h140) fun x151 h149 =>
      if x142 = x151 then
        f_QuotaLawsLaw_law_1344 sc rec18 b1 b2 b3 h149
      else
        some ((0 : Int32), h149)
    else
    if (x19 &&& (63 : Int32)) = (8 : Int32) then
      bd1 (sX sc (b3 + (1 : Int32))) fun x154 =>
      bd1 (sX sc (b3 + (2 : Int32))) fun x156 =>
      bd1 (kC h b1 0) fun _ =>
      bd2 (f_Q_quota b1 x154 x156 h) fun x162 h160 =>
      bd1 (sX sc (b3 + (1 : Int32))) fun x163 =>
      bd1 (sX sc (b3 + (2 : Int32))) fun x165 =>
      bd1 (kC h160 b2 8) fun _ =>
      bd2 (f_M_quota b2 x163 x165 h160) fun x171 h169 =>
      if x162 = x171 then
        f_QuotaLawsLaw_law_1344 sc rec18 b1 b2 b3 h169
      else
        some ((0 : Int32), h169)
    else
    if (x19 &&& (63 : Int32)) = (9 : Int32) then
      bd1 (sX sc (b3 + (1 : Int32))) fun x174 =>
      bd1 (sX sc (b3 + (2 : Int32))) fun x176 =>
      bd1 (kC h b1 0) fun _ =>
      bd2 (f_Q_carry b1 x174 x176 h) fun x182 h180 =>
      bd1 (sX sc (b3 + (1 : Int32))) fun x183 =>
      bd1 (sX sc (b3 + (2 : Int32))) fun x185 =>
      bd1 (kC h180 b2 8) fun _ =>
      bd2 (f_M_carry b2 x183 x185 h180) fun x191 h189 =>
      if x182 = x191 then
        f_QuotaLawsLaw_law_1344 sc rec18 b1 b2 b3 h189
      else
        some ((0 : Int32), h189)
    else
    if (x19 &&& (63 : Int32)) = (10 : Int32) then
      bd1 (sX sc (b3 + (1 : Int32))) fun x194 =>
      bd1 (sX sc (b3 + (2 : Int32))) fun x196 =>
      if x196 = 0 then
        f_QuotaLawsLaw_law_479 sc rec18 b1 b2 b3 b1 x194 (0 : Int32) h
      else
        f_QuotaLawsLaw_law_479 sc rec18 b1 b2 b3 b1 x194 (1 : Int32) h
    else
    if (x19 &&& (63 : Int32)) = (11 : Int32) then
      bd1 (sX sc (b3 + (1 : Int32))) fun x200 =>
      bd1 (sX sc (b3 + (2 : Int32))) fun x202 =>
      bd1 (kC h b1 0) fun _ =>
      bd2 (f_Q_time b1 x200 x202 h) fun x208 h206 =>
      bd1 (sX sc (b3 + (1 : Int32))) fun x209 =>
      bd1 (sX sc (b3 + (2 : Int32))) fun x211 =>
      bd1 (kC h206 b2 8) fun _ =>
      bd2 (f_M_time b2 x209 x211 h206) fun x217 h215 =>
      if x208 = x217 then
        f_QuotaLawsLaw_law_1344 sc rec18 b1 b2 b3 h215
      else
        some ((0 : Int32), h215)
    else
    if (x19 &&& (63 : Int32)) = (12 : Int32) then
      bd1 (sX sc (b3 + (1 : Int32))) fun x220 =>
      bd1 (sX sc (b3 + (2 : Int32))) fun x222 =>
      bd1 (sX sc (b3 + (3 : Int32))) fun x224 =>
      if x224 = 0 then
        f_QuotaLawsLaw_law_566 sc rec18 b1 b2 b3 b1 x220 x222 (0 : Int32) h
      else
        f_QuotaLawsLaw_law_566 sc rec18 b1 b2 b3 b1 x220 x222 (1 : Int32) h
    else
    if (x19 &&& (63 : Int32)) = (13 : Int32) then
      bd1 (sX sc (b3 + (1 : Int32))) fun x228 =>
      bd1 (sX sc (b3 + (2 : Int32))) fun x230 =>
      bd1 (sX sc (b3 + (3 : Int32))) fun x232 =>
      if x232 = 0 then
        f_QuotaLawsLaw_law_625 sc rec18 b1 b2 b3 b1 x228 x230 (0 : Int32) h
      else
        f_QuotaLawsLaw_law_625 sc rec18 b1 b2 b3 b1 x228 x230 (1 : Int32) h
    else
    if (x19 &&& (63 : Int32)) = (14 : Int32) then
      bd1 (sX sc (b3 + (1 : Int32))) fun x236 =>
      bd1 (sX sc (b3 + (2 : Int32))) fun x238 =>
      bd1 (kC h b1 0) fun _ =>
      bd2 (f_Q_fund b1 x236 x238 h) fun x244 h242 =>
      bd1 (sX sc (b3 + (1 : Int32))) fun x245 =>
      bd1 (sX sc (b3 + (2 : Int32))) fun x247 =>
      bd1 (kC h242 b2 8) fun _ =>
      bd2 (f_M_fund b2 x245 x247 h242) fun x253 h251 =>
      if x244 = x253 then
        f_QuotaLawsLaw_law_1344 sc rec18 b1 b2 b3 h251
      else
        some ((0 : Int32), h251)
    else
    if (x19 &&& (63 : Int32)) = (15 : Int32) then
      bd1 (sX sc (b3 + (1 : Int32))) fun x256 =>
      bd1 (kC h b1 0) fun _ =>
      bd2 (f_Q_revive b1 x256 h) fun x262 h260 =>
      bd1 (sX sc (b3 + (1 : Int32))) fun x263 =>
      bd1 (kC h260 b2 8) fun _ =>
      bd2 (f_M_revive b2 x263 h260) fun x269 h267 =>
      if x262 = x269 then
        f_QuotaLawsLaw_law_1344 sc rec18 b1 b2 b3 h267
      else
        some ((0 : Int32), h267)
    else
    if (x19 &&& (63 : Int32)) = (16 : Int32) then
      bd1 (sX sc (b3 + (1 : Int32))) fun x272 =>
      bd1 (sX sc (b3 + (2 : Int32))) fun x274 =>
      bd1 (kC h b1 0) fun _ =>
      bd2 (f_Q_breaks b1 x272 x274 h) fun x280 h278 =>
      bd1 (sX sc (b3 + (1 : Int32))) fun x281 =>
      bd1 (sX sc (b3 + (2 : Int32))) fun x283 =>
      bd1 (kC h278 b2 8) fun _ =>
      bd2 (f_M_breaks b2 x281 x283 h278) fun x289 h287 =>
      if x280 = x289 then
        f_QuotaLawsLaw_law_1344 sc rec18 b1 b2 b3 h287
      else
        some ((0 : Int32), h287)
    else
    if (x19 &&& (63 : Int32)) = (17 : Int32) then
      bd1 (kC h b1 0) fun _ =>
      bd2 (f_Q_year b1 h) fun x296 h294 =>
      bd1 (kC h294 b2 8) fun _ =>
      bd2 (f_M_year b2 h294) fun x301 h299 =>
      if x296 = x301 then
        f_QuotaLawsLaw_law_1344 sc rec18 b1 b2 b3 h299
      else
        some ((0 : Int32), h299)
    else
    if (x19 &&& (63 : Int32)) = (18 : Int32) then
      bd1 (kC h b1 0) fun _ =>
      bd2 (f_Q_falls b1 h) fun x308 h306 =>
      bd1 (kC h306 b2 8) fun _ =>
      bd2 (f_M_falls b2 h306) fun x313 h311 =>
      if x308 = x313 then
        f_QuotaLawsLaw_law_1344 sc rec18 b1 b2 b3 h311
      else
        some ((0 : Int32), h311)
    else
    if (x19 &&& (63 : Int32)) = (19 : Int32) then
      bd1 (sX sc (b3 + (1 : Int32))) fun x316 =>
      bd1 (kC h b1 0) fun _ =>
      bd2 (f_Q_most b1 x316 h) fun x322 h320 =>
      bd1 (sX sc (b3 + (1 : Int32))) fun x323 =>
      bd1 (kC h320 b2 8) fun _ =>
      bd2 (f_M_most b2 x323 h320) fun x329 h327 =>
      if x322 = x329 then
        f_QuotaLawsLaw_law_1344 sc rec18 b1 b2 b3 h327
      else
        some ((0 : Int32), h327)
    else
    if (x19 &&& (63 : Int32)) = (20 : Int32) then
      bd1 (sX sc (b3 + (1 : Int32))) fun x332 =>
      bd1 (kC h b1 0) fun _ =>
      bd2 (f_Q_rota b1 x332 h) fun x338 h336 =>
      bd1 (sX sc (b3 + (1 : Int32))) fun x339 =>
      bd1 (kC h336 b2 8) fun _ =>
      bd2 (f_M_rota b2 x339 h336) fun x345 h343 =>
      if x338 = x345 then
        f_QuotaLawsLaw_law_1344 sc rec18 b1 b2 b3 h343
      else
        some ((0 : Int32), h343)
    else
    if (x19 &&& (63 : Int32)) = (21 : Int32) then
      bd1 (sX sc (b3 + (1 : Int32))) fun x348 =>
      bd1 (kC h b1 0) fun _ =>
      bd2 (f_Q_more b1 x348 h) fun x354 h352 =>
      bd1 (sX sc (b3 + (1 : Int32))) fun x355 =>
      bd1 (kC h352 b2 8) fun _ =>
      bd2 (f_M_more b2 x355 h352) fun x361 h359 =>
      if x354 = x361 then
        f_QuotaLawsLaw_law_1344 sc rec18 b1 b2 b3 h359
      else
        some ((0 : Int32), h359)
    else
    if (x19 &&& (63 : Int32)) = (22 : Int32) then
      bd1 (sX sc (b3 + (1 : Int32))) fun x364 =>
      bd1 (kC h b1 0) fun _ =>
      bd2 (f_Q_together b1 x364 h) fun x370 h368 =>
      bd1 (sX sc (b3 + (1 : Int32))) fun x371 =>
      bd1 (kC h368 b2 8) fun _ =>
      bd2 (f_M_together b2 x371 h368) fun x377 h375 =>
      if x370 = x377 then
        f_QuotaLawsLaw_law_1344 sc rec18 b1 b2 b3 h375
      else
        some ((0 : Int32), h375)
    else
    if (x19 &&& (63 : Int32)) = (23 : Int32) then
      bd1 (sX sc (b3 + (1 : Int32))) fun x380 =>
      bd1 (sX sc (b3 + (2 : Int32))) fun x382 =>
      bd1 (kC h b1 0) fun _ =>
      bd2 (f_Q_kill b1 x380 x382 h) fun x388 h386 =>
      bd1 (sX sc (b3 + (1 : Int32))) fun x389 =>
      bd1 (sX sc (b3 + (2 : Int32))) fun x391 =>
      bd1 (kC h386 b2 8) fun _ =>
      bd2 (f_M_kill b2 x389 x391 h386) fun x397 h395 =>
      if x388 = x397 then
        f_QuotaLawsLaw_law_1344 sc rec18 b1 b2 b3 h395
      else
        some ((0 : Int32), h395)
    else
    if (x19 &&& (63 : Int32)) = (24 : Int32) then
      bd1 (sX sc (b3 + (1 : Int32))) fun x400 =>
      bd1 (kC h b1 0) fun _ =>
      bd2 (f_Q_selfish b1 x400 h) fun x406 h404 =>
      bd1 (sX sc (b3 + (1 : Int32))) fun x407 =>
      bd1 (kC h404 b2 8) fun _ =>
      bd2 (f_M_selfish b2 x407 h404) fun x413 h411 =>
      if x406 = x413 then
        f_QuotaLawsLaw_law_1344 sc rec18 b1 b2 b3 h411
      else
        some ((0 : Int32), h411)
    else
    if (x19 &&& (63 : Int32)) = (25 : Int32) then
      bd1 (sX sc (b3 + (1 : Int32))) fun x416 =>
      bd1 (sX sc (b3 + (2 : Int32))) fun x418 =>
      bd1 (kC h b1 0) fun _ =>
      bd2 (f_Q_luck b1 x416 x418 h) fun x424 h422 =>
      bd1 (sX sc (b3 + (1 : Int32))) fun x425 =>
      bd1 (sX sc (b3 + (2 : Int32))) fun x427 =>
      bd1 (kC h422 b2 8) fun _ =>
      bd2 (f_M_luck b2 x425 x427 h422) fun x433 h431 =>
      if (lg_cmp x424 x433) = 0 then
        f_QuotaLawsLaw_law_1344 sc rec18 b1 b2 b3 h431
      else
        some ((0 : Int32), h431)
    else
    if (x19 &&& (63 : Int32)) = (26 : Int32) then
      bd1 (sX sc (b3 + (1 : Int32))) fun x436 =>
      bd1 (sX sc (b3 + (2 : Int32))) fun x438 =>
      bd1 (sX sc (b3 + (3 : Int32))) fun x440 =>
      bd1 (kC h b1 0) fun _ =>
      bd2 (f_Q_see b1 x436 x438 x440 h) fun x446 h444 =>
      bd1 (sX sc (b3 + (1 : Int32))) fun x447 =>
      bd1 (sX sc (b3 + (2 : Int32))) fun x449 =>
      bd1 (sX sc (b3 + (3 : Int32))) fun x451 =>
      bd1 (kC h444 b2 8) fun _ =>
      bd2 (f_M_see b2 x447 x449 x451 h444) fun x457 h455 =>
      if x446 = x457 then
        f_QuotaLawsLaw_law_1344 sc rec18 b1 b2 b3 h455
      else
        some ((0 : Int32), h455)
    else
    if (x19 &&& (63 : Int32)) = (27 : Int32) then
      bd1 (sX sc (b3 + (1 : Int32))) fun x460 =>
      bd1 (kC h b1 0) fun _ =>
      bd2 (f_Q_forget b1 x460 h) fun x466 h464 =>
      bd1 (sX sc (b3 + (1 : Int32))) fun x467 =>
      bd1 (kC h464 b2 8) fun _ =>
      bd2 (f_M_forget b2 x467 h464) fun x473 h471 =>
      if x466 = x473 then
        f_QuotaLawsLaw_law_1344 sc rec18 b1 b2 b3 h471
      else
        some ((0 : Int32), h471)
    else
    if (x19 &&& (63 : Int32)) = (28 : Int32) then
      bd1 (kC h b1 0) fun _ =>
      bd2 (f_Q_books b1 h) fun x480 h478 =>
      bd1 (kC h478 b2 8) fun _ =>
      bd2 (f_M_books b2 h478) fun x485 h483 =>
      if (lg_cmp x480 x485) = 0 then
        f_QuotaLawsLaw_law_1344 sc rec18 b1 b2 b3 h483
      else
        some ((0 : Int32), h483)
    else
    if (x19 &&& (63 : Int32)) = (29 : Int32) then
      bd1 (sX sc (b3 + (1 : Int32))) fun x488 =>
      bd1 (sX sc (b3 + (2 : Int32))) fun x490 =>
      bd1 (sX sc (b3 + (3 : Int32))) fun x492 =>
      bd1 (kC h b1 0) fun _ =>
      bd2 (f_Q_entry b1 x488 x490 x492 h) fun x498 h496 =>
      bd1 (sX sc (b3 + (1 : Int32))) fun x499 =>
      bd1 (sX sc (b3 + (2 : Int32))) fun x501 =>
      bd1 (sX sc (b3 + (3 : Int32))) fun x503 =>
      bd1 (kC h496 b2 8) fun _ =>
      bd2 (f_M_entry b2 x499 x501 x503 h496) fun x509 h507 =>
      if x498 = x509 then
        f_QuotaLawsLaw_law_1344 sc rec18 b1 b2 b3 h507
      else
        some ((0 : Int32), h507)
    else
    if (x19 &&& (63 : Int32)) = (30 : Int32) then
      bd1 (sX sc (b3 + (1 : Int32))) fun x512 =>
      bd1 (sX sc (b3 + (2 : Int32))) fun x514 =>
      bd1 (sX sc (b3 + (3 : Int32))) fun x516 =>
      bd1 (kC h b1 0) fun _ =>
      bd2 (f_Q_wild b1 x512 x514 x516 h) fun x522 h520 =>
      bd1 (sX sc (b3 + (1 : Int32))) fun x523 =>
      bd1 (sX sc (b3 + (2 : Int32))) fun x525 =>
      bd1 (sX sc (b3 + (3 : Int32))) fun x527 =>
      bd1 (kC h520 b2 8) fun _ =>
      bd2 (f_M_wild b2 x523 x525 x527 h520) fun x533 h531 =>
      if x522 = x533 then
        f_QuotaLawsLaw_law_1344 sc rec18 b1 b2 b3 h531
      else
        some ((0 : Int32), h531)
    else
    if (x19 &&& (63 : Int32)) = (31 : Int32) then
      bd1 (sX sc (b3 + (1 : Int32))) fun x536 =>
      bd1 (kC h b1 0) fun _ =>
      bd2 (f_Q_keep b1 x536 h) fun x542 h540 =>
      bd1 (sX sc (b3 + (1 : Int32))) fun x543 =>
      bd1 (kC h540 b2 8) fun _ =>
      bd2 (f_M_keep b2 x543 h540) fun x549 h547 =>
      if x542 = x549 then
        f_QuotaLawsLaw_law_1344 sc rec18 b1 b2 b3 h547
      else
        some ((0 : Int32), h547)
    else
    if (x19 &&& (63 : Int32)) = (32 : Int32) then
      bd1 (sX sc (b3 + (1 : Int32))) fun x552 =>
      bd1 (kC h b1 0) fun _ =>
      bd2 (f_Q_back b1 x552 h) fun x558 h556 =>
      bd1 (sX sc (b3 + (1 : Int32))) fun x559 =>
      bd1 (kC h556 b2 8) fun _ =>
      bd2 (f_M_back b2 x559 h556) fun x565 h563 =>
      if x558 = x565 then
        f_QuotaLawsLaw_law_1344 sc rec18 b1 b2 b3 h563
      else
        some ((0 : Int32), h563)
    else
    if (x19 &&& (63 : Int32)) = (33 : Int32) then
      bd1 (sX sc (b3 + (1 : Int32))) fun x568 =>
      bd1 (sX sc (b3 + (2 : Int32))) fun x570 =>
      bd1 (sX sc (b3 + (3 : Int32))) fun x572 =>
      bd1 (kC h b1 0) fun _ =>
      bd2 (f_Q_sheet b1 x568 x570 x572 h) fun x578 h576 =>
      bd1 (sX sc (b3 + (1 : Int32))) fun x579 =>
      bd1 (sX sc (b3 + (2 : Int32))) fun x581 =>
      bd1 (sX sc (b3 + (3 : Int32))) fun x583 =>
      bd1 (kC h576 b2 8) fun _ =>
      bd2 (f_M_sheet b2 x579 x581 x583 h576) fun x589 h587 =>
      if x578 = x589 then
        f_QuotaLawsLaw_law_1344 sc rec18 b1 b2 b3 h587
      else
        some ((0 : Int32), h587)
    else
    if (x19 &&& (63 : Int32)) = (34 : Int32) then
      bd1 (sX sc (b3 + (1 : Int32))) fun x592 =>
      bd1 (sX sc (b3 + (2 : Int32))) fun x594 =>
      bd1 (sX sc (b3 + (3 : Int32))) fun x596 =>
      bd1 (kC h b1 0) fun _ =>
      bd2 (f_Q_lay b1 x592 x594 x596 h) fun x602 h600 =>
      bd1 (sX sc (b3 + (1 : Int32))) fun x603 =>
      bd1 (sX sc (b3 + (2 : Int32))) fun x605 =>
      bd1 (sX sc (b3 + (3 : Int32))) fun x607 =>
      bd1 (kC h600 b2 8) fun _ =>
      bd2 (f_M_lay b2 x603 x605 x607 h600) fun x613 h611 =>
      if x602 = x613 then
        f_QuotaLawsLaw_law_1344 sc rec18 b1 b2 b3 h611
      else
        some ((0 : Int32), h611)
    else
    if (x19 &&& (63 : Int32)) = (35 : Int32) then
      bd1 (sX sc (b3 + (1 : Int32))) fun x616 =>
      bd1 (sX sc (b3 + (2 : Int32))) fun x618 =>
      bd1 (sX sc (b3 + (3 : Int32))) fun x620 =>
      bd1 (sX sc (b3 + (4 : Int32))) fun x622 =>
      bd1 (kC h b1 0) fun _ =>
      bd2 (f_Q_read b1 x616 x618 x620 x622 h) fun x628 h626 =>
      bd1 (sX sc (b3 + (1 : Int32))) fun x629 =>
      bd1 (sX sc (b3 + (2 : Int32))) fun x631 =>
      bd1 (sX sc (b3 + (3 : Int32))) fun x633 =>
      bd1 (sX sc (b3 + (4 : Int32))) fun x635 =>
      bd1 (kC h626 b2 8) fun _ =>
      bd2 (f_M_read b2 x629 x631 x633 x635 h626) fun x641 h639 =>
      if x628 = x641 then
        f_QuotaLawsLaw_law_1344 sc rec18 b1 b2 b3 h639
      else
        some ((0 : Int32), h639)
    else
    if (x19 &&& (63 : Int32)) = (36 : Int32) then
      bd1 (kC h b1 0) fun _ =>
      bd2 (f_Q_torn b1 h) fun x648 h646 =>
      bd1 (kC h646 b2 8) fun _ =>
      bd2 (f_M_torn b2 h646) fun x653 h651 =>
      if x648 = x653 then
        f_QuotaLawsLaw_law_1344 sc rec18 b1 b2 b3 h651
      else
        some ((0 : Int32), h651)
    else
    if (x19 &&& (63 : Int32)) = (37 : Int32) then
      bd1 (sX sc (b3 + (1 : Int32))) fun x656 =>
      bd1 (kC h b1 0) fun _ =>
      bd2 (f_Q_count b1 x656 h) fun x662 h660 =>
      bd1 (sX sc (b3 + (1 : Int32))) fun x663 =>
      bd1 (kC h660 b2 8) fun _ =>
      bd2 (f_M_count b2 x663 h660) fun x669 h667 =>
      if x662 = x669 then
        f_QuotaLawsLaw_law_1344 sc rec18 b1 b2 b3 h667
      else
        some ((0 : Int32), h667)
    else
    f_QuotaLawsLaw_law_1344 sc rec18 b1 b2 b3 h
set_option maxRecDepth 20000 in
theorem t_QuotaLawsLaw_law_18b {sc : Nat × (Nat → Int32)} (rec18 : Nat → Nat → Int32 → mH → Option (Int32 × mH)) (hrec18 : ∀ (b1 : Nat) (b2 : Nat) (b3 : Int32) (h : mH) (r : Int32) (h' : mH), rec18 b1 b2 b3 h = some (r, h') → G sc y_QuotaLawsLaw_law code 4 (some .boolean) 8 176 18 [(0, .ref 1300), (1, .ref b1), (2, .ref b2), (3, .int b3)] [] h (some (.int r)) h') (b1 : Nat) (b2 : Nat) (b3 : Int32) (h : mH) (r : Int32) (h' : mH) (hf : f_QuotaLawsLaw_law_18b sc rec18 b1 b2 b3 h = some (r, h')) : G sc y_QuotaLawsLaw_law code 4 (some .boolean) 8 176 18 [(0, .ref 1300), (1, .ref b1), (2, .ref b2), (3, .int b3)] [] h (some (.int r)) h' := by
  unfold f_QuotaLawsLaw_law_18b at hf
  refine g_iload_n (pc := 18) 3 d_QuotaLawsLaw_law_18 rfl rfl ?_
  refine g_aload_n (pc := 19) 0 d_QuotaLawsLaw_law_19 rfl rfl ?_
  refine g_slen (pc := 20) d_QuotaLawsLaw_law_20 ?_
  refine g_iconst (pc := 21) (5 : Int32) d_QuotaLawsLaw_law_21 (by decide) ?_
  refine g_isub (pc := 22) d_QuotaLawsLaw_law_22 ?_
  refine g_icmpgt (pc := 23) 1350 d_QuotaLawsLaw_law_23 (by decide) (fun c671 => ?_) (fun c671 => ?_)
  · replace hf := (if_pos c671).symm.trans hf
    refine g_iconst (pc := 1350) (1 : Int32) d_QuotaLawsLaw_law_1350 (by decide) ?_
    obtain ⟨rfl, rfl⟩ := ret2 hf
    exact g_zret (pc := 1351) rfl rfl d_QuotaLawsLaw_law_1351
  · replace hf := (if_neg c671).symm.trans hf
    refine g_aload_n (pc := 26) 0 d_QuotaLawsLaw_law_26 rfl rfl ?_
    refine g_iload_n (pc := 27) 3 d_QuotaLawsLaw_law_27 rfl rfl ?_
    obtain ⟨x19, e20, hf⟩ := bd1_e hf
    refine g_sld (pc := 28) d_QuotaLawsLaw_law_28 e20 ?_
    refine g_bipush (pc := 29) (63 : Int32) d_QuotaLawsLaw_law_29 (by decide) ?_
    refine g_iand (pc := 31) d_QuotaLawsLaw_law_31 ?_
    by_cases c21 : (x19 &&& (63 : Int32)) = (0 : Int32)
    · replace hf := (if_pos c21).symm.trans hf
      refine g_tabIn (pc := 32) 200 (0 : Int32) d_QuotaLawsLaw_law_32 c21 (by decide) (by decide) rfl (by decide) ?_
      refine g_aload_n (pc := 200) 1 d_QuotaLawsLaw_law_200 rfl rfl ?_
      refine g_aload_n (pc := 201) 0 d_QuotaLawsLaw_law_201 rfl rfl ?_
      refine g_iload_n (pc := 202) 3 d_QuotaLawsLaw_law_202 rfl rfl ?_
      refine g_iconst (pc := 203) (1 : Int32) d_QuotaLawsLaw_law_203 (by decide) ?_
      refine g_iadd (pc := 204) d_QuotaLawsLaw_law_204 ?_
      obtain ⟨x22, e23, hf⟩ := bd1_e hf
      refine g_sld (pc := 205) d_QuotaLawsLaw_law_205 e23 ?_
      obtain ⟨u25, e24, hf⟩ := bd1_e hf
      obtain ⟨x28, h26, e27, hf⟩ := bd2_e hf
      refine g_callV (pc := 206) (ci := 0) [.int x22] (site_of si_Q_feed (by decide) (by decide)) wd_327 wd_328 wd_329 d_QuotaLawsLaw_law_206 rfl e24 (Nat.le_of_ble_eq_true rfl) (fun z => absurd z (by decide)) (fun z => absurd z (by decide)) (fun z => absurd z (by decide)) (c_Q_feed e27) rfl ?_
      refine g_st [.int x28] rfl ?_
      refine g_aload_n (pc := 209) 2 d_QuotaLawsLaw_law_209 rfl rfl ?_
      refine g_aload_n (pc := 210) 0 d_QuotaLawsLaw_law_210 rfl rfl ?_
      refine g_iload_n (pc := 211) 3 d_QuotaLawsLaw_law_211 rfl rfl ?_
      refine g_iconst (pc := 212) (1 : Int32) d_QuotaLawsLaw_law_212 (by decide) ?_
      refine g_iadd (pc := 213) d_QuotaLawsLaw_law_213 ?_
      obtain ⟨x29, e30, hf⟩ := bd1_e hf
      refine g_sld (pc := 214) d_QuotaLawsLaw_law_214 e30 ?_
      obtain ⟨u32, e31, hf⟩ := bd1_e hf
      obtain ⟨x35, h33, e34, hf⟩ := bd2_e hf
      refine g_callV (pc := 215) (ci := 8) [.int x29] (site_of si_M_feed (by decide) (by decide)) wd_1056 wd_1057 wd_1058 d_QuotaLawsLaw_law_215 rfl e31 (Nat.le_of_ble_eq_true rfl) (fun z => absurd z (by decide)) (fun z => absurd z (by decide)) (fun z => absurd z (by decide)) (c_M_feed e34) rfl ?_
      refine g_st [.int x35, .int x28] rfl ?_
      refine g_icmpeq (pc := 218) 1344 d_QuotaLawsLaw_law_218 (by decide) (fun c36 => ?_) (fun c36 => ?_)
      · replace hf := (if_pos c36).symm.trans hf
        refine g_lv [0, 1, 2, 3] rfl ?_
        exact t_QuotaLawsLaw_law_1344 rec18 hrec18 _ _ _ _ _ _  hf
      · replace hf := (if_neg c36).symm.trans hf
        refine g_iconst (pc := 221) (0 : Int32) d_QuotaLawsLaw_law_221 (by decide) ?_
        obtain ⟨rfl, rfl⟩ := ret2 hf
        exact g_zret (pc := 222) rfl rfl d_QuotaLawsLaw_law_222
    replace hf := (if_neg c21).symm.trans hf
    by_cases c37 : (x19 &&& (63 : Int32)) = (1 : Int32)
    · replace hf := (if_pos c37).symm.trans hf
      refine g_tabIn (pc := 32) 223 (1 : Int32) d_QuotaLawsLaw_law_32 c37 (by decide) (by decide) rfl (by decide) ?_
      refine g_aload_n (pc := 223) 1 d_QuotaLawsLaw_law_223 rfl rfl ?_
      refine g_aload_n (pc := 224) 0 d_QuotaLawsLaw_law_224 rfl rfl ?_
      refine g_iload_n (pc := 225) 3 d_QuotaLawsLaw_law_225 rfl rfl ?_
      refine g_iconst (pc := 226) (1 : Int32) d_QuotaLawsLaw_law_226 (by decide) ?_
      refine g_iadd (pc := 227) d_QuotaLawsLaw_law_227 ?_
      obtain ⟨x38, e39, hf⟩ := bd1_e hf
      refine g_sld (pc := 228) d_QuotaLawsLaw_law_228 e39 ?_
      obtain ⟨u41, e40, hf⟩ := bd1_e hf
      obtain ⟨x44, h42, e43, hf⟩ := bd2_e hf
      refine g_callV (pc := 229) (ci := 0) [.int x38] (site_of si_Q_end (by decide) (by decide)) wd_338 wd_339 wd_340 d_QuotaLawsLaw_law_229 rfl e40 (Nat.le_of_ble_eq_true rfl) (fun z => absurd z (by decide)) (fun z => absurd z (by decide)) (fun z => absurd z (by decide)) (c_Q_end e43) rfl ?_
      refine g_st [.int x44] rfl ?_
      refine g_aload_n (pc := 232) 2 d_QuotaLawsLaw_law_232 rfl rfl ?_
      refine g_aload_n (pc := 233) 0 d_QuotaLawsLaw_law_233 rfl rfl ?_
      refine g_iload_n (pc := 234) 3 d_QuotaLawsLaw_law_234 rfl rfl ?_
      refine g_iconst (pc := 235) (1 : Int32) d_QuotaLawsLaw_law_235 (by decide) ?_
      refine g_iadd (pc := 236) d_QuotaLawsLaw_law_236 ?_
      obtain ⟨x45, e46, hf⟩ := bd1_e hf
      refine g_sld (pc := 237) d_QuotaLawsLaw_law_237 e46 ?_
      obtain ⟨u48, e47, hf⟩ := bd1_e hf
      obtain ⟨x51, h49, e50, hf⟩ := bd2_e hf
      refine g_callV (pc := 238) (ci := 8) [.int x45] (site_of si_M_end (by decide) (by decide)) wd_1064 wd_1065 wd_1066 d_QuotaLawsLaw_law_238 rfl e47 (Nat.le_of_ble_eq_true rfl) (fun z => absurd z (by decide)) (fun z => absurd z (by decide)) (fun z => absurd z (by decide)) (c_M_end e50) rfl ?_
      refine g_st [.int x51, .int x44] rfl ?_
      refine g_icmpeq (pc := 241) 1344 d_QuotaLawsLaw_law_241 (by decide) (fun c52 => ?_) (fun c52 => ?_)
      · replace hf := (if_pos c52).symm.trans hf
        refine g_lv [0, 1, 2, 3] rfl ?_
        exact t_QuotaLawsLaw_law_1344 rec18 hrec18 _ _ _ _ _ _  hf
      · replace hf := (if_neg c52).symm.trans hf
        refine g_iconst (pc := 244) (0 : Int32) d_QuotaLawsLaw_law_244 (by decide) ?_
        obtain ⟨rfl, rfl⟩ := ret2 hf
        exact g_zret (pc := 245) rfl rfl d_QuotaLawsLaw_law_245
    replace hf := (if_neg c37).symm.trans hf
    by_cases c53 : (x19 &&& (63 : Int32)) = (2 : Int32)
    · replace hf := (if_pos c53).symm.trans hf
      refine g_tabIn (pc := 32) 246 (2 : Int32) d_QuotaLawsLaw_law_32 c53 (by decide) (by decide) rfl (by decide) ?_
      refine g_aload_n (pc := 246) 1 d_QuotaLawsLaw_law_246 rfl rfl ?_
      obtain ⟨u55, e54, hf⟩ := bd1_e hf
      obtain ⟨x58, h56, e57, hf⟩ := bd2_e hf
      refine g_callV (pc := 247) (ci := 0) [] (site_of si_Q_text (by decide) (by decide)) wd_342 wd_343 wd_344 d_QuotaLawsLaw_law_247 rfl e54 (Nat.le_of_ble_eq_true rfl) (fun z => absurd z (by decide)) (fun z => absurd z (by decide)) (fun z => absurd z (by decide)) (c_Q_text e57) rfl ?_
      refine g_st [.int x58] rfl ?_
      refine g_aload_n (pc := 250) 2 d_QuotaLawsLaw_law_250 rfl rfl ?_
      obtain ⟨u60, e59, hf⟩ := bd1_e hf
      obtain ⟨x63, h61, e62, hf⟩ := bd2_e hf
      refine g_callV (pc := 251) (ci := 8) [] (site_of si_M_text (by decide) (by decide)) wd_1068 wd_1069 wd_1070 d_QuotaLawsLaw_law_251 rfl e59 (Nat.le_of_ble_eq_true rfl) (fun z => absurd z (by decide)) (fun z => absurd z (by decide)) (fun z => absurd z (by decide)) (c_M_text e62) rfl ?_
      refine g_st [.int x63, .int x58] rfl ?_
      refine g_icmpeq (pc := 254) 1344 d_QuotaLawsLaw_law_254 (by decide) (fun c64 => ?_) (fun c64 => ?_)
      · replace hf := (if_pos c64).symm.trans hf
        refine g_lv [0, 1, 2, 3] rfl ?_
        exact t_QuotaLawsLaw_law_1344 rec18 hrec18 _ _ _ _ _ _  hf
      · replace hf := (if_neg c64).symm.trans hf
        refine g_iconst (pc := 257) (0 : Int32) d_QuotaLawsLaw_law_257 (by decide) ?_
        obtain ⟨rfl, rfl⟩ := ret2 hf
        exact g_zret (pc := 258) rfl rfl d_QuotaLawsLaw_law_258
    replace hf := (if_neg c53).symm.trans hf
    by_cases c65 : (x19 &&& (63 : Int32)) = (3 : Int32)
    · replace hf := (if_pos c65).symm.trans hf
      refine g_tabIn (pc := 32) 259 (3 : Int32) d_QuotaLawsLaw_law_32 c65 (by decide) (by decide) rfl (by decide) ?_
      refine g_aload_n (pc := 259) 1 d_QuotaLawsLaw_law_259 rfl rfl ?_
      obtain ⟨u67, e66, hf⟩ := bd1_e hf
      obtain ⟨x70, h68, e69, hf⟩ := bd2_e hf
      refine g_callV (pc := 260) (ci := 0) [] (site_of si_Q_fault (by decide) (by decide)) wd_507 wd_508 wd_509 d_QuotaLawsLaw_law_260 rfl e66 (Nat.le_of_ble_eq_true rfl) (fun z => absurd z (by decide)) (fun z => absurd z (by decide)) (fun z => absurd z (by decide)) (c_Q_fault e69) rfl ?_
      refine g_st [.int x70] rfl ?_
      refine g_aload_n (pc := 263) 2 d_QuotaLawsLaw_law_263 rfl rfl ?_
      obtain ⟨u72, e71, hf⟩ := bd1_e hf
      obtain ⟨x75, h73, e74, hf⟩ := bd2_e hf
      refine g_callV (pc := 264) (ci := 8) [] (site_of si_M_fault (by decide) (by decide)) wd_1124 wd_1125 wd_1126 d_QuotaLawsLaw_law_264 rfl e71 (Nat.le_of_ble_eq_true rfl) (fun z => absurd z (by decide)) (fun z => absurd z (by decide)) (fun z => absurd z (by decide)) (c_M_fault e74) rfl ?_
      refine g_st [.int x75, .int x70] rfl ?_
      refine g_icmpeq (pc := 267) 1344 d_QuotaLawsLaw_law_267 (by decide) (fun c76 => ?_) (fun c76 => ?_)
      · replace hf := (if_pos c76).symm.trans hf
        refine g_lv [0, 1, 2, 3] rfl ?_
        exact t_QuotaLawsLaw_law_1344 rec18 hrec18 _ _ _ _ _ _  hf
      · replace hf := (if_neg c76).symm.trans hf
        refine g_iconst (pc := 270) (0 : Int32) d_QuotaLawsLaw_law_270 (by decide) ?_
        obtain ⟨rfl, rfl⟩ := ret2 hf
        exact g_zret (pc := 271) rfl rfl d_QuotaLawsLaw_law_271
    replace hf := (if_neg c65).symm.trans hf
    by_cases c77 : (x19 &&& (63 : Int32)) = (4 : Int32)
    · replace hf := (if_pos c77).symm.trans hf
      refine g_tabIn (pc := 32) 272 (4 : Int32) d_QuotaLawsLaw_law_32 c77 (by decide) (by decide) rfl (by decide) ?_
      refine g_aload_n (pc := 272) 1 d_QuotaLawsLaw_law_272 rfl rfl ?_
      refine g_aload_n (pc := 273) 0 d_QuotaLawsLaw_law_273 rfl rfl ?_
      refine g_iload_n (pc := 274) 3 d_QuotaLawsLaw_law_274 rfl rfl ?_
      refine g_iconst (pc := 275) (1 : Int32) d_QuotaLawsLaw_law_275 (by decide) ?_
      refine g_iadd (pc := 276) d_QuotaLawsLaw_law_276 ?_
      obtain ⟨x78, e79, hf⟩ := bd1_e hf
      refine g_sld (pc := 277) d_QuotaLawsLaw_law_277 e79 ?_
      obtain ⟨u81, e80, hf⟩ := bd1_e hf
      obtain ⟨x84, h82, e83, hf⟩ := bd2_e hf
      refine g_callV (pc := 278) (ci := 0) [.int x78] (site_of si_Q_rule (by decide) (by decide)) wd_511 wd_512 wd_513 d_QuotaLawsLaw_law_278 rfl e80 (Nat.le_of_ble_eq_true rfl) (fun z => absurd z (by decide)) (fun z => absurd z (by decide)) (fun z => absurd z (by decide)) (c_Q_rule e83) rfl ?_
      refine g_st [.int x84] rfl ?_
      refine g_aload_n (pc := 281) 2 d_QuotaLawsLaw_law_281 rfl rfl ?_
      refine g_aload_n (pc := 282) 0 d_QuotaLawsLaw_law_282 rfl rfl ?_
      refine g_iload_n (pc := 283) 3 d_QuotaLawsLaw_law_283 rfl rfl ?_
      refine g_iconst (pc := 284) (1 : Int32) d_QuotaLawsLaw_law_284 (by decide) ?_
      refine g_iadd (pc := 285) d_QuotaLawsLaw_law_285 ?_
      obtain ⟨x85, e86, hf⟩ := bd1_e hf
      refine g_sld (pc := 286) d_QuotaLawsLaw_law_286 e86 ?_
      obtain ⟨u88, e87, hf⟩ := bd1_e hf
      obtain ⟨x91, h89, e90, hf⟩ := bd2_e hf
      refine g_callV (pc := 287) (ci := 8) [.int x85] (site_of si_M_rule (by decide) (by decide)) wd_1128 wd_1129 wd_1130 d_QuotaLawsLaw_law_287 rfl e87 (Nat.le_of_ble_eq_true rfl) (fun z => absurd z (by decide)) (fun z => absurd z (by decide)) (fun z => absurd z (by decide)) (c_M_rule e90) rfl ?_
      refine g_st [.int x91, .int x84] rfl ?_
      refine g_icmpeq (pc := 290) 1344 d_QuotaLawsLaw_law_290 (by decide) (fun c92 => ?_) (fun c92 => ?_)
      · replace hf := (if_pos c92).symm.trans hf
        refine g_lv [0, 1, 2, 3] rfl ?_
        exact t_QuotaLawsLaw_law_1344 rec18 hrec18 _ _ _ _ _ _  hf
      · replace hf := (if_neg c92).symm.trans hf
        refine g_iconst (pc := 293) (0 : Int32) d_QuotaLawsLaw_law_293 (by decide) ?_
        obtain ⟨rfl, rfl⟩ := ret2 hf
        exact g_zret (pc := 294) rfl rfl d_QuotaLawsLaw_law_294
    replace hf := (if_neg c77).symm.trans hf
    by_cases c93 : (x19 &&& (63 : Int32)) = (5 : Int32)
    · replace hf := (if_pos c93).symm.trans hf
      refine g_tabIn (pc := 32) 295 (5 : Int32) d_QuotaLawsLaw_law_32 c93 (by decide) (by decide) rfl (by decide) ?_
      refine g_aload_n (pc := 295) 1 d_QuotaLawsLaw_law_295 rfl rfl ?_
      refine g_aload_n (pc := 296) 0 d_QuotaLawsLaw_law_296 rfl rfl ?_
      refine g_iload_n (pc := 297) 3 d_QuotaLawsLaw_law_297 rfl rfl ?_
      refine g_iconst (pc := 298) (1 : Int32) d_QuotaLawsLaw_law_298 (by decide) ?_
      refine g_iadd (pc := 299) d_QuotaLawsLaw_law_299 ?_
      obtain ⟨x94, e95, hf⟩ := bd1_e hf
      refine g_sld (pc := 300) d_QuotaLawsLaw_law_300 e95 ?_
      refine g_aload_n (pc := 301) 0 d_QuotaLawsLaw_law_301 rfl rfl ?_
      refine g_iload_n (pc := 302) 3 d_QuotaLawsLaw_law_302 rfl rfl ?_
      refine g_iconst (pc := 303) (2 : Int32) d_QuotaLawsLaw_law_303 (by decide) ?_
      refine g_iadd (pc := 304) d_QuotaLawsLaw_law_304 ?_
      obtain ⟨x96, e97, hf⟩ := bd1_e hf
      refine g_sld (pc := 305) d_QuotaLawsLaw_law_305 e97 ?_
      obtain ⟨u99, e98, hf⟩ := bd1_e hf
      obtain ⟨x102, h100, e101, hf⟩ := bd2_e hf
      refine g_callV (pc := 306) (ci := 0) [.int x94, .int x96] (site_of si_Q_law (by decide) (by decide)) wd_515 wd_516 wd_517 d_QuotaLawsLaw_law_306 rfl e98 (Nat.le_of_ble_eq_true rfl) (fun z => absurd z (by decide)) (fun z => absurd z (by decide)) (fun z => absurd z (by decide)) (c_Q_law e101) rfl ?_
      refine g_st [.int x102] rfl ?_
      refine g_aload_n (pc := 309) 2 d_QuotaLawsLaw_law_309 rfl rfl ?_
      refine g_aload_n (pc := 310) 0 d_QuotaLawsLaw_law_310 rfl rfl ?_
      refine g_iload_n (pc := 311) 3 d_QuotaLawsLaw_law_311 rfl rfl ?_
      refine g_iconst (pc := 312) (1 : Int32) d_QuotaLawsLaw_law_312 (by decide) ?_
      refine g_iadd (pc := 313) d_QuotaLawsLaw_law_313 ?_
      obtain ⟨x103, e104, hf⟩ := bd1_e hf
      refine g_sld (pc := 314) d_QuotaLawsLaw_law_314 e104 ?_
      refine g_aload_n (pc := 315) 0 d_QuotaLawsLaw_law_315 rfl rfl ?_
      refine g_iload_n (pc := 316) 3 d_QuotaLawsLaw_law_316 rfl rfl ?_
      refine g_iconst (pc := 317) (2 : Int32) d_QuotaLawsLaw_law_317 (by decide) ?_
      refine g_iadd (pc := 318) d_QuotaLawsLaw_law_318 ?_
      obtain ⟨x105, e106, hf⟩ := bd1_e hf
      refine g_sld (pc := 319) d_QuotaLawsLaw_law_319 e106 ?_
      obtain ⟨u108, e107, hf⟩ := bd1_e hf
      obtain ⟨x111, h109, e110, hf⟩ := bd2_e hf
      refine g_callV (pc := 320) (ci := 8) [.int x103, .int x105] (site_of si_M_law (by decide) (by decide)) wd_1132 wd_1133 wd_1134 d_QuotaLawsLaw_law_320 rfl e107 (Nat.le_of_ble_eq_true rfl) (fun z => absurd z (by decide)) (fun z => absurd z (by decide)) (fun z => absurd z (by decide)) (c_M_law e110) rfl ?_
      refine g_st [.int x111, .int x102] rfl ?_
      refine g_icmpeq (pc := 323) 1344 d_QuotaLawsLaw_law_323 (by decide) (fun c112 => ?_) (fun c112 => ?_)
      · replace hf := (if_pos c112).symm.trans hf
        refine g_lv [0, 1, 2, 3] rfl ?_
        exact t_QuotaLawsLaw_law_1344 rec18 hrec18 _ _ _ _ _ _  hf
      · replace hf := (if_neg c112).symm.trans hf
        refine g_iconst (pc := 326) (0 : Int32) d_QuotaLawsLaw_law_326 (by decide) ?_
        obtain ⟨rfl, rfl⟩ := ret2 hf
        exact g_zret (pc := 327) rfl rfl d_QuotaLawsLaw_law_327
    replace hf := (if_neg c93).symm.trans hf
    by_cases c113 : (x19 &&& (63 : Int32)) = (6 : Int32)
    · replace hf := (if_pos c113).symm.trans hf
      refine g_tabIn (pc := 32) 328 (6 : Int32) d_QuotaLawsLaw_law_32 c113 (by decide) (by decide) rfl (by decide) ?_
      refine g_aload_n (pc := 328) 1 d_QuotaLawsLaw_law_328 rfl rfl ?_
      refine g_aload_n (pc := 329) 0 d_QuotaLawsLaw_law_329 rfl rfl ?_
      refine g_iload_n (pc := 330) 3 d_QuotaLawsLaw_law_330 rfl rfl ?_
      refine g_iconst (pc := 331) (1 : Int32) d_QuotaLawsLaw_law_331 (by decide) ?_
      refine g_iadd (pc := 332) d_QuotaLawsLaw_law_332 ?_
      obtain ⟨x114, e115, hf⟩ := bd1_e hf
      refine g_sld (pc := 333) d_QuotaLawsLaw_law_333 e115 ?_
      refine g_aload_n (pc := 334) 0 d_QuotaLawsLaw_law_334 rfl rfl ?_
      refine g_iload_n (pc := 335) 3 d_QuotaLawsLaw_law_335 rfl rfl ?_
      refine g_iconst (pc := 336) (2 : Int32) d_QuotaLawsLaw_law_336 (by decide) ?_
      refine g_iadd (pc := 337) d_QuotaLawsLaw_law_337 ?_
      obtain ⟨x116, e117, hf⟩ := bd1_e hf
      refine g_sld (pc := 338) d_QuotaLawsLaw_law_338 e117 ?_
      obtain ⟨u119, e118, hf⟩ := bd1_e hf
      obtain ⟨x122, h120, e121, hf⟩ := bd2_e hf
      refine g_callV (pc := 339) (ci := 0) [.int x114, .int x116] (site_of si_Q_one (by decide) (by decide)) wd_537 wd_538 wd_539 d_QuotaLawsLaw_law_339 rfl e118 (Nat.le_of_ble_eq_true rfl) (fun z => absurd z (by decide)) (fun z => absurd z (by decide)) (fun z => absurd z (by decide)) (c_Q_one e121) rfl ?_
      refine g_st [.int x122] rfl ?_
      refine g_aload_n (pc := 342) 2 d_QuotaLawsLaw_law_342 rfl rfl ?_
      refine g_aload_n (pc := 343) 0 d_QuotaLawsLaw_law_343 rfl rfl ?_
      refine g_iload_n (pc := 344) 3 d_QuotaLawsLaw_law_344 rfl rfl ?_
      refine g_iconst (pc := 345) (1 : Int32) d_QuotaLawsLaw_law_345 (by decide) ?_
      refine g_iadd (pc := 346) d_QuotaLawsLaw_law_346 ?_
      obtain ⟨x123, e124, hf⟩ := bd1_e hf
      refine g_sld (pc := 347) d_QuotaLawsLaw_law_347 e124 ?_
      refine g_aload_n (pc := 348) 0 d_QuotaLawsLaw_law_348 rfl rfl ?_
      refine g_iload_n (pc := 349) 3 d_QuotaLawsLaw_law_349 rfl rfl ?_
      refine g_iconst (pc := 350) (2 : Int32) d_QuotaLawsLaw_law_350 (by decide) ?_
      refine g_iadd (pc := 351) d_QuotaLawsLaw_law_351 ?_
      obtain ⟨x125, e126, hf⟩ := bd1_e hf
      refine g_sld (pc := 352) d_QuotaLawsLaw_law_352 e126 ?_
      obtain ⟨u128, e127, hf⟩ := bd1_e hf
      obtain ⟨x131, h129, e130, hf⟩ := bd2_e hf
      refine g_callV (pc := 353) (ci := 8) [.int x123, .int x125] (site_of si_M_one (by decide) (by decide)) wd_1156 wd_1157 wd_1158 d_QuotaLawsLaw_law_353 rfl e127 (Nat.le_of_ble_eq_true rfl) (fun z => absurd z (by decide)) (fun z => absurd z (by decide)) (fun z => absurd z (by decide)) (c_M_one e130) rfl ?_
      refine g_st [.int x131, .int x122] rfl ?_
      refine g_icmpeq (pc := 356) 1344 d_QuotaLawsLaw_law_356 (by decide) (fun c132 => ?_) (fun c132 => ?_)
      · replace hf := (if_pos c132).symm.trans hf
        refine g_lv [0, 1, 2, 3] rfl ?_
        exact t_QuotaLawsLaw_law_1344 rec18 hrec18 _ _ _ _ _ _  hf
      · replace hf := (if_neg c132).symm.trans hf
        refine g_iconst (pc := 359) (0 : Int32) d_QuotaLawsLaw_law_359 (by decide) ?_
        obtain ⟨rfl, rfl⟩ := ret2 hf
        exact g_zret (pc := 360) rfl rfl d_QuotaLawsLaw_law_360
    replace hf := (if_neg c113).symm.trans hf
    by_cases c133 : (x19 &&& (63 : Int32)) = (7 : Int32)
    · replace hf := (if_pos c133).symm.trans hf
      refine g_tabIn (pc := 32) 361 (7 : Int32) d_QuotaLawsLaw_law_32 c133 (by decide) (by decide) rfl (by decide) ?_
      refine g_aload_n (pc := 361) 1 d_QuotaLawsLaw_law_361 rfl rfl ?_
      refine g_aload_n (pc := 362) 0 d_QuotaLawsLaw_law_362 rfl rfl ?_
      refine g_iload_n (pc := 363) 3 d_QuotaLawsLaw_law_363 rfl rfl ?_
      refine g_iconst (pc := 364) (1 : Int32) d_QuotaLawsLaw_law_364 (by decide) ?_
      refine g_iadd (pc := 365) d_QuotaLawsLaw_law_365 ?_
      obtain ⟨x134, e135, hf⟩ := bd1_e hf
      refine g_sld (pc := 366) d_QuotaLawsLaw_law_366 e135 ?_
      refine g_aload_n (pc := 367) 0 d_QuotaLawsLaw_law_367 rfl rfl ?_
      refine g_iload_n (pc := 368) 3 d_QuotaLawsLaw_law_368 rfl rfl ?_
      refine g_iconst (pc := 369) (2 : Int32) d_QuotaLawsLaw_law_369 (by decide) ?_
      refine g_iadd (pc := 370) d_QuotaLawsLaw_law_370 ?_
      obtain ⟨x136, e137, hf⟩ := bd1_e hf
      refine g_sld (pc := 371) d_QuotaLawsLaw_law_371 e137 ?_
      obtain ⟨u139, e138, hf⟩ := bd1_e hf
      obtain ⟨x142, h140, e141, hf⟩ := bd2_e hf
      refine g_callV (pc := 372) (ci := 0) [.int x134, .int x136] (site_of si_Q_broken (by decide) (by decide)) wd_566 wd_567 wd_568 d_QuotaLawsLaw_law_372 rfl e138 (Nat.le_of_ble_eq_true rfl) (fun z => absurd z (by decide)) (fun z => absurd z (by decide)) (fun z => absurd z (by decide)) (c_Q_broken e141) rfl ?_
      refine g_st [.int x142] rfl ?_
      refine g_aload_n (pc := 375) 2 d_QuotaLawsLaw_law_375 rfl rfl ?_
      refine g_aload_n (pc := 376) 0 d_QuotaLawsLaw_law_376 rfl rfl ?_
      refine g_iload_n (pc := 377) 3 d_QuotaLawsLaw_law_377 rfl rfl ?_
      refine g_iconst (pc := 378) (1 : Int32) d_QuotaLawsLaw_law_378 (by decide) ?_
      refine g_iadd (pc := 379) d_QuotaLawsLaw_law_379 ?_
      obtain ⟨x143, e144, hf⟩ := bd1_e hf
      refine g_sld (pc := 380) d_QuotaLawsLaw_law_380 e144 ?_
      refine g_aload_n (pc := 381) 0 d_QuotaLawsLaw_law_381 rfl rfl ?_
      refine g_iload_n (pc := 382) 3 d_QuotaLawsLaw_law_382 rfl rfl ?_
      refine g_iconst (pc := 383) (2 : Int32) d_QuotaLawsLaw_law_383 (by decide) ?_
      refine g_iadd (pc := 384) d_QuotaLawsLaw_law_384 ?_
      obtain ⟨x145, e146, hf⟩ := bd1_e hf
      refine g_sld (pc := 385) d_QuotaLawsLaw_law_385 e146 ?_
      obtain ⟨u148, e147, hf⟩ := bd1_e hf
      obtain ⟨x151, h149, e150, hf⟩ := bd2_e hf
      refine g_callV (pc := 386) (ci := 8) [.int x143, .int x145] (site_of si_M_broken (by decide) (by decide)) wd_1183 wd_1184 wd_1185 d_QuotaLawsLaw_law_386 rfl e147 (Nat.le_of_ble_eq_true rfl) (fun z => absurd z (by decide)) (fun z => absurd z (by decide)) (fun z => absurd z (by decide)) (c_M_broken e150) rfl ?_
      refine g_st [.int x151, .int x142] rfl ?_
      refine g_icmpeq (pc := 389) 1344 d_QuotaLawsLaw_law_389 (by decide) (fun c152 => ?_) (fun c152 => ?_)
      · replace hf := (if_pos c152).symm.trans hf
        refine g_lv [0, 1, 2, 3] rfl ?_
        exact t_QuotaLawsLaw_law_1344 rec18 hrec18 _ _ _ _ _ _  hf
      · replace hf := (if_neg c152).symm.trans hf
        refine g_iconst (pc := 392) (0 : Int32) d_QuotaLawsLaw_law_392 (by decide) ?_
        obtain ⟨rfl, rfl⟩ := ret2 hf
        exact g_zret (pc := 393) rfl rfl d_QuotaLawsLaw_law_393
    replace hf := (if_neg c133).symm.trans hf
    by_cases c153 : (x19 &&& (63 : Int32)) = (8 : Int32)
    · replace hf := (if_pos c153).symm.trans hf
      refine g_tabIn (pc := 32) 394 (8 : Int32) d_QuotaLawsLaw_law_32 c153 (by decide) (by decide) rfl (by decide) ?_
      refine g_aload_n (pc := 394) 1 d_QuotaLawsLaw_law_394 rfl rfl ?_
      refine g_aload_n (pc := 395) 0 d_QuotaLawsLaw_law_395 rfl rfl ?_
      refine g_iload_n (pc := 396) 3 d_QuotaLawsLaw_law_396 rfl rfl ?_
      refine g_iconst (pc := 397) (1 : Int32) d_QuotaLawsLaw_law_397 (by decide) ?_
      refine g_iadd (pc := 398) d_QuotaLawsLaw_law_398 ?_
      obtain ⟨x154, e155, hf⟩ := bd1_e hf
      refine g_sld (pc := 399) d_QuotaLawsLaw_law_399 e155 ?_
      refine g_aload_n (pc := 400) 0 d_QuotaLawsLaw_law_400 rfl rfl ?_
      refine g_iload_n (pc := 401) 3 d_QuotaLawsLaw_law_401 rfl rfl ?_
      refine g_iconst (pc := 402) (2 : Int32) d_QuotaLawsLaw_law_402 (by decide) ?_
      refine g_iadd (pc := 403) d_QuotaLawsLaw_law_403 ?_
      obtain ⟨x156, e157, hf⟩ := bd1_e hf
      refine g_sld (pc := 404) d_QuotaLawsLaw_law_404 e157 ?_
      obtain ⟨u159, e158, hf⟩ := bd1_e hf
      obtain ⟨x162, h160, e161, hf⟩ := bd2_e hf
      refine g_callV (pc := 405) (ci := 0) [.int x154, .int x156] (site_of si_Q_quota (by decide) (by decide)) wd_576 wd_577 wd_578 d_QuotaLawsLaw_law_405 rfl e158 (Nat.le_of_ble_eq_true rfl) (fun z => absurd z (by decide)) (fun z => absurd z (by decide)) (fun z => absurd z (by decide)) (c_Q_quota e161) rfl ?_
      refine g_st [.int x162] rfl ?_
      refine g_aload_n (pc := 408) 2 d_QuotaLawsLaw_law_408 rfl rfl ?_
      refine g_aload_n (pc := 409) 0 d_QuotaLawsLaw_law_409 rfl rfl ?_
      refine g_iload_n (pc := 410) 3 d_QuotaLawsLaw_law_410 rfl rfl ?_
      refine g_iconst (pc := 411) (1 : Int32) d_QuotaLawsLaw_law_411 (by decide) ?_
      refine g_iadd (pc := 412) d_QuotaLawsLaw_law_412 ?_
      obtain ⟨x163, e164, hf⟩ := bd1_e hf
      refine g_sld (pc := 413) d_QuotaLawsLaw_law_413 e164 ?_
      refine g_aload_n (pc := 414) 0 d_QuotaLawsLaw_law_414 rfl rfl ?_
      refine g_iload_n (pc := 415) 3 d_QuotaLawsLaw_law_415 rfl rfl ?_
      refine g_iconst (pc := 416) (2 : Int32) d_QuotaLawsLaw_law_416 (by decide) ?_
      refine g_iadd (pc := 417) d_QuotaLawsLaw_law_417 ?_
      obtain ⟨x165, e166, hf⟩ := bd1_e hf
      refine g_sld (pc := 418) d_QuotaLawsLaw_law_418 e166 ?_
      obtain ⟨u168, e167, hf⟩ := bd1_e hf
      obtain ⟨x171, h169, e170, hf⟩ := bd2_e hf
      refine g_callV (pc := 419) (ci := 8) [.int x163, .int x165] (site_of si_M_quota (by decide) (by decide)) wd_1187 wd_1188 wd_1189 d_QuotaLawsLaw_law_419 rfl e167 (Nat.le_of_ble_eq_true rfl) (fun z => absurd z (by decide)) (fun z => absurd z (by decide)) (fun z => absurd z (by decide)) (c_M_quota e170) rfl ?_
      refine g_st [.int x171, .int x162] rfl ?_
      refine g_icmpeq (pc := 422) 1344 d_QuotaLawsLaw_law_422 (by decide) (fun c172 => ?_) (fun c172 => ?_)
      · replace hf := (if_pos c172).symm.trans hf
        refine g_lv [0, 1, 2, 3] rfl ?_
        exact t_QuotaLawsLaw_law_1344 rec18 hrec18 _ _ _ _ _ _  hf
      · replace hf := (if_neg c172).symm.trans hf
        refine g_iconst (pc := 425) (0 : Int32) d_QuotaLawsLaw_law_425 (by decide) ?_
        obtain ⟨rfl, rfl⟩ := ret2 hf
        exact g_zret (pc := 426) rfl rfl d_QuotaLawsLaw_law_426
    replace hf := (if_neg c153).symm.trans hf
    by_cases c173 : (x19 &&& (63 : Int32)) = (9 : Int32)
    · replace hf := (if_pos c173).symm.trans hf
      refine g_tabIn (pc := 32) 427 (9 : Int32) d_QuotaLawsLaw_law_32 c173 (by decide) (by decide) rfl (by decide) ?_
      refine g_aload_n (pc := 427) 1 d_QuotaLawsLaw_law_427 rfl rfl ?_
      refine g_aload_n (pc := 428) 0 d_QuotaLawsLaw_law_428 rfl rfl ?_
      refine g_iload_n (pc := 429) 3 d_QuotaLawsLaw_law_429 rfl rfl ?_
      refine g_iconst (pc := 430) (1 : Int32) d_QuotaLawsLaw_law_430 (by decide) ?_
      refine g_iadd (pc := 431) d_QuotaLawsLaw_law_431 ?_
      obtain ⟨x174, e175, hf⟩ := bd1_e hf
      refine g_sld (pc := 432) d_QuotaLawsLaw_law_432 e175 ?_
      refine g_aload_n (pc := 433) 0 d_QuotaLawsLaw_law_433 rfl rfl ?_
      refine g_iload_n (pc := 434) 3 d_QuotaLawsLaw_law_434 rfl rfl ?_
      refine g_iconst (pc := 435) (2 : Int32) d_QuotaLawsLaw_law_435 (by decide) ?_
      refine g_iadd (pc := 436) d_QuotaLawsLaw_law_436 ?_
      obtain ⟨x176, e177, hf⟩ := bd1_e hf
      refine g_sld (pc := 437) d_QuotaLawsLaw_law_437 e177 ?_
      obtain ⟨u179, e178, hf⟩ := bd1_e hf
      obtain ⟨x182, h180, e181, hf⟩ := bd2_e hf
      refine g_callV (pc := 438) (ci := 0) [.int x174, .int x176] (site_of si_Q_carry (by decide) (by decide)) wd_580 wd_581 wd_582 d_QuotaLawsLaw_law_438 rfl e178 (Nat.le_of_ble_eq_true rfl) (fun z => absurd z (by decide)) (fun z => absurd z (by decide)) (fun z => absurd z (by decide)) (c_Q_carry e181) rfl ?_
      refine g_st [.int x182] rfl ?_
      refine g_aload_n (pc := 441) 2 d_QuotaLawsLaw_law_441 rfl rfl ?_
      refine g_aload_n (pc := 442) 0 d_QuotaLawsLaw_law_442 rfl rfl ?_
      refine g_iload_n (pc := 443) 3 d_QuotaLawsLaw_law_443 rfl rfl ?_
      refine g_iconst (pc := 444) (1 : Int32) d_QuotaLawsLaw_law_444 (by decide) ?_
      refine g_iadd (pc := 445) d_QuotaLawsLaw_law_445 ?_
      obtain ⟨x183, e184, hf⟩ := bd1_e hf
      refine g_sld (pc := 446) d_QuotaLawsLaw_law_446 e184 ?_
      refine g_aload_n (pc := 447) 0 d_QuotaLawsLaw_law_447 rfl rfl ?_
      refine g_iload_n (pc := 448) 3 d_QuotaLawsLaw_law_448 rfl rfl ?_
      refine g_iconst (pc := 449) (2 : Int32) d_QuotaLawsLaw_law_449 (by decide) ?_
      refine g_iadd (pc := 450) d_QuotaLawsLaw_law_450 ?_
      obtain ⟨x185, e186, hf⟩ := bd1_e hf
      refine g_sld (pc := 451) d_QuotaLawsLaw_law_451 e186 ?_
      obtain ⟨u188, e187, hf⟩ := bd1_e hf
      obtain ⟨x191, h189, e190, hf⟩ := bd2_e hf
      refine g_callV (pc := 452) (ci := 8) [.int x183, .int x185] (site_of si_M_carry (by decide) (by decide)) wd_1196 wd_1197 wd_1198 d_QuotaLawsLaw_law_452 rfl e187 (Nat.le_of_ble_eq_true rfl) (fun z => absurd z (by decide)) (fun z => absurd z (by decide)) (fun z => absurd z (by decide)) (c_M_carry e190) rfl ?_
      refine g_st [.int x191, .int x182] rfl ?_
      refine g_icmpeq (pc := 455) 1344 d_QuotaLawsLaw_law_455 (by decide) (fun c192 => ?_) (fun c192 => ?_)
      · replace hf := (if_pos c192).symm.trans hf
        refine g_lv [0, 1, 2, 3] rfl ?_
        exact t_QuotaLawsLaw_law_1344 rec18 hrec18 _ _ _ _ _ _  hf
      · replace hf := (if_neg c192).symm.trans hf
        refine g_iconst (pc := 458) (0 : Int32) d_QuotaLawsLaw_law_458 (by decide) ?_
        obtain ⟨rfl, rfl⟩ := ret2 hf
        exact g_zret (pc := 459) rfl rfl d_QuotaLawsLaw_law_459
    replace hf := (if_neg c173).symm.trans hf
    by_cases c193 : (x19 &&& (63 : Int32)) = (10 : Int32)
    · replace hf := (if_pos c193).symm.trans hf
      refine g_tabIn (pc := 32) 460 (10 : Int32) d_QuotaLawsLaw_law_32 c193 (by decide) (by decide) rfl (by decide) ?_
      refine g_aload_n (pc := 460) 1 d_QuotaLawsLaw_law_460 rfl rfl ?_
      refine g_aload_n (pc := 461) 0 d_QuotaLawsLaw_law_461 rfl rfl ?_
      refine g_iload_n (pc := 462) 3 d_QuotaLawsLaw_law_462 rfl rfl ?_
      refine g_iconst (pc := 463) (1 : Int32) d_QuotaLawsLaw_law_463 (by decide) ?_
      refine g_iadd (pc := 464) d_QuotaLawsLaw_law_464 ?_
      obtain ⟨x194, e195, hf⟩ := bd1_e hf
      refine g_sld (pc := 465) d_QuotaLawsLaw_law_465 e195 ?_
      refine g_aload_n (pc := 466) 0 d_QuotaLawsLaw_law_466 rfl rfl ?_
      refine g_iload_n (pc := 467) 3 d_QuotaLawsLaw_law_467 rfl rfl ?_
      refine g_iconst (pc := 468) (2 : Int32) d_QuotaLawsLaw_law_468 (by decide) ?_
      refine g_iadd (pc := 469) d_QuotaLawsLaw_law_469 ?_
      obtain ⟨x196, e197, hf⟩ := bd1_e hf
      refine g_sld (pc := 470) d_QuotaLawsLaw_law_470 e197 ?_
      refine g_ifeq (pc := 471) 478 d_QuotaLawsLaw_law_471 (by decide) (fun c198 => ?_) (fun c198 => ?_)
      · replace hf := (if_pos c198).symm.trans hf
        refine g_iconst (pc := 478) (0 : Int32) d_QuotaLawsLaw_law_478 (by decide) ?_
        refine g_lv [0, 1, 2, 3] rfl ?_
        exact t_QuotaLawsLaw_law_479 rec18 hrec18 _ _ _ _ _ _ _ _ _  hf
      · replace hf := (if_neg c198).symm.trans hf
        refine g_iconst (pc := 474) (1 : Int32) d_QuotaLawsLaw_law_474 (by decide) ?_
        refine g_goto (pc := 475) 479 d_QuotaLawsLaw_law_475 (by decide) ?_
        refine g_lv [0, 1, 2, 3] rfl ?_
        exact t_QuotaLawsLaw_law_479 rec18 hrec18 _ _ _ _ _ _ _ _ _  hf
    replace hf := (if_neg c193).symm.trans hf
    by_cases c199 : (x19 &&& (63 : Int32)) = (11 : Int32)
    · replace hf := (if_pos c199).symm.trans hf
      refine g_tabIn (pc := 32) 509 (11 : Int32) d_QuotaLawsLaw_law_32 c199 (by decide) (by decide) rfl (by decide) ?_
      refine g_aload_n (pc := 509) 1 d_QuotaLawsLaw_law_509 rfl rfl ?_
      refine g_aload_n (pc := 510) 0 d_QuotaLawsLaw_law_510 rfl rfl ?_
      refine g_iload_n (pc := 511) 3 d_QuotaLawsLaw_law_511 rfl rfl ?_
      refine g_iconst (pc := 512) (1 : Int32) d_QuotaLawsLaw_law_512 (by decide) ?_
      refine g_iadd (pc := 513) d_QuotaLawsLaw_law_513 ?_
      obtain ⟨x200, e201, hf⟩ := bd1_e hf
      refine g_sld (pc := 514) d_QuotaLawsLaw_law_514 e201 ?_
      refine g_aload_n (pc := 515) 0 d_QuotaLawsLaw_law_515 rfl rfl ?_
      refine g_iload_n (pc := 516) 3 d_QuotaLawsLaw_law_516 rfl rfl ?_
      refine g_iconst (pc := 517) (2 : Int32) d_QuotaLawsLaw_law_517 (by decide) ?_
      refine g_iadd (pc := 518) d_QuotaLawsLaw_law_518 ?_
      obtain ⟨x202, e203, hf⟩ := bd1_e hf
      refine g_sld (pc := 519) d_QuotaLawsLaw_law_519 e203 ?_
      obtain ⟨u205, e204, hf⟩ := bd1_e hf
      obtain ⟨x208, h206, e207, hf⟩ := bd2_e hf
      refine g_callV (pc := 520) (ci := 0) [.int x200, .int x202] (site_of si_Q_time (by decide) (by decide)) wd_594 wd_595 wd_596 d_QuotaLawsLaw_law_520 rfl e204 (Nat.le_of_ble_eq_true rfl) (fun z => absurd z (by decide)) (fun z => absurd z (by decide)) (fun z => absurd z (by decide)) (c_Q_time e207) rfl ?_
      refine g_st [.int x208] rfl ?_
      refine g_aload_n (pc := 523) 2 d_QuotaLawsLaw_law_523 rfl rfl ?_
      refine g_aload_n (pc := 524) 0 d_QuotaLawsLaw_law_524 rfl rfl ?_
      refine g_iload_n (pc := 525) 3 d_QuotaLawsLaw_law_525 rfl rfl ?_
      refine g_iconst (pc := 526) (1 : Int32) d_QuotaLawsLaw_law_526 (by decide) ?_
      refine g_iadd (pc := 527) d_QuotaLawsLaw_law_527 ?_
      obtain ⟨x209, e210, hf⟩ := bd1_e hf
      refine g_sld (pc := 528) d_QuotaLawsLaw_law_528 e210 ?_
      refine g_aload_n (pc := 529) 0 d_QuotaLawsLaw_law_529 rfl rfl ?_
      refine g_iload_n (pc := 530) 3 d_QuotaLawsLaw_law_530 rfl rfl ?_
      refine g_iconst (pc := 531) (2 : Int32) d_QuotaLawsLaw_law_531 (by decide) ?_
      refine g_iadd (pc := 532) d_QuotaLawsLaw_law_532 ?_
      obtain ⟨x211, e212, hf⟩ := bd1_e hf
      refine g_sld (pc := 533) d_QuotaLawsLaw_law_533 e212 ?_
      obtain ⟨u214, e213, hf⟩ := bd1_e hf
      obtain ⟨x217, h215, e216, hf⟩ := bd2_e hf
      refine g_callV (pc := 534) (ci := 8) [.int x209, .int x211] (site_of si_M_time (by decide) (by decide)) wd_1208 wd_1209 wd_1210 d_QuotaLawsLaw_law_534 rfl e213 (Nat.le_of_ble_eq_true rfl) (fun z => absurd z (by decide)) (fun z => absurd z (by decide)) (fun z => absurd z (by decide)) (c_M_time e216) rfl ?_
      refine g_st [.int x217, .int x208] rfl ?_
      refine g_icmpeq (pc := 537) 1344 d_QuotaLawsLaw_law_537 (by decide) (fun c218 => ?_) (fun c218 => ?_)
      · replace hf := (if_pos c218).symm.trans hf
        refine g_lv [0, 1, 2, 3] rfl ?_
        exact t_QuotaLawsLaw_law_1344 rec18 hrec18 _ _ _ _ _ _  hf
      · replace hf := (if_neg c218).symm.trans hf
        refine g_iconst (pc := 540) (0 : Int32) d_QuotaLawsLaw_law_540 (by decide) ?_
        obtain ⟨rfl, rfl⟩ := ret2 hf
        exact g_zret (pc := 541) rfl rfl d_QuotaLawsLaw_law_541
    replace hf := (if_neg c199).symm.trans hf
    by_cases c219 : (x19 &&& (63 : Int32)) = (12 : Int32)
    · replace hf := (if_pos c219).symm.trans hf
      refine g_tabIn (pc := 32) 542 (12 : Int32) d_QuotaLawsLaw_law_32 c219 (by decide) (by decide) rfl (by decide) ?_
      refine g_aload_n (pc := 542) 1 d_QuotaLawsLaw_law_542 rfl rfl ?_
      refine g_aload_n (pc := 543) 0 d_QuotaLawsLaw_law_543 rfl rfl ?_
      refine g_iload_n (pc := 544) 3 d_QuotaLawsLaw_law_544 rfl rfl ?_
      refine g_iconst (pc := 545) (1 : Int32) d_QuotaLawsLaw_law_545 (by decide) ?_
      refine g_iadd (pc := 546) d_QuotaLawsLaw_law_546 ?_
      obtain ⟨x220, e221, hf⟩ := bd1_e hf
      refine g_sld (pc := 547) d_QuotaLawsLaw_law_547 e221 ?_
      refine g_aload_n (pc := 548) 0 d_QuotaLawsLaw_law_548 rfl rfl ?_
      refine g_iload_n (pc := 549) 3 d_QuotaLawsLaw_law_549 rfl rfl ?_
      refine g_iconst (pc := 550) (2 : Int32) d_QuotaLawsLaw_law_550 (by decide) ?_
      refine g_iadd (pc := 551) d_QuotaLawsLaw_law_551 ?_
      obtain ⟨x222, e223, hf⟩ := bd1_e hf
      refine g_sld (pc := 552) d_QuotaLawsLaw_law_552 e223 ?_
      refine g_aload_n (pc := 553) 0 d_QuotaLawsLaw_law_553 rfl rfl ?_
      refine g_iload_n (pc := 554) 3 d_QuotaLawsLaw_law_554 rfl rfl ?_
      refine g_iconst (pc := 555) (3 : Int32) d_QuotaLawsLaw_law_555 (by decide) ?_
      refine g_iadd (pc := 556) d_QuotaLawsLaw_law_556 ?_
      obtain ⟨x224, e225, hf⟩ := bd1_e hf
      refine g_sld (pc := 557) d_QuotaLawsLaw_law_557 e225 ?_
      refine g_ifeq (pc := 558) 565 d_QuotaLawsLaw_law_558 (by decide) (fun c226 => ?_) (fun c226 => ?_)
      · replace hf := (if_pos c226).symm.trans hf
        refine g_iconst (pc := 565) (0 : Int32) d_QuotaLawsLaw_law_565 (by decide) ?_
        refine g_lv [0, 1, 2, 3] rfl ?_
        exact t_QuotaLawsLaw_law_566 rec18 hrec18 _ _ _ _ _ _ _ _ _ _  hf
      · replace hf := (if_neg c226).symm.trans hf
        refine g_iconst (pc := 561) (1 : Int32) d_QuotaLawsLaw_law_561 (by decide) ?_
        refine g_goto (pc := 562) 566 d_QuotaLawsLaw_law_562 (by decide) ?_
        refine g_lv [0, 1, 2, 3] rfl ?_
        exact t_QuotaLawsLaw_law_566 rec18 hrec18 _ _ _ _ _ _ _ _ _ _  hf
    replace hf := (if_neg c219).symm.trans hf
    by_cases c227 : (x19 &&& (63 : Int32)) = (13 : Int32)
    · replace hf := (if_pos c227).symm.trans hf
      refine g_tabIn (pc := 32) 601 (13 : Int32) d_QuotaLawsLaw_law_32 c227 (by decide) (by decide) rfl (by decide) ?_
      refine g_aload_n (pc := 601) 1 d_QuotaLawsLaw_law_601 rfl rfl ?_
      refine g_aload_n (pc := 602) 0 d_QuotaLawsLaw_law_602 rfl rfl ?_
      refine g_iload_n (pc := 603) 3 d_QuotaLawsLaw_law_603 rfl rfl ?_
      refine g_iconst (pc := 604) (1 : Int32) d_QuotaLawsLaw_law_604 (by decide) ?_
      refine g_iadd (pc := 605) d_QuotaLawsLaw_law_605 ?_
      obtain ⟨x228, e229, hf⟩ := bd1_e hf
      refine g_sld (pc := 606) d_QuotaLawsLaw_law_606 e229 ?_
      refine g_aload_n (pc := 607) 0 d_QuotaLawsLaw_law_607 rfl rfl ?_
      refine g_iload_n (pc := 608) 3 d_QuotaLawsLaw_law_608 rfl rfl ?_
      refine g_iconst (pc := 609) (2 : Int32) d_QuotaLawsLaw_law_609 (by decide) ?_
      refine g_iadd (pc := 610) d_QuotaLawsLaw_law_610 ?_
      obtain ⟨x230, e231, hf⟩ := bd1_e hf
      refine g_sld (pc := 611) d_QuotaLawsLaw_law_611 e231 ?_
      refine g_aload_n (pc := 612) 0 d_QuotaLawsLaw_law_612 rfl rfl ?_
      refine g_iload_n (pc := 613) 3 d_QuotaLawsLaw_law_613 rfl rfl ?_
      refine g_iconst (pc := 614) (3 : Int32) d_QuotaLawsLaw_law_614 (by decide) ?_
      refine g_iadd (pc := 615) d_QuotaLawsLaw_law_615 ?_
      obtain ⟨x232, e233, hf⟩ := bd1_e hf
      refine g_sld (pc := 616) d_QuotaLawsLaw_law_616 e233 ?_
      refine g_ifeq (pc := 617) 624 d_QuotaLawsLaw_law_617 (by decide) (fun c234 => ?_) (fun c234 => ?_)
      · replace hf := (if_pos c234).symm.trans hf
        refine g_iconst (pc := 624) (0 : Int32) d_QuotaLawsLaw_law_624 (by decide) ?_
        refine g_lv [0, 1, 2, 3] rfl ?_
        exact t_QuotaLawsLaw_law_625 rec18 hrec18 _ _ _ _ _ _ _ _ _ _  hf
      · replace hf := (if_neg c234).symm.trans hf
        refine g_iconst (pc := 620) (1 : Int32) d_QuotaLawsLaw_law_620 (by decide) ?_
        refine g_goto (pc := 621) 625 d_QuotaLawsLaw_law_621 (by decide) ?_
        refine g_lv [0, 1, 2, 3] rfl ?_
        exact t_QuotaLawsLaw_law_625 rec18 hrec18 _ _ _ _ _ _ _ _ _ _  hf
    replace hf := (if_neg c227).symm.trans hf
    by_cases c235 : (x19 &&& (63 : Int32)) = (14 : Int32)
    · replace hf := (if_pos c235).symm.trans hf
      refine g_tabIn (pc := 32) 660 (14 : Int32) d_QuotaLawsLaw_law_32 c235 (by decide) (by decide) rfl (by decide) ?_
      refine g_aload_n (pc := 660) 1 d_QuotaLawsLaw_law_660 rfl rfl ?_
      refine g_aload_n (pc := 661) 0 d_QuotaLawsLaw_law_661 rfl rfl ?_
      refine g_iload_n (pc := 662) 3 d_QuotaLawsLaw_law_662 rfl rfl ?_
      refine g_iconst (pc := 663) (1 : Int32) d_QuotaLawsLaw_law_663 (by decide) ?_
      refine g_iadd (pc := 664) d_QuotaLawsLaw_law_664 ?_
      obtain ⟨x236, e237, hf⟩ := bd1_e hf
      refine g_sld (pc := 665) d_QuotaLawsLaw_law_665 e237 ?_
      refine g_aload_n (pc := 666) 0 d_QuotaLawsLaw_law_666 rfl rfl ?_
      refine g_iload_n (pc := 667) 3 d_QuotaLawsLaw_law_667 rfl rfl ?_
      refine g_iconst (pc := 668) (2 : Int32) d_QuotaLawsLaw_law_668 (by decide) ?_
      refine g_iadd (pc := 669) d_QuotaLawsLaw_law_669 ?_
      obtain ⟨x238, e239, hf⟩ := bd1_e hf
      refine g_sld (pc := 670) d_QuotaLawsLaw_law_670 e239 ?_
      obtain ⟨u241, e240, hf⟩ := bd1_e hf
      obtain ⟨x244, h242, e243, hf⟩ := bd2_e hf
      refine g_callV (pc := 671) (ci := 0) [.int x236, .int x238] (site_of si_Q_fund (by decide) (by decide)) wd_606 wd_607 wd_608 d_QuotaLawsLaw_law_671 rfl e240 (Nat.le_of_ble_eq_true rfl) (fun z => absurd z (by decide)) (fun z => absurd z (by decide)) (fun z => absurd z (by decide)) (c_Q_fund e243) rfl ?_
      refine g_st [.int x244] rfl ?_
      refine g_aload_n (pc := 674) 2 d_QuotaLawsLaw_law_674 rfl rfl ?_
      refine g_aload_n (pc := 675) 0 d_QuotaLawsLaw_law_675 rfl rfl ?_
      refine g_iload_n (pc := 676) 3 d_QuotaLawsLaw_law_676 rfl rfl ?_
      refine g_iconst (pc := 677) (1 : Int32) d_QuotaLawsLaw_law_677 (by decide) ?_
      refine g_iadd (pc := 678) d_QuotaLawsLaw_law_678 ?_
      obtain ⟨x245, e246, hf⟩ := bd1_e hf
      refine g_sld (pc := 679) d_QuotaLawsLaw_law_679 e246 ?_
      refine g_aload_n (pc := 680) 0 d_QuotaLawsLaw_law_680 rfl rfl ?_
      refine g_iload_n (pc := 681) 3 d_QuotaLawsLaw_law_681 rfl rfl ?_
      refine g_iconst (pc := 682) (2 : Int32) d_QuotaLawsLaw_law_682 (by decide) ?_
      refine g_iadd (pc := 683) d_QuotaLawsLaw_law_683 ?_
      obtain ⟨x247, e248, hf⟩ := bd1_e hf
      refine g_sld (pc := 684) d_QuotaLawsLaw_law_684 e248 ?_
      obtain ⟨u250, e249, hf⟩ := bd1_e hf
      obtain ⟨x253, h251, e252, hf⟩ := bd2_e hf
      refine g_callV (pc := 685) (ci := 8) [.int x245, .int x247] (site_of si_M_fund (by decide) (by decide)) wd_1221 wd_1222 wd_1223 d_QuotaLawsLaw_law_685 rfl e249 (Nat.le_of_ble_eq_true rfl) (fun z => absurd z (by decide)) (fun z => absurd z (by decide)) (fun z => absurd z (by decide)) (c_M_fund e252) rfl ?_
      refine g_st [.int x253, .int x244] rfl ?_
      refine g_icmpeq (pc := 688) 1344 d_QuotaLawsLaw_law_688 (by decide) (fun c254 => ?_) (fun c254 => ?_)
      · replace hf := (if_pos c254).symm.trans hf
        refine g_lv [0, 1, 2, 3] rfl ?_
        exact t_QuotaLawsLaw_law_1344 rec18 hrec18 _ _ _ _ _ _  hf
      · replace hf := (if_neg c254).symm.trans hf
        refine g_iconst (pc := 691) (0 : Int32) d_QuotaLawsLaw_law_691 (by decide) ?_
        obtain ⟨rfl, rfl⟩ := ret2 hf
        exact g_zret (pc := 692) rfl rfl d_QuotaLawsLaw_law_692
    replace hf := (if_neg c235).symm.trans hf
    by_cases c255 : (x19 &&& (63 : Int32)) = (15 : Int32)
    · replace hf := (if_pos c255).symm.trans hf
      refine g_tabIn (pc := 32) 693 (15 : Int32) d_QuotaLawsLaw_law_32 c255 (by decide) (by decide) rfl (by decide) ?_
      refine g_aload_n (pc := 693) 1 d_QuotaLawsLaw_law_693 rfl rfl ?_
      refine g_aload_n (pc := 694) 0 d_QuotaLawsLaw_law_694 rfl rfl ?_
      refine g_iload_n (pc := 695) 3 d_QuotaLawsLaw_law_695 rfl rfl ?_
      refine g_iconst (pc := 696) (1 : Int32) d_QuotaLawsLaw_law_696 (by decide) ?_
      refine g_iadd (pc := 697) d_QuotaLawsLaw_law_697 ?_
      obtain ⟨x256, e257, hf⟩ := bd1_e hf
      refine g_sld (pc := 698) d_QuotaLawsLaw_law_698 e257 ?_
      obtain ⟨u259, e258, hf⟩ := bd1_e hf
      obtain ⟨x262, h260, e261, hf⟩ := bd2_e hf
      refine g_callV (pc := 699) (ci := 0) [.int x256] (site_of si_Q_revive (by decide) (by decide)) wd_610 wd_611 wd_612 d_QuotaLawsLaw_law_699 rfl e258 (Nat.le_of_ble_eq_true rfl) (fun z => absurd z (by decide)) (fun z => absurd z (by decide)) (fun z => absurd z (by decide)) (c_Q_revive e261) rfl ?_
      refine g_st [.int x262] rfl ?_
      refine g_aload_n (pc := 702) 2 d_QuotaLawsLaw_law_702 rfl rfl ?_
      refine g_aload_n (pc := 703) 0 d_QuotaLawsLaw_law_703 rfl rfl ?_
      refine g_iload_n (pc := 704) 3 d_QuotaLawsLaw_law_704 rfl rfl ?_
      refine g_iconst (pc := 705) (1 : Int32) d_QuotaLawsLaw_law_705 (by decide) ?_
      refine g_iadd (pc := 706) d_QuotaLawsLaw_law_706 ?_
      obtain ⟨x263, e264, hf⟩ := bd1_e hf
      refine g_sld (pc := 707) d_QuotaLawsLaw_law_707 e264 ?_
      obtain ⟨u266, e265, hf⟩ := bd1_e hf
      obtain ⟨x269, h267, e268, hf⟩ := bd2_e hf
      refine g_callV (pc := 708) (ci := 8) [.int x263] (site_of si_M_revive (by decide) (by decide)) wd_1226 wd_1227 wd_1228 d_QuotaLawsLaw_law_708 rfl e265 (Nat.le_of_ble_eq_true rfl) (fun z => absurd z (by decide)) (fun z => absurd z (by decide)) (fun z => absurd z (by decide)) (c_M_revive e268) rfl ?_
      refine g_st [.int x269, .int x262] rfl ?_
      refine g_icmpeq (pc := 711) 1344 d_QuotaLawsLaw_law_711 (by decide) (fun c270 => ?_) (fun c270 => ?_)
      · replace hf := (if_pos c270).symm.trans hf
        refine g_lv [0, 1, 2, 3] rfl ?_
        exact t_QuotaLawsLaw_law_1344 rec18 hrec18 _ _ _ _ _ _  hf
      · replace hf := (if_neg c270).symm.trans hf
        refine g_iconst (pc := 714) (0 : Int32) d_QuotaLawsLaw_law_714 (by decide) ?_
        obtain ⟨rfl, rfl⟩ := ret2 hf
        exact g_zret (pc := 715) rfl rfl d_QuotaLawsLaw_law_715
    replace hf := (if_neg c255).symm.trans hf
    by_cases c271 : (x19 &&& (63 : Int32)) = (16 : Int32)
    · replace hf := (if_pos c271).symm.trans hf
      refine g_tabIn (pc := 32) 716 (16 : Int32) d_QuotaLawsLaw_law_32 c271 (by decide) (by decide) rfl (by decide) ?_
      refine g_aload_n (pc := 716) 1 d_QuotaLawsLaw_law_716 rfl rfl ?_
      refine g_aload_n (pc := 717) 0 d_QuotaLawsLaw_law_717 rfl rfl ?_
      refine g_iload_n (pc := 718) 3 d_QuotaLawsLaw_law_718 rfl rfl ?_
      refine g_iconst (pc := 719) (1 : Int32) d_QuotaLawsLaw_law_719 (by decide) ?_
      refine g_iadd (pc := 720) d_QuotaLawsLaw_law_720 ?_
      obtain ⟨x272, e273, hf⟩ := bd1_e hf
      refine g_sld (pc := 721) d_QuotaLawsLaw_law_721 e273 ?_
      refine g_aload_n (pc := 722) 0 d_QuotaLawsLaw_law_722 rfl rfl ?_
      refine g_iload_n (pc := 723) 3 d_QuotaLawsLaw_law_723 rfl rfl ?_
      refine g_iconst (pc := 724) (2 : Int32) d_QuotaLawsLaw_law_724 (by decide) ?_
      refine g_iadd (pc := 725) d_QuotaLawsLaw_law_725 ?_
      obtain ⟨x274, e275, hf⟩ := bd1_e hf
      refine g_sld (pc := 726) d_QuotaLawsLaw_law_726 e275 ?_
      obtain ⟨u277, e276, hf⟩ := bd1_e hf
      obtain ⟨x280, h278, e279, hf⟩ := bd2_e hf
      refine g_callV (pc := 727) (ci := 0) [.int x272, .int x274] (site_of si_Q_breaks (by decide) (by decide)) wd_621 wd_622 wd_623 d_QuotaLawsLaw_law_727 rfl e276 (Nat.le_of_ble_eq_true rfl) (fun z => absurd z (by decide)) (fun z => absurd z (by decide)) (fun z => absurd z (by decide)) (c_Q_breaks e279) rfl ?_
      refine g_st [.int x280] rfl ?_
      refine g_aload_n (pc := 730) 2 d_QuotaLawsLaw_law_730 rfl rfl ?_
      refine g_aload_n (pc := 731) 0 d_QuotaLawsLaw_law_731 rfl rfl ?_
      refine g_iload_n (pc := 732) 3 d_QuotaLawsLaw_law_732 rfl rfl ?_
      refine g_iconst (pc := 733) (1 : Int32) d_QuotaLawsLaw_law_733 (by decide) ?_
      refine g_iadd (pc := 734) d_QuotaLawsLaw_law_734 ?_
      obtain ⟨x281, e282, hf⟩ := bd1_e hf
      refine g_sld (pc := 735) d_QuotaLawsLaw_law_735 e282 ?_
      refine g_aload_n (pc := 736) 0 d_QuotaLawsLaw_law_736 rfl rfl ?_
      refine g_iload_n (pc := 737) 3 d_QuotaLawsLaw_law_737 rfl rfl ?_
      refine g_iconst (pc := 738) (2 : Int32) d_QuotaLawsLaw_law_738 (by decide) ?_
      refine g_iadd (pc := 739) d_QuotaLawsLaw_law_739 ?_
      obtain ⟨x283, e284, hf⟩ := bd1_e hf
      refine g_sld (pc := 740) d_QuotaLawsLaw_law_740 e284 ?_
      obtain ⟨u286, e285, hf⟩ := bd1_e hf
      obtain ⟨x289, h287, e288, hf⟩ := bd2_e hf
      refine g_callV (pc := 741) (ci := 8) [.int x281, .int x283] (site_of si_M_breaks (by decide) (by decide)) wd_1233 wd_1234 wd_1235 d_QuotaLawsLaw_law_741 rfl e285 (Nat.le_of_ble_eq_true rfl) (fun z => absurd z (by decide)) (fun z => absurd z (by decide)) (fun z => absurd z (by decide)) (c_M_breaks e288) rfl ?_
      refine g_st [.int x289, .int x280] rfl ?_
      refine g_icmpeq (pc := 744) 1344 d_QuotaLawsLaw_law_744 (by decide) (fun c290 => ?_) (fun c290 => ?_)
      · replace hf := (if_pos c290).symm.trans hf
        refine g_lv [0, 1, 2, 3] rfl ?_
        exact t_QuotaLawsLaw_law_1344 rec18 hrec18 _ _ _ _ _ _  hf
      · replace hf := (if_neg c290).symm.trans hf
        refine g_iconst (pc := 747) (0 : Int32) d_QuotaLawsLaw_law_747 (by decide) ?_
        obtain ⟨rfl, rfl⟩ := ret2 hf
        exact g_zret (pc := 748) rfl rfl d_QuotaLawsLaw_law_748
    replace hf := (if_neg c271).symm.trans hf
    by_cases c291 : (x19 &&& (63 : Int32)) = (17 : Int32)
    · replace hf := (if_pos c291).symm.trans hf
      refine g_tabIn (pc := 32) 749 (17 : Int32) d_QuotaLawsLaw_law_32 c291 (by decide) (by decide) rfl (by decide) ?_
      refine g_aload_n (pc := 749) 1 d_QuotaLawsLaw_law_749 rfl rfl ?_
      obtain ⟨u293, e292, hf⟩ := bd1_e hf
      obtain ⟨x296, h294, e295, hf⟩ := bd2_e hf
      refine g_callV (pc := 750) (ci := 0) [] (site_of si_Q_year (by decide) (by decide)) wd_634 wd_635 wd_636 d_QuotaLawsLaw_law_750 rfl e292 (Nat.le_of_ble_eq_true rfl) (fun z => absurd z (by decide)) (fun z => absurd z (by decide)) (fun z => absurd z (by decide)) (c_Q_year e295) rfl ?_
      refine g_st [.int x296] rfl ?_
      refine g_aload_n (pc := 753) 2 d_QuotaLawsLaw_law_753 rfl rfl ?_
      obtain ⟨u298, e297, hf⟩ := bd1_e hf
      obtain ⟨x301, h299, e300, hf⟩ := bd2_e hf
      refine g_callV (pc := 754) (ci := 8) [] (site_of si_M_year (by decide) (by decide)) wd_1237 wd_1238 wd_1239 d_QuotaLawsLaw_law_754 rfl e297 (Nat.le_of_ble_eq_true rfl) (fun z => absurd z (by decide)) (fun z => absurd z (by decide)) (fun z => absurd z (by decide)) (c_M_year e300) rfl ?_
      refine g_st [.int x301, .int x296] rfl ?_
      refine g_icmpeq (pc := 757) 1344 d_QuotaLawsLaw_law_757 (by decide) (fun c302 => ?_) (fun c302 => ?_)
      · replace hf := (if_pos c302).symm.trans hf
        refine g_lv [0, 1, 2, 3] rfl ?_
        exact t_QuotaLawsLaw_law_1344 rec18 hrec18 _ _ _ _ _ _  hf
      · replace hf := (if_neg c302).symm.trans hf
        refine g_iconst (pc := 760) (0 : Int32) d_QuotaLawsLaw_law_760 (by decide) ?_
        obtain ⟨rfl, rfl⟩ := ret2 hf
        exact g_zret (pc := 761) rfl rfl d_QuotaLawsLaw_law_761
    replace hf := (if_neg c291).symm.trans hf
    by_cases c303 : (x19 &&& (63 : Int32)) = (18 : Int32)
    · replace hf := (if_pos c303).symm.trans hf
      refine g_tabIn (pc := 32) 762 (18 : Int32) d_QuotaLawsLaw_law_32 c303 (by decide) (by decide) rfl (by decide) ?_
      refine g_aload_n (pc := 762) 1 d_QuotaLawsLaw_law_762 rfl rfl ?_
      obtain ⟨u305, e304, hf⟩ := bd1_e hf
      obtain ⟨x308, h306, e307, hf⟩ := bd2_e hf
      refine g_callV (pc := 763) (ci := 0) [] (site_of si_Q_falls (by decide) (by decide)) wd_648 wd_649 wd_650 d_QuotaLawsLaw_law_763 rfl e304 (Nat.le_of_ble_eq_true rfl) (fun z => absurd z (by decide)) (fun z => absurd z (by decide)) (fun z => absurd z (by decide)) (c_Q_falls e307) rfl ?_
      refine g_st [.int x308] rfl ?_
      refine g_aload_n (pc := 766) 2 d_QuotaLawsLaw_law_766 rfl rfl ?_
      obtain ⟨u310, e309, hf⟩ := bd1_e hf
      obtain ⟨x313, h311, e312, hf⟩ := bd2_e hf
      refine g_callV (pc := 767) (ci := 8) [] (site_of si_M_falls (by decide) (by decide)) wd_1245 wd_1246 wd_1247 d_QuotaLawsLaw_law_767 rfl e309 (Nat.le_of_ble_eq_true rfl) (fun z => absurd z (by decide)) (fun z => absurd z (by decide)) (fun z => absurd z (by decide)) (c_M_falls e312) rfl ?_
      refine g_st [.int x313, .int x308] rfl ?_
      refine g_icmpeq (pc := 770) 1344 d_QuotaLawsLaw_law_770 (by decide) (fun c314 => ?_) (fun c314 => ?_)
      · replace hf := (if_pos c314).symm.trans hf
        refine g_lv [0, 1, 2, 3] rfl ?_
        exact t_QuotaLawsLaw_law_1344 rec18 hrec18 _ _ _ _ _ _  hf
      · replace hf := (if_neg c314).symm.trans hf
        refine g_iconst (pc := 773) (0 : Int32) d_QuotaLawsLaw_law_773 (by decide) ?_
        obtain ⟨rfl, rfl⟩ := ret2 hf
        exact g_zret (pc := 774) rfl rfl d_QuotaLawsLaw_law_774
    replace hf := (if_neg c303).symm.trans hf
    by_cases c315 : (x19 &&& (63 : Int32)) = (19 : Int32)
    · replace hf := (if_pos c315).symm.trans hf
      refine g_tabIn (pc := 32) 775 (19 : Int32) d_QuotaLawsLaw_law_32 c315 (by decide) (by decide) rfl (by decide) ?_
      refine g_aload_n (pc := 775) 1 d_QuotaLawsLaw_law_775 rfl rfl ?_
      refine g_aload_n (pc := 776) 0 d_QuotaLawsLaw_law_776 rfl rfl ?_
      refine g_iload_n (pc := 777) 3 d_QuotaLawsLaw_law_777 rfl rfl ?_
      refine g_iconst (pc := 778) (1 : Int32) d_QuotaLawsLaw_law_778 (by decide) ?_
      refine g_iadd (pc := 779) d_QuotaLawsLaw_law_779 ?_
      obtain ⟨x316, e317, hf⟩ := bd1_e hf
      refine g_sld (pc := 780) d_QuotaLawsLaw_law_780 e317 ?_
      obtain ⟨u319, e318, hf⟩ := bd1_e hf
      obtain ⟨x322, h320, e321, hf⟩ := bd2_e hf
      refine g_callV (pc := 781) (ci := 0) [.int x316] (site_of si_Q_most (by decide) (by decide)) wd_653 wd_654 wd_655 d_QuotaLawsLaw_law_781 rfl e318 (Nat.le_of_ble_eq_true rfl) (fun z => absurd z (by decide)) (fun z => absurd z (by decide)) (fun z => absurd z (by decide)) (c_Q_most e321) rfl ?_
      refine g_st [.int x322] rfl ?_
      refine g_aload_n (pc := 784) 2 d_QuotaLawsLaw_law_784 rfl rfl ?_
      refine g_aload_n (pc := 785) 0 d_QuotaLawsLaw_law_785 rfl rfl ?_
      refine g_iload_n (pc := 786) 3 d_QuotaLawsLaw_law_786 rfl rfl ?_
      refine g_iconst (pc := 787) (1 : Int32) d_QuotaLawsLaw_law_787 (by decide) ?_
      refine g_iadd (pc := 788) d_QuotaLawsLaw_law_788 ?_
      obtain ⟨x323, e324, hf⟩ := bd1_e hf
      refine g_sld (pc := 789) d_QuotaLawsLaw_law_789 e324 ?_
      obtain ⟨u326, e325, hf⟩ := bd1_e hf
      obtain ⟨x329, h327, e328, hf⟩ := bd2_e hf
      refine g_callV (pc := 790) (ci := 8) [.int x323] (site_of si_M_most (by decide) (by decide)) wd_1249 wd_1250 wd_1251 d_QuotaLawsLaw_law_790 rfl e325 (Nat.le_of_ble_eq_true rfl) (fun z => absurd z (by decide)) (fun z => absurd z (by decide)) (fun z => absurd z (by decide)) (c_M_most e328) rfl ?_
      refine g_st [.int x329, .int x322] rfl ?_
      refine g_icmpeq (pc := 793) 1344 d_QuotaLawsLaw_law_793 (by decide) (fun c330 => ?_) (fun c330 => ?_)
      · replace hf := (if_pos c330).symm.trans hf
        refine g_lv [0, 1, 2, 3] rfl ?_
        exact t_QuotaLawsLaw_law_1344 rec18 hrec18 _ _ _ _ _ _  hf
      · replace hf := (if_neg c330).symm.trans hf
        refine g_iconst (pc := 796) (0 : Int32) d_QuotaLawsLaw_law_796 (by decide) ?_
        obtain ⟨rfl, rfl⟩ := ret2 hf
        exact g_zret (pc := 797) rfl rfl d_QuotaLawsLaw_law_797
    replace hf := (if_neg c315).symm.trans hf
    by_cases c331 : (x19 &&& (63 : Int32)) = (20 : Int32)
    · replace hf := (if_pos c331).symm.trans hf
      refine g_tabIn (pc := 32) 798 (20 : Int32) d_QuotaLawsLaw_law_32 c331 (by decide) (by decide) rfl (by decide) ?_
      refine g_aload_n (pc := 798) 1 d_QuotaLawsLaw_law_798 rfl rfl ?_
      refine g_aload_n (pc := 799) 0 d_QuotaLawsLaw_law_799 rfl rfl ?_
      refine g_iload_n (pc := 800) 3 d_QuotaLawsLaw_law_800 rfl rfl ?_
      refine g_iconst (pc := 801) (1 : Int32) d_QuotaLawsLaw_law_801 (by decide) ?_
      refine g_iadd (pc := 802) d_QuotaLawsLaw_law_802 ?_
      obtain ⟨x332, e333, hf⟩ := bd1_e hf
      refine g_sld (pc := 803) d_QuotaLawsLaw_law_803 e333 ?_
      obtain ⟨u335, e334, hf⟩ := bd1_e hf
      obtain ⟨x338, h336, e337, hf⟩ := bd2_e hf
      refine g_callV (pc := 804) (ci := 0) [.int x332] (site_of si_Q_rota (by decide) (by decide)) wd_657 wd_658 wd_659 d_QuotaLawsLaw_law_804 rfl e334 (Nat.le_of_ble_eq_true rfl) (fun z => absurd z (by decide)) (fun z => absurd z (by decide)) (fun z => absurd z (by decide)) (c_Q_rota e337) rfl ?_
      refine g_st [.int x338] rfl ?_
      refine g_aload_n (pc := 807) 2 d_QuotaLawsLaw_law_807 rfl rfl ?_
      refine g_aload_n (pc := 808) 0 d_QuotaLawsLaw_law_808 rfl rfl ?_
      refine g_iload_n (pc := 809) 3 d_QuotaLawsLaw_law_809 rfl rfl ?_
      refine g_iconst (pc := 810) (1 : Int32) d_QuotaLawsLaw_law_810 (by decide) ?_
      refine g_iadd (pc := 811) d_QuotaLawsLaw_law_811 ?_
      obtain ⟨x339, e340, hf⟩ := bd1_e hf
      refine g_sld (pc := 812) d_QuotaLawsLaw_law_812 e340 ?_
      obtain ⟨u342, e341, hf⟩ := bd1_e hf
      obtain ⟨x345, h343, e344, hf⟩ := bd2_e hf
      refine g_callV (pc := 813) (ci := 8) [.int x339] (site_of si_M_rota (by decide) (by decide)) wd_1253 wd_1254 wd_1255 d_QuotaLawsLaw_law_813 rfl e341 (Nat.le_of_ble_eq_true rfl) (fun z => absurd z (by decide)) (fun z => absurd z (by decide)) (fun z => absurd z (by decide)) (c_M_rota e344) rfl ?_
      refine g_st [.int x345, .int x338] rfl ?_
      refine g_icmpeq (pc := 816) 1344 d_QuotaLawsLaw_law_816 (by decide) (fun c346 => ?_) (fun c346 => ?_)
      · replace hf := (if_pos c346).symm.trans hf
        refine g_lv [0, 1, 2, 3] rfl ?_
        exact t_QuotaLawsLaw_law_1344 rec18 hrec18 _ _ _ _ _ _  hf
      · replace hf := (if_neg c346).symm.trans hf
        refine g_iconst (pc := 819) (0 : Int32) d_QuotaLawsLaw_law_819 (by decide) ?_
        obtain ⟨rfl, rfl⟩ := ret2 hf
        exact g_zret (pc := 820) rfl rfl d_QuotaLawsLaw_law_820
    replace hf := (if_neg c331).symm.trans hf
    by_cases c347 : (x19 &&& (63 : Int32)) = (21 : Int32)
    · replace hf := (if_pos c347).symm.trans hf
      refine g_tabIn (pc := 32) 821 (21 : Int32) d_QuotaLawsLaw_law_32 c347 (by decide) (by decide) rfl (by decide) ?_
      refine g_aload_n (pc := 821) 1 d_QuotaLawsLaw_law_821 rfl rfl ?_
      refine g_aload_n (pc := 822) 0 d_QuotaLawsLaw_law_822 rfl rfl ?_
      refine g_iload_n (pc := 823) 3 d_QuotaLawsLaw_law_823 rfl rfl ?_
      refine g_iconst (pc := 824) (1 : Int32) d_QuotaLawsLaw_law_824 (by decide) ?_
      refine g_iadd (pc := 825) d_QuotaLawsLaw_law_825 ?_
      obtain ⟨x348, e349, hf⟩ := bd1_e hf
      refine g_sld (pc := 826) d_QuotaLawsLaw_law_826 e349 ?_
      obtain ⟨u351, e350, hf⟩ := bd1_e hf
      obtain ⟨x354, h352, e353, hf⟩ := bd2_e hf
      refine g_callV (pc := 827) (ci := 0) [.int x348] (site_of si_Q_more (by decide) (by decide)) wd_692 wd_693 wd_694 d_QuotaLawsLaw_law_827 rfl e350 (Nat.le_of_ble_eq_true rfl) (fun z => absurd z (by decide)) (fun z => absurd z (by decide)) (fun z => absurd z (by decide)) (c_Q_more e353) rfl ?_
      refine g_st [.int x354] rfl ?_
      refine g_aload_n (pc := 830) 2 d_QuotaLawsLaw_law_830 rfl rfl ?_
      refine g_aload_n (pc := 831) 0 d_QuotaLawsLaw_law_831 rfl rfl ?_
      refine g_iload_n (pc := 832) 3 d_QuotaLawsLaw_law_832 rfl rfl ?_
      refine g_iconst (pc := 833) (1 : Int32) d_QuotaLawsLaw_law_833 (by decide) ?_
      refine g_iadd (pc := 834) d_QuotaLawsLaw_law_834 ?_
      obtain ⟨x355, e356, hf⟩ := bd1_e hf
      refine g_sld (pc := 835) d_QuotaLawsLaw_law_835 e356 ?_
      obtain ⟨u358, e357, hf⟩ := bd1_e hf
      obtain ⟨x361, h359, e360, hf⟩ := bd2_e hf
      refine g_callV (pc := 836) (ci := 8) [.int x355] (site_of si_M_more (by decide) (by decide)) wd_1286 wd_1287 wd_1288 d_QuotaLawsLaw_law_836 rfl e357 (Nat.le_of_ble_eq_true rfl) (fun z => absurd z (by decide)) (fun z => absurd z (by decide)) (fun z => absurd z (by decide)) (c_M_more e360) rfl ?_
      refine g_st [.int x361, .int x354] rfl ?_
      refine g_icmpeq (pc := 839) 1344 d_QuotaLawsLaw_law_839 (by decide) (fun c362 => ?_) (fun c362 => ?_)
      · replace hf := (if_pos c362).symm.trans hf
        refine g_lv [0, 1, 2, 3] rfl ?_
        exact t_QuotaLawsLaw_law_1344 rec18 hrec18 _ _ _ _ _ _  hf
      · replace hf := (if_neg c362).symm.trans hf
        refine g_iconst (pc := 842) (0 : Int32) d_QuotaLawsLaw_law_842 (by decide) ?_
        obtain ⟨rfl, rfl⟩ := ret2 hf
        exact g_zret (pc := 843) rfl rfl d_QuotaLawsLaw_law_843
    replace hf := (if_neg c347).symm.trans hf
    by_cases c363 : (x19 &&& (63 : Int32)) = (22 : Int32)
    · replace hf := (if_pos c363).symm.trans hf
      refine g_tabIn (pc := 32) 844 (22 : Int32) d_QuotaLawsLaw_law_32 c363 (by decide) (by decide) rfl (by decide) ?_
      refine g_aload_n (pc := 844) 1 d_QuotaLawsLaw_law_844 rfl rfl ?_
      refine g_aload_n (pc := 845) 0 d_QuotaLawsLaw_law_845 rfl rfl ?_
      refine g_iload_n (pc := 846) 3 d_QuotaLawsLaw_law_846 rfl rfl ?_
      refine g_iconst (pc := 847) (1 : Int32) d_QuotaLawsLaw_law_847 (by decide) ?_
      refine g_iadd (pc := 848) d_QuotaLawsLaw_law_848 ?_
      obtain ⟨x364, e365, hf⟩ := bd1_e hf
      refine g_sld (pc := 849) d_QuotaLawsLaw_law_849 e365 ?_
      obtain ⟨u367, e366, hf⟩ := bd1_e hf
      obtain ⟨x370, h368, e369, hf⟩ := bd2_e hf
      refine g_callV (pc := 850) (ci := 0) [.int x364] (site_of si_Q_together (by decide) (by decide)) wd_715 wd_716 wd_717 d_QuotaLawsLaw_law_850 rfl e366 (Nat.le_of_ble_eq_true rfl) (fun z => absurd z (by decide)) (fun z => absurd z (by decide)) (fun z => absurd z (by decide)) (c_Q_together e369) rfl ?_
      refine g_st [.int x370] rfl ?_
      refine g_aload_n (pc := 853) 2 d_QuotaLawsLaw_law_853 rfl rfl ?_
      refine g_aload_n (pc := 854) 0 d_QuotaLawsLaw_law_854 rfl rfl ?_
      refine g_iload_n (pc := 855) 3 d_QuotaLawsLaw_law_855 rfl rfl ?_
      refine g_iconst (pc := 856) (1 : Int32) d_QuotaLawsLaw_law_856 (by decide) ?_
      refine g_iadd (pc := 857) d_QuotaLawsLaw_law_857 ?_
      obtain ⟨x371, e372, hf⟩ := bd1_e hf
      refine g_sld (pc := 858) d_QuotaLawsLaw_law_858 e372 ?_
      obtain ⟨u374, e373, hf⟩ := bd1_e hf
      obtain ⟨x377, h375, e376, hf⟩ := bd2_e hf
      refine g_callV (pc := 859) (ci := 8) [.int x371] (site_of si_M_together (by decide) (by decide)) wd_1290 wd_1291 wd_1292 d_QuotaLawsLaw_law_859 rfl e373 (Nat.le_of_ble_eq_true rfl) (fun z => absurd z (by decide)) (fun z => absurd z (by decide)) (fun z => absurd z (by decide)) (c_M_together e376) rfl ?_
      refine g_st [.int x377, .int x370] rfl ?_
      refine g_icmpeq (pc := 862) 1344 d_QuotaLawsLaw_law_862 (by decide) (fun c378 => ?_) (fun c378 => ?_)
      · replace hf := (if_pos c378).symm.trans hf
        refine g_lv [0, 1, 2, 3] rfl ?_
        exact t_QuotaLawsLaw_law_1344 rec18 hrec18 _ _ _ _ _ _  hf
      · replace hf := (if_neg c378).symm.trans hf
        refine g_iconst (pc := 865) (0 : Int32) d_QuotaLawsLaw_law_865 (by decide) ?_
        obtain ⟨rfl, rfl⟩ := ret2 hf
        exact g_zret (pc := 866) rfl rfl d_QuotaLawsLaw_law_866
    replace hf := (if_neg c363).symm.trans hf
    by_cases c379 : (x19 &&& (63 : Int32)) = (23 : Int32)
    · replace hf := (if_pos c379).symm.trans hf
      refine g_tabIn (pc := 32) 867 (23 : Int32) d_QuotaLawsLaw_law_32 c379 (by decide) (by decide) rfl (by decide) ?_
      refine g_aload_n (pc := 867) 1 d_QuotaLawsLaw_law_867 rfl rfl ?_
      refine g_aload_n (pc := 868) 0 d_QuotaLawsLaw_law_868 rfl rfl ?_
      refine g_iload_n (pc := 869) 3 d_QuotaLawsLaw_law_869 rfl rfl ?_
      refine g_iconst (pc := 870) (1 : Int32) d_QuotaLawsLaw_law_870 (by decide) ?_
      refine g_iadd (pc := 871) d_QuotaLawsLaw_law_871 ?_
      obtain ⟨x380, e381, hf⟩ := bd1_e hf
      refine g_sld (pc := 872) d_QuotaLawsLaw_law_872 e381 ?_
      refine g_aload_n (pc := 873) 0 d_QuotaLawsLaw_law_873 rfl rfl ?_
      refine g_iload_n (pc := 874) 3 d_QuotaLawsLaw_law_874 rfl rfl ?_
      refine g_iconst (pc := 875) (2 : Int32) d_QuotaLawsLaw_law_875 (by decide) ?_
      refine g_iadd (pc := 876) d_QuotaLawsLaw_law_876 ?_
      obtain ⟨x382, e383, hf⟩ := bd1_e hf
      refine g_sld (pc := 877) d_QuotaLawsLaw_law_877 e383 ?_
      obtain ⟨u385, e384, hf⟩ := bd1_e hf
      obtain ⟨x388, h386, e387, hf⟩ := bd2_e hf
      refine g_callV (pc := 878) (ci := 0) [.int x380, .int x382] (site_of si_Q_kill (by decide) (by decide)) wd_720 wd_721 wd_722 d_QuotaLawsLaw_law_878 rfl e384 (Nat.le_of_ble_eq_true rfl) (fun z => absurd z (by decide)) (fun z => absurd z (by decide)) (fun z => absurd z (by decide)) (c_Q_kill e387) rfl ?_
      refine g_st [.int x388] rfl ?_
      refine g_aload_n (pc := 881) 2 d_QuotaLawsLaw_law_881 rfl rfl ?_
      refine g_aload_n (pc := 882) 0 d_QuotaLawsLaw_law_882 rfl rfl ?_
      refine g_iload_n (pc := 883) 3 d_QuotaLawsLaw_law_883 rfl rfl ?_
      refine g_iconst (pc := 884) (1 : Int32) d_QuotaLawsLaw_law_884 (by decide) ?_
      refine g_iadd (pc := 885) d_QuotaLawsLaw_law_885 ?_
      obtain ⟨x389, e390, hf⟩ := bd1_e hf
      refine g_sld (pc := 886) d_QuotaLawsLaw_law_886 e390 ?_
      refine g_aload_n (pc := 887) 0 d_QuotaLawsLaw_law_887 rfl rfl ?_
      refine g_iload_n (pc := 888) 3 d_QuotaLawsLaw_law_888 rfl rfl ?_
      refine g_iconst (pc := 889) (2 : Int32) d_QuotaLawsLaw_law_889 (by decide) ?_
      refine g_iadd (pc := 890) d_QuotaLawsLaw_law_890 ?_
      obtain ⟨x391, e392, hf⟩ := bd1_e hf
      refine g_sld (pc := 891) d_QuotaLawsLaw_law_891 e392 ?_
      obtain ⟨u394, e393, hf⟩ := bd1_e hf
      obtain ⟨x397, h395, e396, hf⟩ := bd2_e hf
      refine g_callV (pc := 892) (ci := 8) [.int x389, .int x391] (site_of si_M_kill (by decide) (by decide)) wd_1294 wd_1295 wd_1296 d_QuotaLawsLaw_law_892 rfl e393 (Nat.le_of_ble_eq_true rfl) (fun z => absurd z (by decide)) (fun z => absurd z (by decide)) (fun z => absurd z (by decide)) (c_M_kill e396) rfl ?_
      refine g_st [.int x397, .int x388] rfl ?_
      refine g_icmpeq (pc := 895) 1344 d_QuotaLawsLaw_law_895 (by decide) (fun c398 => ?_) (fun c398 => ?_)
      · replace hf := (if_pos c398).symm.trans hf
        refine g_lv [0, 1, 2, 3] rfl ?_
        exact t_QuotaLawsLaw_law_1344 rec18 hrec18 _ _ _ _ _ _  hf
      · replace hf := (if_neg c398).symm.trans hf
        refine g_iconst (pc := 898) (0 : Int32) d_QuotaLawsLaw_law_898 (by decide) ?_
        obtain ⟨rfl, rfl⟩ := ret2 hf
        exact g_zret (pc := 899) rfl rfl d_QuotaLawsLaw_law_899
    replace hf := (if_neg c379).symm.trans hf
    by_cases c399 : (x19 &&& (63 : Int32)) = (24 : Int32)
    · replace hf := (if_pos c399).symm.trans hf
      refine g_tabIn (pc := 32) 900 (24 : Int32) d_QuotaLawsLaw_law_32 c399 (by decide) (by decide) rfl (by decide) ?_
      refine g_aload_n (pc := 900) 1 d_QuotaLawsLaw_law_900 rfl rfl ?_
      refine g_aload_n (pc := 901) 0 d_QuotaLawsLaw_law_901 rfl rfl ?_
      refine g_iload_n (pc := 902) 3 d_QuotaLawsLaw_law_902 rfl rfl ?_
      refine g_iconst (pc := 903) (1 : Int32) d_QuotaLawsLaw_law_903 (by decide) ?_
      refine g_iadd (pc := 904) d_QuotaLawsLaw_law_904 ?_
      obtain ⟨x400, e401, hf⟩ := bd1_e hf
      refine g_sld (pc := 905) d_QuotaLawsLaw_law_905 e401 ?_
      obtain ⟨u403, e402, hf⟩ := bd1_e hf
      obtain ⟨x406, h404, e405, hf⟩ := bd2_e hf
      refine g_callV (pc := 906) (ci := 0) [.int x400] (site_of si_Q_selfish (by decide) (by decide)) wd_728 wd_729 wd_730 d_QuotaLawsLaw_law_906 rfl e402 (Nat.le_of_ble_eq_true rfl) (fun z => absurd z (by decide)) (fun z => absurd z (by decide)) (fun z => absurd z (by decide)) (c_Q_selfish e405) rfl ?_
      refine g_st [.int x406] rfl ?_
      refine g_aload_n (pc := 909) 2 d_QuotaLawsLaw_law_909 rfl rfl ?_
      refine g_aload_n (pc := 910) 0 d_QuotaLawsLaw_law_910 rfl rfl ?_
      refine g_iload_n (pc := 911) 3 d_QuotaLawsLaw_law_911 rfl rfl ?_
      refine g_iconst (pc := 912) (1 : Int32) d_QuotaLawsLaw_law_912 (by decide) ?_
      refine g_iadd (pc := 913) d_QuotaLawsLaw_law_913 ?_
      obtain ⟨x407, e408, hf⟩ := bd1_e hf
      refine g_sld (pc := 914) d_QuotaLawsLaw_law_914 e408 ?_
      obtain ⟨u410, e409, hf⟩ := bd1_e hf
      obtain ⟨x413, h411, e412, hf⟩ := bd2_e hf
      refine g_callV (pc := 915) (ci := 8) [.int x407] (site_of si_M_selfish (by decide) (by decide)) wd_1302 wd_1303 wd_1304 d_QuotaLawsLaw_law_915 rfl e409 (Nat.le_of_ble_eq_true rfl) (fun z => absurd z (by decide)) (fun z => absurd z (by decide)) (fun z => absurd z (by decide)) (c_M_selfish e412) rfl ?_
      refine g_st [.int x413, .int x406] rfl ?_
      refine g_icmpeq (pc := 918) 1344 d_QuotaLawsLaw_law_918 (by decide) (fun c414 => ?_) (fun c414 => ?_)
      · replace hf := (if_pos c414).symm.trans hf
        refine g_lv [0, 1, 2, 3] rfl ?_
        exact t_QuotaLawsLaw_law_1344 rec18 hrec18 _ _ _ _ _ _  hf
      · replace hf := (if_neg c414).symm.trans hf
        refine g_iconst (pc := 921) (0 : Int32) d_QuotaLawsLaw_law_921 (by decide) ?_
        obtain ⟨rfl, rfl⟩ := ret2 hf
        exact g_zret (pc := 922) rfl rfl d_QuotaLawsLaw_law_922
    replace hf := (if_neg c399).symm.trans hf
    by_cases c415 : (x19 &&& (63 : Int32)) = (25 : Int32)
    · replace hf := (if_pos c415).symm.trans hf
      refine g_tabIn (pc := 32) 923 (25 : Int32) d_QuotaLawsLaw_law_32 c415 (by decide) (by decide) rfl (by decide) ?_
      refine g_aload_n (pc := 923) 1 d_QuotaLawsLaw_law_923 rfl rfl ?_
      refine g_aload_n (pc := 924) 0 d_QuotaLawsLaw_law_924 rfl rfl ?_
      refine g_iload_n (pc := 925) 3 d_QuotaLawsLaw_law_925 rfl rfl ?_
      refine g_iconst (pc := 926) (1 : Int32) d_QuotaLawsLaw_law_926 (by decide) ?_
      refine g_iadd (pc := 927) d_QuotaLawsLaw_law_927 ?_
      obtain ⟨x416, e417, hf⟩ := bd1_e hf
      refine g_sld (pc := 928) d_QuotaLawsLaw_law_928 e417 ?_
      refine g_aload_n (pc := 929) 0 d_QuotaLawsLaw_law_929 rfl rfl ?_
      refine g_iload_n (pc := 930) 3 d_QuotaLawsLaw_law_930 rfl rfl ?_
      refine g_iconst (pc := 931) (2 : Int32) d_QuotaLawsLaw_law_931 (by decide) ?_
      refine g_iadd (pc := 932) d_QuotaLawsLaw_law_932 ?_
      obtain ⟨x418, e419, hf⟩ := bd1_e hf
      refine g_sld (pc := 933) d_QuotaLawsLaw_law_933 e419 ?_
      obtain ⟨u421, e420, hf⟩ := bd1_e hf
      obtain ⟨x424, h422, e423, hf⟩ := bd2_e hf
      refine g_callV (pc := 934) (ci := 0) [.int x416, .int x418] (site_of si_Q_luck (by decide) (by decide)) wd_745 wd_746 wd_747 d_QuotaLawsLaw_law_934 rfl e420 (Nat.le_of_ble_eq_true rfl) (fun z => absurd z (by decide)) (fun z => absurd z (by decide)) (fun z => absurd z (by decide)) (c_Q_luck e423) rfl ?_
      refine g_st [.long x424] rfl ?_
      refine g_aload_n (pc := 937) 2 d_QuotaLawsLaw_law_937 rfl rfl ?_
      refine g_aload_n (pc := 938) 0 d_QuotaLawsLaw_law_938 rfl rfl ?_
      refine g_iload_n (pc := 939) 3 d_QuotaLawsLaw_law_939 rfl rfl ?_
      refine g_iconst (pc := 940) (1 : Int32) d_QuotaLawsLaw_law_940 (by decide) ?_
      refine g_iadd (pc := 941) d_QuotaLawsLaw_law_941 ?_
      obtain ⟨x425, e426, hf⟩ := bd1_e hf
      refine g_sld (pc := 942) d_QuotaLawsLaw_law_942 e426 ?_
      refine g_aload_n (pc := 943) 0 d_QuotaLawsLaw_law_943 rfl rfl ?_
      refine g_iload_n (pc := 944) 3 d_QuotaLawsLaw_law_944 rfl rfl ?_
      refine g_iconst (pc := 945) (2 : Int32) d_QuotaLawsLaw_law_945 (by decide) ?_
      refine g_iadd (pc := 946) d_QuotaLawsLaw_law_946 ?_
      obtain ⟨x427, e428, hf⟩ := bd1_e hf
      refine g_sld (pc := 947) d_QuotaLawsLaw_law_947 e428 ?_
      obtain ⟨u430, e429, hf⟩ := bd1_e hf
      obtain ⟨x433, h431, e432, hf⟩ := bd2_e hf
      refine g_callV (pc := 948) (ci := 8) [.int x425, .int x427] (site_of si_M_luck (by decide) (by decide)) wd_1319 wd_1320 wd_1321 d_QuotaLawsLaw_law_948 rfl e429 (Nat.le_of_ble_eq_true rfl) (fun z => absurd z (by decide)) (fun z => absurd z (by decide)) (fun z => absurd z (by decide)) (c_M_luck e432) rfl ?_
      refine g_st [.long x433, .long x424] rfl ?_
      refine g_lcmp (pc := 951) d_QuotaLawsLaw_law_951 ?_
      refine g_ifeq (pc := 952) 1344 d_QuotaLawsLaw_law_952 (by decide) (fun c434 => ?_) (fun c434 => ?_)
      · replace hf := (if_pos c434).symm.trans hf
        refine g_lv [0, 1, 2, 3] rfl ?_
        exact t_QuotaLawsLaw_law_1344 rec18 hrec18 _ _ _ _ _ _  hf
      · replace hf := (if_neg c434).symm.trans hf
        refine g_iconst (pc := 955) (0 : Int32) d_QuotaLawsLaw_law_955 (by decide) ?_
        obtain ⟨rfl, rfl⟩ := ret2 hf
        exact g_zret (pc := 956) rfl rfl d_QuotaLawsLaw_law_956
    replace hf := (if_neg c415).symm.trans hf
    by_cases c435 : (x19 &&& (63 : Int32)) = (26 : Int32)
    · replace hf := (if_pos c435).symm.trans hf
      refine g_tabIn (pc := 32) 957 (26 : Int32) d_QuotaLawsLaw_law_32 c435 (by decide) (by decide) rfl (by decide) ?_
      refine g_aload_n (pc := 957) 1 d_QuotaLawsLaw_law_957 rfl rfl ?_
      refine g_aload_n (pc := 958) 0 d_QuotaLawsLaw_law_958 rfl rfl ?_
      refine g_iload_n (pc := 959) 3 d_QuotaLawsLaw_law_959 rfl rfl ?_
      refine g_iconst (pc := 960) (1 : Int32) d_QuotaLawsLaw_law_960 (by decide) ?_
      refine g_iadd (pc := 961) d_QuotaLawsLaw_law_961 ?_
      obtain ⟨x436, e437, hf⟩ := bd1_e hf
      refine g_sld (pc := 962) d_QuotaLawsLaw_law_962 e437 ?_
      refine g_aload_n (pc := 963) 0 d_QuotaLawsLaw_law_963 rfl rfl ?_
      refine g_iload_n (pc := 964) 3 d_QuotaLawsLaw_law_964 rfl rfl ?_
      refine g_iconst (pc := 965) (2 : Int32) d_QuotaLawsLaw_law_965 (by decide) ?_
      refine g_iadd (pc := 966) d_QuotaLawsLaw_law_966 ?_
      obtain ⟨x438, e439, hf⟩ := bd1_e hf
      refine g_sld (pc := 967) d_QuotaLawsLaw_law_967 e439 ?_
      refine g_aload_n (pc := 968) 0 d_QuotaLawsLaw_law_968 rfl rfl ?_
      refine g_iload_n (pc := 969) 3 d_QuotaLawsLaw_law_969 rfl rfl ?_
      refine g_iconst (pc := 970) (3 : Int32) d_QuotaLawsLaw_law_970 (by decide) ?_
      refine g_iadd (pc := 971) d_QuotaLawsLaw_law_971 ?_
      obtain ⟨x440, e441, hf⟩ := bd1_e hf
      refine g_sld (pc := 972) d_QuotaLawsLaw_law_972 e441 ?_
      obtain ⟨u443, e442, hf⟩ := bd1_e hf
      obtain ⟨x446, h444, e445, hf⟩ := bd2_e hf
      refine g_callV (pc := 973) (ci := 0) [.int x436, .int x438, .int x440] (site_of si_Q_see (by decide) (by decide)) wd_768 wd_769 wd_770 d_QuotaLawsLaw_law_973 rfl e442 (Nat.le_of_ble_eq_true rfl) (fun z => absurd z (by decide)) (fun z => absurd z (by decide)) (fun z => absurd z (by decide)) (c_Q_see e445) rfl ?_
      refine g_st [.int x446] rfl ?_
      refine g_aload_n (pc := 976) 2 d_QuotaLawsLaw_law_976 rfl rfl ?_
      refine g_aload_n (pc := 977) 0 d_QuotaLawsLaw_law_977 rfl rfl ?_
      refine g_iload_n (pc := 978) 3 d_QuotaLawsLaw_law_978 rfl rfl ?_
      refine g_iconst (pc := 979) (1 : Int32) d_QuotaLawsLaw_law_979 (by decide) ?_
      refine g_iadd (pc := 980) d_QuotaLawsLaw_law_980 ?_
      obtain ⟨x447, e448, hf⟩ := bd1_e hf
      refine g_sld (pc := 981) d_QuotaLawsLaw_law_981 e448 ?_
      refine g_aload_n (pc := 982) 0 d_QuotaLawsLaw_law_982 rfl rfl ?_
      refine g_iload_n (pc := 983) 3 d_QuotaLawsLaw_law_983 rfl rfl ?_
      refine g_iconst (pc := 984) (2 : Int32) d_QuotaLawsLaw_law_984 (by decide) ?_
      refine g_iadd (pc := 985) d_QuotaLawsLaw_law_985 ?_
      obtain ⟨x449, e450, hf⟩ := bd1_e hf
      refine g_sld (pc := 986) d_QuotaLawsLaw_law_986 e450 ?_
      refine g_aload_n (pc := 987) 0 d_QuotaLawsLaw_law_987 rfl rfl ?_
      refine g_iload_n (pc := 988) 3 d_QuotaLawsLaw_law_988 rfl rfl ?_
      refine g_iconst (pc := 989) (3 : Int32) d_QuotaLawsLaw_law_989 (by decide) ?_
      refine g_iadd (pc := 990) d_QuotaLawsLaw_law_990 ?_
      obtain ⟨x451, e452, hf⟩ := bd1_e hf
      refine g_sld (pc := 991) d_QuotaLawsLaw_law_991 e452 ?_
      obtain ⟨u454, e453, hf⟩ := bd1_e hf
      obtain ⟨x457, h455, e456, hf⟩ := bd2_e hf
      refine g_callV (pc := 992) (ci := 8) [.int x447, .int x449, .int x451] (site_of si_M_see (by decide) (by decide)) wd_1328 wd_1329 wd_1330 d_QuotaLawsLaw_law_992 rfl e453 (Nat.le_of_ble_eq_true rfl) (fun z => absurd z (by decide)) (fun z => absurd z (by decide)) (fun z => absurd z (by decide)) (c_M_see e456) rfl ?_
      refine g_st [.int x457, .int x446] rfl ?_
      refine g_icmpeq (pc := 995) 1344 d_QuotaLawsLaw_law_995 (by decide) (fun c458 => ?_) (fun c458 => ?_)
      · replace hf := (if_pos c458).symm.trans hf
        refine g_lv [0, 1, 2, 3] rfl ?_
        exact t_QuotaLawsLaw_law_1344 rec18 hrec18 _ _ _ _ _ _  hf
      · replace hf := (if_neg c458).symm.trans hf
        refine g_iconst (pc := 998) (0 : Int32) d_QuotaLawsLaw_law_998 (by decide) ?_
        obtain ⟨rfl, rfl⟩ := ret2 hf
        exact g_zret (pc := 999) rfl rfl d_QuotaLawsLaw_law_999
    replace hf := (if_neg c435).symm.trans hf
    by_cases c459 : (x19 &&& (63 : Int32)) = (27 : Int32)
    · replace hf := (if_pos c459).symm.trans hf
      refine g_tabIn (pc := 32) 1000 (27 : Int32) d_QuotaLawsLaw_law_32 c459 (by decide) (by decide) rfl (by decide) ?_
      refine g_aload_n (pc := 1000) 1 d_QuotaLawsLaw_law_1000 rfl rfl ?_
      refine g_aload_n (pc := 1001) 0 d_QuotaLawsLaw_law_1001 rfl rfl ?_
      refine g_iload_n (pc := 1002) 3 d_QuotaLawsLaw_law_1002 rfl rfl ?_
      refine g_iconst (pc := 1003) (1 : Int32) d_QuotaLawsLaw_law_1003 (by decide) ?_
      refine g_iadd (pc := 1004) d_QuotaLawsLaw_law_1004 ?_
      obtain ⟨x460, e461, hf⟩ := bd1_e hf
      refine g_sld (pc := 1005) d_QuotaLawsLaw_law_1005 e461 ?_
      obtain ⟨u463, e462, hf⟩ := bd1_e hf
      obtain ⟨x466, h464, e465, hf⟩ := bd2_e hf
      refine g_callV (pc := 1006) (ci := 0) [.int x460] (site_of si_Q_forget (by decide) (by decide)) wd_776 wd_777 wd_778 d_QuotaLawsLaw_law_1006 rfl e462 (Nat.le_of_ble_eq_true rfl) (fun z => absurd z (by decide)) (fun z => absurd z (by decide)) (fun z => absurd z (by decide)) (c_Q_forget e465) rfl ?_
      refine g_st [.int x466] rfl ?_
      refine g_aload_n (pc := 1009) 2 d_QuotaLawsLaw_law_1009 rfl rfl ?_
      refine g_aload_n (pc := 1010) 0 d_QuotaLawsLaw_law_1010 rfl rfl ?_
      refine g_iload_n (pc := 1011) 3 d_QuotaLawsLaw_law_1011 rfl rfl ?_
      refine g_iconst (pc := 1012) (1 : Int32) d_QuotaLawsLaw_law_1012 (by decide) ?_
      refine g_iadd (pc := 1013) d_QuotaLawsLaw_law_1013 ?_
      obtain ⟨x467, e468, hf⟩ := bd1_e hf
      refine g_sld (pc := 1014) d_QuotaLawsLaw_law_1014 e468 ?_
      obtain ⟨u470, e469, hf⟩ := bd1_e hf
      obtain ⟨x473, h471, e472, hf⟩ := bd2_e hf
      refine g_callV (pc := 1015) (ci := 8) [.int x467] (site_of si_M_forget (by decide) (by decide)) wd_1333 wd_1334 wd_1335 d_QuotaLawsLaw_law_1015 rfl e469 (Nat.le_of_ble_eq_true rfl) (fun z => absurd z (by decide)) (fun z => absurd z (by decide)) (fun z => absurd z (by decide)) (c_M_forget e472) rfl ?_
      refine g_st [.int x473, .int x466] rfl ?_
      refine g_icmpeq (pc := 1018) 1344 d_QuotaLawsLaw_law_1018 (by decide) (fun c474 => ?_) (fun c474 => ?_)
      · replace hf := (if_pos c474).symm.trans hf
        refine g_lv [0, 1, 2, 3] rfl ?_
        exact t_QuotaLawsLaw_law_1344 rec18 hrec18 _ _ _ _ _ _  hf
      · replace hf := (if_neg c474).symm.trans hf
        refine g_iconst (pc := 1021) (0 : Int32) d_QuotaLawsLaw_law_1021 (by decide) ?_
        obtain ⟨rfl, rfl⟩ := ret2 hf
        exact g_zret (pc := 1022) rfl rfl d_QuotaLawsLaw_law_1022
    replace hf := (if_neg c459).symm.trans hf
    by_cases c475 : (x19 &&& (63 : Int32)) = (28 : Int32)
    · replace hf := (if_pos c475).symm.trans hf
      refine g_tabIn (pc := 32) 1023 (28 : Int32) d_QuotaLawsLaw_law_32 c475 (by decide) (by decide) rfl (by decide) ?_
      refine g_aload_n (pc := 1023) 1 d_QuotaLawsLaw_law_1023 rfl rfl ?_
      obtain ⟨u477, e476, hf⟩ := bd1_e hf
      obtain ⟨x480, h478, e479, hf⟩ := bd2_e hf
      refine g_callV (pc := 1024) (ci := 0) [] (site_of si_Q_books (by decide) (by decide)) wd_780 wd_781 wd_782 d_QuotaLawsLaw_law_1024 rfl e476 (Nat.le_of_ble_eq_true rfl) (fun z => absurd z (by decide)) (fun z => absurd z (by decide)) (fun z => absurd z (by decide)) (c_Q_books e479) rfl ?_
      refine g_st [.long x480] rfl ?_
      refine g_aload_n (pc := 1027) 2 d_QuotaLawsLaw_law_1027 rfl rfl ?_
      obtain ⟨u482, e481, hf⟩ := bd1_e hf
      obtain ⟨x485, h483, e484, hf⟩ := bd2_e hf
      refine g_callV (pc := 1028) (ci := 8) [] (site_of si_M_books (by decide) (by decide)) wd_1337 wd_1338 wd_1339 d_QuotaLawsLaw_law_1028 rfl e481 (Nat.le_of_ble_eq_true rfl) (fun z => absurd z (by decide)) (fun z => absurd z (by decide)) (fun z => absurd z (by decide)) (c_M_books e484) rfl ?_
      refine g_st [.long x485, .long x480] rfl ?_
      refine g_lcmp (pc := 1031) d_QuotaLawsLaw_law_1031 ?_
      refine g_ifeq (pc := 1032) 1344 d_QuotaLawsLaw_law_1032 (by decide) (fun c486 => ?_) (fun c486 => ?_)
      · replace hf := (if_pos c486).symm.trans hf
        refine g_lv [0, 1, 2, 3] rfl ?_
        exact t_QuotaLawsLaw_law_1344 rec18 hrec18 _ _ _ _ _ _  hf
      · replace hf := (if_neg c486).symm.trans hf
        refine g_iconst (pc := 1035) (0 : Int32) d_QuotaLawsLaw_law_1035 (by decide) ?_
        obtain ⟨rfl, rfl⟩ := ret2 hf
        exact g_zret (pc := 1036) rfl rfl d_QuotaLawsLaw_law_1036
    replace hf := (if_neg c475).symm.trans hf
    by_cases c487 : (x19 &&& (63 : Int32)) = (29 : Int32)
    · replace hf := (if_pos c487).symm.trans hf
      refine g_tabIn (pc := 32) 1037 (29 : Int32) d_QuotaLawsLaw_law_32 c487 (by decide) (by decide) rfl (by decide) ?_
      refine g_aload_n (pc := 1037) 1 d_QuotaLawsLaw_law_1037 rfl rfl ?_
      refine g_aload_n (pc := 1038) 0 d_QuotaLawsLaw_law_1038 rfl rfl ?_
      refine g_iload_n (pc := 1039) 3 d_QuotaLawsLaw_law_1039 rfl rfl ?_
      refine g_iconst (pc := 1040) (1 : Int32) d_QuotaLawsLaw_law_1040 (by decide) ?_
      refine g_iadd (pc := 1041) d_QuotaLawsLaw_law_1041 ?_
      obtain ⟨x488, e489, hf⟩ := bd1_e hf
      refine g_sld (pc := 1042) d_QuotaLawsLaw_law_1042 e489 ?_
      refine g_aload_n (pc := 1043) 0 d_QuotaLawsLaw_law_1043 rfl rfl ?_
      refine g_iload_n (pc := 1044) 3 d_QuotaLawsLaw_law_1044 rfl rfl ?_
      refine g_iconst (pc := 1045) (2 : Int32) d_QuotaLawsLaw_law_1045 (by decide) ?_
      refine g_iadd (pc := 1046) d_QuotaLawsLaw_law_1046 ?_
      obtain ⟨x490, e491, hf⟩ := bd1_e hf
      refine g_sld (pc := 1047) d_QuotaLawsLaw_law_1047 e491 ?_
      refine g_aload_n (pc := 1048) 0 d_QuotaLawsLaw_law_1048 rfl rfl ?_
      refine g_iload_n (pc := 1049) 3 d_QuotaLawsLaw_law_1049 rfl rfl ?_
      refine g_iconst (pc := 1050) (3 : Int32) d_QuotaLawsLaw_law_1050 (by decide) ?_
      refine g_iadd (pc := 1051) d_QuotaLawsLaw_law_1051 ?_
      obtain ⟨x492, e493, hf⟩ := bd1_e hf
      refine g_sld (pc := 1052) d_QuotaLawsLaw_law_1052 e493 ?_
      obtain ⟨u495, e494, hf⟩ := bd1_e hf
      obtain ⟨x498, h496, e497, hf⟩ := bd2_e hf
      refine g_callV (pc := 1053) (ci := 0) [.int x488, .int x490, .int x492] (site_of si_Q_entry (by decide) (by decide)) wd_829 wd_830 wd_831 d_QuotaLawsLaw_law_1053 rfl e494 (Nat.le_of_ble_eq_true rfl) (fun z => absurd z (by decide)) (fun z => absurd z (by decide)) (fun z => absurd z (by decide)) (c_Q_entry e497) rfl ?_
      refine g_st [.int x498] rfl ?_
      refine g_aload_n (pc := 1056) 2 d_QuotaLawsLaw_law_1056 rfl rfl ?_
      refine g_aload_n (pc := 1057) 0 d_QuotaLawsLaw_law_1057 rfl rfl ?_
      refine g_iload_n (pc := 1058) 3 d_QuotaLawsLaw_law_1058 rfl rfl ?_
      refine g_iconst (pc := 1059) (1 : Int32) d_QuotaLawsLaw_law_1059 (by decide) ?_
      refine g_iadd (pc := 1060) d_QuotaLawsLaw_law_1060 ?_
      obtain ⟨x499, e500, hf⟩ := bd1_e hf
      refine g_sld (pc := 1061) d_QuotaLawsLaw_law_1061 e500 ?_
      refine g_aload_n (pc := 1062) 0 d_QuotaLawsLaw_law_1062 rfl rfl ?_
      refine g_iload_n (pc := 1063) 3 d_QuotaLawsLaw_law_1063 rfl rfl ?_
      refine g_iconst (pc := 1064) (2 : Int32) d_QuotaLawsLaw_law_1064 (by decide) ?_
      refine g_iadd (pc := 1065) d_QuotaLawsLaw_law_1065 ?_
      obtain ⟨x501, e502, hf⟩ := bd1_e hf
      refine g_sld (pc := 1066) d_QuotaLawsLaw_law_1066 e502 ?_
      refine g_aload_n (pc := 1067) 0 d_QuotaLawsLaw_law_1067 rfl rfl ?_
      refine g_iload_n (pc := 1068) 3 d_QuotaLawsLaw_law_1068 rfl rfl ?_
      refine g_iconst (pc := 1069) (3 : Int32) d_QuotaLawsLaw_law_1069 (by decide) ?_
      refine g_iadd (pc := 1070) d_QuotaLawsLaw_law_1070 ?_
      obtain ⟨x503, e504, hf⟩ := bd1_e hf
      refine g_sld (pc := 1071) d_QuotaLawsLaw_law_1071 e504 ?_
      obtain ⟨u506, e505, hf⟩ := bd1_e hf
      obtain ⟨x509, h507, e508, hf⟩ := bd2_e hf
      refine g_callV (pc := 1072) (ci := 8) [.int x499, .int x501, .int x503] (site_of si_M_entry (by decide) (by decide)) wd_1369 wd_1370 wd_1371 d_QuotaLawsLaw_law_1072 rfl e505 (Nat.le_of_ble_eq_true rfl) (fun z => absurd z (by decide)) (fun z => absurd z (by decide)) (fun z => absurd z (by decide)) (c_M_entry e508) rfl ?_
      refine g_st [.int x509, .int x498] rfl ?_
      refine g_icmpeq (pc := 1075) 1344 d_QuotaLawsLaw_law_1075 (by decide) (fun c510 => ?_) (fun c510 => ?_)
      · replace hf := (if_pos c510).symm.trans hf
        refine g_lv [0, 1, 2, 3] rfl ?_
        exact t_QuotaLawsLaw_law_1344 rec18 hrec18 _ _ _ _ _ _  hf
      · replace hf := (if_neg c510).symm.trans hf
        refine g_iconst (pc := 1078) (0 : Int32) d_QuotaLawsLaw_law_1078 (by decide) ?_
        obtain ⟨rfl, rfl⟩ := ret2 hf
        exact g_zret (pc := 1079) rfl rfl d_QuotaLawsLaw_law_1079
    replace hf := (if_neg c487).symm.trans hf
    by_cases c511 : (x19 &&& (63 : Int32)) = (30 : Int32)
    · replace hf := (if_pos c511).symm.trans hf
      refine g_tabIn (pc := 32) 1080 (30 : Int32) d_QuotaLawsLaw_law_32 c511 (by decide) (by decide) rfl (by decide) ?_
      refine g_aload_n (pc := 1080) 1 d_QuotaLawsLaw_law_1080 rfl rfl ?_
      refine g_aload_n (pc := 1081) 0 d_QuotaLawsLaw_law_1081 rfl rfl ?_
      refine g_iload_n (pc := 1082) 3 d_QuotaLawsLaw_law_1082 rfl rfl ?_
      refine g_iconst (pc := 1083) (1 : Int32) d_QuotaLawsLaw_law_1083 (by decide) ?_
      refine g_iadd (pc := 1084) d_QuotaLawsLaw_law_1084 ?_
      obtain ⟨x512, e513, hf⟩ := bd1_e hf
      refine g_sld (pc := 1085) d_QuotaLawsLaw_law_1085 e513 ?_
      refine g_aload_n (pc := 1086) 0 d_QuotaLawsLaw_law_1086 rfl rfl ?_
      refine g_iload_n (pc := 1087) 3 d_QuotaLawsLaw_law_1087 rfl rfl ?_
      refine g_iconst (pc := 1088) (2 : Int32) d_QuotaLawsLaw_law_1088 (by decide) ?_
      refine g_iadd (pc := 1089) d_QuotaLawsLaw_law_1089 ?_
      obtain ⟨x514, e515, hf⟩ := bd1_e hf
      refine g_sld (pc := 1090) d_QuotaLawsLaw_law_1090 e515 ?_
      refine g_aload_n (pc := 1091) 0 d_QuotaLawsLaw_law_1091 rfl rfl ?_
      refine g_iload_n (pc := 1092) 3 d_QuotaLawsLaw_law_1092 rfl rfl ?_
      refine g_iconst (pc := 1093) (3 : Int32) d_QuotaLawsLaw_law_1093 (by decide) ?_
      refine g_iadd (pc := 1094) d_QuotaLawsLaw_law_1094 ?_
      obtain ⟨x516, e517, hf⟩ := bd1_e hf
      refine g_sld (pc := 1095) d_QuotaLawsLaw_law_1095 e517 ?_
      obtain ⟨u519, e518, hf⟩ := bd1_e hf
      obtain ⟨x522, h520, e521, hf⟩ := bd2_e hf
      refine g_callV (pc := 1096) (ci := 0) [.int x512, .int x514, .int x516] (site_of si_Q_wild (by decide) (by decide)) wd_838 wd_839 wd_840 d_QuotaLawsLaw_law_1096 rfl e518 (Nat.le_of_ble_eq_true rfl) (fun z => absurd z (by decide)) (fun z => absurd z (by decide)) (fun z => absurd z (by decide)) (c_Q_wild e521) rfl ?_
      refine g_st [.int x522] rfl ?_
      refine g_aload_n (pc := 1099) 2 d_QuotaLawsLaw_law_1099 rfl rfl ?_
      refine g_aload_n (pc := 1100) 0 d_QuotaLawsLaw_law_1100 rfl rfl ?_
      refine g_iload_n (pc := 1101) 3 d_QuotaLawsLaw_law_1101 rfl rfl ?_
      refine g_iconst (pc := 1102) (1 : Int32) d_QuotaLawsLaw_law_1102 (by decide) ?_
      refine g_iadd (pc := 1103) d_QuotaLawsLaw_law_1103 ?_
      obtain ⟨x523, e524, hf⟩ := bd1_e hf
      refine g_sld (pc := 1104) d_QuotaLawsLaw_law_1104 e524 ?_
      refine g_aload_n (pc := 1105) 0 d_QuotaLawsLaw_law_1105 rfl rfl ?_
      refine g_iload_n (pc := 1106) 3 d_QuotaLawsLaw_law_1106 rfl rfl ?_
      refine g_iconst (pc := 1107) (2 : Int32) d_QuotaLawsLaw_law_1107 (by decide) ?_
      refine g_iadd (pc := 1108) d_QuotaLawsLaw_law_1108 ?_
      obtain ⟨x525, e526, hf⟩ := bd1_e hf
      refine g_sld (pc := 1109) d_QuotaLawsLaw_law_1109 e526 ?_
      refine g_aload_n (pc := 1110) 0 d_QuotaLawsLaw_law_1110 rfl rfl ?_
      refine g_iload_n (pc := 1111) 3 d_QuotaLawsLaw_law_1111 rfl rfl ?_
      refine g_iconst (pc := 1112) (3 : Int32) d_QuotaLawsLaw_law_1112 (by decide) ?_
      refine g_iadd (pc := 1113) d_QuotaLawsLaw_law_1113 ?_
      obtain ⟨x527, e528, hf⟩ := bd1_e hf
      refine g_sld (pc := 1114) d_QuotaLawsLaw_law_1114 e528 ?_
      obtain ⟨u530, e529, hf⟩ := bd1_e hf
      obtain ⟨x533, h531, e532, hf⟩ := bd2_e hf
      refine g_callV (pc := 1115) (ci := 8) [.int x523, .int x525, .int x527] (site_of si_M_wild (by decide) (by decide)) wd_1373 wd_1374 wd_1375 d_QuotaLawsLaw_law_1115 rfl e529 (Nat.le_of_ble_eq_true rfl) (fun z => absurd z (by decide)) (fun z => absurd z (by decide)) (fun z => absurd z (by decide)) (c_M_wild e532) rfl ?_
      refine g_st [.int x533, .int x522] rfl ?_
      refine g_icmpeq (pc := 1118) 1344 d_QuotaLawsLaw_law_1118 (by decide) (fun c534 => ?_) (fun c534 => ?_)
      · replace hf := (if_pos c534).symm.trans hf
        refine g_lv [0, 1, 2, 3] rfl ?_
        exact t_QuotaLawsLaw_law_1344 rec18 hrec18 _ _ _ _ _ _  hf
      · replace hf := (if_neg c534).symm.trans hf
        refine g_iconst (pc := 1121) (0 : Int32) d_QuotaLawsLaw_law_1121 (by decide) ?_
        obtain ⟨rfl, rfl⟩ := ret2 hf
        exact g_zret (pc := 1122) rfl rfl d_QuotaLawsLaw_law_1122
    replace hf := (if_neg c511).symm.trans hf
    by_cases c535 : (x19 &&& (63 : Int32)) = (31 : Int32)
    · replace hf := (if_pos c535).symm.trans hf
      refine g_tabIn (pc := 32) 1123 (31 : Int32) d_QuotaLawsLaw_law_32 c535 (by decide) (by decide) rfl (by decide) ?_
      refine g_aload_n (pc := 1123) 1 d_QuotaLawsLaw_law_1123 rfl rfl ?_
      refine g_aload_n (pc := 1124) 0 d_QuotaLawsLaw_law_1124 rfl rfl ?_
      refine g_iload_n (pc := 1125) 3 d_QuotaLawsLaw_law_1125 rfl rfl ?_
      refine g_iconst (pc := 1126) (1 : Int32) d_QuotaLawsLaw_law_1126 (by decide) ?_
      refine g_iadd (pc := 1127) d_QuotaLawsLaw_law_1127 ?_
      obtain ⟨x536, e537, hf⟩ := bd1_e hf
      refine g_sld (pc := 1128) d_QuotaLawsLaw_law_1128 e537 ?_
      obtain ⟨u539, e538, hf⟩ := bd1_e hf
      obtain ⟨x542, h540, e541, hf⟩ := bd2_e hf
      refine g_callV (pc := 1129) (ci := 0) [.int x536] (site_of si_Q_keep (by decide) (by decide)) wd_854 wd_855 wd_856 d_QuotaLawsLaw_law_1129 rfl e538 (Nat.le_of_ble_eq_true rfl) (fun z => absurd z (by decide)) (fun z => absurd z (by decide)) (fun z => absurd z (by decide)) (c_Q_keep e541) rfl ?_
      refine g_st [.int x542] rfl ?_
      refine g_aload_n (pc := 1132) 2 d_QuotaLawsLaw_law_1132 rfl rfl ?_
      refine g_aload_n (pc := 1133) 0 d_QuotaLawsLaw_law_1133 rfl rfl ?_
      refine g_iload_n (pc := 1134) 3 d_QuotaLawsLaw_law_1134 rfl rfl ?_
      refine g_iconst (pc := 1135) (1 : Int32) d_QuotaLawsLaw_law_1135 (by decide) ?_
      refine g_iadd (pc := 1136) d_QuotaLawsLaw_law_1136 ?_
      obtain ⟨x543, e544, hf⟩ := bd1_e hf
      refine g_sld (pc := 1137) d_QuotaLawsLaw_law_1137 e544 ?_
      obtain ⟨u546, e545, hf⟩ := bd1_e hf
      obtain ⟨x549, h547, e548, hf⟩ := bd2_e hf
      refine g_callV (pc := 1138) (ci := 8) [.int x543] (site_of si_M_keep (by decide) (by decide)) wd_1380 wd_1381 wd_1382 d_QuotaLawsLaw_law_1138 rfl e545 (Nat.le_of_ble_eq_true rfl) (fun z => absurd z (by decide)) (fun z => absurd z (by decide)) (fun z => absurd z (by decide)) (c_M_keep e548) rfl ?_
      refine g_st [.int x549, .int x542] rfl ?_
      refine g_icmpeq (pc := 1141) 1344 d_QuotaLawsLaw_law_1141 (by decide) (fun c550 => ?_) (fun c550 => ?_)
      · replace hf := (if_pos c550).symm.trans hf
        refine g_lv [0, 1, 2, 3] rfl ?_
        exact t_QuotaLawsLaw_law_1344 rec18 hrec18 _ _ _ _ _ _  hf
      · replace hf := (if_neg c550).symm.trans hf
        refine g_iconst (pc := 1144) (0 : Int32) d_QuotaLawsLaw_law_1144 (by decide) ?_
        obtain ⟨rfl, rfl⟩ := ret2 hf
        exact g_zret (pc := 1145) rfl rfl d_QuotaLawsLaw_law_1145
    replace hf := (if_neg c535).symm.trans hf
    by_cases c551 : (x19 &&& (63 : Int32)) = (32 : Int32)
    · replace hf := (if_pos c551).symm.trans hf
      refine g_tabIn (pc := 32) 1146 (32 : Int32) d_QuotaLawsLaw_law_32 c551 (by decide) (by decide) rfl (by decide) ?_
      refine g_aload_n (pc := 1146) 1 d_QuotaLawsLaw_law_1146 rfl rfl ?_
      refine g_aload_n (pc := 1147) 0 d_QuotaLawsLaw_law_1147 rfl rfl ?_
      refine g_iload_n (pc := 1148) 3 d_QuotaLawsLaw_law_1148 rfl rfl ?_
      refine g_iconst (pc := 1149) (1 : Int32) d_QuotaLawsLaw_law_1149 (by decide) ?_
      refine g_iadd (pc := 1150) d_QuotaLawsLaw_law_1150 ?_
      obtain ⟨x552, e553, hf⟩ := bd1_e hf
      refine g_sld (pc := 1151) d_QuotaLawsLaw_law_1151 e553 ?_
      obtain ⟨u555, e554, hf⟩ := bd1_e hf
      obtain ⟨x558, h556, e557, hf⟩ := bd2_e hf
      refine g_callV (pc := 1152) (ci := 0) [.int x552] (site_of si_Q_back (by decide) (by decide)) wd_858 wd_859 wd_860 d_QuotaLawsLaw_law_1152 rfl e554 (Nat.le_of_ble_eq_true rfl) (fun z => absurd z (by decide)) (fun z => absurd z (by decide)) (fun z => absurd z (by decide)) (c_Q_back e557) rfl ?_
      refine g_st [.int x558] rfl ?_
      refine g_aload_n (pc := 1155) 2 d_QuotaLawsLaw_law_1155 rfl rfl ?_
      refine g_aload_n (pc := 1156) 0 d_QuotaLawsLaw_law_1156 rfl rfl ?_
      refine g_iload_n (pc := 1157) 3 d_QuotaLawsLaw_law_1157 rfl rfl ?_
      refine g_iconst (pc := 1158) (1 : Int32) d_QuotaLawsLaw_law_1158 (by decide) ?_
      refine g_iadd (pc := 1159) d_QuotaLawsLaw_law_1159 ?_
      obtain ⟨x559, e560, hf⟩ := bd1_e hf
      refine g_sld (pc := 1160) d_QuotaLawsLaw_law_1160 e560 ?_
      obtain ⟨u562, e561, hf⟩ := bd1_e hf
      obtain ⟨x565, h563, e564, hf⟩ := bd2_e hf
      refine g_callV (pc := 1161) (ci := 8) [.int x559] (site_of si_M_back (by decide) (by decide)) wd_1388 wd_1389 wd_1390 d_QuotaLawsLaw_law_1161 rfl e561 (Nat.le_of_ble_eq_true rfl) (fun z => absurd z (by decide)) (fun z => absurd z (by decide)) (fun z => absurd z (by decide)) (c_M_back e564) rfl ?_
      refine g_st [.int x565, .int x558] rfl ?_
      refine g_icmpeq (pc := 1164) 1344 d_QuotaLawsLaw_law_1164 (by decide) (fun c566 => ?_) (fun c566 => ?_)
      · replace hf := (if_pos c566).symm.trans hf
        refine g_lv [0, 1, 2, 3] rfl ?_
        exact t_QuotaLawsLaw_law_1344 rec18 hrec18 _ _ _ _ _ _  hf
      · replace hf := (if_neg c566).symm.trans hf
        refine g_iconst (pc := 1167) (0 : Int32) d_QuotaLawsLaw_law_1167 (by decide) ?_
        obtain ⟨rfl, rfl⟩ := ret2 hf
        exact g_zret (pc := 1168) rfl rfl d_QuotaLawsLaw_law_1168
    replace hf := (if_neg c551).symm.trans hf
    by_cases c567 : (x19 &&& (63 : Int32)) = (33 : Int32)
    · replace hf := (if_pos c567).symm.trans hf
      refine g_tabIn (pc := 32) 1169 (33 : Int32) d_QuotaLawsLaw_law_32 c567 (by decide) (by decide) rfl (by decide) ?_
      refine g_aload_n (pc := 1169) 1 d_QuotaLawsLaw_law_1169 rfl rfl ?_
      refine g_aload_n (pc := 1170) 0 d_QuotaLawsLaw_law_1170 rfl rfl ?_
      refine g_iload_n (pc := 1171) 3 d_QuotaLawsLaw_law_1171 rfl rfl ?_
      refine g_iconst (pc := 1172) (1 : Int32) d_QuotaLawsLaw_law_1172 (by decide) ?_
      refine g_iadd (pc := 1173) d_QuotaLawsLaw_law_1173 ?_
      obtain ⟨x568, e569, hf⟩ := bd1_e hf
      refine g_sld (pc := 1174) d_QuotaLawsLaw_law_1174 e569 ?_
      refine g_aload_n (pc := 1175) 0 d_QuotaLawsLaw_law_1175 rfl rfl ?_
      refine g_iload_n (pc := 1176) 3 d_QuotaLawsLaw_law_1176 rfl rfl ?_
      refine g_iconst (pc := 1177) (2 : Int32) d_QuotaLawsLaw_law_1177 (by decide) ?_
      refine g_iadd (pc := 1178) d_QuotaLawsLaw_law_1178 ?_
      obtain ⟨x570, e571, hf⟩ := bd1_e hf
      refine g_sld (pc := 1179) d_QuotaLawsLaw_law_1179 e571 ?_
      refine g_aload_n (pc := 1180) 0 d_QuotaLawsLaw_law_1180 rfl rfl ?_
      refine g_iload_n (pc := 1181) 3 d_QuotaLawsLaw_law_1181 rfl rfl ?_
      refine g_iconst (pc := 1182) (3 : Int32) d_QuotaLawsLaw_law_1182 (by decide) ?_
      refine g_iadd (pc := 1183) d_QuotaLawsLaw_law_1183 ?_
      obtain ⟨x572, e573, hf⟩ := bd1_e hf
      refine g_sld (pc := 1184) d_QuotaLawsLaw_law_1184 e573 ?_
      obtain ⟨u575, e574, hf⟩ := bd1_e hf
      obtain ⟨x578, h576, e577, hf⟩ := bd2_e hf
      refine g_callV (pc := 1185) (ci := 0) [.int x568, .int x570, .int x572] (site_of si_Q_sheet (by decide) (by decide)) wd_862 wd_863 wd_864 d_QuotaLawsLaw_law_1185 rfl e574 (Nat.le_of_ble_eq_true rfl) (fun z => absurd z (by decide)) (fun z => absurd z (by decide)) (fun z => absurd z (by decide)) (c_Q_sheet e577) rfl ?_
      refine g_st [.int x578] rfl ?_
      refine g_aload_n (pc := 1188) 2 d_QuotaLawsLaw_law_1188 rfl rfl ?_
      refine g_aload_n (pc := 1189) 0 d_QuotaLawsLaw_law_1189 rfl rfl ?_
      refine g_iload_n (pc := 1190) 3 d_QuotaLawsLaw_law_1190 rfl rfl ?_
      refine g_iconst (pc := 1191) (1 : Int32) d_QuotaLawsLaw_law_1191 (by decide) ?_
      refine g_iadd (pc := 1192) d_QuotaLawsLaw_law_1192 ?_
      obtain ⟨x579, e580, hf⟩ := bd1_e hf
      refine g_sld (pc := 1193) d_QuotaLawsLaw_law_1193 e580 ?_
      refine g_aload_n (pc := 1194) 0 d_QuotaLawsLaw_law_1194 rfl rfl ?_
      refine g_iload_n (pc := 1195) 3 d_QuotaLawsLaw_law_1195 rfl rfl ?_
      refine g_iconst (pc := 1196) (2 : Int32) d_QuotaLawsLaw_law_1196 (by decide) ?_
      refine g_iadd (pc := 1197) d_QuotaLawsLaw_law_1197 ?_
      obtain ⟨x581, e582, hf⟩ := bd1_e hf
      refine g_sld (pc := 1198) d_QuotaLawsLaw_law_1198 e582 ?_
      refine g_aload_n (pc := 1199) 0 d_QuotaLawsLaw_law_1199 rfl rfl ?_
      refine g_iload_n (pc := 1200) 3 d_QuotaLawsLaw_law_1200 rfl rfl ?_
      refine g_iconst (pc := 1201) (3 : Int32) d_QuotaLawsLaw_law_1201 (by decide) ?_
      refine g_iadd (pc := 1202) d_QuotaLawsLaw_law_1202 ?_
      obtain ⟨x583, e584, hf⟩ := bd1_e hf
      refine g_sld (pc := 1203) d_QuotaLawsLaw_law_1203 e584 ?_
      obtain ⟨u586, e585, hf⟩ := bd1_e hf
      obtain ⟨x589, h587, e588, hf⟩ := bd2_e hf
      refine g_callV (pc := 1204) (ci := 8) [.int x579, .int x581, .int x583] (site_of si_M_sheet (by decide) (by decide)) wd_1392 wd_1393 wd_1394 d_QuotaLawsLaw_law_1204 rfl e585 (Nat.le_of_ble_eq_true rfl) (fun z => absurd z (by decide)) (fun z => absurd z (by decide)) (fun z => absurd z (by decide)) (c_M_sheet e588) rfl ?_
      refine g_st [.int x589, .int x578] rfl ?_
      refine g_icmpeq (pc := 1207) 1344 d_QuotaLawsLaw_law_1207 (by decide) (fun c590 => ?_) (fun c590 => ?_)
      · replace hf := (if_pos c590).symm.trans hf
        refine g_lv [0, 1, 2, 3] rfl ?_
        exact t_QuotaLawsLaw_law_1344 rec18 hrec18 _ _ _ _ _ _  hf
      · replace hf := (if_neg c590).symm.trans hf
        refine g_iconst (pc := 1210) (0 : Int32) d_QuotaLawsLaw_law_1210 (by decide) ?_
        obtain ⟨rfl, rfl⟩ := ret2 hf
        exact g_zret (pc := 1211) rfl rfl d_QuotaLawsLaw_law_1211
    replace hf := (if_neg c567).symm.trans hf
    by_cases c591 : (x19 &&& (63 : Int32)) = (34 : Int32)
    · replace hf := (if_pos c591).symm.trans hf
      refine g_tabIn (pc := 32) 1212 (34 : Int32) d_QuotaLawsLaw_law_32 c591 (by decide) (by decide) rfl (by decide) ?_
      refine g_aload_n (pc := 1212) 1 d_QuotaLawsLaw_law_1212 rfl rfl ?_
      refine g_aload_n (pc := 1213) 0 d_QuotaLawsLaw_law_1213 rfl rfl ?_
      refine g_iload_n (pc := 1214) 3 d_QuotaLawsLaw_law_1214 rfl rfl ?_
      refine g_iconst (pc := 1215) (1 : Int32) d_QuotaLawsLaw_law_1215 (by decide) ?_
      refine g_iadd (pc := 1216) d_QuotaLawsLaw_law_1216 ?_
      obtain ⟨x592, e593, hf⟩ := bd1_e hf
      refine g_sld (pc := 1217) d_QuotaLawsLaw_law_1217 e593 ?_
      refine g_aload_n (pc := 1218) 0 d_QuotaLawsLaw_law_1218 rfl rfl ?_
      refine g_iload_n (pc := 1219) 3 d_QuotaLawsLaw_law_1219 rfl rfl ?_
      refine g_iconst (pc := 1220) (2 : Int32) d_QuotaLawsLaw_law_1220 (by decide) ?_
      refine g_iadd (pc := 1221) d_QuotaLawsLaw_law_1221 ?_
      obtain ⟨x594, e595, hf⟩ := bd1_e hf
      refine g_sld (pc := 1222) d_QuotaLawsLaw_law_1222 e595 ?_
      refine g_aload_n (pc := 1223) 0 d_QuotaLawsLaw_law_1223 rfl rfl ?_
      refine g_iload_n (pc := 1224) 3 d_QuotaLawsLaw_law_1224 rfl rfl ?_
      refine g_iconst (pc := 1225) (3 : Int32) d_QuotaLawsLaw_law_1225 (by decide) ?_
      refine g_iadd (pc := 1226) d_QuotaLawsLaw_law_1226 ?_
      obtain ⟨x596, e597, hf⟩ := bd1_e hf
      refine g_sld (pc := 1227) d_QuotaLawsLaw_law_1227 e597 ?_
      obtain ⟨u599, e598, hf⟩ := bd1_e hf
      obtain ⟨x602, h600, e601, hf⟩ := bd2_e hf
      refine g_callV (pc := 1228) (ci := 0) [.int x592, .int x594, .int x596] (site_of si_Q_lay (by decide) (by decide)) wd_871 wd_872 wd_873 d_QuotaLawsLaw_law_1228 rfl e598 (Nat.le_of_ble_eq_true rfl) (fun z => absurd z (by decide)) (fun z => absurd z (by decide)) (fun z => absurd z (by decide)) (c_Q_lay e601) rfl ?_
      refine g_st [.int x602] rfl ?_
      refine g_aload_n (pc := 1231) 2 d_QuotaLawsLaw_law_1231 rfl rfl ?_
      refine g_aload_n (pc := 1232) 0 d_QuotaLawsLaw_law_1232 rfl rfl ?_
      refine g_iload_n (pc := 1233) 3 d_QuotaLawsLaw_law_1233 rfl rfl ?_
      refine g_iconst (pc := 1234) (1 : Int32) d_QuotaLawsLaw_law_1234 (by decide) ?_
      refine g_iadd (pc := 1235) d_QuotaLawsLaw_law_1235 ?_
      obtain ⟨x603, e604, hf⟩ := bd1_e hf
      refine g_sld (pc := 1236) d_QuotaLawsLaw_law_1236 e604 ?_
      refine g_aload_n (pc := 1237) 0 d_QuotaLawsLaw_law_1237 rfl rfl ?_
      refine g_iload_n (pc := 1238) 3 d_QuotaLawsLaw_law_1238 rfl rfl ?_
      refine g_iconst (pc := 1239) (2 : Int32) d_QuotaLawsLaw_law_1239 (by decide) ?_
      refine g_iadd (pc := 1240) d_QuotaLawsLaw_law_1240 ?_
      obtain ⟨x605, e606, hf⟩ := bd1_e hf
      refine g_sld (pc := 1241) d_QuotaLawsLaw_law_1241 e606 ?_
      refine g_aload_n (pc := 1242) 0 d_QuotaLawsLaw_law_1242 rfl rfl ?_
      refine g_iload_n (pc := 1243) 3 d_QuotaLawsLaw_law_1243 rfl rfl ?_
      refine g_iconst (pc := 1244) (3 : Int32) d_QuotaLawsLaw_law_1244 (by decide) ?_
      refine g_iadd (pc := 1245) d_QuotaLawsLaw_law_1245 ?_
      obtain ⟨x607, e608, hf⟩ := bd1_e hf
      refine g_sld (pc := 1246) d_QuotaLawsLaw_law_1246 e608 ?_
      obtain ⟨u610, e609, hf⟩ := bd1_e hf
      obtain ⟨x613, h611, e612, hf⟩ := bd2_e hf
      refine g_callV (pc := 1247) (ci := 8) [.int x603, .int x605, .int x607] (site_of si_M_lay (by decide) (by decide)) wd_1399 wd_1400 wd_1401 d_QuotaLawsLaw_law_1247 rfl e609 (Nat.le_of_ble_eq_true rfl) (fun z => absurd z (by decide)) (fun z => absurd z (by decide)) (fun z => absurd z (by decide)) (c_M_lay e612) rfl ?_
      refine g_st [.int x613, .int x602] rfl ?_
      refine g_icmpeq (pc := 1250) 1344 d_QuotaLawsLaw_law_1250 (by decide) (fun c614 => ?_) (fun c614 => ?_)
      · replace hf := (if_pos c614).symm.trans hf
        refine g_lv [0, 1, 2, 3] rfl ?_
        exact t_QuotaLawsLaw_law_1344 rec18 hrec18 _ _ _ _ _ _  hf
      · replace hf := (if_neg c614).symm.trans hf
        refine g_iconst (pc := 1253) (0 : Int32) d_QuotaLawsLaw_law_1253 (by decide) ?_
        obtain ⟨rfl, rfl⟩ := ret2 hf
        exact g_zret (pc := 1254) rfl rfl d_QuotaLawsLaw_law_1254
    replace hf := (if_neg c591).symm.trans hf
    by_cases c615 : (x19 &&& (63 : Int32)) = (35 : Int32)
    · replace hf := (if_pos c615).symm.trans hf
      refine g_tabIn (pc := 32) 1255 (35 : Int32) d_QuotaLawsLaw_law_32 c615 (by decide) (by decide) rfl (by decide) ?_
      refine g_aload_n (pc := 1255) 1 d_QuotaLawsLaw_law_1255 rfl rfl ?_
      refine g_aload_n (pc := 1256) 0 d_QuotaLawsLaw_law_1256 rfl rfl ?_
      refine g_iload_n (pc := 1257) 3 d_QuotaLawsLaw_law_1257 rfl rfl ?_
      refine g_iconst (pc := 1258) (1 : Int32) d_QuotaLawsLaw_law_1258 (by decide) ?_
      refine g_iadd (pc := 1259) d_QuotaLawsLaw_law_1259 ?_
      obtain ⟨x616, e617, hf⟩ := bd1_e hf
      refine g_sld (pc := 1260) d_QuotaLawsLaw_law_1260 e617 ?_
      refine g_aload_n (pc := 1261) 0 d_QuotaLawsLaw_law_1261 rfl rfl ?_
      refine g_iload_n (pc := 1262) 3 d_QuotaLawsLaw_law_1262 rfl rfl ?_
      refine g_iconst (pc := 1263) (2 : Int32) d_QuotaLawsLaw_law_1263 (by decide) ?_
      refine g_iadd (pc := 1264) d_QuotaLawsLaw_law_1264 ?_
      obtain ⟨x618, e619, hf⟩ := bd1_e hf
      refine g_sld (pc := 1265) d_QuotaLawsLaw_law_1265 e619 ?_
      refine g_aload_n (pc := 1266) 0 d_QuotaLawsLaw_law_1266 rfl rfl ?_
      refine g_iload_n (pc := 1267) 3 d_QuotaLawsLaw_law_1267 rfl rfl ?_
      refine g_iconst (pc := 1268) (3 : Int32) d_QuotaLawsLaw_law_1268 (by decide) ?_
      refine g_iadd (pc := 1269) d_QuotaLawsLaw_law_1269 ?_
      obtain ⟨x620, e621, hf⟩ := bd1_e hf
      refine g_sld (pc := 1270) d_QuotaLawsLaw_law_1270 e621 ?_
      refine g_aload_n (pc := 1271) 0 d_QuotaLawsLaw_law_1271 rfl rfl ?_
      refine g_iload_n (pc := 1272) 3 d_QuotaLawsLaw_law_1272 rfl rfl ?_
      refine g_iconst (pc := 1273) (4 : Int32) d_QuotaLawsLaw_law_1273 (by decide) ?_
      refine g_iadd (pc := 1274) d_QuotaLawsLaw_law_1274 ?_
      obtain ⟨x622, e623, hf⟩ := bd1_e hf
      refine g_sld (pc := 1275) d_QuotaLawsLaw_law_1275 e623 ?_
      obtain ⟨u625, e624, hf⟩ := bd1_e hf
      obtain ⟨x628, h626, e627, hf⟩ := bd2_e hf
      refine g_callV (pc := 1276) (ci := 0) [.int x616, .int x618, .int x620, .int x622] (site_of si_Q_read (by decide) (by decide)) wd_883 wd_884 wd_885 d_QuotaLawsLaw_law_1276 rfl e624 (Nat.le_of_ble_eq_true rfl) (fun z => absurd z (by decide)) (fun z => absurd z (by decide)) (fun z => absurd z (by decide)) (c_Q_read e627) rfl ?_
      refine g_st [.int x628] rfl ?_
      refine g_aload_n (pc := 1279) 2 d_QuotaLawsLaw_law_1279 rfl rfl ?_
      refine g_aload_n (pc := 1280) 0 d_QuotaLawsLaw_law_1280 rfl rfl ?_
      refine g_iload_n (pc := 1281) 3 d_QuotaLawsLaw_law_1281 rfl rfl ?_
      refine g_iconst (pc := 1282) (1 : Int32) d_QuotaLawsLaw_law_1282 (by decide) ?_
      refine g_iadd (pc := 1283) d_QuotaLawsLaw_law_1283 ?_
      obtain ⟨x629, e630, hf⟩ := bd1_e hf
      refine g_sld (pc := 1284) d_QuotaLawsLaw_law_1284 e630 ?_
      refine g_aload_n (pc := 1285) 0 d_QuotaLawsLaw_law_1285 rfl rfl ?_
      refine g_iload_n (pc := 1286) 3 d_QuotaLawsLaw_law_1286 rfl rfl ?_
      refine g_iconst (pc := 1287) (2 : Int32) d_QuotaLawsLaw_law_1287 (by decide) ?_
      refine g_iadd (pc := 1288) d_QuotaLawsLaw_law_1288 ?_
      obtain ⟨x631, e632, hf⟩ := bd1_e hf
      refine g_sld (pc := 1289) d_QuotaLawsLaw_law_1289 e632 ?_
      refine g_aload_n (pc := 1290) 0 d_QuotaLawsLaw_law_1290 rfl rfl ?_
      refine g_iload_n (pc := 1291) 3 d_QuotaLawsLaw_law_1291 rfl rfl ?_
      refine g_iconst (pc := 1292) (3 : Int32) d_QuotaLawsLaw_law_1292 (by decide) ?_
      refine g_iadd (pc := 1293) d_QuotaLawsLaw_law_1293 ?_
      obtain ⟨x633, e634, hf⟩ := bd1_e hf
      refine g_sld (pc := 1294) d_QuotaLawsLaw_law_1294 e634 ?_
      refine g_aload_n (pc := 1295) 0 d_QuotaLawsLaw_law_1295 rfl rfl ?_
      refine g_iload_n (pc := 1296) 3 d_QuotaLawsLaw_law_1296 rfl rfl ?_
      refine g_iconst (pc := 1297) (4 : Int32) d_QuotaLawsLaw_law_1297 (by decide) ?_
      refine g_iadd (pc := 1298) d_QuotaLawsLaw_law_1298 ?_
      obtain ⟨x635, e636, hf⟩ := bd1_e hf
      refine g_sld (pc := 1299) d_QuotaLawsLaw_law_1299 e636 ?_
      obtain ⟨u638, e637, hf⟩ := bd1_e hf
      obtain ⟨x641, h639, e640, hf⟩ := bd2_e hf
      refine g_callV (pc := 1300) (ci := 8) [.int x629, .int x631, .int x633, .int x635] (site_of si_M_read (by decide) (by decide)) wd_1403 wd_1404 wd_1405 d_QuotaLawsLaw_law_1300 rfl e637 (Nat.le_of_ble_eq_true rfl) (fun z => absurd z (by decide)) (fun z => absurd z (by decide)) (fun z => absurd z (by decide)) (c_M_read e640) rfl ?_
      refine g_st [.int x641, .int x628] rfl ?_
      refine g_icmpeq (pc := 1303) 1344 d_QuotaLawsLaw_law_1303 (by decide) (fun c642 => ?_) (fun c642 => ?_)
      · replace hf := (if_pos c642).symm.trans hf
        refine g_lv [0, 1, 2, 3] rfl ?_
        exact t_QuotaLawsLaw_law_1344 rec18 hrec18 _ _ _ _ _ _  hf
      · replace hf := (if_neg c642).symm.trans hf
        refine g_iconst (pc := 1306) (0 : Int32) d_QuotaLawsLaw_law_1306 (by decide) ?_
        obtain ⟨rfl, rfl⟩ := ret2 hf
        exact g_zret (pc := 1307) rfl rfl d_QuotaLawsLaw_law_1307
    replace hf := (if_neg c615).symm.trans hf
    by_cases c643 : (x19 &&& (63 : Int32)) = (36 : Int32)
    · replace hf := (if_pos c643).symm.trans hf
      refine g_tabIn (pc := 32) 1308 (36 : Int32) d_QuotaLawsLaw_law_32 c643 (by decide) (by decide) rfl (by decide) ?_
      refine g_aload_n (pc := 1308) 1 d_QuotaLawsLaw_law_1308 rfl rfl ?_
      obtain ⟨u645, e644, hf⟩ := bd1_e hf
      obtain ⟨x648, h646, e647, hf⟩ := bd2_e hf
      refine g_callV (pc := 1309) (ci := 0) [] (site_of si_Q_torn (by decide) (by decide)) wd_900 wd_901 wd_902 d_QuotaLawsLaw_law_1309 rfl e644 (Nat.le_of_ble_eq_true rfl) (fun z => absurd z (by decide)) (fun z => absurd z (by decide)) (fun z => absurd z (by decide)) (c_Q_torn e647) rfl ?_
      refine g_st [.int x648] rfl ?_
      refine g_aload_n (pc := 1312) 2 d_QuotaLawsLaw_law_1312 rfl rfl ?_
      obtain ⟨u650, e649, hf⟩ := bd1_e hf
      obtain ⟨x653, h651, e652, hf⟩ := bd2_e hf
      refine g_callV (pc := 1313) (ci := 8) [] (site_of si_M_torn (by decide) (by decide)) wd_1407 wd_1408 wd_1409 d_QuotaLawsLaw_law_1313 rfl e649 (Nat.le_of_ble_eq_true rfl) (fun z => absurd z (by decide)) (fun z => absurd z (by decide)) (fun z => absurd z (by decide)) (c_M_torn e652) rfl ?_
      refine g_st [.int x653, .int x648] rfl ?_
      refine g_icmpeq (pc := 1316) 1344 d_QuotaLawsLaw_law_1316 (by decide) (fun c654 => ?_) (fun c654 => ?_)
      · replace hf := (if_pos c654).symm.trans hf
        refine g_lv [0, 1, 2, 3] rfl ?_
        exact t_QuotaLawsLaw_law_1344 rec18 hrec18 _ _ _ _ _ _  hf
      · replace hf := (if_neg c654).symm.trans hf
        refine g_iconst (pc := 1319) (0 : Int32) d_QuotaLawsLaw_law_1319 (by decide) ?_
        obtain ⟨rfl, rfl⟩ := ret2 hf
        exact g_zret (pc := 1320) rfl rfl d_QuotaLawsLaw_law_1320
    replace hf := (if_neg c643).symm.trans hf
    by_cases c655 : (x19 &&& (63 : Int32)) = (37 : Int32)
    · replace hf := (if_pos c655).symm.trans hf
      refine g_tabIn (pc := 32) 1321 (37 : Int32) d_QuotaLawsLaw_law_32 c655 (by decide) (by decide) rfl (by decide) ?_
      refine g_aload_n (pc := 1321) 1 d_QuotaLawsLaw_law_1321 rfl rfl ?_
      refine g_aload_n (pc := 1322) 0 d_QuotaLawsLaw_law_1322 rfl rfl ?_
      refine g_iload_n (pc := 1323) 3 d_QuotaLawsLaw_law_1323 rfl rfl ?_
      refine g_iconst (pc := 1324) (1 : Int32) d_QuotaLawsLaw_law_1324 (by decide) ?_
      refine g_iadd (pc := 1325) d_QuotaLawsLaw_law_1325 ?_
      obtain ⟨x656, e657, hf⟩ := bd1_e hf
      refine g_sld (pc := 1326) d_QuotaLawsLaw_law_1326 e657 ?_
      obtain ⟨u659, e658, hf⟩ := bd1_e hf
      obtain ⟨x662, h660, e661, hf⟩ := bd2_e hf
      refine g_callV (pc := 1327) (ci := 0) [.int x656] (site_of si_Q_count (by decide) (by decide)) wd_904 wd_905 wd_906 d_QuotaLawsLaw_law_1327 rfl e658 (Nat.le_of_ble_eq_true rfl) (fun z => absurd z (by decide)) (fun z => absurd z (by decide)) (fun z => absurd z (by decide)) (c_Q_count e661) rfl ?_
      refine g_st [.int x662] rfl ?_
      refine g_aload_n (pc := 1330) 2 d_QuotaLawsLaw_law_1330 rfl rfl ?_
      refine g_aload_n (pc := 1331) 0 d_QuotaLawsLaw_law_1331 rfl rfl ?_
      refine g_iload_n (pc := 1332) 3 d_QuotaLawsLaw_law_1332 rfl rfl ?_
      refine g_iconst (pc := 1333) (1 : Int32) d_QuotaLawsLaw_law_1333 (by decide) ?_
      refine g_iadd (pc := 1334) d_QuotaLawsLaw_law_1334 ?_
      obtain ⟨x663, e664, hf⟩ := bd1_e hf
      refine g_sld (pc := 1335) d_QuotaLawsLaw_law_1335 e664 ?_
      obtain ⟨u666, e665, hf⟩ := bd1_e hf
      obtain ⟨x669, h667, e668, hf⟩ := bd2_e hf
      refine g_callV (pc := 1336) (ci := 8) [.int x663] (site_of si_M_count (by decide) (by decide)) wd_1411 wd_1412 wd_1413 d_QuotaLawsLaw_law_1336 rfl e665 (Nat.le_of_ble_eq_true rfl) (fun z => absurd z (by decide)) (fun z => absurd z (by decide)) (fun z => absurd z (by decide)) (c_M_count e668) rfl ?_
      refine g_st [.int x669, .int x662] rfl ?_
      refine g_icmpeq (pc := 1339) 1344 d_QuotaLawsLaw_law_1339 (by decide) (fun c670 => ?_) (fun c670 => ?_)
      · replace hf := (if_pos c670).symm.trans hf
        refine g_lv [0, 1, 2, 3] rfl ?_
        exact t_QuotaLawsLaw_law_1344 rec18 hrec18 _ _ _ _ _ _  hf
      · replace hf := (if_neg c670).symm.trans hf
        refine g_iconst (pc := 1342) (0 : Int32) d_QuotaLawsLaw_law_1342 (by decide) ?_
        obtain ⟨rfl, rfl⟩ := ret2 hf
        exact g_zret (pc := 1343) rfl rfl d_QuotaLawsLaw_law_1343
    replace hf := (if_neg c655).symm.trans hf
    refine g_tabOut (pc := 32) 1344 38 d_QuotaLawsLaw_law_32 (by decide) (fun i hi => ?_) (by decide) ?_
    · rcases (show i = 0 ∨ i = 1 ∨ i = 2 ∨ i = 3 ∨ i = 4 ∨ i = 5 ∨ i = 6 ∨ i = 7 ∨ i = 8 ∨ i = 9 ∨ i = 10 ∨ i = 11 ∨ i = 12 ∨ i = 13 ∨ i = 14 ∨ i = 15 ∨ i = 16 ∨ i = 17 ∨ i = 18 ∨ i = 19 ∨ i = 20 ∨ i = 21 ∨ i = 22 ∨ i = 23 ∨ i = 24 ∨ i = 25 ∨ i = 26 ∨ i = 27 ∨ i = 28 ∨ i = 29 ∨ i = 30 ∨ i = 31 ∨ i = 32 ∨ i = 33 ∨ i = 34 ∨ i = 35 ∨ i = 36 ∨ i = 37 by omega) with rfl | rfl | rfl | rfl | rfl | rfl | rfl | rfl | rfl | rfl | rfl | rfl | rfl | rfl | rfl | rfl | rfl | rfl | rfl | rfl | rfl | rfl | rfl | rfl | rfl | rfl | rfl | rfl | rfl | rfl | rfl | rfl | rfl | rfl | rfl | rfl | rfl | rfl
      · exact c21
      · exact c37
      · exact c53
      · exact c65
      · exact c77
      · exact c93
      · exact c113
      · exact c133
      · exact c153
      · exact c173
      · exact c193
      · exact c199
      · exact c219
      · exact c227
      · exact c235
      · exact c255
      · exact c271
      · exact c291
      · exact c303
      · exact c315
      · exact c331
      · exact c347
      · exact c363
      · exact c379
      · exact c399
      · exact c415
      · exact c435
      · exact c459
      · exact c475
      · exact c487
      · exact c511
      · exact c535
      · exact c551
      · exact c567
      · exact c591
      · exact c615
      · exact c643
      · exact c655
    refine g_lv [0, 1, 2, 3] rfl ?_
    exact t_QuotaLawsLaw_law_1344 rec18 hrec18 _ _ _ _ _ _  hf
def f_QuotaLawsLaw_law_18 (sc : Nat × (Nat → Int32))  : Nat → Nat → Nat → Int32 → mH → Option (Int32 × mH)
  | 0 => fun _ _ _ _ => none
  | n + 1 => f_QuotaLawsLaw_law_18b sc  (f_QuotaLawsLaw_law_18 sc  n)
theorem t_QuotaLawsLaw_law_18 {sc : Nat × (Nat → Int32)}  : ∀ (n : Nat) (b1 : Nat) (b2 : Nat) (b3 : Int32) (h : mH) (r : Int32) (h' : mH) (hf : f_QuotaLawsLaw_law_18 sc  n b1 b2 b3 h = some (r, h')), G sc y_QuotaLawsLaw_law code 4 (some .boolean) 8 176 18 [(0, .ref 1300), (1, .ref b1), (2, .ref b2), (3, .int b3)] [] h (some (.int r)) h'
  | 0, _, _, _, _, _, _, hf => by cases hf
  | n + 1, _, _, _, _, _, _, hf => t_QuotaLawsLaw_law_18b  (f_QuotaLawsLaw_law_18 sc  n) (t_QuotaLawsLaw_law_18  n) _ _ _ _ _ _ hf
def f_QuotaLawsLaw_law_0 (sc : Nat × (Nat → Int32))   (h : mH) : Option (Int32 × mH) :=
  bd1 (mkn h 10 (.inr (0, [.null, .null, .null, .null, .null, .null, .null, .null, .null, .int 0]))) fun h1 =>
  grd (h.1 < h1.1) <|
  bd1 (f_Q_new h.1 h1) fun h6 =>
  grd (h6.1 ≤ 1000) <|
  grd (¬ h.1 = h6.1) <|
  bd1 (mkn h6 39 (.inr (8, [.null, .null, .int 0, .int 0, .null, .null, .null, .null, .null, .null, .int 0, .int 0, .null, .null, .null, .null, .null, .int 0, .int 0, .null, .int 0, .int 0, .int 0, .int 0, .int 0, .int 0, .int 0, .null, .null, .null, .null, .null, .null, .null, .null, .null, .null, .null, .int 0]))) fun h10 =>
  grd (h.1 < h10.1 ∧ h6.1 < h10.1) <|
  bd1 (f_M_new h6.1 h10) fun h16 =>
  grd (h16.1 ≤ 1000) <|
  f_QuotaLawsLaw_law_18 sc  FU h.1 h6.1 (0 : Int32) h16
set_option maxRecDepth 20000 in
theorem t_QuotaLawsLaw_law_0 {sc : Nat × (Nat → Int32)}   (h : mH) (r : Int32) (h' : mH) (hf : f_QuotaLawsLaw_law_0 sc   h = some (r, h')) : G sc y_QuotaLawsLaw_law code 4 (some .boolean) 8 176 0 [(0, .ref 1300)] [] h (some (.int r)) h' := by
  unfold f_QuotaLawsLaw_law_0 at hf
  obtain ⟨h1, e2, hf⟩ := bd1_e hf
  obtain ⟨g3, e4⟩ := mkn_e e2
  refine g_new (pc := 0) (ci := 0) rfl [.null, .null, .null, .null, .null, .null, .null, .null, .null, .int 0] ty_Q tyok_Q d_QuotaLawsLaw_law_0 rfl in_Q wd_18 wd_19 wd_1 (by decide) (by simp) g3 (okl_cons (okv_r (by omega)) (okl_nil)) (oks_nil) ?_
  rw [← e4]
  have h1_n : h1.1 = h.1 + 1 := by rw [e4]; rfl
  refine g_dup (pc := 3) d_QuotaLawsLaw_law_3 rfl ?_
  obtain ⟨g5, hf⟩ := grd_e hf
  obtain ⟨h6, e7, hf⟩ := bd1_e hf
  obtain ⟨g8, hf⟩ := grd_e hf
  refine g_callI (pc := 4) [] (site_of si_Q_new (by decide) (by decide)) rfl wd_20 wd_21 d_QuotaLawsLaw_law_4 (Nat.le_of_ble_eq_true rfl) (fun _ => rfl) (fun _ => (okl_cons (okv_r (by omega)) (okl_nil))) (fun _ => (oks_cons (okv_r (by omega)) (oks_nil))) (c_Q_new e7) rfl ?_
  refine g_st [.ref h.1] rfl ?_
  refine g_astore_n (pc := 7) [(1, .ref h.1), (0, .ref 1300)] d_QuotaLawsLaw_law_7 rfl (Nat.le_of_ble_eq_true rfl) rfl ?_
  obtain ⟨g9, hf⟩ := grd_e hf
  obtain ⟨h10, e11, hf⟩ := bd1_e hf
  obtain ⟨g12, e13⟩ := mkn_e e11
  refine g_new (pc := 8) (ci := 8) rfl [.null, .null, .int 0, .int 0, .null, .null, .null, .null, .null, .null, .int 0, .int 0, .null, .null, .null, .null, .null, .int 0, .int 0, .null, .int 0, .int 0, .int 0, .int 0, .int 0, .int 0, .int 0, .null, .null, .null, .null, .null, .null, .null, .null, .null, .null, .null, .int 0] ty_M tyok_M d_QuotaLawsLaw_law_8 rfl in_M wd_924 wd_925 wd_9 (by decide) (by simp) g12 (okl_cons (okv_r (by omega)) (okl_cons (okv_r (by omega)) (okl_nil))) (oks_nil) ?_
  rw [← e13]
  have h10_n : h10.1 = h6.1 + 1 := by rw [e13]; rfl
  refine g_dup (pc := 11) d_QuotaLawsLaw_law_11 rfl ?_
  obtain ⟨⟨g14, g15⟩, hf⟩ := grd_e hf
  obtain ⟨h16, e17, hf⟩ := bd1_e hf
  obtain ⟨g18, hf⟩ := grd_e hf
  refine g_callI (pc := 12) [] (site_of si_M_new (by decide) (by decide)) rfl wd_926 wd_927 d_QuotaLawsLaw_law_12 (Nat.le_of_ble_eq_true rfl) (fun _ => rfl) (fun _ => (okl_cons (okv_r (by omega)) (okl_cons (okv_r (by omega)) (okl_nil)))) (fun _ => (oks_cons (okv_r (by omega)) (oks_nil))) (c_M_new e17) rfl ?_
  refine g_st [.ref h6.1] rfl ?_
  refine g_astore_n (pc := 15) [(2, .ref h6.1), (1, .ref h.1), (0, .ref 1300)] d_QuotaLawsLaw_law_15 rfl (Nat.le_of_ble_eq_true rfl) rfl ?_
  refine g_iconst (pc := 16) (0 : Int32) d_QuotaLawsLaw_law_16 (by decide) ?_
  refine g_istore_n (pc := 17) [(3, .int (0 : Int32)), (2, .ref h6.1), (1, .ref h.1), (0, .ref 1300)] d_QuotaLawsLaw_law_17 rfl (Nat.le_of_ble_eq_true rfl) rfl ?_
  refine g_lv [3, 2, 1, 0] rfl ?_
  exact t_QuotaLawsLaw_law_18  FU _ _ _ _ _ _  hf
def f_QuotaLawsLaw_law (sc : Nat × (Nat → Int32)) (h : mH) : Option (Int32 × mH) := f_QuotaLawsLaw_law_0 sc  h
theorem c_QuotaLawsLaw_law {sc : Nat × (Nat → Int32)}  {h : mH} {r : Int32} {h' : mH} (hf : f_QuotaLawsLaw_law sc  h = some (r, h')) : MM sc y_QuotaLawsLaw_law code 4 (some .boolean) 8 176 [.ref 1300] h (some (.int r)) h' :=
  mm_of_G (by decide) (Nat.le_of_ble_eq_true rfl) (t_QuotaLawsLaw_law_0 _ _ _ hf)
