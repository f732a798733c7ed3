/-! HeronTalkLaw.law([I)Z -/
abbrev M_L_law : jM := (RL, cL_law, 4, (some .boolean), "law", 16, 395)
theorem dL_law_0 : dI cL_law 0 3 (.new 7) 3 := ⟨by decide +kernel, rfl⟩
theorem dL_law_3 : dI cL_law 3 4 (.dup) 1 := ⟨by decide +kernel, rfl⟩
theorem dL_law_4 : decode cL_law 4 = .ok (.invokespecial 9, 3) := by decide +kernel
theorem dL_law_7 : dI cL_law 7 8 (.astore_n 1) 1 := ⟨by decide +kernel, rfl⟩
theorem dL_law_8 : dI cL_law 8 11 (.new 10) 3 := ⟨by decide +kernel, rfl⟩
theorem dL_law_11 : dI cL_law 11 12 (.dup) 1 := ⟨by decide +kernel, rfl⟩
theorem dL_law_12 : decode cL_law 12 = .ok (.invokespecial 12, 3) := by decide +kernel
theorem dL_law_15 : dI cL_law 15 16 (.astore_n 2) 1 := ⟨by decide +kernel, rfl⟩
theorem dL_law_16 : dI cL_law 16 17 (.iconst 0) 1 := ⟨by decide +kernel, rfl⟩
theorem dL_law_17 : dI cL_law 17 18 (.istore_n 3) 1 := ⟨by decide +kernel, rfl⟩
theorem dL_law_18 : dI cL_law 18 19 (.iload_n 3) 1 := ⟨by decide +kernel, rfl⟩
theorem dL_law_19 : dI cL_law 19 20 (.aload_n 0) 1 := ⟨by decide +kernel, rfl⟩
theorem dL_law_20 : dI cL_law 20 21 (.arraylength) 1 := ⟨by decide +kernel, rfl⟩
theorem dL_law_21 : dI cL_law 21 23 (.bipush 6) 2 := ⟨by decide +kernel, rfl⟩
theorem dL_law_23 : dI cL_law 23 24 (.isub) 1 := ⟨by decide +kernel, rfl⟩
theorem dL_law_24 : decode cL_law 24 = .ok (.if_icmp .gt 1451, 3) := by decide +kernel
theorem dL_law_27 : dI cL_law 27 28 (.aload_n 0) 1 := ⟨by decide +kernel, rfl⟩
theorem dL_law_28 : dI cL_law 28 29 (.iload_n 3) 1 := ⟨by decide +kernel, rfl⟩
theorem dL_law_29 : dI cL_law 29 30 (.iaload) 1 := ⟨by decide +kernel, rfl⟩
theorem dL_law_30 : dI cL_law 30 32 (.bipush 63) 2 := ⟨by decide +kernel, rfl⟩
theorem dL_law_32 : dI cL_law 32 33 (.iand) 1 := ⟨by decide +kernel, rfl⟩
theorem dL_law_33 : decode cL_law 33 = .ok (.tableswitch 1436 0 42 #[187, 210, 243, 286, 299, 332, 375, 418, 451, 464, 487, 510, 553, 586, 619, 652, 675, 688, 701, 714, 767, 800, 833, 856, 869, 912, 935, 948, 981, 1004, 1047, 1090, 1113, 1136, 1199, 1242, 1275, 1308, 1341, 1364, 1387, 1400, 1413], 187) := by decide +kernel
theorem dL_law_220 : dI cL_law 220 221 (.aload_n 1) 1 := ⟨by decide +kernel, rfl⟩
theorem dL_law_221 : dI cL_law 221 222 (.aload_n 0) 1 := ⟨by decide +kernel, rfl⟩
theorem dL_law_222 : dI cL_law 222 223 (.iload_n 3) 1 := ⟨by decide +kernel, rfl⟩
theorem dL_law_223 : dI cL_law 223 224 (.iconst 1) 1 := ⟨by decide +kernel, rfl⟩
theorem dL_law_224 : dI cL_law 224 225 (.iadd) 1 := ⟨by decide +kernel, rfl⟩
theorem dL_law_225 : dI cL_law 225 226 (.iaload) 1 := ⟨by decide +kernel, rfl⟩
theorem dL_law_226 : decode cL_law 226 = .ok (.invokevirtual 13, 3) := by decide +kernel
theorem dL_law_229 : dI cL_law 229 230 (.aload_n 2) 1 := ⟨by decide +kernel, rfl⟩
theorem dL_law_230 : dI cL_law 230 231 (.aload_n 0) 1 := ⟨by decide +kernel, rfl⟩
theorem dL_law_231 : dI cL_law 231 232 (.iload_n 3) 1 := ⟨by decide +kernel, rfl⟩
theorem dL_law_232 : dI cL_law 232 233 (.iconst 1) 1 := ⟨by decide +kernel, rfl⟩
theorem dL_law_233 : dI cL_law 233 234 (.iadd) 1 := ⟨by decide +kernel, rfl⟩
theorem dL_law_234 : dI cL_law 234 235 (.iaload) 1 := ⟨by decide +kernel, rfl⟩
theorem dL_law_235 : decode cL_law 235 = .ok (.invokevirtual 17, 3) := by decide +kernel
theorem dL_law_238 : decode cL_law 238 = .ok (.if_icmp .eq 1231, 3) := by decide +kernel
theorem dL_law_241 : dI cL_law 241 242 (.iconst 0) 1 := ⟨by decide +kernel, rfl⟩
theorem dL_law_242 : dI cL_law 242 243 (.ireturn) 1 := ⟨by decide +kernel, rfl⟩
theorem dL_law_243 : dI cL_law 243 244 (.aload_n 1) 1 := ⟨by decide +kernel, rfl⟩
theorem dL_law_244 : dI cL_law 244 245 (.aload_n 0) 1 := ⟨by decide +kernel, rfl⟩
theorem dL_law_245 : dI cL_law 245 246 (.iload_n 3) 1 := ⟨by decide +kernel, rfl⟩
theorem dL_law_246 : dI cL_law 246 247 (.iconst 1) 1 := ⟨by decide +kernel, rfl⟩
theorem dL_law_247 : dI cL_law 247 248 (.iadd) 1 := ⟨by decide +kernel, rfl⟩
theorem dL_law_248 : dI cL_law 248 249 (.iaload) 1 := ⟨by decide +kernel, rfl⟩
theorem dL_law_249 : dI cL_law 249 250 (.aload_n 0) 1 := ⟨by decide +kernel, rfl⟩
theorem dL_law_250 : dI cL_law 250 251 (.iload_n 3) 1 := ⟨by decide +kernel, rfl⟩
theorem dL_law_251 : dI cL_law 251 252 (.iconst 2) 1 := ⟨by decide +kernel, rfl⟩
theorem dL_law_252 : dI cL_law 252 253 (.iadd) 1 := ⟨by decide +kernel, rfl⟩
theorem dL_law_253 : dI cL_law 253 254 (.iaload) 1 := ⟨by decide +kernel, rfl⟩
theorem dL_law_254 : decode cL_law 254 = .ok (.invokevirtual 18, 3) := by decide +kernel
theorem dL_law_257 : dI cL_law 257 258 (.aload_n 2) 1 := ⟨by decide +kernel, rfl⟩
theorem dL_law_258 : dI cL_law 258 259 (.aload_n 0) 1 := ⟨by decide +kernel, rfl⟩
theorem dL_law_259 : dI cL_law 259 260 (.iload_n 3) 1 := ⟨by decide +kernel, rfl⟩
theorem dL_law_260 : dI cL_law 260 261 (.iconst 1) 1 := ⟨by decide +kernel, rfl⟩
theorem dL_law_261 : dI cL_law 261 262 (.iadd) 1 := ⟨by decide +kernel, rfl⟩
theorem dL_law_262 : dI cL_law 262 263 (.iaload) 1 := ⟨by decide +kernel, rfl⟩
theorem dL_law_263 : dI cL_law 263 264 (.aload_n 0) 1 := ⟨by decide +kernel, rfl⟩
theorem dL_law_264 : dI cL_law 264 265 (.iload_n 3) 1 := ⟨by decide +kernel, rfl⟩
theorem dL_law_265 : dI cL_law 265 266 (.iconst 2) 1 := ⟨by decide +kernel, rfl⟩
theorem dL_law_266 : dI cL_law 266 267 (.iadd) 1 := ⟨by decide +kernel, rfl⟩
theorem dL_law_267 : dI cL_law 267 268 (.iaload) 1 := ⟨by decide +kernel, rfl⟩
theorem dL_law_268 : decode cL_law 268 = .ok (.invokevirtual 22, 3) := by decide +kernel
theorem dL_law_271 : decode cL_law 271 = .ok (.if_icmp .eq 1198, 3) := by decide +kernel
theorem dL_law_274 : dI cL_law 274 275 (.iconst 0) 1 := ⟨by decide +kernel, rfl⟩
theorem dL_law_275 : dI cL_law 275 276 (.ireturn) 1 := ⟨by decide +kernel, rfl⟩
theorem dL_law_276 : dI cL_law 276 277 (.aload_n 1) 1 := ⟨by decide +kernel, rfl⟩
theorem dL_law_277 : dI cL_law 277 278 (.aload_n 0) 1 := ⟨by decide +kernel, rfl⟩
theorem dL_law_278 : dI cL_law 278 279 (.iload_n 3) 1 := ⟨by decide +kernel, rfl⟩
theorem dL_law_279 : dI cL_law 279 280 (.iconst 1) 1 := ⟨by decide +kernel, rfl⟩
theorem dL_law_280 : dI cL_law 280 281 (.iadd) 1 := ⟨by decide +kernel, rfl⟩
theorem dL_law_281 : dI cL_law 281 282 (.iaload) 1 := ⟨by decide +kernel, rfl⟩
theorem dL_law_282 : dI cL_law 282 283 (.aload_n 0) 1 := ⟨by decide +kernel, rfl⟩
theorem dL_law_283 : dI cL_law 283 284 (.iload_n 3) 1 := ⟨by decide +kernel, rfl⟩
theorem dL_law_284 : dI cL_law 284 285 (.iconst 2) 1 := ⟨by decide +kernel, rfl⟩
theorem dL_law_285 : dI cL_law 285 286 (.iadd) 1 := ⟨by decide +kernel, rfl⟩
theorem dL_law_286 : dI cL_law 286 287 (.iaload) 1 := ⟨by decide +kernel, rfl⟩
theorem dL_law_287 : dI cL_law 287 288 (.aload_n 0) 1 := ⟨by decide +kernel, rfl⟩
theorem dL_law_288 : dI cL_law 288 289 (.iload_n 3) 1 := ⟨by decide +kernel, rfl⟩
theorem dL_law_289 : dI cL_law 289 290 (.iconst 3) 1 := ⟨by decide +kernel, rfl⟩
theorem dL_law_290 : dI cL_law 290 291 (.iadd) 1 := ⟨by decide +kernel, rfl⟩
theorem dL_law_291 : dI cL_law 291 292 (.iaload) 1 := ⟨by decide +kernel, rfl⟩
theorem dL_law_292 : decode cL_law 292 = .ok (.invokevirtual 23, 3) := by decide +kernel
theorem dL_law_295 : dI cL_law 295 296 (.aload_n 2) 1 := ⟨by decide +kernel, rfl⟩
theorem dL_law_296 : dI cL_law 296 297 (.aload_n 0) 1 := ⟨by decide +kernel, rfl⟩
theorem dL_law_297 : dI cL_law 297 298 (.iload_n 3) 1 := ⟨by decide +kernel, rfl⟩
theorem dL_law_298 : dI cL_law 298 299 (.iconst 1) 1 := ⟨by decide +kernel, rfl⟩
theorem dL_law_299 : dI cL_law 299 300 (.iadd) 1 := ⟨by decide +kernel, rfl⟩
theorem dL_law_300 : dI cL_law 300 301 (.iaload) 1 := ⟨by decide +kernel, rfl⟩
theorem dL_law_301 : dI cL_law 301 302 (.aload_n 0) 1 := ⟨by decide +kernel, rfl⟩
theorem dL_law_302 : dI cL_law 302 303 (.iload_n 3) 1 := ⟨by decide +kernel, rfl⟩
theorem dL_law_303 : dI cL_law 303 304 (.iconst 2) 1 := ⟨by decide +kernel, rfl⟩
theorem dL_law_304 : dI cL_law 304 305 (.iadd) 1 := ⟨by decide +kernel, rfl⟩
theorem dL_law_305 : dI cL_law 305 306 (.iaload) 1 := ⟨by decide +kernel, rfl⟩
theorem dL_law_306 : dI cL_law 306 307 (.aload_n 0) 1 := ⟨by decide +kernel, rfl⟩
theorem dL_law_307 : dI cL_law 307 308 (.iload_n 3) 1 := ⟨by decide +kernel, rfl⟩
theorem dL_law_308 : dI cL_law 308 309 (.iconst 3) 1 := ⟨by decide +kernel, rfl⟩
theorem dL_law_309 : dI cL_law 309 310 (.iadd) 1 := ⟨by decide +kernel, rfl⟩
theorem dL_law_310 : dI cL_law 310 311 (.iaload) 1 := ⟨by decide +kernel, rfl⟩
theorem dL_law_311 : decode cL_law 311 = .ok (.invokevirtual 27, 3) := by decide +kernel
theorem dL_law_314 : decode cL_law 314 = .ok (.if_icmp .eq 1155, 3) := by decide +kernel
theorem dL_law_317 : dI cL_law 317 318 (.iconst 0) 1 := ⟨by decide +kernel, rfl⟩
theorem dL_law_318 : dI cL_law 318 319 (.ireturn) 1 := ⟨by decide +kernel, rfl⟩
theorem dL_law_319 : dI cL_law 319 320 (.aload_n 1) 1 := ⟨by decide +kernel, rfl⟩
theorem dL_law_320 : decode cL_law 320 = .ok (.invokevirtual 28, 3) := by decide +kernel
theorem dL_law_323 : dI cL_law 323 324 (.aload_n 2) 1 := ⟨by decide +kernel, rfl⟩
theorem dL_law_324 : decode cL_law 324 = .ok (.invokevirtual 32, 3) := by decide +kernel
theorem dL_law_327 : decode cL_law 327 = .ok (.if_icmp .eq 1142, 3) := by decide +kernel
theorem dL_law_330 : dI cL_law 330 331 (.iconst 0) 1 := ⟨by decide +kernel, rfl⟩
theorem dL_law_331 : dI cL_law 331 332 (.ireturn) 1 := ⟨by decide +kernel, rfl⟩
theorem dL_law_332 : dI cL_law 332 333 (.aload_n 1) 1 := ⟨by decide +kernel, rfl⟩
theorem dL_law_333 : dI cL_law 333 334 (.aload_n 0) 1 := ⟨by decide +kernel, rfl⟩
theorem dL_law_334 : dI cL_law 334 335 (.iload_n 3) 1 := ⟨by decide +kernel, rfl⟩
theorem dL_law_335 : dI cL_law 335 336 (.iconst 1) 1 := ⟨by decide +kernel, rfl⟩
theorem dL_law_336 : dI cL_law 336 337 (.iadd) 1 := ⟨by decide +kernel, rfl⟩
theorem dL_law_337 : dI cL_law 337 338 (.iaload) 1 := ⟨by decide +kernel, rfl⟩
theorem dL_law_338 : dI cL_law 338 339 (.aload_n 0) 1 := ⟨by decide +kernel, rfl⟩
theorem dL_law_339 : dI cL_law 339 340 (.iload_n 3) 1 := ⟨by decide +kernel, rfl⟩
theorem dL_law_340 : dI cL_law 340 341 (.iconst 2) 1 := ⟨by decide +kernel, rfl⟩
theorem dL_law_341 : dI cL_law 341 342 (.iadd) 1 := ⟨by decide +kernel, rfl⟩
theorem dL_law_342 : dI cL_law 342 343 (.iaload) 1 := ⟨by decide +kernel, rfl⟩
theorem dL_law_343 : decode cL_law 343 = .ok (.invokevirtual 33, 3) := by decide +kernel
theorem dL_law_346 : dI cL_law 346 347 (.aload_n 2) 1 := ⟨by decide +kernel, rfl⟩
theorem dL_law_347 : dI cL_law 347 348 (.aload_n 0) 1 := ⟨by decide +kernel, rfl⟩
theorem dL_law_348 : dI cL_law 348 349 (.iload_n 3) 1 := ⟨by decide +kernel, rfl⟩
theorem dL_law_349 : dI cL_law 349 350 (.iconst 1) 1 := ⟨by decide +kernel, rfl⟩
theorem dL_law_350 : dI cL_law 350 351 (.iadd) 1 := ⟨by decide +kernel, rfl⟩
theorem dL_law_351 : dI cL_law 351 352 (.iaload) 1 := ⟨by decide +kernel, rfl⟩
theorem dL_law_352 : dI cL_law 352 353 (.aload_n 0) 1 := ⟨by decide +kernel, rfl⟩
theorem dL_law_353 : dI cL_law 353 354 (.iload_n 3) 1 := ⟨by decide +kernel, rfl⟩
theorem dL_law_354 : dI cL_law 354 355 (.iconst 2) 1 := ⟨by decide +kernel, rfl⟩
theorem dL_law_355 : dI cL_law 355 356 (.iadd) 1 := ⟨by decide +kernel, rfl⟩
theorem dL_law_356 : dI cL_law 356 357 (.iaload) 1 := ⟨by decide +kernel, rfl⟩
theorem dL_law_357 : decode cL_law 357 = .ok (.invokevirtual 36, 3) := by decide +kernel
theorem dL_law_360 : decode cL_law 360 = .ok (.if_icmp .eq 1109, 3) := by decide +kernel
theorem dL_law_363 : dI cL_law 363 364 (.iconst 0) 1 := ⟨by decide +kernel, rfl⟩
theorem dL_law_364 : dI cL_law 364 365 (.ireturn) 1 := ⟨by decide +kernel, rfl⟩
theorem dL_law_365 : dI cL_law 365 366 (.aload_n 1) 1 := ⟨by decide +kernel, rfl⟩
theorem dL_law_366 : dI cL_law 366 367 (.aload_n 0) 1 := ⟨by decide +kernel, rfl⟩
theorem dL_law_367 : dI cL_law 367 368 (.iload_n 3) 1 := ⟨by decide +kernel, rfl⟩
theorem dL_law_368 : dI cL_law 368 369 (.iconst 1) 1 := ⟨by decide +kernel, rfl⟩
theorem dL_law_369 : dI cL_law 369 370 (.iadd) 1 := ⟨by decide +kernel, rfl⟩
theorem dL_law_370 : dI cL_law 370 371 (.iaload) 1 := ⟨by decide +kernel, rfl⟩
theorem dL_law_371 : dI cL_law 371 372 (.aload_n 0) 1 := ⟨by decide +kernel, rfl⟩
theorem dL_law_372 : dI cL_law 372 373 (.iload_n 3) 1 := ⟨by decide +kernel, rfl⟩
theorem dL_law_373 : dI cL_law 373 374 (.iconst 2) 1 := ⟨by decide +kernel, rfl⟩
theorem dL_law_374 : dI cL_law 374 375 (.iadd) 1 := ⟨by decide +kernel, rfl⟩
theorem dL_law_375 : dI cL_law 375 376 (.iaload) 1 := ⟨by decide +kernel, rfl⟩
theorem dL_law_376 : dI cL_law 376 377 (.aload_n 0) 1 := ⟨by decide +kernel, rfl⟩
theorem dL_law_377 : dI cL_law 377 378 (.iload_n 3) 1 := ⟨by decide +kernel, rfl⟩
theorem dL_law_378 : dI cL_law 378 379 (.iconst 3) 1 := ⟨by decide +kernel, rfl⟩
theorem dL_law_379 : dI cL_law 379 380 (.iadd) 1 := ⟨by decide +kernel, rfl⟩
theorem dL_law_380 : dI cL_law 380 381 (.iaload) 1 := ⟨by decide +kernel, rfl⟩
theorem dL_law_381 : decode cL_law 381 = .ok (.invokevirtual 37, 3) := by decide +kernel
theorem dL_law_384 : dI cL_law 384 385 (.aload_n 2) 1 := ⟨by decide +kernel, rfl⟩
theorem dL_law_385 : dI cL_law 385 386 (.aload_n 0) 1 := ⟨by decide +kernel, rfl⟩
theorem dL_law_386 : dI cL_law 386 387 (.iload_n 3) 1 := ⟨by decide +kernel, rfl⟩
theorem dL_law_387 : dI cL_law 387 388 (.iconst 1) 1 := ⟨by decide +kernel, rfl⟩
theorem dL_law_388 : dI cL_law 388 389 (.iadd) 1 := ⟨by decide +kernel, rfl⟩
theorem dL_law_389 : dI cL_law 389 390 (.iaload) 1 := ⟨by decide +kernel, rfl⟩
theorem dL_law_390 : dI cL_law 390 391 (.aload_n 0) 1 := ⟨by decide +kernel, rfl⟩
theorem dL_law_391 : dI cL_law 391 392 (.iload_n 3) 1 := ⟨by decide +kernel, rfl⟩
theorem dL_law_392 : dI cL_law 392 393 (.iconst 2) 1 := ⟨by decide +kernel, rfl⟩
theorem dL_law_393 : dI cL_law 393 394 (.iadd) 1 := ⟨by decide +kernel, rfl⟩
theorem dL_law_394 : dI cL_law 394 395 (.iaload) 1 := ⟨by decide +kernel, rfl⟩
theorem dL_law_395 : dI cL_law 395 396 (.aload_n 0) 1 := ⟨by decide +kernel, rfl⟩
theorem dL_law_396 : dI cL_law 396 397 (.iload_n 3) 1 := ⟨by decide +kernel, rfl⟩
theorem dL_law_397 : dI cL_law 397 398 (.iconst 3) 1 := ⟨by decide +kernel, rfl⟩
theorem dL_law_398 : dI cL_law 398 399 (.iadd) 1 := ⟨by decide +kernel, rfl⟩
theorem dL_law_399 : dI cL_law 399 400 (.iaload) 1 := ⟨by decide +kernel, rfl⟩
theorem dL_law_400 : decode cL_law 400 = .ok (.invokevirtual 40, 3) := by decide +kernel
theorem dL_law_403 : decode cL_law 403 = .ok (.if_icmp .eq 1066, 3) := by decide +kernel
theorem dL_law_406 : dI cL_law 406 407 (.iconst 0) 1 := ⟨by decide +kernel, rfl⟩
theorem dL_law_407 : dI cL_law 407 408 (.ireturn) 1 := ⟨by decide +kernel, rfl⟩
theorem dL_law_408 : dI cL_law 408 409 (.aload_n 1) 1 := ⟨by decide +kernel, rfl⟩
theorem dL_law_409 : dI cL_law 409 410 (.aload_n 0) 1 := ⟨by decide +kernel, rfl⟩
theorem dL_law_410 : dI cL_law 410 411 (.iload_n 3) 1 := ⟨by decide +kernel, rfl⟩
theorem dL_law_411 : dI cL_law 411 412 (.iconst 1) 1 := ⟨by decide +kernel, rfl⟩
theorem dL_law_412 : dI cL_law 412 413 (.iadd) 1 := ⟨by decide +kernel, rfl⟩
theorem dL_law_413 : dI cL_law 413 414 (.iaload) 1 := ⟨by decide +kernel, rfl⟩
theorem dL_law_414 : dI cL_law 414 415 (.aload_n 0) 1 := ⟨by decide +kernel, rfl⟩
theorem dL_law_415 : dI cL_law 415 416 (.iload_n 3) 1 := ⟨by decide +kernel, rfl⟩
theorem dL_law_416 : dI cL_law 416 417 (.iconst 2) 1 := ⟨by decide +kernel, rfl⟩
theorem dL_law_417 : dI cL_law 417 418 (.iadd) 1 := ⟨by decide +kernel, rfl⟩
theorem dL_law_418 : dI cL_law 418 419 (.iaload) 1 := ⟨by decide +kernel, rfl⟩
theorem dL_law_419 : dI cL_law 419 420 (.aload_n 0) 1 := ⟨by decide +kernel, rfl⟩
theorem dL_law_420 : dI cL_law 420 421 (.iload_n 3) 1 := ⟨by decide +kernel, rfl⟩
theorem dL_law_421 : dI cL_law 421 422 (.iconst 3) 1 := ⟨by decide +kernel, rfl⟩
theorem dL_law_422 : dI cL_law 422 423 (.iadd) 1 := ⟨by decide +kernel, rfl⟩
theorem dL_law_423 : dI cL_law 423 424 (.iaload) 1 := ⟨by decide +kernel, rfl⟩
theorem dL_law_424 : decode cL_law 424 = .ok (.invokevirtual 41, 3) := by decide +kernel
theorem dL_law_427 : dI cL_law 427 428 (.aload_n 2) 1 := ⟨by decide +kernel, rfl⟩
theorem dL_law_428 : dI cL_law 428 429 (.aload_n 0) 1 := ⟨by decide +kernel, rfl⟩
theorem dL_law_429 : dI cL_law 429 430 (.iload_n 3) 1 := ⟨by decide +kernel, rfl⟩
theorem dL_law_430 : dI cL_law 430 431 (.iconst 1) 1 := ⟨by decide +kernel, rfl⟩
theorem dL_law_431 : dI cL_law 431 432 (.iadd) 1 := ⟨by decide +kernel, rfl⟩
theorem dL_law_432 : dI cL_law 432 433 (.iaload) 1 := ⟨by decide +kernel, rfl⟩
theorem dL_law_433 : dI cL_law 433 434 (.aload_n 0) 1 := ⟨by decide +kernel, rfl⟩
theorem dL_law_434 : dI cL_law 434 435 (.iload_n 3) 1 := ⟨by decide +kernel, rfl⟩
theorem dL_law_435 : dI cL_law 435 436 (.iconst 2) 1 := ⟨by decide +kernel, rfl⟩
theorem dL_law_436 : dI cL_law 436 437 (.iadd) 1 := ⟨by decide +kernel, rfl⟩
theorem dL_law_437 : dI cL_law 437 438 (.iaload) 1 := ⟨by decide +kernel, rfl⟩
theorem dL_law_438 : dI cL_law 438 439 (.aload_n 0) 1 := ⟨by decide +kernel, rfl⟩
theorem dL_law_439 : dI cL_law 439 440 (.iload_n 3) 1 := ⟨by decide +kernel, rfl⟩
theorem dL_law_440 : dI cL_law 440 441 (.iconst 3) 1 := ⟨by decide +kernel, rfl⟩
theorem dL_law_441 : dI cL_law 441 442 (.iadd) 1 := ⟨by decide +kernel, rfl⟩
theorem dL_law_442 : dI cL_law 442 443 (.iaload) 1 := ⟨by decide +kernel, rfl⟩
theorem dL_law_443 : decode cL_law 443 = .ok (.invokevirtual 44, 3) := by decide +kernel
theorem dL_law_446 : decode cL_law 446 = .ok (.if_icmp .eq 1023, 3) := by decide +kernel
theorem dL_law_449 : dI cL_law 449 450 (.iconst 0) 1 := ⟨by decide +kernel, rfl⟩
theorem dL_law_450 : dI cL_law 450 451 (.ireturn) 1 := ⟨by decide +kernel, rfl⟩
theorem dL_law_451 : dI cL_law 451 452 (.aload_n 1) 1 := ⟨by decide +kernel, rfl⟩
theorem dL_law_452 : dI cL_law 452 453 (.aload_n 0) 1 := ⟨by decide +kernel, rfl⟩
theorem dL_law_453 : dI cL_law 453 454 (.iload_n 3) 1 := ⟨by decide +kernel, rfl⟩
theorem dL_law_454 : dI cL_law 454 455 (.iconst 1) 1 := ⟨by decide +kernel, rfl⟩
theorem dL_law_455 : dI cL_law 455 456 (.iadd) 1 := ⟨by decide +kernel, rfl⟩
theorem dL_law_456 : dI cL_law 456 457 (.iaload) 1 := ⟨by decide +kernel, rfl⟩
theorem dL_law_457 : dI cL_law 457 458 (.aload_n 0) 1 := ⟨by decide +kernel, rfl⟩
theorem dL_law_458 : dI cL_law 458 459 (.iload_n 3) 1 := ⟨by decide +kernel, rfl⟩
theorem dL_law_459 : dI cL_law 459 460 (.iconst 2) 1 := ⟨by decide +kernel, rfl⟩
theorem dL_law_460 : dI cL_law 460 461 (.iadd) 1 := ⟨by decide +kernel, rfl⟩
theorem dL_law_461 : dI cL_law 461 462 (.iaload) 1 := ⟨by decide +kernel, rfl⟩
theorem dL_law_462 : decode cL_law 462 = .ok (.invokevirtual 45, 3) := by decide +kernel
theorem dL_law_465 : dI cL_law 465 466 (.aload_n 2) 1 := ⟨by decide +kernel, rfl⟩
theorem dL_law_466 : dI cL_law 466 467 (.aload_n 0) 1 := ⟨by decide +kernel, rfl⟩
theorem dL_law_467 : dI cL_law 467 468 (.iload_n 3) 1 := ⟨by decide +kernel, rfl⟩
theorem dL_law_468 : dI cL_law 468 469 (.iconst 1) 1 := ⟨by decide +kernel, rfl⟩
theorem dL_law_469 : dI cL_law 469 470 (.iadd) 1 := ⟨by decide +kernel, rfl⟩
theorem dL_law_470 : dI cL_law 470 471 (.iaload) 1 := ⟨by decide +kernel, rfl⟩
theorem dL_law_471 : dI cL_law 471 472 (.aload_n 0) 1 := ⟨by decide +kernel, rfl⟩
theorem dL_law_472 : dI cL_law 472 473 (.iload_n 3) 1 := ⟨by decide +kernel, rfl⟩
theorem dL_law_473 : dI cL_law 473 474 (.iconst 2) 1 := ⟨by decide +kernel, rfl⟩
theorem dL_law_474 : dI cL_law 474 475 (.iadd) 1 := ⟨by decide +kernel, rfl⟩
theorem dL_law_475 : dI cL_law 475 476 (.iaload) 1 := ⟨by decide +kernel, rfl⟩
theorem dL_law_476 : decode cL_law 476 = .ok (.invokevirtual 48, 3) := by decide +kernel
theorem dL_law_479 : decode cL_law 479 = .ok (.if_icmp .eq 990, 3) := by decide +kernel
theorem dL_law_482 : dI cL_law 482 483 (.iconst 0) 1 := ⟨by decide +kernel, rfl⟩
theorem dL_law_483 : dI cL_law 483 484 (.ireturn) 1 := ⟨by decide +kernel, rfl⟩
theorem dL_law_484 : dI cL_law 484 485 (.aload_n 1) 1 := ⟨by decide +kernel, rfl⟩
theorem dL_law_485 : decode cL_law 485 = .ok (.invokevirtual 49, 3) := by decide +kernel
theorem dL_law_488 : dI cL_law 488 489 (.aload_n 2) 1 := ⟨by decide +kernel, rfl⟩
theorem dL_law_489 : decode cL_law 489 = .ok (.invokevirtual 52, 3) := by decide +kernel
theorem dL_law_492 : decode cL_law 492 = .ok (.if_icmp .eq 977, 3) := by decide +kernel
theorem dL_law_495 : dI cL_law 495 496 (.iconst 0) 1 := ⟨by decide +kernel, rfl⟩
theorem dL_law_496 : dI cL_law 496 497 (.ireturn) 1 := ⟨by decide +kernel, rfl⟩
theorem dL_law_497 : dI cL_law 497 498 (.aload_n 1) 1 := ⟨by decide +kernel, rfl⟩
theorem dL_law_498 : dI cL_law 498 499 (.aload_n 0) 1 := ⟨by decide +kernel, rfl⟩
theorem dL_law_499 : dI cL_law 499 500 (.iload_n 3) 1 := ⟨by decide +kernel, rfl⟩
theorem dL_law_500 : dI cL_law 500 501 (.iconst 1) 1 := ⟨by decide +kernel, rfl⟩
theorem dL_law_501 : dI cL_law 501 502 (.iadd) 1 := ⟨by decide +kernel, rfl⟩
theorem dL_law_502 : dI cL_law 502 503 (.iaload) 1 := ⟨by decide +kernel, rfl⟩
theorem dL_law_503 : decode cL_law 503 = .ok (.invokevirtual 53, 3) := by decide +kernel
theorem dL_law_506 : dI cL_law 506 507 (.aload_n 2) 1 := ⟨by decide +kernel, rfl⟩
theorem dL_law_507 : dI cL_law 507 508 (.aload_n 0) 1 := ⟨by decide +kernel, rfl⟩
theorem dL_law_508 : dI cL_law 508 509 (.iload_n 3) 1 := ⟨by decide +kernel, rfl⟩
theorem dL_law_509 : dI cL_law 509 510 (.iconst 1) 1 := ⟨by decide +kernel, rfl⟩
theorem dL_law_510 : dI cL_law 510 511 (.iadd) 1 := ⟨by decide +kernel, rfl⟩
theorem dL_law_511 : dI cL_law 511 512 (.iaload) 1 := ⟨by decide +kernel, rfl⟩
theorem dL_law_512 : decode cL_law 512 = .ok (.invokevirtual 56, 3) := by decide +kernel
theorem dL_law_515 : decode cL_law 515 = .ok (.if_icmp .eq 954, 3) := by decide +kernel
theorem dL_law_518 : dI cL_law 518 519 (.iconst 0) 1 := ⟨by decide +kernel, rfl⟩
theorem dL_law_519 : dI cL_law 519 520 (.ireturn) 1 := ⟨by decide +kernel, rfl⟩
theorem dL_law_520 : dI cL_law 520 521 (.aload_n 1) 1 := ⟨by decide +kernel, rfl⟩
theorem dL_law_521 : dI cL_law 521 522 (.aload_n 0) 1 := ⟨by decide +kernel, rfl⟩
theorem dL_law_522 : dI cL_law 522 523 (.iload_n 3) 1 := ⟨by decide +kernel, rfl⟩
theorem dL_law_523 : dI cL_law 523 524 (.iconst 1) 1 := ⟨by decide +kernel, rfl⟩
theorem dL_law_524 : dI cL_law 524 525 (.iadd) 1 := ⟨by decide +kernel, rfl⟩
theorem dL_law_525 : dI cL_law 525 526 (.iaload) 1 := ⟨by decide +kernel, rfl⟩
theorem dL_law_526 : decode cL_law 526 = .ok (.invokevirtual 57, 3) := by decide +kernel
theorem dL_law_529 : dI cL_law 529 530 (.aload_n 2) 1 := ⟨by decide +kernel, rfl⟩
theorem dL_law_530 : dI cL_law 530 531 (.aload_n 0) 1 := ⟨by decide +kernel, rfl⟩
theorem dL_law_531 : dI cL_law 531 532 (.iload_n 3) 1 := ⟨by decide +kernel, rfl⟩
theorem dL_law_532 : dI cL_law 532 533 (.iconst 1) 1 := ⟨by decide +kernel, rfl⟩
theorem dL_law_533 : dI cL_law 533 534 (.iadd) 1 := ⟨by decide +kernel, rfl⟩
theorem dL_law_534 : dI cL_law 534 535 (.iaload) 1 := ⟨by decide +kernel, rfl⟩
theorem dL_law_535 : decode cL_law 535 = .ok (.invokevirtual 60, 3) := by decide +kernel
theorem dL_law_538 : decode cL_law 538 = .ok (.if_icmp .eq 931, 3) := by decide +kernel
theorem dL_law_541 : dI cL_law 541 542 (.iconst 0) 1 := ⟨by decide +kernel, rfl⟩
theorem dL_law_542 : dI cL_law 542 543 (.ireturn) 1 := ⟨by decide +kernel, rfl⟩
theorem dL_law_543 : dI cL_law 543 544 (.aload_n 1) 1 := ⟨by decide +kernel, rfl⟩
theorem dL_law_544 : dI cL_law 544 545 (.aload_n 0) 1 := ⟨by decide +kernel, rfl⟩
theorem dL_law_545 : dI cL_law 545 546 (.iload_n 3) 1 := ⟨by decide +kernel, rfl⟩
theorem dL_law_546 : dI cL_law 546 547 (.iconst 1) 1 := ⟨by decide +kernel, rfl⟩
theorem dL_law_547 : dI cL_law 547 548 (.iadd) 1 := ⟨by decide +kernel, rfl⟩
theorem dL_law_548 : dI cL_law 548 549 (.iaload) 1 := ⟨by decide +kernel, rfl⟩
theorem dL_law_549 : dI cL_law 549 550 (.aload_n 0) 1 := ⟨by decide +kernel, rfl⟩
theorem dL_law_550 : dI cL_law 550 551 (.iload_n 3) 1 := ⟨by decide +kernel, rfl⟩
theorem dL_law_551 : dI cL_law 551 552 (.iconst 2) 1 := ⟨by decide +kernel, rfl⟩
theorem dL_law_552 : dI cL_law 552 553 (.iadd) 1 := ⟨by decide +kernel, rfl⟩
theorem dL_law_553 : dI cL_law 553 554 (.iaload) 1 := ⟨by decide +kernel, rfl⟩
theorem dL_law_554 : dI cL_law 554 555 (.aload_n 0) 1 := ⟨by decide +kernel, rfl⟩
theorem dL_law_555 : dI cL_law 555 556 (.iload_n 3) 1 := ⟨by decide +kernel, rfl⟩
theorem dL_law_556 : dI cL_law 556 557 (.iconst 3) 1 := ⟨by decide +kernel, rfl⟩
theorem dL_law_557 : dI cL_law 557 558 (.iadd) 1 := ⟨by decide +kernel, rfl⟩
theorem dL_law_558 : dI cL_law 558 559 (.iaload) 1 := ⟨by decide +kernel, rfl⟩
theorem dL_law_559 : decode cL_law 559 = .ok (.invokevirtual 61, 3) := by decide +kernel
theorem dL_law_562 : dI cL_law 562 563 (.aload_n 2) 1 := ⟨by decide +kernel, rfl⟩
theorem dL_law_563 : dI cL_law 563 564 (.aload_n 0) 1 := ⟨by decide +kernel, rfl⟩
theorem dL_law_564 : dI cL_law 564 565 (.iload_n 3) 1 := ⟨by decide +kernel, rfl⟩
theorem dL_law_565 : dI cL_law 565 566 (.iconst 1) 1 := ⟨by decide +kernel, rfl⟩
theorem dL_law_566 : dI cL_law 566 567 (.iadd) 1 := ⟨by decide +kernel, rfl⟩
theorem dL_law_567 : dI cL_law 567 568 (.iaload) 1 := ⟨by decide +kernel, rfl⟩
theorem dL_law_568 : dI cL_law 568 569 (.aload_n 0) 1 := ⟨by decide +kernel, rfl⟩
theorem dL_law_569 : dI cL_law 569 570 (.iload_n 3) 1 := ⟨by decide +kernel, rfl⟩
theorem dL_law_570 : dI cL_law 570 571 (.iconst 2) 1 := ⟨by decide +kernel, rfl⟩
theorem dL_law_571 : dI cL_law 571 572 (.iadd) 1 := ⟨by decide +kernel, rfl⟩
theorem dL_law_572 : dI cL_law 572 573 (.iaload) 1 := ⟨by decide +kernel, rfl⟩
theorem dL_law_573 : dI cL_law 573 574 (.aload_n 0) 1 := ⟨by decide +kernel, rfl⟩
theorem dL_law_574 : dI cL_law 574 575 (.iload_n 3) 1 := ⟨by decide +kernel, rfl⟩
theorem dL_law_575 : dI cL_law 575 576 (.iconst 3) 1 := ⟨by decide +kernel, rfl⟩
theorem dL_law_576 : dI cL_law 576 577 (.iadd) 1 := ⟨by decide +kernel, rfl⟩
theorem dL_law_577 : dI cL_law 577 578 (.iaload) 1 := ⟨by decide +kernel, rfl⟩
theorem dL_law_578 : decode cL_law 578 = .ok (.invokevirtual 64, 3) := by decide +kernel
theorem dL_law_581 : decode cL_law 581 = .ok (.if_icmp .eq 888, 3) := by decide +kernel
theorem dL_law_584 : dI cL_law 584 585 (.iconst 0) 1 := ⟨by decide +kernel, rfl⟩
theorem dL_law_585 : dI cL_law 585 586 (.ireturn) 1 := ⟨by decide +kernel, rfl⟩
theorem dL_law_586 : dI cL_law 586 587 (.aload_n 1) 1 := ⟨by decide +kernel, rfl⟩
theorem dL_law_587 : dI cL_law 587 588 (.aload_n 0) 1 := ⟨by decide +kernel, rfl⟩
theorem dL_law_588 : dI cL_law 588 589 (.iload_n 3) 1 := ⟨by decide +kernel, rfl⟩
theorem dL_law_589 : dI cL_law 589 590 (.iconst 1) 1 := ⟨by decide +kernel, rfl⟩
theorem dL_law_590 : dI cL_law 590 591 (.iadd) 1 := ⟨by decide +kernel, rfl⟩
theorem dL_law_591 : dI cL_law 591 592 (.iaload) 1 := ⟨by decide +kernel, rfl⟩
theorem dL_law_592 : dI cL_law 592 593 (.aload_n 0) 1 := ⟨by decide +kernel, rfl⟩
theorem dL_law_593 : dI cL_law 593 594 (.iload_n 3) 1 := ⟨by decide +kernel, rfl⟩
theorem dL_law_594 : dI cL_law 594 595 (.iconst 2) 1 := ⟨by decide +kernel, rfl⟩
theorem dL_law_595 : dI cL_law 595 596 (.iadd) 1 := ⟨by decide +kernel, rfl⟩
theorem dL_law_596 : dI cL_law 596 597 (.iaload) 1 := ⟨by decide +kernel, rfl⟩
theorem dL_law_597 : decode cL_law 597 = .ok (.invokevirtual 65, 3) := by decide +kernel
theorem dL_law_600 : dI cL_law 600 601 (.aload_n 2) 1 := ⟨by decide +kernel, rfl⟩
theorem dL_law_601 : dI cL_law 601 602 (.aload_n 0) 1 := ⟨by decide +kernel, rfl⟩
theorem dL_law_602 : dI cL_law 602 603 (.iload_n 3) 1 := ⟨by decide +kernel, rfl⟩
theorem dL_law_603 : dI cL_law 603 604 (.iconst 1) 1 := ⟨by decide +kernel, rfl⟩
theorem dL_law_604 : dI cL_law 604 605 (.iadd) 1 := ⟨by decide +kernel, rfl⟩
theorem dL_law_605 : dI cL_law 605 606 (.iaload) 1 := ⟨by decide +kernel, rfl⟩
theorem dL_law_606 : dI cL_law 606 607 (.aload_n 0) 1 := ⟨by decide +kernel, rfl⟩
theorem dL_law_607 : dI cL_law 607 608 (.iload_n 3) 1 := ⟨by decide +kernel, rfl⟩
theorem dL_law_608 : dI cL_law 608 609 (.iconst 2) 1 := ⟨by decide +kernel, rfl⟩
theorem dL_law_609 : dI cL_law 609 610 (.iadd) 1 := ⟨by decide +kernel, rfl⟩
theorem dL_law_610 : dI cL_law 610 611 (.iaload) 1 := ⟨by decide +kernel, rfl⟩
theorem dL_law_611 : decode cL_law 611 = .ok (.invokevirtual 68, 3) := by decide +kernel
theorem dL_law_614 : decode cL_law 614 = .ok (.if_icmp .eq 855, 3) := by decide +kernel
theorem dL_law_617 : dI cL_law 617 618 (.iconst 0) 1 := ⟨by decide +kernel, rfl⟩
theorem dL_law_618 : dI cL_law 618 619 (.ireturn) 1 := ⟨by decide +kernel, rfl⟩
theorem dL_law_619 : dI cL_law 619 620 (.aload_n 1) 1 := ⟨by decide +kernel, rfl⟩
theorem dL_law_620 : dI cL_law 620 621 (.aload_n 0) 1 := ⟨by decide +kernel, rfl⟩
theorem dL_law_621 : dI cL_law 621 622 (.iload_n 3) 1 := ⟨by decide +kernel, rfl⟩
theorem dL_law_622 : dI cL_law 622 623 (.iconst 1) 1 := ⟨by decide +kernel, rfl⟩
theorem dL_law_623 : dI cL_law 623 624 (.iadd) 1 := ⟨by decide +kernel, rfl⟩
theorem dL_law_624 : dI cL_law 624 625 (.iaload) 1 := ⟨by decide +kernel, rfl⟩
theorem dL_law_625 : dI cL_law 625 626 (.aload_n 0) 1 := ⟨by decide +kernel, rfl⟩
theorem dL_law_626 : dI cL_law 626 627 (.iload_n 3) 1 := ⟨by decide +kernel, rfl⟩
theorem dL_law_627 : dI cL_law 627 628 (.iconst 2) 1 := ⟨by decide +kernel, rfl⟩
theorem dL_law_628 : dI cL_law 628 629 (.iadd) 1 := ⟨by decide +kernel, rfl⟩
theorem dL_law_629 : dI cL_law 629 630 (.iaload) 1 := ⟨by decide +kernel, rfl⟩
theorem dL_law_630 : decode cL_law 630 = .ok (.invokevirtual 69, 3) := by decide +kernel
theorem dL_law_633 : dI cL_law 633 634 (.aload_n 2) 1 := ⟨by decide +kernel, rfl⟩
theorem dL_law_634 : dI cL_law 634 635 (.aload_n 0) 1 := ⟨by decide +kernel, rfl⟩
theorem dL_law_635 : dI cL_law 635 636 (.iload_n 3) 1 := ⟨by decide +kernel, rfl⟩
theorem dL_law_636 : dI cL_law 636 637 (.iconst 1) 1 := ⟨by decide +kernel, rfl⟩
theorem dL_law_637 : dI cL_law 637 638 (.iadd) 1 := ⟨by decide +kernel, rfl⟩
theorem dL_law_638 : dI cL_law 638 639 (.iaload) 1 := ⟨by decide +kernel, rfl⟩
theorem dL_law_639 : dI cL_law 639 640 (.aload_n 0) 1 := ⟨by decide +kernel, rfl⟩
theorem dL_law_640 : dI cL_law 640 641 (.iload_n 3) 1 := ⟨by decide +kernel, rfl⟩
theorem dL_law_641 : dI cL_law 641 642 (.iconst 2) 1 := ⟨by decide +kernel, rfl⟩
theorem dL_law_642 : dI cL_law 642 643 (.iadd) 1 := ⟨by decide +kernel, rfl⟩
theorem dL_law_643 : dI cL_law 643 644 (.iaload) 1 := ⟨by decide +kernel, rfl⟩
theorem dL_law_644 : decode cL_law 644 = .ok (.invokevirtual 72, 3) := by decide +kernel
theorem dL_law_647 : decode cL_law 647 = .ok (.if_icmp .eq 822, 3) := by decide +kernel
theorem dL_law_650 : dI cL_law 650 651 (.iconst 0) 1 := ⟨by decide +kernel, rfl⟩
theorem dL_law_651 : dI cL_law 651 652 (.ireturn) 1 := ⟨by decide +kernel, rfl⟩
theorem dL_law_652 : dI cL_law 652 653 (.aload_n 1) 1 := ⟨by decide +kernel, rfl⟩
theorem dL_law_653 : dI cL_law 653 654 (.aload_n 0) 1 := ⟨by decide +kernel, rfl⟩
theorem dL_law_654 : dI cL_law 654 655 (.iload_n 3) 1 := ⟨by decide +kernel, rfl⟩
theorem dL_law_655 : dI cL_law 655 656 (.iconst 1) 1 := ⟨by decide +kernel, rfl⟩
theorem dL_law_656 : dI cL_law 656 657 (.iadd) 1 := ⟨by decide +kernel, rfl⟩
theorem dL_law_657 : dI cL_law 657 658 (.iaload) 1 := ⟨by decide +kernel, rfl⟩
theorem dL_law_658 : dI cL_law 658 659 (.aload_n 0) 1 := ⟨by decide +kernel, rfl⟩
theorem dL_law_659 : dI cL_law 659 660 (.iload_n 3) 1 := ⟨by decide +kernel, rfl⟩
theorem dL_law_660 : dI cL_law 660 661 (.iconst 2) 1 := ⟨by decide +kernel, rfl⟩
theorem dL_law_661 : dI cL_law 661 662 (.iadd) 1 := ⟨by decide +kernel, rfl⟩
theorem dL_law_662 : dI cL_law 662 663 (.iaload) 1 := ⟨by decide +kernel, rfl⟩
theorem dL_law_663 : decode cL_law 663 = .ok (.invokevirtual 73, 3) := by decide +kernel
theorem dL_law_666 : dI cL_law 666 667 (.aload_n 2) 1 := ⟨by decide +kernel, rfl⟩
theorem dL_law_667 : dI cL_law 667 668 (.aload_n 0) 1 := ⟨by decide +kernel, rfl⟩
theorem dL_law_668 : dI cL_law 668 669 (.iload_n 3) 1 := ⟨by decide +kernel, rfl⟩
theorem dL_law_669 : dI cL_law 669 670 (.iconst 1) 1 := ⟨by decide +kernel, rfl⟩
theorem dL_law_670 : dI cL_law 670 671 (.iadd) 1 := ⟨by decide +kernel, rfl⟩
theorem dL_law_671 : dI cL_law 671 672 (.iaload) 1 := ⟨by decide +kernel, rfl⟩
theorem dL_law_672 : dI cL_law 672 673 (.aload_n 0) 1 := ⟨by decide +kernel, rfl⟩
theorem dL_law_673 : dI cL_law 673 674 (.iload_n 3) 1 := ⟨by decide +kernel, rfl⟩
theorem dL_law_674 : dI cL_law 674 675 (.iconst 2) 1 := ⟨by decide +kernel, rfl⟩
theorem dL_law_675 : dI cL_law 675 676 (.iadd) 1 := ⟨by decide +kernel, rfl⟩
theorem dL_law_676 : dI cL_law 676 677 (.iaload) 1 := ⟨by decide +kernel, rfl⟩
theorem dL_law_677 : decode cL_law 677 = .ok (.invokevirtual 76, 3) := by decide +kernel
theorem dL_law_680 : decode cL_law 680 = .ok (.if_icmp .eq 789, 3) := by decide +kernel
theorem dL_law_683 : dI cL_law 683 684 (.iconst 0) 1 := ⟨by decide +kernel, rfl⟩
theorem dL_law_684 : dI cL_law 684 685 (.ireturn) 1 := ⟨by decide +kernel, rfl⟩
theorem dL_law_685 : dI cL_law 685 686 (.aload_n 1) 1 := ⟨by decide +kernel, rfl⟩
theorem dL_law_686 : dI cL_law 686 687 (.aload_n 0) 1 := ⟨by decide +kernel, rfl⟩
theorem dL_law_687 : dI cL_law 687 688 (.iload_n 3) 1 := ⟨by decide +kernel, rfl⟩
theorem dL_law_688 : dI cL_law 688 689 (.iconst 1) 1 := ⟨by decide +kernel, rfl⟩
theorem dL_law_689 : dI cL_law 689 690 (.iadd) 1 := ⟨by decide +kernel, rfl⟩
theorem dL_law_690 : dI cL_law 690 691 (.iaload) 1 := ⟨by decide +kernel, rfl⟩
theorem dL_law_691 : decode cL_law 691 = .ok (.invokevirtual 77, 3) := by decide +kernel
theorem dL_law_694 : dI cL_law 694 695 (.aload_n 2) 1 := ⟨by decide +kernel, rfl⟩
theorem dL_law_695 : dI cL_law 695 696 (.aload_n 0) 1 := ⟨by decide +kernel, rfl⟩
theorem dL_law_696 : dI cL_law 696 697 (.iload_n 3) 1 := ⟨by decide +kernel, rfl⟩
theorem dL_law_697 : dI cL_law 697 698 (.iconst 1) 1 := ⟨by decide +kernel, rfl⟩
theorem dL_law_698 : dI cL_law 698 699 (.iadd) 1 := ⟨by decide +kernel, rfl⟩
theorem dL_law_699 : dI cL_law 699 700 (.iaload) 1 := ⟨by decide +kernel, rfl⟩
theorem dL_law_700 : decode cL_law 700 = .ok (.invokevirtual 80, 3) := by decide +kernel
theorem dL_law_703 : decode cL_law 703 = .ok (.if_icmp .eq 766, 3) := by decide +kernel
theorem dL_law_706 : dI cL_law 706 707 (.iconst 0) 1 := ⟨by decide +kernel, rfl⟩
theorem dL_law_707 : dI cL_law 707 708 (.ireturn) 1 := ⟨by decide +kernel, rfl⟩
theorem dL_law_708 : dI cL_law 708 709 (.aload_n 1) 1 := ⟨by decide +kernel, rfl⟩
theorem dL_law_709 : decode cL_law 709 = .ok (.invokevirtual 81, 3) := by decide +kernel
theorem dL_law_712 : dI cL_law 712 713 (.aload_n 2) 1 := ⟨by decide +kernel, rfl⟩
theorem dL_law_713 : decode cL_law 713 = .ok (.invokevirtual 84, 3) := by decide +kernel
theorem dL_law_716 : decode cL_law 716 = .ok (.if_icmp .eq 753, 3) := by decide +kernel
theorem dL_law_719 : dI cL_law 719 720 (.iconst 0) 1 := ⟨by decide +kernel, rfl⟩
theorem dL_law_720 : dI cL_law 720 721 (.ireturn) 1 := ⟨by decide +kernel, rfl⟩
theorem dL_law_721 : dI cL_law 721 722 (.aload_n 1) 1 := ⟨by decide +kernel, rfl⟩
theorem dL_law_722 : decode cL_law 722 = .ok (.invokevirtual 85, 3) := by decide +kernel
theorem dL_law_725 : dI cL_law 725 726 (.aload_n 2) 1 := ⟨by decide +kernel, rfl⟩
theorem dL_law_726 : decode cL_law 726 = .ok (.invokevirtual 88, 3) := by decide +kernel
theorem dL_law_729 : decode cL_law 729 = .ok (.if_icmp .eq 740, 3) := by decide +kernel
theorem dL_law_732 : dI cL_law 732 733 (.iconst 0) 1 := ⟨by decide +kernel, rfl⟩
theorem dL_law_733 : dI cL_law 733 734 (.ireturn) 1 := ⟨by decide +kernel, rfl⟩
theorem dL_law_734 : dI cL_law 734 735 (.aload_n 1) 1 := ⟨by decide +kernel, rfl⟩
theorem dL_law_735 : decode cL_law 735 = .ok (.invokevirtual 89, 3) := by decide +kernel
theorem dL_law_738 : dI cL_law 738 739 (.aload_n 2) 1 := ⟨by decide +kernel, rfl⟩
theorem dL_law_739 : decode cL_law 739 = .ok (.invokevirtual 92, 3) := by decide +kernel
theorem dL_law_742 : decode cL_law 742 = .ok (.if_icmp .eq 727, 3) := by decide +kernel
theorem dL_law_745 : dI cL_law 745 746 (.iconst 0) 1 := ⟨by decide +kernel, rfl⟩
theorem dL_law_746 : dI cL_law 746 747 (.ireturn) 1 := ⟨by decide +kernel, rfl⟩
theorem dL_law_747 : dI cL_law 747 748 (.aload_n 1) 1 := ⟨by decide +kernel, rfl⟩
theorem dL_law_748 : dI cL_law 748 749 (.aload_n 0) 1 := ⟨by decide +kernel, rfl⟩
theorem dL_law_749 : dI cL_law 749 750 (.iload_n 3) 1 := ⟨by decide +kernel, rfl⟩
theorem dL_law_750 : dI cL_law 750 751 (.iconst 1) 1 := ⟨by decide +kernel, rfl⟩
theorem dL_law_751 : dI cL_law 751 752 (.iadd) 1 := ⟨by decide +kernel, rfl⟩
theorem dL_law_752 : dI cL_law 752 753 (.iaload) 1 := ⟨by decide +kernel, rfl⟩
theorem dL_law_753 : dI cL_law 753 754 (.aload_n 0) 1 := ⟨by decide +kernel, rfl⟩
theorem dL_law_754 : dI cL_law 754 755 (.iload_n 3) 1 := ⟨by decide +kernel, rfl⟩
theorem dL_law_755 : dI cL_law 755 756 (.iconst 2) 1 := ⟨by decide +kernel, rfl⟩
theorem dL_law_756 : dI cL_law 756 757 (.iadd) 1 := ⟨by decide +kernel, rfl⟩
theorem dL_law_757 : dI cL_law 757 758 (.iaload) 1 := ⟨by decide +kernel, rfl⟩
theorem dL_law_758 : dI cL_law 758 759 (.aload_n 0) 1 := ⟨by decide +kernel, rfl⟩
theorem dL_law_759 : dI cL_law 759 760 (.iload_n 3) 1 := ⟨by decide +kernel, rfl⟩
theorem dL_law_760 : dI cL_law 760 761 (.iconst 3) 1 := ⟨by decide +kernel, rfl⟩
theorem dL_law_761 : dI cL_law 761 762 (.iadd) 1 := ⟨by decide +kernel, rfl⟩
theorem dL_law_762 : dI cL_law 762 763 (.iaload) 1 := ⟨by decide +kernel, rfl⟩
theorem dL_law_763 : dI cL_law 763 764 (.aload_n 0) 1 := ⟨by decide +kernel, rfl⟩
theorem dL_law_764 : dI cL_law 764 765 (.iload_n 3) 1 := ⟨by decide +kernel, rfl⟩
theorem dL_law_765 : dI cL_law 765 766 (.iconst 4) 1 := ⟨by decide +kernel, rfl⟩
theorem dL_law_766 : dI cL_law 766 767 (.iadd) 1 := ⟨by decide +kernel, rfl⟩
theorem dL_law_767 : dI cL_law 767 768 (.iaload) 1 := ⟨by decide +kernel, rfl⟩
theorem dL_law_768 : decode cL_law 768 = .ok (.invokevirtual 93, 3) := by decide +kernel
theorem dL_law_771 : dI cL_law 771 772 (.aload_n 2) 1 := ⟨by decide +kernel, rfl⟩
theorem dL_law_772 : dI cL_law 772 773 (.aload_n 0) 1 := ⟨by decide +kernel, rfl⟩
theorem dL_law_773 : dI cL_law 773 774 (.iload_n 3) 1 := ⟨by decide +kernel, rfl⟩
theorem dL_law_774 : dI cL_law 774 775 (.iconst 1) 1 := ⟨by decide +kernel, rfl⟩
theorem dL_law_775 : dI cL_law 775 776 (.iadd) 1 := ⟨by decide +kernel, rfl⟩
theorem dL_law_776 : dI cL_law 776 777 (.iaload) 1 := ⟨by decide +kernel, rfl⟩
theorem dL_law_777 : dI cL_law 777 778 (.aload_n 0) 1 := ⟨by decide +kernel, rfl⟩
theorem dL_law_778 : dI cL_law 778 779 (.iload_n 3) 1 := ⟨by decide +kernel, rfl⟩
theorem dL_law_779 : dI cL_law 779 780 (.iconst 2) 1 := ⟨by decide +kernel, rfl⟩
theorem dL_law_780 : dI cL_law 780 781 (.iadd) 1 := ⟨by decide +kernel, rfl⟩
theorem dL_law_781 : dI cL_law 781 782 (.iaload) 1 := ⟨by decide +kernel, rfl⟩
theorem dL_law_782 : dI cL_law 782 783 (.aload_n 0) 1 := ⟨by decide +kernel, rfl⟩
theorem dL_law_783 : dI cL_law 783 784 (.iload_n 3) 1 := ⟨by decide +kernel, rfl⟩
theorem dL_law_784 : dI cL_law 784 785 (.iconst 3) 1 := ⟨by decide +kernel, rfl⟩
theorem dL_law_785 : dI cL_law 785 786 (.iadd) 1 := ⟨by decide +kernel, rfl⟩
theorem dL_law_786 : dI cL_law 786 787 (.iaload) 1 := ⟨by decide +kernel, rfl⟩
theorem dL_law_787 : dI cL_law 787 788 (.aload_n 0) 1 := ⟨by decide +kernel, rfl⟩
theorem dL_law_788 : dI cL_law 788 789 (.iload_n 3) 1 := ⟨by decide +kernel, rfl⟩
theorem dL_law_789 : dI cL_law 789 790 (.iconst 4) 1 := ⟨by decide +kernel, rfl⟩
theorem dL_law_790 : dI cL_law 790 791 (.iadd) 1 := ⟨by decide +kernel, rfl⟩
theorem dL_law_791 : dI cL_law 791 792 (.iaload) 1 := ⟨by decide +kernel, rfl⟩
theorem dL_law_792 : decode cL_law 792 = .ok (.invokevirtual 97, 3) := by decide +kernel
theorem dL_law_795 : decode cL_law 795 = .ok (.if_icmp .eq 674, 3) := by decide +kernel
theorem dL_law_798 : dI cL_law 798 799 (.iconst 0) 1 := ⟨by decide +kernel, rfl⟩
theorem dL_law_799 : dI cL_law 799 800 (.ireturn) 1 := ⟨by decide +kernel, rfl⟩
theorem dL_law_800 : dI cL_law 800 801 (.aload_n 1) 1 := ⟨by decide +kernel, rfl⟩
theorem dL_law_801 : dI cL_law 801 802 (.aload_n 0) 1 := ⟨by decide +kernel, rfl⟩
theorem dL_law_802 : dI cL_law 802 803 (.iload_n 3) 1 := ⟨by decide +kernel, rfl⟩
theorem dL_law_803 : dI cL_law 803 804 (.iconst 1) 1 := ⟨by decide +kernel, rfl⟩
theorem dL_law_804 : dI cL_law 804 805 (.iadd) 1 := ⟨by decide +kernel, rfl⟩
theorem dL_law_805 : dI cL_law 805 806 (.iaload) 1 := ⟨by decide +kernel, rfl⟩
theorem dL_law_806 : dI cL_law 806 807 (.aload_n 0) 1 := ⟨by decide +kernel, rfl⟩
theorem dL_law_807 : dI cL_law 807 808 (.iload_n 3) 1 := ⟨by decide +kernel, rfl⟩
theorem dL_law_808 : dI cL_law 808 809 (.iconst 2) 1 := ⟨by decide +kernel, rfl⟩
theorem dL_law_809 : dI cL_law 809 810 (.iadd) 1 := ⟨by decide +kernel, rfl⟩
theorem dL_law_810 : dI cL_law 810 811 (.iaload) 1 := ⟨by decide +kernel, rfl⟩
theorem dL_law_811 : decode cL_law 811 = .ok (.invokevirtual 98, 3) := by decide +kernel
theorem dL_law_814 : dI cL_law 814 815 (.aload_n 2) 1 := ⟨by decide +kernel, rfl⟩
theorem dL_law_815 : dI cL_law 815 816 (.aload_n 0) 1 := ⟨by decide +kernel, rfl⟩
theorem dL_law_816 : dI cL_law 816 817 (.iload_n 3) 1 := ⟨by decide +kernel, rfl⟩
theorem dL_law_817 : dI cL_law 817 818 (.iconst 1) 1 := ⟨by decide +kernel, rfl⟩
theorem dL_law_818 : dI cL_law 818 819 (.iadd) 1 := ⟨by decide +kernel, rfl⟩
theorem dL_law_819 : dI cL_law 819 820 (.iaload) 1 := ⟨by decide +kernel, rfl⟩
theorem dL_law_820 : dI cL_law 820 821 (.aload_n 0) 1 := ⟨by decide +kernel, rfl⟩
theorem dL_law_821 : dI cL_law 821 822 (.iload_n 3) 1 := ⟨by decide +kernel, rfl⟩
theorem dL_law_822 : dI cL_law 822 823 (.iconst 2) 1 := ⟨by decide +kernel, rfl⟩
theorem dL_law_823 : dI cL_law 823 824 (.iadd) 1 := ⟨by decide +kernel, rfl⟩
theorem dL_law_824 : dI cL_law 824 825 (.iaload) 1 := ⟨by decide +kernel, rfl⟩
theorem dL_law_825 : decode cL_law 825 = .ok (.invokevirtual 101, 3) := by decide +kernel
theorem dL_law_828 : decode cL_law 828 = .ok (.if_icmp .eq 641, 3) := by decide +kernel
theorem dL_law_831 : dI cL_law 831 832 (.iconst 0) 1 := ⟨by decide +kernel, rfl⟩
theorem dL_law_832 : dI cL_law 832 833 (.ireturn) 1 := ⟨by decide +kernel, rfl⟩
theorem dL_law_833 : dI cL_law 833 834 (.aload_n 1) 1 := ⟨by decide +kernel, rfl⟩
theorem dL_law_834 : dI cL_law 834 835 (.aload_n 0) 1 := ⟨by decide +kernel, rfl⟩
theorem dL_law_835 : dI cL_law 835 836 (.iload_n 3) 1 := ⟨by decide +kernel, rfl⟩
theorem dL_law_836 : dI cL_law 836 837 (.iconst 1) 1 := ⟨by decide +kernel, rfl⟩
theorem dL_law_837 : dI cL_law 837 838 (.iadd) 1 := ⟨by decide +kernel, rfl⟩
theorem dL_law_838 : dI cL_law 838 839 (.iaload) 1 := ⟨by decide +kernel, rfl⟩
theorem dL_law_839 : dI cL_law 839 840 (.aload_n 0) 1 := ⟨by decide +kernel, rfl⟩
theorem dL_law_840 : dI cL_law 840 841 (.iload_n 3) 1 := ⟨by decide +kernel, rfl⟩
theorem dL_law_841 : dI cL_law 841 842 (.iconst 2) 1 := ⟨by decide +kernel, rfl⟩
theorem dL_law_842 : dI cL_law 842 843 (.iadd) 1 := ⟨by decide +kernel, rfl⟩
theorem dL_law_843 : dI cL_law 843 844 (.iaload) 1 := ⟨by decide +kernel, rfl⟩
theorem dL_law_844 : decode cL_law 844 = .ok (.invokevirtual 102, 3) := by decide +kernel
theorem dL_law_847 : dI cL_law 847 848 (.aload_n 2) 1 := ⟨by decide +kernel, rfl⟩
theorem dL_law_848 : dI cL_law 848 849 (.aload_n 0) 1 := ⟨by decide +kernel, rfl⟩
theorem dL_law_849 : dI cL_law 849 850 (.iload_n 3) 1 := ⟨by decide +kernel, rfl⟩
theorem dL_law_850 : dI cL_law 850 851 (.iconst 1) 1 := ⟨by decide +kernel, rfl⟩
theorem dL_law_851 : dI cL_law 851 852 (.iadd) 1 := ⟨by decide +kernel, rfl⟩
theorem dL_law_852 : dI cL_law 852 853 (.iaload) 1 := ⟨by decide +kernel, rfl⟩
theorem dL_law_853 : dI cL_law 853 854 (.aload_n 0) 1 := ⟨by decide +kernel, rfl⟩
theorem dL_law_854 : dI cL_law 854 855 (.iload_n 3) 1 := ⟨by decide +kernel, rfl⟩
theorem dL_law_855 : dI cL_law 855 856 (.iconst 2) 1 := ⟨by decide +kernel, rfl⟩
theorem dL_law_856 : dI cL_law 856 857 (.iadd) 1 := ⟨by decide +kernel, rfl⟩
theorem dL_law_857 : dI cL_law 857 858 (.iaload) 1 := ⟨by decide +kernel, rfl⟩
theorem dL_law_858 : decode cL_law 858 = .ok (.invokevirtual 105, 3) := by decide +kernel
theorem dL_law_861 : decode cL_law 861 = .ok (.if_icmp .eq 608, 3) := by decide +kernel
theorem dL_law_864 : dI cL_law 864 865 (.iconst 0) 1 := ⟨by decide +kernel, rfl⟩
theorem dL_law_865 : dI cL_law 865 866 (.ireturn) 1 := ⟨by decide +kernel, rfl⟩
theorem dL_law_866 : dI cL_law 866 867 (.aload_n 1) 1 := ⟨by decide +kernel, rfl⟩
theorem dL_law_867 : dI cL_law 867 868 (.aload_n 0) 1 := ⟨by decide +kernel, rfl⟩
theorem dL_law_868 : dI cL_law 868 869 (.iload_n 3) 1 := ⟨by decide +kernel, rfl⟩
theorem dL_law_869 : dI cL_law 869 870 (.iconst 1) 1 := ⟨by decide +kernel, rfl⟩
theorem dL_law_870 : dI cL_law 870 871 (.iadd) 1 := ⟨by decide +kernel, rfl⟩
theorem dL_law_871 : dI cL_law 871 872 (.iaload) 1 := ⟨by decide +kernel, rfl⟩
theorem dL_law_872 : decode cL_law 872 = .ok (.invokevirtual 106, 3) := by decide +kernel
theorem dL_law_875 : dI cL_law 875 876 (.aload_n 2) 1 := ⟨by decide +kernel, rfl⟩
theorem dL_law_876 : dI cL_law 876 877 (.aload_n 0) 1 := ⟨by decide +kernel, rfl⟩
theorem dL_law_877 : dI cL_law 877 878 (.iload_n 3) 1 := ⟨by decide +kernel, rfl⟩
theorem dL_law_878 : dI cL_law 878 879 (.iconst 1) 1 := ⟨by decide +kernel, rfl⟩
theorem dL_law_879 : dI cL_law 879 880 (.iadd) 1 := ⟨by decide +kernel, rfl⟩
theorem dL_law_880 : dI cL_law 880 881 (.iaload) 1 := ⟨by decide +kernel, rfl⟩
theorem dL_law_881 : decode cL_law 881 = .ok (.invokevirtual 109, 3) := by decide +kernel
theorem dL_law_884 : decode cL_law 884 = .ok (.if_icmp .eq 585, 3) := by decide +kernel
theorem dL_law_887 : dI cL_law 887 888 (.iconst 0) 1 := ⟨by decide +kernel, rfl⟩
theorem dL_law_888 : dI cL_law 888 889 (.ireturn) 1 := ⟨by decide +kernel, rfl⟩
theorem dL_law_889 : dI cL_law 889 890 (.aload_n 1) 1 := ⟨by decide +kernel, rfl⟩
theorem dL_law_890 : decode cL_law 890 = .ok (.invokevirtual 110, 3) := by decide +kernel
theorem dL_law_893 : dI cL_law 893 894 (.aload_n 2) 1 := ⟨by decide +kernel, rfl⟩
theorem dL_law_894 : decode cL_law 894 = .ok (.invokevirtual 113, 3) := by decide +kernel
theorem dL_law_897 : decode cL_law 897 = .ok (.if_icmp .eq 572, 3) := by decide +kernel
theorem dL_law_900 : dI cL_law 900 901 (.iconst 0) 1 := ⟨by decide +kernel, rfl⟩
theorem dL_law_901 : dI cL_law 901 902 (.ireturn) 1 := ⟨by decide +kernel, rfl⟩
theorem dL_law_902 : dI cL_law 902 903 (.aload_n 1) 1 := ⟨by decide +kernel, rfl⟩
theorem dL_law_903 : dI cL_law 903 904 (.aload_n 0) 1 := ⟨by decide +kernel, rfl⟩
theorem dL_law_904 : dI cL_law 904 905 (.iload_n 3) 1 := ⟨by decide +kernel, rfl⟩
theorem dL_law_905 : dI cL_law 905 906 (.iconst 1) 1 := ⟨by decide +kernel, rfl⟩
theorem dL_law_906 : dI cL_law 906 907 (.iadd) 1 := ⟨by decide +kernel, rfl⟩
theorem dL_law_907 : dI cL_law 907 908 (.iaload) 1 := ⟨by decide +kernel, rfl⟩
theorem dL_law_908 : dI cL_law 908 909 (.aload_n 0) 1 := ⟨by decide +kernel, rfl⟩
theorem dL_law_909 : dI cL_law 909 910 (.iload_n 3) 1 := ⟨by decide +kernel, rfl⟩
theorem dL_law_910 : dI cL_law 910 911 (.iconst 2) 1 := ⟨by decide +kernel, rfl⟩
theorem dL_law_911 : dI cL_law 911 912 (.iadd) 1 := ⟨by decide +kernel, rfl⟩
theorem dL_law_912 : dI cL_law 912 913 (.iaload) 1 := ⟨by decide +kernel, rfl⟩
theorem dL_law_913 : dI cL_law 913 914 (.aload_n 0) 1 := ⟨by decide +kernel, rfl⟩
theorem dL_law_914 : dI cL_law 914 915 (.iload_n 3) 1 := ⟨by decide +kernel, rfl⟩
theorem dL_law_915 : dI cL_law 915 916 (.iconst 3) 1 := ⟨by decide +kernel, rfl⟩
theorem dL_law_916 : dI cL_law 916 917 (.iadd) 1 := ⟨by decide +kernel, rfl⟩
theorem dL_law_917 : dI cL_law 917 918 (.iaload) 1 := ⟨by decide +kernel, rfl⟩
theorem dL_law_918 : decode cL_law 918 = .ok (.invokevirtual 114, 3) := by decide +kernel
theorem dL_law_921 : dI cL_law 921 922 (.aload_n 2) 1 := ⟨by decide +kernel, rfl⟩
theorem dL_law_922 : dI cL_law 922 923 (.aload_n 0) 1 := ⟨by decide +kernel, rfl⟩
theorem dL_law_923 : dI cL_law 923 924 (.iload_n 3) 1 := ⟨by decide +kernel, rfl⟩
theorem dL_law_924 : dI cL_law 924 925 (.iconst 1) 1 := ⟨by decide +kernel, rfl⟩
theorem dL_law_925 : dI cL_law 925 926 (.iadd) 1 := ⟨by decide +kernel, rfl⟩
theorem dL_law_926 : dI cL_law 926 927 (.iaload) 1 := ⟨by decide +kernel, rfl⟩
theorem dL_law_927 : dI cL_law 927 928 (.aload_n 0) 1 := ⟨by decide +kernel, rfl⟩
theorem dL_law_928 : dI cL_law 928 929 (.iload_n 3) 1 := ⟨by decide +kernel, rfl⟩
theorem dL_law_929 : dI cL_law 929 930 (.iconst 2) 1 := ⟨by decide +kernel, rfl⟩
theorem dL_law_930 : dI cL_law 930 931 (.iadd) 1 := ⟨by decide +kernel, rfl⟩
theorem dL_law_931 : dI cL_law 931 932 (.iaload) 1 := ⟨by decide +kernel, rfl⟩
theorem dL_law_932 : dI cL_law 932 933 (.aload_n 0) 1 := ⟨by decide +kernel, rfl⟩
theorem dL_law_933 : dI cL_law 933 934 (.iload_n 3) 1 := ⟨by decide +kernel, rfl⟩
theorem dL_law_934 : dI cL_law 934 935 (.iconst 3) 1 := ⟨by decide +kernel, rfl⟩
theorem dL_law_935 : dI cL_law 935 936 (.iadd) 1 := ⟨by decide +kernel, rfl⟩
theorem dL_law_936 : dI cL_law 936 937 (.iaload) 1 := ⟨by decide +kernel, rfl⟩
theorem dL_law_937 : decode cL_law 937 = .ok (.invokevirtual 117, 3) := by decide +kernel
theorem dL_law_940 : decode cL_law 940 = .ok (.if_icmp .eq 529, 3) := by decide +kernel
theorem dL_law_943 : dI cL_law 943 944 (.iconst 0) 1 := ⟨by decide +kernel, rfl⟩
theorem dL_law_944 : dI cL_law 944 945 (.ireturn) 1 := ⟨by decide +kernel, rfl⟩
theorem dL_law_945 : dI cL_law 945 946 (.aload_n 1) 1 := ⟨by decide +kernel, rfl⟩
theorem dL_law_946 : dI cL_law 946 947 (.aload_n 0) 1 := ⟨by decide +kernel, rfl⟩
theorem dL_law_947 : dI cL_law 947 948 (.iload_n 3) 1 := ⟨by decide +kernel, rfl⟩
theorem dL_law_948 : dI cL_law 948 949 (.iconst 1) 1 := ⟨by decide +kernel, rfl⟩
theorem dL_law_949 : dI cL_law 949 950 (.iadd) 1 := ⟨by decide +kernel, rfl⟩
theorem dL_law_950 : dI cL_law 950 951 (.iaload) 1 := ⟨by decide +kernel, rfl⟩
theorem dL_law_951 : decode cL_law 951 = .ok (.invokevirtual 118, 3) := by decide +kernel
theorem dL_law_954 : dI cL_law 954 955 (.aload_n 2) 1 := ⟨by decide +kernel, rfl⟩
theorem dL_law_955 : dI cL_law 955 956 (.aload_n 0) 1 := ⟨by decide +kernel, rfl⟩
theorem dL_law_956 : dI cL_law 956 957 (.iload_n 3) 1 := ⟨by decide +kernel, rfl⟩
theorem dL_law_957 : dI cL_law 957 958 (.iconst 1) 1 := ⟨by decide +kernel, rfl⟩
theorem dL_law_958 : dI cL_law 958 959 (.iadd) 1 := ⟨by decide +kernel, rfl⟩
theorem dL_law_959 : dI cL_law 959 960 (.iaload) 1 := ⟨by decide +kernel, rfl⟩
theorem dL_law_960 : decode cL_law 960 = .ok (.invokevirtual 121, 3) := by decide +kernel
theorem dL_law_963 : decode cL_law 963 = .ok (.if_icmp .eq 506, 3) := by decide +kernel
theorem dL_law_966 : dI cL_law 966 967 (.iconst 0) 1 := ⟨by decide +kernel, rfl⟩
theorem dL_law_967 : dI cL_law 967 968 (.ireturn) 1 := ⟨by decide +kernel, rfl⟩
theorem dL_law_968 : dI cL_law 968 969 (.aload_n 1) 1 := ⟨by decide +kernel, rfl⟩
theorem dL_law_969 : decode cL_law 969 = .ok (.invokevirtual 122, 3) := by decide +kernel
theorem dL_law_972 : dI cL_law 972 973 (.aload_n 2) 1 := ⟨by decide +kernel, rfl⟩
theorem dL_law_973 : decode cL_law 973 = .ok (.invokevirtual 125, 3) := by decide +kernel
theorem dL_law_976 : decode cL_law 976 = .ok (.if_icmp .eq 493, 3) := by decide +kernel
theorem dL_law_979 : dI cL_law 979 980 (.iconst 0) 1 := ⟨by decide +kernel, rfl⟩
theorem dL_law_980 : dI cL_law 980 981 (.ireturn) 1 := ⟨by decide +kernel, rfl⟩
theorem dL_law_981 : dI cL_law 981 982 (.aload_n 1) 1 := ⟨by decide +kernel, rfl⟩
theorem dL_law_982 : dI cL_law 982 983 (.aload_n 0) 1 := ⟨by decide +kernel, rfl⟩
theorem dL_law_983 : dI cL_law 983 984 (.iload_n 3) 1 := ⟨by decide +kernel, rfl⟩
theorem dL_law_984 : dI cL_law 984 985 (.iconst 1) 1 := ⟨by decide +kernel, rfl⟩
theorem dL_law_985 : dI cL_law 985 986 (.iadd) 1 := ⟨by decide +kernel, rfl⟩
theorem dL_law_986 : dI cL_law 986 987 (.iaload) 1 := ⟨by decide +kernel, rfl⟩
theorem dL_law_987 : dI cL_law 987 988 (.aload_n 0) 1 := ⟨by decide +kernel, rfl⟩
theorem dL_law_988 : dI cL_law 988 989 (.iload_n 3) 1 := ⟨by decide +kernel, rfl⟩
theorem dL_law_989 : dI cL_law 989 990 (.iconst 2) 1 := ⟨by decide +kernel, rfl⟩
theorem dL_law_990 : dI cL_law 990 991 (.iadd) 1 := ⟨by decide +kernel, rfl⟩
theorem dL_law_991 : dI cL_law 991 992 (.iaload) 1 := ⟨by decide +kernel, rfl⟩
theorem dL_law_992 : decode cL_law 992 = .ok (.invokevirtual 126, 3) := by decide +kernel
theorem dL_law_995 : dI cL_law 995 996 (.aload_n 2) 1 := ⟨by decide +kernel, rfl⟩
theorem dL_law_996 : dI cL_law 996 997 (.aload_n 0) 1 := ⟨by decide +kernel, rfl⟩
theorem dL_law_997 : dI cL_law 997 998 (.iload_n 3) 1 := ⟨by decide +kernel, rfl⟩
theorem dL_law_998 : dI cL_law 998 999 (.iconst 1) 1 := ⟨by decide +kernel, rfl⟩
theorem dL_law_999 : dI cL_law 999 1000 (.iadd) 1 := ⟨by decide +kernel, rfl⟩
theorem dL_law_1000 : dI cL_law 1000 1001 (.iaload) 1 := ⟨by decide +kernel, rfl⟩
theorem dL_law_1001 : dI cL_law 1001 1002 (.aload_n 0) 1 := ⟨by decide +kernel, rfl⟩
theorem dL_law_1002 : dI cL_law 1002 1003 (.iload_n 3) 1 := ⟨by decide +kernel, rfl⟩
theorem dL_law_1003 : dI cL_law 1003 1004 (.iconst 2) 1 := ⟨by decide +kernel, rfl⟩
theorem dL_law_1004 : dI cL_law 1004 1005 (.iadd) 1 := ⟨by decide +kernel, rfl⟩
theorem dL_law_1005 : dI cL_law 1005 1006 (.iaload) 1 := ⟨by decide +kernel, rfl⟩
theorem dL_law_1006 : decode cL_law 1006 = .ok (.invokevirtual 129, 3) := by decide +kernel
theorem dL_law_1009 : decode cL_law 1009 = .ok (.if_icmp .eq 460, 3) := by decide +kernel
theorem dL_law_1012 : dI cL_law 1012 1013 (.iconst 0) 1 := ⟨by decide +kernel, rfl⟩
theorem dL_law_1013 : dI cL_law 1013 1014 (.ireturn) 1 := ⟨by decide +kernel, rfl⟩
theorem dL_law_1014 : dI cL_law 1014 1015 (.aload_n 1) 1 := ⟨by decide +kernel, rfl⟩
theorem dL_law_1015 : dI cL_law 1015 1016 (.aload_n 0) 1 := ⟨by decide +kernel, rfl⟩
theorem dL_law_1016 : dI cL_law 1016 1017 (.iload_n 3) 1 := ⟨by decide +kernel, rfl⟩
theorem dL_law_1017 : dI cL_law 1017 1018 (.iconst 1) 1 := ⟨by decide +kernel, rfl⟩
theorem dL_law_1018 : dI cL_law 1018 1019 (.iadd) 1 := ⟨by decide +kernel, rfl⟩
theorem dL_law_1019 : dI cL_law 1019 1020 (.iaload) 1 := ⟨by decide +kernel, rfl⟩
theorem dL_law_1020 : decode cL_law 1020 = .ok (.invokevirtual 130, 3) := by decide +kernel
theorem dL_law_1023 : dI cL_law 1023 1024 (.aload_n 2) 1 := ⟨by decide +kernel, rfl⟩
theorem dL_law_1024 : dI cL_law 1024 1025 (.aload_n 0) 1 := ⟨by decide +kernel, rfl⟩
theorem dL_law_1025 : dI cL_law 1025 1026 (.iload_n 3) 1 := ⟨by decide +kernel, rfl⟩
theorem dL_law_1026 : dI cL_law 1026 1027 (.iconst 1) 1 := ⟨by decide +kernel, rfl⟩
theorem dL_law_1027 : dI cL_law 1027 1028 (.iadd) 1 := ⟨by decide +kernel, rfl⟩
theorem dL_law_1028 : dI cL_law 1028 1029 (.iaload) 1 := ⟨by decide +kernel, rfl⟩
theorem dL_law_1029 : decode cL_law 1029 = .ok (.invokevirtual 133, 3) := by decide +kernel
theorem dL_law_1032 : decode cL_law 1032 = .ok (.if_icmp .eq 437, 3) := by decide +kernel
theorem dL_law_1035 : dI cL_law 1035 1036 (.iconst 0) 1 := ⟨by decide +kernel, rfl⟩
theorem dL_law_1036 : dI cL_law 1036 1037 (.ireturn) 1 := ⟨by decide +kernel, rfl⟩
theorem dL_law_1037 : dI cL_law 1037 1038 (.aload_n 1) 1 := ⟨by decide +kernel, rfl⟩
theorem dL_law_1038 : dI cL_law 1038 1039 (.aload_n 0) 1 := ⟨by decide +kernel, rfl⟩
theorem dL_law_1039 : dI cL_law 1039 1040 (.iload_n 3) 1 := ⟨by decide +kernel, rfl⟩
theorem dL_law_1040 : dI cL_law 1040 1041 (.iconst 1) 1 := ⟨by decide +kernel, rfl⟩
theorem dL_law_1041 : dI cL_law 1041 1042 (.iadd) 1 := ⟨by decide +kernel, rfl⟩
theorem dL_law_1042 : dI cL_law 1042 1043 (.iaload) 1 := ⟨by decide +kernel, rfl⟩
theorem dL_law_1043 : dI cL_law 1043 1044 (.aload_n 0) 1 := ⟨by decide +kernel, rfl⟩
theorem dL_law_1044 : dI cL_law 1044 1045 (.iload_n 3) 1 := ⟨by decide +kernel, rfl⟩
theorem dL_law_1045 : dI cL_law 1045 1046 (.iconst 2) 1 := ⟨by decide +kernel, rfl⟩
theorem dL_law_1046 : dI cL_law 1046 1047 (.iadd) 1 := ⟨by decide +kernel, rfl⟩
theorem dL_law_1047 : dI cL_law 1047 1048 (.iaload) 1 := ⟨by decide +kernel, rfl⟩
theorem dL_law_1048 : dI cL_law 1048 1049 (.aload_n 0) 1 := ⟨by decide +kernel, rfl⟩
theorem dL_law_1049 : dI cL_law 1049 1050 (.iload_n 3) 1 := ⟨by decide +kernel, rfl⟩
theorem dL_law_1050 : dI cL_law 1050 1051 (.iconst 3) 1 := ⟨by decide +kernel, rfl⟩
theorem dL_law_1051 : dI cL_law 1051 1052 (.iadd) 1 := ⟨by decide +kernel, rfl⟩
theorem dL_law_1052 : dI cL_law 1052 1053 (.iaload) 1 := ⟨by decide +kernel, rfl⟩
theorem dL_law_1053 : decode cL_law 1053 = .ok (.invokevirtual 134, 3) := by decide +kernel
theorem dL_law_1056 : dI cL_law 1056 1057 (.aload_n 2) 1 := ⟨by decide +kernel, rfl⟩
theorem dL_law_1057 : dI cL_law 1057 1058 (.aload_n 0) 1 := ⟨by decide +kernel, rfl⟩
theorem dL_law_1058 : dI cL_law 1058 1059 (.iload_n 3) 1 := ⟨by decide +kernel, rfl⟩
theorem dL_law_1059 : dI cL_law 1059 1060 (.iconst 1) 1 := ⟨by decide +kernel, rfl⟩
theorem dL_law_1060 : dI cL_law 1060 1061 (.iadd) 1 := ⟨by decide +kernel, rfl⟩
theorem dL_law_1061 : dI cL_law 1061 1062 (.iaload) 1 := ⟨by decide +kernel, rfl⟩
theorem dL_law_1062 : dI cL_law 1062 1063 (.aload_n 0) 1 := ⟨by decide +kernel, rfl⟩
theorem dL_law_1063 : dI cL_law 1063 1064 (.iload_n 3) 1 := ⟨by decide +kernel, rfl⟩
theorem dL_law_1064 : dI cL_law 1064 1065 (.iconst 2) 1 := ⟨by decide +kernel, rfl⟩
theorem dL_law_1065 : dI cL_law 1065 1066 (.iadd) 1 := ⟨by decide +kernel, rfl⟩
theorem dL_law_1066 : dI cL_law 1066 1067 (.iaload) 1 := ⟨by decide +kernel, rfl⟩
theorem dL_law_1067 : dI cL_law 1067 1068 (.aload_n 0) 1 := ⟨by decide +kernel, rfl⟩
theorem dL_law_1068 : dI cL_law 1068 1069 (.iload_n 3) 1 := ⟨by decide +kernel, rfl⟩
theorem dL_law_1069 : dI cL_law 1069 1070 (.iconst 3) 1 := ⟨by decide +kernel, rfl⟩
theorem dL_law_1070 : dI cL_law 1070 1071 (.iadd) 1 := ⟨by decide +kernel, rfl⟩
theorem dL_law_1071 : dI cL_law 1071 1072 (.iaload) 1 := ⟨by decide +kernel, rfl⟩
theorem dL_law_1072 : decode cL_law 1072 = .ok (.invokevirtual 137, 3) := by decide +kernel
theorem dL_law_1075 : decode cL_law 1075 = .ok (.if_icmp .eq 394, 3) := by decide +kernel
theorem dL_law_1078 : dI cL_law 1078 1079 (.iconst 0) 1 := ⟨by decide +kernel, rfl⟩
theorem dL_law_1079 : dI cL_law 1079 1080 (.ireturn) 1 := ⟨by decide +kernel, rfl⟩
theorem dL_law_1080 : dI cL_law 1080 1081 (.aload_n 1) 1 := ⟨by decide +kernel, rfl⟩
theorem dL_law_1081 : dI cL_law 1081 1082 (.aload_n 0) 1 := ⟨by decide +kernel, rfl⟩
theorem dL_law_1082 : dI cL_law 1082 1083 (.iload_n 3) 1 := ⟨by decide +kernel, rfl⟩
theorem dL_law_1083 : dI cL_law 1083 1084 (.iconst 1) 1 := ⟨by decide +kernel, rfl⟩
theorem dL_law_1084 : dI cL_law 1084 1085 (.iadd) 1 := ⟨by decide +kernel, rfl⟩
theorem dL_law_1085 : dI cL_law 1085 1086 (.iaload) 1 := ⟨by decide +kernel, rfl⟩
theorem dL_law_1086 : dI cL_law 1086 1087 (.aload_n 0) 1 := ⟨by decide +kernel, rfl⟩
theorem dL_law_1087 : dI cL_law 1087 1088 (.iload_n 3) 1 := ⟨by decide +kernel, rfl⟩
theorem dL_law_1088 : dI cL_law 1088 1089 (.iconst 2) 1 := ⟨by decide +kernel, rfl⟩
theorem dL_law_1089 : dI cL_law 1089 1090 (.iadd) 1 := ⟨by decide +kernel, rfl⟩
theorem dL_law_1090 : dI cL_law 1090 1091 (.iaload) 1 := ⟨by decide +kernel, rfl⟩
theorem dL_law_1091 : dI cL_law 1091 1092 (.aload_n 0) 1 := ⟨by decide +kernel, rfl⟩
theorem dL_law_1092 : dI cL_law 1092 1093 (.iload_n 3) 1 := ⟨by decide +kernel, rfl⟩
theorem dL_law_1093 : dI cL_law 1093 1094 (.iconst 3) 1 := ⟨by decide +kernel, rfl⟩
theorem dL_law_1094 : dI cL_law 1094 1095 (.iadd) 1 := ⟨by decide +kernel, rfl⟩
theorem dL_law_1095 : dI cL_law 1095 1096 (.iaload) 1 := ⟨by decide +kernel, rfl⟩
theorem dL_law_1096 : decode cL_law 1096 = .ok (.invokevirtual 138, 3) := by decide +kernel
theorem dL_law_1099 : dI cL_law 1099 1100 (.aload_n 2) 1 := ⟨by decide +kernel, rfl⟩
theorem dL_law_1100 : dI cL_law 1100 1101 (.aload_n 0) 1 := ⟨by decide +kernel, rfl⟩
theorem dL_law_1101 : dI cL_law 1101 1102 (.iload_n 3) 1 := ⟨by decide +kernel, rfl⟩
theorem dL_law_1102 : dI cL_law 1102 1103 (.iconst 1) 1 := ⟨by decide +kernel, rfl⟩
theorem dL_law_1103 : dI cL_law 1103 1104 (.iadd) 1 := ⟨by decide +kernel, rfl⟩
theorem dL_law_1104 : dI cL_law 1104 1105 (.iaload) 1 := ⟨by decide +kernel, rfl⟩
theorem dL_law_1105 : dI cL_law 1105 1106 (.aload_n 0) 1 := ⟨by decide +kernel, rfl⟩
theorem dL_law_1106 : dI cL_law 1106 1107 (.iload_n 3) 1 := ⟨by decide +kernel, rfl⟩
theorem dL_law_1107 : dI cL_law 1107 1108 (.iconst 2) 1 := ⟨by decide +kernel, rfl⟩
theorem dL_law_1108 : dI cL_law 1108 1109 (.iadd) 1 := ⟨by decide +kernel, rfl⟩
theorem dL_law_1109 : dI cL_law 1109 1110 (.iaload) 1 := ⟨by decide +kernel, rfl⟩
theorem dL_law_1110 : dI cL_law 1110 1111 (.aload_n 0) 1 := ⟨by decide +kernel, rfl⟩
theorem dL_law_1111 : dI cL_law 1111 1112 (.iload_n 3) 1 := ⟨by decide +kernel, rfl⟩
theorem dL_law_1112 : dI cL_law 1112 1113 (.iconst 3) 1 := ⟨by decide +kernel, rfl⟩
theorem dL_law_1113 : dI cL_law 1113 1114 (.iadd) 1 := ⟨by decide +kernel, rfl⟩
theorem dL_law_1114 : dI cL_law 1114 1115 (.iaload) 1 := ⟨by decide +kernel, rfl⟩
theorem dL_law_1115 : decode cL_law 1115 = .ok (.invokevirtual 141, 3) := by decide +kernel
theorem dL_law_1118 : decode cL_law 1118 = .ok (.if_icmp .eq 351, 3) := by decide +kernel
theorem dL_law_1121 : dI cL_law 1121 1122 (.iconst 0) 1 := ⟨by decide +kernel, rfl⟩
theorem dL_law_1122 : dI cL_law 1122 1123 (.ireturn) 1 := ⟨by decide +kernel, rfl⟩
theorem dL_law_1123 : dI cL_law 1123 1124 (.aload_n 1) 1 := ⟨by decide +kernel, rfl⟩
theorem dL_law_1124 : dI cL_law 1124 1125 (.aload_n 0) 1 := ⟨by decide +kernel, rfl⟩
theorem dL_law_1125 : dI cL_law 1125 1126 (.iload_n 3) 1 := ⟨by decide +kernel, rfl⟩
theorem dL_law_1126 : dI cL_law 1126 1127 (.iconst 1) 1 := ⟨by decide +kernel, rfl⟩
theorem dL_law_1127 : dI cL_law 1127 1128 (.iadd) 1 := ⟨by decide +kernel, rfl⟩
theorem dL_law_1128 : dI cL_law 1128 1129 (.iaload) 1 := ⟨by decide +kernel, rfl⟩
theorem dL_law_1129 : decode cL_law 1129 = .ok (.invokevirtual 142, 3) := by decide +kernel
theorem dL_law_1132 : dI cL_law 1132 1133 (.aload_n 2) 1 := ⟨by decide +kernel, rfl⟩
theorem dL_law_1133 : dI cL_law 1133 1134 (.aload_n 0) 1 := ⟨by decide +kernel, rfl⟩
theorem dL_law_1134 : dI cL_law 1134 1135 (.iload_n 3) 1 := ⟨by decide +kernel, rfl⟩
theorem dL_law_1135 : dI cL_law 1135 1136 (.iconst 1) 1 := ⟨by decide +kernel, rfl⟩
theorem dL_law_1136 : dI cL_law 1136 1137 (.iadd) 1 := ⟨by decide +kernel, rfl⟩
theorem dL_law_1137 : dI cL_law 1137 1138 (.iaload) 1 := ⟨by decide +kernel, rfl⟩
theorem dL_law_1138 : decode cL_law 1138 = .ok (.invokevirtual 145, 3) := by decide +kernel
theorem dL_law_1141 : decode cL_law 1141 = .ok (.if_icmp .eq 328, 3) := by decide +kernel
theorem dL_law_1144 : dI cL_law 1144 1145 (.iconst 0) 1 := ⟨by decide +kernel, rfl⟩
theorem dL_law_1145 : dI cL_law 1145 1146 (.ireturn) 1 := ⟨by decide +kernel, rfl⟩
theorem dL_law_1146 : dI cL_law 1146 1147 (.aload_n 1) 1 := ⟨by decide +kernel, rfl⟩
theorem dL_law_1147 : dI cL_law 1147 1148 (.aload_n 0) 1 := ⟨by decide +kernel, rfl⟩
theorem dL_law_1148 : dI cL_law 1148 1149 (.iload_n 3) 1 := ⟨by decide +kernel, rfl⟩
theorem dL_law_1149 : dI cL_law 1149 1150 (.iconst 1) 1 := ⟨by decide +kernel, rfl⟩
theorem dL_law_1150 : dI cL_law 1150 1151 (.iadd) 1 := ⟨by decide +kernel, rfl⟩
theorem dL_law_1151 : dI cL_law 1151 1152 (.iaload) 1 := ⟨by decide +kernel, rfl⟩
theorem dL_law_1152 : decode cL_law 1152 = .ok (.invokevirtual 146, 3) := by decide +kernel
theorem dL_law_1155 : dI cL_law 1155 1156 (.aload_n 2) 1 := ⟨by decide +kernel, rfl⟩
theorem dL_law_1156 : dI cL_law 1156 1157 (.aload_n 0) 1 := ⟨by decide +kernel, rfl⟩
theorem dL_law_1157 : dI cL_law 1157 1158 (.iload_n 3) 1 := ⟨by decide +kernel, rfl⟩
theorem dL_law_1158 : dI cL_law 1158 1159 (.iconst 1) 1 := ⟨by decide +kernel, rfl⟩
theorem dL_law_1159 : dI cL_law 1159 1160 (.iadd) 1 := ⟨by decide +kernel, rfl⟩
theorem dL_law_1160 : dI cL_law 1160 1161 (.iaload) 1 := ⟨by decide +kernel, rfl⟩
theorem dL_law_1161 : decode cL_law 1161 = .ok (.invokevirtual 149, 3) := by decide +kernel
theorem dL_law_1164 : decode cL_law 1164 = .ok (.if_icmp .eq 305, 3) := by decide +kernel
theorem dL_law_1167 : dI cL_law 1167 1168 (.iconst 0) 1 := ⟨by decide +kernel, rfl⟩
theorem dL_law_1168 : dI cL_law 1168 1169 (.ireturn) 1 := ⟨by decide +kernel, rfl⟩
theorem dL_law_1169 : dI cL_law 1169 1170 (.aload_n 1) 1 := ⟨by decide +kernel, rfl⟩
theorem dL_law_1170 : dI cL_law 1170 1171 (.aload_n 0) 1 := ⟨by decide +kernel, rfl⟩
theorem dL_law_1171 : dI cL_law 1171 1172 (.iload_n 3) 1 := ⟨by decide +kernel, rfl⟩
theorem dL_law_1172 : dI cL_law 1172 1173 (.iconst 1) 1 := ⟨by decide +kernel, rfl⟩
theorem dL_law_1173 : dI cL_law 1173 1174 (.iadd) 1 := ⟨by decide +kernel, rfl⟩
theorem dL_law_1174 : dI cL_law 1174 1175 (.iaload) 1 := ⟨by decide +kernel, rfl⟩
theorem dL_law_1175 : dI cL_law 1175 1176 (.aload_n 0) 1 := ⟨by decide +kernel, rfl⟩
theorem dL_law_1176 : dI cL_law 1176 1177 (.iload_n 3) 1 := ⟨by decide +kernel, rfl⟩
theorem dL_law_1177 : dI cL_law 1177 1178 (.iconst 2) 1 := ⟨by decide +kernel, rfl⟩
theorem dL_law_1178 : dI cL_law 1178 1179 (.iadd) 1 := ⟨by decide +kernel, rfl⟩
theorem dL_law_1179 : dI cL_law 1179 1180 (.iaload) 1 := ⟨by decide +kernel, rfl⟩
theorem dL_law_1180 : dI cL_law 1180 1181 (.aload_n 0) 1 := ⟨by decide +kernel, rfl⟩
theorem dL_law_1181 : dI cL_law 1181 1182 (.iload_n 3) 1 := ⟨by decide +kernel, rfl⟩
theorem dL_law_1182 : dI cL_law 1182 1183 (.iconst 3) 1 := ⟨by decide +kernel, rfl⟩
theorem dL_law_1183 : dI cL_law 1183 1184 (.iadd) 1 := ⟨by decide +kernel, rfl⟩
theorem dL_law_1184 : dI cL_law 1184 1185 (.iaload) 1 := ⟨by decide +kernel, rfl⟩
theorem dL_law_1185 : dI cL_law 1185 1186 (.aload_n 0) 1 := ⟨by decide +kernel, rfl⟩
theorem dL_law_1186 : dI cL_law 1186 1187 (.iload_n 3) 1 := ⟨by decide +kernel, rfl⟩
theorem dL_law_1187 : dI cL_law 1187 1188 (.iconst 4) 1 := ⟨by decide +kernel, rfl⟩
theorem dL_law_1188 : dI cL_law 1188 1189 (.iadd) 1 := ⟨by decide +kernel, rfl⟩
theorem dL_law_1189 : dI cL_law 1189 1190 (.iaload) 1 := ⟨by decide +kernel, rfl⟩
theorem dL_law_1190 : dI cL_law 1190 1191 (.aload_n 0) 1 := ⟨by decide +kernel, rfl⟩
theorem dL_law_1191 : dI cL_law 1191 1192 (.iload_n 3) 1 := ⟨by decide +kernel, rfl⟩
theorem dL_law_1192 : dI cL_law 1192 1193 (.iconst 5) 1 := ⟨by decide +kernel, rfl⟩
theorem dL_law_1193 : dI cL_law 1193 1194 (.iadd) 1 := ⟨by decide +kernel, rfl⟩
theorem dL_law_1194 : dI cL_law 1194 1195 (.iaload) 1 := ⟨by decide +kernel, rfl⟩
theorem dL_law_1195 : decode cL_law 1195 = .ok (.invokevirtual 150, 3) := by decide +kernel
theorem dL_law_1198 : dI cL_law 1198 1199 (.aload_n 2) 1 := ⟨by decide +kernel, rfl⟩
theorem dL_law_1199 : dI cL_law 1199 1200 (.aload_n 0) 1 := ⟨by decide +kernel, rfl⟩
theorem dL_law_1200 : dI cL_law 1200 1201 (.iload_n 3) 1 := ⟨by decide +kernel, rfl⟩
theorem dL_law_1201 : dI cL_law 1201 1202 (.iconst 1) 1 := ⟨by decide +kernel, rfl⟩
theorem dL_law_1202 : dI cL_law 1202 1203 (.iadd) 1 := ⟨by decide +kernel, rfl⟩
theorem dL_law_1203 : dI cL_law 1203 1204 (.iaload) 1 := ⟨by decide +kernel, rfl⟩
theorem dL_law_1204 : dI cL_law 1204 1205 (.aload_n 0) 1 := ⟨by decide +kernel, rfl⟩
theorem dL_law_1205 : dI cL_law 1205 1206 (.iload_n 3) 1 := ⟨by decide +kernel, rfl⟩
theorem dL_law_1206 : dI cL_law 1206 1207 (.iconst 2) 1 := ⟨by decide +kernel, rfl⟩
theorem dL_law_1207 : dI cL_law 1207 1208 (.iadd) 1 := ⟨by decide +kernel, rfl⟩
theorem dL_law_1208 : dI cL_law 1208 1209 (.iaload) 1 := ⟨by decide +kernel, rfl⟩
theorem dL_law_1209 : dI cL_law 1209 1210 (.aload_n 0) 1 := ⟨by decide +kernel, rfl⟩
theorem dL_law_1210 : dI cL_law 1210 1211 (.iload_n 3) 1 := ⟨by decide +kernel, rfl⟩
theorem dL_law_1211 : dI cL_law 1211 1212 (.iconst 3) 1 := ⟨by decide +kernel, rfl⟩
theorem dL_law_1212 : dI cL_law 1212 1213 (.iadd) 1 := ⟨by decide +kernel, rfl⟩
theorem dL_law_1213 : dI cL_law 1213 1214 (.iaload) 1 := ⟨by decide +kernel, rfl⟩
theorem dL_law_1214 : dI cL_law 1214 1215 (.aload_n 0) 1 := ⟨by decide +kernel, rfl⟩
theorem dL_law_1215 : dI cL_law 1215 1216 (.iload_n 3) 1 := ⟨by decide +kernel, rfl⟩
theorem dL_law_1216 : dI cL_law 1216 1217 (.iconst 4) 1 := ⟨by decide +kernel, rfl⟩
theorem dL_law_1217 : dI cL_law 1217 1218 (.iadd) 1 := ⟨by decide +kernel, rfl⟩
theorem dL_law_1218 : dI cL_law 1218 1219 (.iaload) 1 := ⟨by decide +kernel, rfl⟩
theorem dL_law_1219 : dI cL_law 1219 1220 (.aload_n 0) 1 := ⟨by decide +kernel, rfl⟩
theorem dL_law_1220 : dI cL_law 1220 1221 (.iload_n 3) 1 := ⟨by decide +kernel, rfl⟩
theorem dL_law_1221 : dI cL_law 1221 1222 (.iconst 5) 1 := ⟨by decide +kernel, rfl⟩
theorem dL_law_1222 : dI cL_law 1222 1223 (.iadd) 1 := ⟨by decide +kernel, rfl⟩
theorem dL_law_1223 : dI cL_law 1223 1224 (.iaload) 1 := ⟨by decide +kernel, rfl⟩
theorem dL_law_1224 : decode cL_law 1224 = .ok (.invokevirtual 154, 3) := by decide +kernel
theorem dL_law_1227 : decode cL_law 1227 = .ok (.if_icmp .eq 242, 3) := by decide +kernel
theorem dL_law_1230 : dI cL_law 1230 1231 (.iconst 0) 1 := ⟨by decide +kernel, rfl⟩
theorem dL_law_1231 : dI cL_law 1231 1232 (.ireturn) 1 := ⟨by decide +kernel, rfl⟩
theorem dL_law_1232 : dI cL_law 1232 1233 (.aload_n 1) 1 := ⟨by decide +kernel, rfl⟩
theorem dL_law_1233 : dI cL_law 1233 1234 (.aload_n 0) 1 := ⟨by decide +kernel, rfl⟩
theorem dL_law_1234 : dI cL_law 1234 1235 (.iload_n 3) 1 := ⟨by decide +kernel, rfl⟩
theorem dL_law_1235 : dI cL_law 1235 1236 (.iconst 1) 1 := ⟨by decide +kernel, rfl⟩
theorem dL_law_1236 : dI cL_law 1236 1237 (.iadd) 1 := ⟨by decide +kernel, rfl⟩
theorem dL_law_1237 : dI cL_law 1237 1238 (.iaload) 1 := ⟨by decide +kernel, rfl⟩
theorem dL_law_1238 : dI cL_law 1238 1239 (.aload_n 0) 1 := ⟨by decide +kernel, rfl⟩
theorem dL_law_1239 : dI cL_law 1239 1240 (.iload_n 3) 1 := ⟨by decide +kernel, rfl⟩
theorem dL_law_1240 : dI cL_law 1240 1241 (.iconst 2) 1 := ⟨by decide +kernel, rfl⟩
theorem dL_law_1241 : dI cL_law 1241 1242 (.iadd) 1 := ⟨by decide +kernel, rfl⟩
theorem dL_law_1242 : dI cL_law 1242 1243 (.iaload) 1 := ⟨by decide +kernel, rfl⟩
theorem dL_law_1243 : dI cL_law 1243 1244 (.aload_n 0) 1 := ⟨by decide +kernel, rfl⟩
theorem dL_law_1244 : dI cL_law 1244 1245 (.iload_n 3) 1 := ⟨by decide +kernel, rfl⟩
theorem dL_law_1245 : dI cL_law 1245 1246 (.iconst 3) 1 := ⟨by decide +kernel, rfl⟩
theorem dL_law_1246 : dI cL_law 1246 1247 (.iadd) 1 := ⟨by decide +kernel, rfl⟩
theorem dL_law_1247 : dI cL_law 1247 1248 (.iaload) 1 := ⟨by decide +kernel, rfl⟩
theorem dL_law_1248 : decode cL_law 1248 = .ok (.invokevirtual 155, 3) := by decide +kernel
theorem dL_law_1251 : dI cL_law 1251 1252 (.aload_n 2) 1 := ⟨by decide +kernel, rfl⟩
theorem dL_law_1252 : dI cL_law 1252 1253 (.aload_n 0) 1 := ⟨by decide +kernel, rfl⟩
theorem dL_law_1253 : dI cL_law 1253 1254 (.iload_n 3) 1 := ⟨by decide +kernel, rfl⟩
theorem dL_law_1254 : dI cL_law 1254 1255 (.iconst 1) 1 := ⟨by decide +kernel, rfl⟩
theorem dL_law_1255 : dI cL_law 1255 1256 (.iadd) 1 := ⟨by decide +kernel, rfl⟩
theorem dL_law_1256 : dI cL_law 1256 1257 (.iaload) 1 := ⟨by decide +kernel, rfl⟩
theorem dL_law_1257 : dI cL_law 1257 1258 (.aload_n 0) 1 := ⟨by decide +kernel, rfl⟩
theorem dL_law_1258 : dI cL_law 1258 1259 (.iload_n 3) 1 := ⟨by decide +kernel, rfl⟩
theorem dL_law_1259 : dI cL_law 1259 1260 (.iconst 2) 1 := ⟨by decide +kernel, rfl⟩
theorem dL_law_1260 : dI cL_law 1260 1261 (.iadd) 1 := ⟨by decide +kernel, rfl⟩
theorem dL_law_1261 : dI cL_law 1261 1262 (.iaload) 1 := ⟨by decide +kernel, rfl⟩
theorem dL_law_1262 : dI cL_law 1262 1263 (.aload_n 0) 1 := ⟨by decide +kernel, rfl⟩
theorem dL_law_1263 : dI cL_law 1263 1264 (.iload_n 3) 1 := ⟨by decide +kernel, rfl⟩
theorem dL_law_1264 : dI cL_law 1264 1265 (.iconst 3) 1 := ⟨by decide +kernel, rfl⟩
theorem dL_law_1265 : dI cL_law 1265 1266 (.iadd) 1 := ⟨by decide +kernel, rfl⟩
theorem dL_law_1266 : dI cL_law 1266 1267 (.iaload) 1 := ⟨by decide +kernel, rfl⟩
theorem dL_law_1267 : decode cL_law 1267 = .ok (.invokevirtual 158, 3) := by decide +kernel
theorem dL_law_1270 : decode cL_law 1270 = .ok (.if_icmp .eq 199, 3) := by decide +kernel
theorem dL_law_1273 : dI cL_law 1273 1274 (.iconst 0) 1 := ⟨by decide +kernel, rfl⟩
theorem dL_law_1274 : dI cL_law 1274 1275 (.ireturn) 1 := ⟨by decide +kernel, rfl⟩
theorem dL_law_1275 : dI cL_law 1275 1276 (.aload_n 1) 1 := ⟨by decide +kernel, rfl⟩
theorem dL_law_1276 : dI cL_law 1276 1277 (.aload_n 0) 1 := ⟨by decide +kernel, rfl⟩
theorem dL_law_1277 : dI cL_law 1277 1278 (.iload_n 3) 1 := ⟨by decide +kernel, rfl⟩
theorem dL_law_1278 : dI cL_law 1278 1279 (.iconst 1) 1 := ⟨by decide +kernel, rfl⟩
theorem dL_law_1279 : dI cL_law 1279 1280 (.iadd) 1 := ⟨by decide +kernel, rfl⟩
theorem dL_law_1280 : dI cL_law 1280 1281 (.iaload) 1 := ⟨by decide +kernel, rfl⟩
theorem dL_law_1281 : dI cL_law 1281 1282 (.aload_n 0) 1 := ⟨by decide +kernel, rfl⟩
theorem dL_law_1282 : dI cL_law 1282 1283 (.iload_n 3) 1 := ⟨by decide +kernel, rfl⟩
theorem dL_law_1283 : dI cL_law 1283 1284 (.iconst 2) 1 := ⟨by decide +kernel, rfl⟩
theorem dL_law_1284 : dI cL_law 1284 1285 (.iadd) 1 := ⟨by decide +kernel, rfl⟩
theorem dL_law_1285 : dI cL_law 1285 1286 (.iaload) 1 := ⟨by decide +kernel, rfl⟩
theorem dL_law_1286 : decode cL_law 1286 = .ok (.invokevirtual 159, 3) := by decide +kernel
theorem dL_law_1289 : dI cL_law 1289 1290 (.aload_n 2) 1 := ⟨by decide +kernel, rfl⟩
theorem dL_law_1290 : dI cL_law 1290 1291 (.aload_n 0) 1 := ⟨by decide +kernel, rfl⟩
theorem dL_law_1291 : dI cL_law 1291 1292 (.iload_n 3) 1 := ⟨by decide +kernel, rfl⟩
theorem dL_law_1292 : dI cL_law 1292 1293 (.iconst 1) 1 := ⟨by decide +kernel, rfl⟩
theorem dL_law_1293 : dI cL_law 1293 1294 (.iadd) 1 := ⟨by decide +kernel, rfl⟩
theorem dL_law_1294 : dI cL_law 1294 1295 (.iaload) 1 := ⟨by decide +kernel, rfl⟩
theorem dL_law_1295 : dI cL_law 1295 1296 (.aload_n 0) 1 := ⟨by decide +kernel, rfl⟩
theorem dL_law_1296 : dI cL_law 1296 1297 (.iload_n 3) 1 := ⟨by decide +kernel, rfl⟩
theorem dL_law_1297 : dI cL_law 1297 1298 (.iconst 2) 1 := ⟨by decide +kernel, rfl⟩
theorem dL_law_1298 : dI cL_law 1298 1299 (.iadd) 1 := ⟨by decide +kernel, rfl⟩
theorem dL_law_1299 : dI cL_law 1299 1300 (.iaload) 1 := ⟨by decide +kernel, rfl⟩
theorem dL_law_1300 : decode cL_law 1300 = .ok (.invokevirtual 162, 3) := by decide +kernel
theorem dL_law_1303 : decode cL_law 1303 = .ok (.if_icmp .eq 166, 3) := by decide +kernel
theorem dL_law_1306 : dI cL_law 1306 1307 (.iconst 0) 1 := ⟨by decide +kernel, rfl⟩
theorem dL_law_1307 : dI cL_law 1307 1308 (.ireturn) 1 := ⟨by decide +kernel, rfl⟩
theorem dL_law_1308 : dI cL_law 1308 1309 (.aload_n 1) 1 := ⟨by decide +kernel, rfl⟩
theorem dL_law_1309 : dI cL_law 1309 1310 (.aload_n 0) 1 := ⟨by decide +kernel, rfl⟩
theorem dL_law_1310 : dI cL_law 1310 1311 (.iload_n 3) 1 := ⟨by decide +kernel, rfl⟩
theorem dL_law_1311 : dI cL_law 1311 1312 (.iconst 1) 1 := ⟨by decide +kernel, rfl⟩
theorem dL_law_1312 : dI cL_law 1312 1313 (.iadd) 1 := ⟨by decide +kernel, rfl⟩
theorem dL_law_1313 : dI cL_law 1313 1314 (.iaload) 1 := ⟨by decide +kernel, rfl⟩
theorem dL_law_1314 : dI cL_law 1314 1315 (.aload_n 0) 1 := ⟨by decide +kernel, rfl⟩
theorem dL_law_1315 : dI cL_law 1315 1316 (.iload_n 3) 1 := ⟨by decide +kernel, rfl⟩
theorem dL_law_1316 : dI cL_law 1316 1317 (.iconst 2) 1 := ⟨by decide +kernel, rfl⟩
theorem dL_law_1317 : dI cL_law 1317 1318 (.iadd) 1 := ⟨by decide +kernel, rfl⟩
theorem dL_law_1318 : dI cL_law 1318 1319 (.iaload) 1 := ⟨by decide +kernel, rfl⟩
theorem dL_law_1319 : decode cL_law 1319 = .ok (.invokevirtual 163, 3) := by decide +kernel
theorem dL_law_1322 : dI cL_law 1322 1323 (.aload_n 2) 1 := ⟨by decide +kernel, rfl⟩
theorem dL_law_1323 : dI cL_law 1323 1324 (.aload_n 0) 1 := ⟨by decide +kernel, rfl⟩
theorem dL_law_1324 : dI cL_law 1324 1325 (.iload_n 3) 1 := ⟨by decide +kernel, rfl⟩
theorem dL_law_1325 : dI cL_law 1325 1326 (.iconst 1) 1 := ⟨by decide +kernel, rfl⟩
theorem dL_law_1326 : dI cL_law 1326 1327 (.iadd) 1 := ⟨by decide +kernel, rfl⟩
theorem dL_law_1327 : dI cL_law 1327 1328 (.iaload) 1 := ⟨by decide +kernel, rfl⟩
theorem dL_law_1328 : dI cL_law 1328 1329 (.aload_n 0) 1 := ⟨by decide +kernel, rfl⟩
theorem dL_law_1329 : dI cL_law 1329 1330 (.iload_n 3) 1 := ⟨by decide +kernel, rfl⟩
theorem dL_law_1330 : dI cL_law 1330 1331 (.iconst 2) 1 := ⟨by decide +kernel, rfl⟩
theorem dL_law_1331 : dI cL_law 1331 1332 (.iadd) 1 := ⟨by decide +kernel, rfl⟩
theorem dL_law_1332 : dI cL_law 1332 1333 (.iaload) 1 := ⟨by decide +kernel, rfl⟩
theorem dL_law_1333 : decode cL_law 1333 = .ok (.invokevirtual 166, 3) := by decide +kernel
theorem dL_law_1336 : decode cL_law 1336 = .ok (.if_icmp .eq 133, 3) := by decide +kernel
theorem dL_law_1339 : dI cL_law 1339 1340 (.iconst 0) 1 := ⟨by decide +kernel, rfl⟩
theorem dL_law_1340 : dI cL_law 1340 1341 (.ireturn) 1 := ⟨by decide +kernel, rfl⟩
theorem dL_law_1341 : dI cL_law 1341 1342 (.aload_n 1) 1 := ⟨by decide +kernel, rfl⟩
theorem dL_law_1342 : dI cL_law 1342 1343 (.aload_n 0) 1 := ⟨by decide +kernel, rfl⟩
theorem dL_law_1343 : dI cL_law 1343 1344 (.iload_n 3) 1 := ⟨by decide +kernel, rfl⟩
theorem dL_law_1344 : dI cL_law 1344 1345 (.iconst 1) 1 := ⟨by decide +kernel, rfl⟩
theorem dL_law_1345 : dI cL_law 1345 1346 (.iadd) 1 := ⟨by decide +kernel, rfl⟩
theorem dL_law_1346 : dI cL_law 1346 1347 (.iaload) 1 := ⟨by decide +kernel, rfl⟩
theorem dL_law_1347 : dI cL_law 1347 1348 (.aload_n 0) 1 := ⟨by decide +kernel, rfl⟩
theorem dL_law_1348 : dI cL_law 1348 1349 (.iload_n 3) 1 := ⟨by decide +kernel, rfl⟩
theorem dL_law_1349 : dI cL_law 1349 1350 (.iconst 2) 1 := ⟨by decide +kernel, rfl⟩
theorem dL_law_1350 : dI cL_law 1350 1351 (.iadd) 1 := ⟨by decide +kernel, rfl⟩
theorem dL_law_1351 : dI cL_law 1351 1352 (.iaload) 1 := ⟨by decide +kernel, rfl⟩
theorem dL_law_1352 : decode cL_law 1352 = .ok (.invokevirtual 167, 3) := by decide +kernel
theorem dL_law_1355 : dI cL_law 1355 1356 (.aload_n 2) 1 := ⟨by decide +kernel, rfl⟩
theorem dL_law_1356 : dI cL_law 1356 1357 (.aload_n 0) 1 := ⟨by decide +kernel, rfl⟩
theorem dL_law_1357 : dI cL_law 1357 1358 (.iload_n 3) 1 := ⟨by decide +kernel, rfl⟩
theorem dL_law_1358 : dI cL_law 1358 1359 (.iconst 1) 1 := ⟨by decide +kernel, rfl⟩
theorem dL_law_1359 : dI cL_law 1359 1360 (.iadd) 1 := ⟨by decide +kernel, rfl⟩
theorem dL_law_1360 : dI cL_law 1360 1361 (.iaload) 1 := ⟨by decide +kernel, rfl⟩
theorem dL_law_1361 : dI cL_law 1361 1362 (.aload_n 0) 1 := ⟨by decide +kernel, rfl⟩
theorem dL_law_1362 : dI cL_law 1362 1363 (.iload_n 3) 1 := ⟨by decide +kernel, rfl⟩
theorem dL_law_1363 : dI cL_law 1363 1364 (.iconst 2) 1 := ⟨by decide +kernel, rfl⟩
theorem dL_law_1364 : dI cL_law 1364 1365 (.iadd) 1 := ⟨by decide +kernel, rfl⟩
theorem dL_law_1365 : dI cL_law 1365 1366 (.iaload) 1 := ⟨by decide +kernel, rfl⟩
theorem dL_law_1366 : decode cL_law 1366 = .ok (.invokevirtual 170, 3) := by decide +kernel
theorem dL_law_1369 : decode cL_law 1369 = .ok (.if_icmp .eq 100, 3) := by decide +kernel
theorem dL_law_1372 : dI cL_law 1372 1373 (.iconst 0) 1 := ⟨by decide +kernel, rfl⟩
theorem dL_law_1373 : dI cL_law 1373 1374 (.ireturn) 1 := ⟨by decide +kernel, rfl⟩
theorem dL_law_1374 : dI cL_law 1374 1375 (.aload_n 1) 1 := ⟨by decide +kernel, rfl⟩
theorem dL_law_1375 : dI cL_law 1375 1376 (.aload_n 0) 1 := ⟨by decide +kernel, rfl⟩
theorem dL_law_1376 : dI cL_law 1376 1377 (.iload_n 3) 1 := ⟨by decide +kernel, rfl⟩
theorem dL_law_1377 : dI cL_law 1377 1378 (.iconst 1) 1 := ⟨by decide +kernel, rfl⟩
theorem dL_law_1378 : dI cL_law 1378 1379 (.iadd) 1 := ⟨by decide +kernel, rfl⟩
theorem dL_law_1379 : dI cL_law 1379 1380 (.iaload) 1 := ⟨by decide +kernel, rfl⟩
theorem dL_law_1380 : decode cL_law 1380 = .ok (.invokevirtual 171, 3) := by decide +kernel
theorem dL_law_1383 : dI cL_law 1383 1384 (.aload_n 2) 1 := ⟨by decide +kernel, rfl⟩
theorem dL_law_1384 : dI cL_law 1384 1385 (.aload_n 0) 1 := ⟨by decide +kernel, rfl⟩
theorem dL_law_1385 : dI cL_law 1385 1386 (.iload_n 3) 1 := ⟨by decide +kernel, rfl⟩
theorem dL_law_1386 : dI cL_law 1386 1387 (.iconst 1) 1 := ⟨by decide +kernel, rfl⟩
theorem dL_law_1387 : dI cL_law 1387 1388 (.iadd) 1 := ⟨by decide +kernel, rfl⟩
theorem dL_law_1388 : dI cL_law 1388 1389 (.iaload) 1 := ⟨by decide +kernel, rfl⟩
theorem dL_law_1389 : decode cL_law 1389 = .ok (.invokevirtual 174, 3) := by decide +kernel
theorem dL_law_1392 : decode cL_law 1392 = .ok (.if_icmp .eq 77, 3) := by decide +kernel
theorem dL_law_1395 : dI cL_law 1395 1396 (.iconst 0) 1 := ⟨by decide +kernel, rfl⟩
theorem dL_law_1396 : dI cL_law 1396 1397 (.ireturn) 1 := ⟨by decide +kernel, rfl⟩
theorem dL_law_1397 : dI cL_law 1397 1398 (.aload_n 1) 1 := ⟨by decide +kernel, rfl⟩
theorem dL_law_1398 : dI cL_law 1398 1399 (.aload_n 0) 1 := ⟨by decide +kernel, rfl⟩
theorem dL_law_1399 : dI cL_law 1399 1400 (.iload_n 3) 1 := ⟨by decide +kernel, rfl⟩
theorem dL_law_1400 : dI cL_law 1400 1401 (.iconst 1) 1 := ⟨by decide +kernel, rfl⟩
theorem dL_law_1401 : dI cL_law 1401 1402 (.iadd) 1 := ⟨by decide +kernel, rfl⟩
theorem dL_law_1402 : dI cL_law 1402 1403 (.iaload) 1 := ⟨by decide +kernel, rfl⟩
theorem dL_law_1403 : decode cL_law 1403 = .ok (.invokevirtual 175, 3) := by decide +kernel
theorem dL_law_1406 : dI cL_law 1406 1407 (.aload_n 2) 1 := ⟨by decide +kernel, rfl⟩
theorem dL_law_1407 : dI cL_law 1407 1408 (.aload_n 0) 1 := ⟨by decide +kernel, rfl⟩
theorem dL_law_1408 : dI cL_law 1408 1409 (.iload_n 3) 1 := ⟨by decide +kernel, rfl⟩
theorem dL_law_1409 : dI cL_law 1409 1410 (.iconst 1) 1 := ⟨by decide +kernel, rfl⟩
theorem dL_law_1410 : dI cL_law 1410 1411 (.iadd) 1 := ⟨by decide +kernel, rfl⟩
theorem dL_law_1411 : dI cL_law 1411 1412 (.iaload) 1 := ⟨by decide +kernel, rfl⟩
theorem dL_law_1412 : decode cL_law 1412 = .ok (.invokevirtual 178, 3) := by decide +kernel
theorem dL_law_1415 : decode cL_law 1415 = .ok (.if_icmp .eq 54, 3) := by decide +kernel
theorem dL_law_1418 : dI cL_law 1418 1419 (.iconst 0) 1 := ⟨by decide +kernel, rfl⟩
theorem dL_law_1419 : dI cL_law 1419 1420 (.ireturn) 1 := ⟨by decide +kernel, rfl⟩
theorem dL_law_1420 : dI cL_law 1420 1421 (.aload_n 1) 1 := ⟨by decide +kernel, rfl⟩
theorem dL_law_1421 : decode cL_law 1421 = .ok (.invokevirtual 179, 3) := by decide +kernel
theorem dL_law_1424 : dI cL_law 1424 1425 (.aload_n 2) 1 := ⟨by decide +kernel, rfl⟩
theorem dL_law_1425 : decode cL_law 1425 = .ok (.invokevirtual 182, 3) := by decide +kernel
theorem dL_law_1428 : decode cL_law 1428 = .ok (.if_icmp .eq 41, 3) := by decide +kernel
theorem dL_law_1431 : dI cL_law 1431 1432 (.iconst 0) 1 := ⟨by decide +kernel, rfl⟩
theorem dL_law_1432 : dI cL_law 1432 1433 (.ireturn) 1 := ⟨by decide +kernel, rfl⟩
theorem dL_law_1433 : dI cL_law 1433 1434 (.aload_n 1) 1 := ⟨by decide +kernel, rfl⟩
theorem dL_law_1434 : decode cL_law 1434 = .ok (.invokevirtual 183, 3) := by decide +kernel
theorem dL_law_1437 : dI cL_law 1437 1438 (.aload_n 2) 1 := ⟨by decide +kernel, rfl⟩
theorem dL_law_1438 : decode cL_law 1438 = .ok (.invokevirtual 186, 3) := by decide +kernel
theorem dL_law_1441 : decode cL_law 1441 = .ok (.if_icmp .eq 28, 3) := by decide +kernel
theorem dL_law_1444 : dI cL_law 1444 1445 (.iconst 0) 1 := ⟨by decide +kernel, rfl⟩
theorem dL_law_1445 : dI cL_law 1445 1446 (.ireturn) 1 := ⟨by decide +kernel, rfl⟩
theorem dL_law_1446 : dI cL_law 1446 1447 (.aload_n 1) 1 := ⟨by decide +kernel, rfl⟩
theorem dL_law_1447 : dI cL_law 1447 1448 (.aload_n 0) 1 := ⟨by decide +kernel, rfl⟩
theorem dL_law_1448 : dI cL_law 1448 1449 (.iload_n 3) 1 := ⟨by decide +kernel, rfl⟩
theorem dL_law_1449 : dI cL_law 1449 1450 (.iconst 1) 1 := ⟨by decide +kernel, rfl⟩
theorem dL_law_1450 : dI cL_law 1450 1451 (.iadd) 1 := ⟨by decide +kernel, rfl⟩
theorem dL_law_1451 : dI cL_law 1451 1452 (.iaload) 1 := ⟨by decide +kernel, rfl⟩
theorem dL_law_1452 : decode cL_law 1452 = .ok (.invokevirtual 187, 3) := by decide +kernel
theorem dL_law_1455 : dI cL_law 1455 1456 (.aload_n 2) 1 := ⟨by decide +kernel, rfl⟩
theorem dL_law_1456 : dI cL_law 1456 1457 (.aload_n 0) 1 := ⟨by decide +kernel, rfl⟩
theorem dL_law_1457 : dI cL_law 1457 1458 (.iload_n 3) 1 := ⟨by decide +kernel, rfl⟩
theorem dL_law_1458 : dI cL_law 1458 1459 (.iconst 1) 1 := ⟨by decide +kernel, rfl⟩
theorem dL_law_1459 : dI cL_law 1459 1460 (.iadd) 1 := ⟨by decide +kernel, rfl⟩
theorem dL_law_1460 : dI cL_law 1460 1461 (.iaload) 1 := ⟨by decide +kernel, rfl⟩
theorem dL_law_1461 : decode cL_law 1461 = .ok (.invokevirtual 190, 3) := by decide +kernel
theorem dL_law_1464 : decode cL_law 1464 = .ok (.if_icmp .eq 5, 3) := by decide +kernel
theorem dL_law_1467 : dI cL_law 1467 1468 (.iconst 0) 1 := ⟨by decide +kernel, rfl⟩
theorem dL_law_1468 : dI cL_law 1468 1469 (.ireturn) 1 := ⟨by decide +kernel, rfl⟩
theorem dL_law_1469 : dI cL_law 1469 1472 (.iinc 3 6) 3 := ⟨by decide +kernel, rfl⟩
theorem dL_law_1472 : decode cL_law 1472 = .ok (.goto (-1454), 3) := by decide +kernel
theorem dL_law_1475 : dI cL_law 1475 1476 (.iconst 1) 1 := ⟨by decide +kernel, rfl⟩
theorem dL_law_1476 : dI cL_law 1476 1477 (.ireturn) 1 := ⟨by decide +kernel, rfl⟩
def f_L_law_b1469 (k18 : (Nat × (Nat → Int32)) → Nat → Nat → Int32 → hS → Option (Int32 × hS)) (sc : (Nat × (Nat → Int32))) (l1 : Nat) (l2 : Nat) (l3 : Int32) (s : hS) : Option (Int32 × hS) :=
  k18 sc l1 l2 (l3 + (6 : Int32)) s
theorem b_L_law_1469 (E : jE) (k18 : (Nat × (Nat → Int32)) → Nat → Nat → Int32 → hS → Option (Int32 × hS)) (h18 : ∀ (s : hS)  (l1 : Nat) (l2 : Nat) (l3 : Int32) , Jo E M_L_law cvI 18 [(0, .ref E.2.2.2.2.2.2.2.1), (1, .ref l1), (2, .ref l2), (3, .int l3)] [] s (k18 E.2.2.2.2.2.2.2.2 l1 l2 l3 s)) (s : hS)  (l1 : Nat) (l2 : Nat) (l3 : Int32)  : Jo E M_L_law cvI 1469 [(0, .ref E.2.2.2.2.2.2.2.1), (1, .ref l1), (2, .ref l2), (3, .int l3)] [] s (f_L_law_b1469 k18 E.2.2.2.2.2.2.2.2 l1 l2 l3 s) := by
  unfold f_L_law_b1469
  refine Jo_iinc (v := (l3 + (6 : Int32))) (ls' := [(3, .int (l3 + (6 : Int32))), (0, .ref E.2.2.2.2.2.2.2.1), (1, .ref l1), (2, .ref l2)]) 3 dL_law_1469 rfl rfl (by decide) rfl ?_
  refine Jo_goto 18 dL_law_1472 (by decide) ?_
  refine Jo_sub [1, 2, 3, 0] rfl ?_
  exact h18 s l1 l2 (l3 + (6 : Int32))
def f_L_law_b18 (k18 : (Nat × (Nat → Int32)) → Nat → Nat → Int32 → hS → Option (Int32 × hS)) (sc : (Nat × (Nat → Int32))) (l1 : Nat) (l2 : Nat) (l3 : Int32) (s : hS) : Option (Int32 × hS) :=
  if ((Int32.ofNat sc.1) - (6 : Int32)) < l3 then
    some ((1 : Int32), s)
  else
    (scr sc l3).bind fun x1 =>
    nmv ((x1 &&& (63 : Int32))) fun x2 =>
    if x2 = (0 : Int32) then
      (scr sc (l3 + (1 : Int32))).bind fun x4 =>
      (cV s l1 6 (f_X6_fact s l1 x4)).bind fun p5 =>
      (scr sc (l3 + (1 : Int32))).bind fun x6 =>
      (cV p5.2 l2 7 (f_X7_fact p5.2 l2 x6)).bind fun p7 =>
      if p5.1 = p7.1 then
        f_L_law_b1469 k18 sc l1 l2 l3 p7.2
      else
        some ((0 : Int32), p7.2)
    else
    if x2 = (1 : Int32) then
      (scr sc (l3 + (1 : Int32))).bind fun x9 =>
      (scr sc (l3 + (2 : Int32))).bind fun x10 =>
      (cV s l1 6 (f_X6_factTold s l1 x9 x10)).bind fun p11 =>
      (scr sc (l3 + (1 : Int32))).bind fun x12 =>
      (scr sc (l3 + (2 : Int32))).bind fun x13 =>
      (cV p11.2 l2 7 (f_X7_factTold p11.2 l2 x12 x13)).bind fun p14 =>
      if p11.1 = p14.1 then
        f_L_law_b1469 k18 sc l1 l2 l3 p14.2
      else
        some ((0 : Int32), p14.2)
    else
    if x2 = (2 : Int32) then
      (scr sc (l3 + (1 : Int32))).bind fun x16 =>
      (scr sc (l3 + (2 : Int32))).bind fun x17 =>
      (scr sc (l3 + (3 : Int32))).bind fun x18 =>
      (cV s l1 6 (f_X6_set s l1 x16 x17 x18)).bind fun p19 =>
      (scr sc (l3 + (1 : Int32))).bind fun x20 =>
      (scr sc (l3 + (2 : Int32))).bind fun x21 =>
      (scr sc (l3 + (3 : Int32))).bind fun x22 =>
      (cV p19.2 l2 7 (f_X7_set p19.2 l2 x20 x21 x22)).bind fun p23 =>
      if p19.1 = p23.1 then
        f_L_law_b1469 k18 sc l1 l2 l3 p23.2
      else
        some ((0 : Int32), p23.2)
    else
    if x2 = (3 : Int32) then
      (cV s l1 6 (f_X6_person s l1)).bind fun p25 =>
      (cV p25.2 l2 7 (f_X7_person p25.2 l2)).bind fun p26 =>
      if p25.1 = p26.1 then
        f_L_law_b1469 k18 sc l1 l2 l3 p26.2
      else
        some ((0 : Int32), p26.2)
    else
    if x2 = (4 : Int32) then
      (scr sc (l3 + (1 : Int32))).bind fun x28 =>
      (scr sc (l3 + (2 : Int32))).bind fun x29 =>
      (cV s l1 6 (f_X6_personTold s l1 x28 x29)).bind fun p30 =>
      (scr sc (l3 + (1 : Int32))).bind fun x31 =>
      (scr sc (l3 + (2 : Int32))).bind fun x32 =>
      (cV p30.2 l2 7 (f_X7_personTold p30.2 l2 x31 x32)).bind fun p33 =>
      if p30.1 = p33.1 then
        f_L_law_b1469 k18 sc l1 l2 l3 p33.2
      else
        some ((0 : Int32), p33.2)
    else
    if x2 = (5 : Int32) then
      (scr sc (l3 + (1 : Int32))).bind fun x35 =>
      (scr sc (l3 + (2 : Int32))).bind fun x36 =>
      (scr sc (l3 + (3 : Int32))).bind fun x37 =>
      (cV s l1 6 (f_X6_knows s l1 x35 x36 x37)).bind fun p38 =>
      (scr sc (l3 + (1 : Int32))).bind fun x39 =>
      (scr sc (l3 + (2 : Int32))).bind fun x40 =>
      (scr sc (l3 + (3 : Int32))).bind fun x41 =>
      (cV p38.2 l2 7 (f_X7_knows p38.2 l2 x39 x40 x41)).bind fun p42 =>
      if p38.1 = p42.1 then
        f_L_law_b1469 k18 sc l1 l2 l3 p42.2
      else
        some ((0 : Int32), p42.2)
    else
    if x2 = (6 : Int32) then
      (scr sc (l3 + (1 : Int32))).bind fun x44 =>
      (scr sc (l3 + (2 : Int32))).bind fun x45 =>
      (scr sc (l3 + (3 : Int32))).bind fun x46 =>
      (cV s l1 6 (f_X6_follows s l1 x44 x45 x46)).bind fun p47 =>
      (scr sc (l3 + (1 : Int32))).bind fun x48 =>
      (scr sc (l3 + (2 : Int32))).bind fun x49 =>
      (scr sc (l3 + (3 : Int32))).bind fun x50 =>
      (cV p47.2 l2 7 (f_X7_follows p47.2 l2 x48 x49 x50)).bind fun p51 =>
      if p47.1 = p51.1 then
        f_L_law_b1469 k18 sc l1 l2 l3 p51.2
      else
        some ((0 : Int32), p51.2)
    else
    if x2 = (7 : Int32) then
      (scr sc (l3 + (1 : Int32))).bind fun x53 =>
      (scr sc (l3 + (2 : Int32))).bind fun x54 =>
      (cV s l1 6 (f_X6_price s l1 x53 x54)).bind fun p55 =>
      (scr sc (l3 + (1 : Int32))).bind fun x56 =>
      (scr sc (l3 + (2 : Int32))).bind fun x57 =>
      (cV p55.2 l2 7 (f_X7_price p55.2 l2 x56 x57)).bind fun p58 =>
      if p55.1 = p58.1 then
        f_L_law_b1469 k18 sc l1 l2 l3 p58.2
      else
        some ((0 : Int32), p58.2)
    else
    if x2 = (8 : Int32) then
      (cV s l1 6 (f_X6_deal s l1)).bind fun p60 =>
      (cV p60.2 l2 7 (f_X7_deal p60.2 l2)).bind fun p61 =>
      if p60.1 = p61.1 then
        f_L_law_b1469 k18 sc l1 l2 l3 p61.2
      else
        some ((0 : Int32), p61.2)
    else
    if x2 = (9 : Int32) then
      (scr sc (l3 + (1 : Int32))).bind fun x63 =>
      (cV s l1 6 (f_X6_seed s l1 x63)).bind fun p64 =>
      (scr sc (l3 + (1 : Int32))).bind fun x65 =>
      (cV p64.2 l2 7 (f_X7_seed p64.2 l2 x65)).bind fun p66 =>
      if p64.1 = p66.1 then
        f_L_law_b1469 k18 sc l1 l2 l3 p66.2
      else
        some ((0 : Int32), p66.2)
    else
    if x2 = (10 : Int32) then
      (scr sc (l3 + (1 : Int32))).bind fun x68 =>
      (cV s l1 6 (f_X6_clock s l1 x68)).bind fun p69 =>
      (scr sc (l3 + (1 : Int32))).bind fun x70 =>
      (cV p69.2 l2 7 (f_X7_clock p69.2 l2 x70)).bind fun p71 =>
      if p69.1 = p71.1 then
        f_L_law_b1469 k18 sc l1 l2 l3 p71.2
      else
        some ((0 : Int32), p71.2)
    else
    if x2 = (11 : Int32) then
      (scr sc (l3 + (1 : Int32))).bind fun x73 =>
      (scr sc (l3 + (2 : Int32))).bind fun x74 =>
      (scr sc (l3 + (3 : Int32))).bind fun x75 =>
      (cV s l1 6 (f_X6_talk s l1 x73 x74 x75)).bind fun p76 =>
      (scr sc (l3 + (1 : Int32))).bind fun x77 =>
      (scr sc (l3 + (2 : Int32))).bind fun x78 =>
      (scr sc (l3 + (3 : Int32))).bind fun x79 =>
      (cV p76.2 l2 7 (f_X7_talk p76.2 l2 x77 x78 x79)).bind fun p80 =>
      if p76.1 = p80.1 then
        f_L_law_b1469 k18 sc l1 l2 l3 p80.2
      else
        some ((0 : Int32), p80.2)
    else
    if x2 = (12 : Int32) then
      (scr sc (l3 + (1 : Int32))).bind fun x82 =>
      (scr sc (l3 + (2 : Int32))).bind fun x83 =>
      (cV s l1 6 (f_X6_told s l1 x82 x83)).bind fun p84 =>
      (scr sc (l3 + (1 : Int32))).bind fun x85 =>
      (scr sc (l3 + (2 : Int32))).bind fun x86 =>
      (cV p84.2 l2 7 (f_X7_told p84.2 l2 x85 x86)).bind fun p87 =>
      if p84.1 = p87.1 then
        f_L_law_b1469 k18 sc l1 l2 l3 p87.2
      else
        some ((0 : Int32), p87.2)
    else
    if x2 = (13 : Int32) then
      (scr sc (l3 + (1 : Int32))).bind fun x89 =>
      (scr sc (l3 + (2 : Int32))).bind fun x90 =>
      (cV s l1 6 (f_X6_as s l1 x89 x90)).bind fun p91 =>
      (scr sc (l3 + (1 : Int32))).bind fun x92 =>
      (scr sc (l3 + (2 : Int32))).bind fun x93 =>
      (cV p91.2 l2 7 (f_X7_as p91.2 l2 x92 x93)).bind fun p94 =>
      if p91.1 = p94.1 then
        f_L_law_b1469 k18 sc l1 l2 l3 p94.2
      else
        some ((0 : Int32), p94.2)
    else
    if x2 = (14 : Int32) then
      (scr sc (l3 + (1 : Int32))).bind fun x96 =>
      (scr sc (l3 + (2 : Int32))).bind fun x97 =>
      (cV s l1 6 (f_X6_turns s l1 x96 x97)).bind fun p98 =>
      (scr sc (l3 + (1 : Int32))).bind fun x99 =>
      (scr sc (l3 + (2 : Int32))).bind fun x100 =>
      (cV p98.2 l2 7 (f_X7_turns p98.2 l2 x99 x100)).bind fun p101 =>
      if p98.1 = p101.1 then
        f_L_law_b1469 k18 sc l1 l2 l3 p101.2
      else
        some ((0 : Int32), p101.2)
    else
    if x2 = (15 : Int32) then
      (scr sc (l3 + (1 : Int32))).bind fun x103 =>
      (cV s l1 6 (f_X6_say s l1 x103)).bind fun p104 =>
      (scr sc (l3 + (1 : Int32))).bind fun x105 =>
      (cV p104.2 l2 7 (f_X7_say p104.2 l2 x105)).bind fun p106 =>
      if p104.1 = p106.1 then
        f_L_law_b1469 k18 sc l1 l2 l3 p106.2
      else
        some ((0 : Int32), p106.2)
    else
    if x2 = (16 : Int32) then
      (cV s l1 6 (f_X6_round s l1)).bind fun p108 =>
      (cV p108.2 l2 7 (f_X7_round p108.2 l2)).bind fun p109 =>
      if p108.1 = p109.1 then
        f_L_law_b1469 k18 sc l1 l2 l3 p109.2
      else
        some ((0 : Int32), p109.2)
    else
    if x2 = (17 : Int32) then
      (cV s l1 6 (f_X6_market s l1)).bind fun p111 =>
      (cV p111.2 l2 7 (f_X7_market p111.2 l2)).bind fun p112 =>
      if p111.1 = p112.1 then
        f_L_law_b1469 k18 sc l1 l2 l3 p112.2
      else
        some ((0 : Int32), p112.2)
    else
    if x2 = (18 : Int32) then
      (cV s l1 6 (f_X6_richest s l1)).bind fun p114 =>
      (cV p114.2 l2 7 (f_X7_richest p114.2 l2)).bind fun p115 =>
      if p114.1 = p115.1 then
        f_L_law_b1469 k18 sc l1 l2 l3 p115.2
      else
        some ((0 : Int32), p115.2)
    else
    if x2 = (19 : Int32) then
      (scr sc (l3 + (1 : Int32))).bind fun x117 =>
      (scr sc (l3 + (2 : Int32))).bind fun x118 =>
      (scr sc (l3 + (3 : Int32))).bind fun x119 =>
      (scr sc (l3 + (4 : Int32))).bind fun x120 =>
      (cV s l1 6 (f_X6_fewest s l1 x117 x118 x119 x120)).bind fun p121 =>
      (scr sc (l3 + (1 : Int32))).bind fun x122 =>
      (scr sc (l3 + (2 : Int32))).bind fun x123 =>
      (scr sc (l3 + (3 : Int32))).bind fun x124 =>
      (scr sc (l3 + (4 : Int32))).bind fun x125 =>
      (cV p121.2 l2 7 (f_X7_fewest p121.2 l2 x122 x123 x124 x125)).bind fun p126 =>
      if p121.1 = p126.1 then
        f_L_law_b1469 k18 sc l1 l2 l3 p126.2
      else
        some ((0 : Int32), p126.2)
    else
    if x2 = (20 : Int32) then
      (scr sc (l3 + (1 : Int32))).bind fun x128 =>
      (scr sc (l3 + (2 : Int32))).bind fun x129 =>
      (cV s l1 6 (f_X6_look s l1 x128 x129)).bind fun p130 =>
      (scr sc (l3 + (1 : Int32))).bind fun x131 =>
      (scr sc (l3 + (2 : Int32))).bind fun x132 =>
      (cV p130.2 l2 7 (f_X7_look p130.2 l2 x131 x132)).bind fun p133 =>
      if p130.1 = p133.1 then
        f_L_law_b1469 k18 sc l1 l2 l3 p133.2
      else
        some ((0 : Int32), p133.2)
    else
    if x2 = (21 : Int32) then
      (scr sc (l3 + (1 : Int32))).bind fun x135 =>
      (scr sc (l3 + (2 : Int32))).bind fun x136 =>
      (cV s l1 6 (f_X6_find s l1 x135 x136)).bind fun p137 =>
      (scr sc (l3 + (1 : Int32))).bind fun x138 =>
      (scr sc (l3 + (2 : Int32))).bind fun x139 =>
      (cV p137.2 l2 7 (f_X7_find p137.2 l2 x138 x139)).bind fun p140 =>
      if p137.1 = p140.1 then
        f_L_law_b1469 k18 sc l1 l2 l3 p140.2
      else
        some ((0 : Int32), p140.2)
    else
    if x2 = (22 : Int32) then
      (scr sc (l3 + (1 : Int32))).bind fun x142 =>
      (cV s l1 6 (f_X6_keepsBack s l1 x142)).bind fun p143 =>
      (scr sc (l3 + (1 : Int32))).bind fun x144 =>
      (cV p143.2 l2 7 (f_X7_keepsBack p143.2 l2 x144)).bind fun p145 =>
      if p143.1 = p145.1 then
        f_L_law_b1469 k18 sc l1 l2 l3 p145.2
      else
        some ((0 : Int32), p145.2)
    else
    if x2 = (23 : Int32) then
      (cV s l1 6 (f_X6_fine s l1)).bind fun p147 =>
      (cV p147.2 l2 7 (f_X7_fine p147.2 l2)).bind fun p148 =>
      if p147.1 = p148.1 then
        f_L_law_b1469 k18 sc l1 l2 l3 p148.2
      else
        some ((0 : Int32), p148.2)
    else
    if x2 = (24 : Int32) then
      (scr sc (l3 + (1 : Int32))).bind fun x150 =>
      (scr sc (l3 + (2 : Int32))).bind fun x151 =>
      (scr sc (l3 + (3 : Int32))).bind fun x152 =>
      (cV s l1 6 (f_X6_feed s l1 x150 x151 x152)).bind fun p153 =>
      (scr sc (l3 + (1 : Int32))).bind fun x154 =>
      (scr sc (l3 + (2 : Int32))).bind fun x155 =>
      (scr sc (l3 + (3 : Int32))).bind fun x156 =>
      (cV p153.2 l2 7 (f_X7_feed p153.2 l2 x154 x155 x156)).bind fun p157 =>
      if p153.1 = p157.1 then
        f_L_law_b1469 k18 sc l1 l2 l3 p157.2
      else
        some ((0 : Int32), p157.2)
    else
    if x2 = (25 : Int32) then
      (scr sc (l3 + (1 : Int32))).bind fun x159 =>
      (cV s l1 6 (f_X6_trim s l1 x159)).bind fun p160 =>
      (scr sc (l3 + (1 : Int32))).bind fun x161 =>
      (cV p160.2 l2 7 (f_X7_trim p160.2 l2 x161)).bind fun p162 =>
      if p160.1 = p162.1 then
        f_L_law_b1469 k18 sc l1 l2 l3 p162.2
      else
        some ((0 : Int32), p162.2)
    else
    if x2 = (26 : Int32) then
      (cV s l1 6 (f_X6_text s l1)).bind fun p164 =>
      (cV p164.2 l2 7 (f_X7_text p164.2 l2)).bind fun p165 =>
      if p164.1 = p165.1 then
        f_L_law_b1469 k18 sc l1 l2 l3 p165.2
      else
        some ((0 : Int32), p165.2)
    else
    if x2 = (27 : Int32) then
      (scr sc (l3 + (1 : Int32))).bind fun x167 =>
      (scr sc (l3 + (2 : Int32))).bind fun x168 =>
      (cV s l1 6 (f_X6_textTold s l1 x167 x168)).bind fun p169 =>
      (scr sc (l3 + (1 : Int32))).bind fun x170 =>
      (scr sc (l3 + (2 : Int32))).bind fun x171 =>
      (cV p169.2 l2 7 (f_X7_textTold p169.2 l2 x170 x171)).bind fun p172 =>
      if p169.1 = p172.1 then
        f_L_law_b1469 k18 sc l1 l2 l3 p172.2
      else
        some ((0 : Int32), p172.2)
    else
    if x2 = (28 : Int32) then
      (scr sc (l3 + (1 : Int32))).bind fun x174 =>
      (cV s l1 6 (f_X6_why s l1 x174)).bind fun p175 =>
      (scr sc (l3 + (1 : Int32))).bind fun x176 =>
      (cV p175.2 l2 7 (f_X7_why p175.2 l2 x176)).bind fun p177 =>
      if p175.1 = p177.1 then
        f_L_law_b1469 k18 sc l1 l2 l3 p177.2
      else
        some ((0 : Int32), p177.2)
    else
    if x2 = (29 : Int32) then
      (scr sc (l3 + (1 : Int32))).bind fun x179 =>
      (scr sc (l3 + (2 : Int32))).bind fun x180 =>
      (scr sc (l3 + (3 : Int32))).bind fun x181 =>
      (cV s l1 6 (f_X6_sheet s l1 x179 x180 x181)).bind fun p182 =>
      (scr sc (l3 + (1 : Int32))).bind fun x183 =>
      (scr sc (l3 + (2 : Int32))).bind fun x184 =>
      (scr sc (l3 + (3 : Int32))).bind fun x185 =>
      (cV p182.2 l2 7 (f_X7_sheet p182.2 l2 x183 x184 x185)).bind fun p186 =>
      if p182.1 = p186.1 then
        f_L_law_b1469 k18 sc l1 l2 l3 p186.2
      else
        some ((0 : Int32), p186.2)
    else
    if x2 = (30 : Int32) then
      (scr sc (l3 + (1 : Int32))).bind fun x188 =>
      (scr sc (l3 + (2 : Int32))).bind fun x189 =>
      (scr sc (l3 + (3 : Int32))).bind fun x190 =>
      (cV s l1 6 (f_X6_mark s l1 x188 x189 x190)).bind fun p191 =>
      (scr sc (l3 + (1 : Int32))).bind fun x192 =>
      (scr sc (l3 + (2 : Int32))).bind fun x193 =>
      (scr sc (l3 + (3 : Int32))).bind fun x194 =>
      (cV p191.2 l2 7 (f_X7_mark p191.2 l2 x192 x193 x194)).bind fun p195 =>
      if p191.1 = p195.1 then
        f_L_law_b1469 k18 sc l1 l2 l3 p195.2
      else
        some ((0 : Int32), p195.2)
    else
    if x2 = (31 : Int32) then
      (scr sc (l3 + (1 : Int32))).bind fun x197 =>
      (cV s l1 6 (f_X6_pour s l1 x197)).bind fun p198 =>
      (scr sc (l3 + (1 : Int32))).bind fun x199 =>
      (cV p198.2 l2 7 (f_X7_pour p198.2 l2 x199)).bind fun p200 =>
      if p198.1 = p200.1 then
        f_L_law_b1469 k18 sc l1 l2 l3 p200.2
      else
        some ((0 : Int32), p200.2)
    else
    if x2 = (32 : Int32) then
      (scr sc (l3 + (1 : Int32))).bind fun x202 =>
      (cV s l1 6 (f_X6_reads s l1 x202)).bind fun p203 =>
      (scr sc (l3 + (1 : Int32))).bind fun x204 =>
      (cV p203.2 l2 7 (f_X7_reads p203.2 l2 x204)).bind fun p205 =>
      if p203.1 = p205.1 then
        f_L_law_b1469 k18 sc l1 l2 l3 p205.2
      else
        some ((0 : Int32), p205.2)
    else
    if x2 = (33 : Int32) then
      (scr sc (l3 + (1 : Int32))).bind fun x207 =>
      (scr sc (l3 + (2 : Int32))).bind fun x208 =>
      (scr sc (l3 + (3 : Int32))).bind fun x209 =>
      (scr sc (l3 + (4 : Int32))).bind fun x210 =>
      (scr sc (l3 + (5 : Int32))).bind fun x211 =>
      (cV s l1 6 (f_X6_copy s l1 x207 x208 x209 x210 x211)).bind fun p212 =>
      (scr sc (l3 + (1 : Int32))).bind fun x213 =>
      (scr sc (l3 + (2 : Int32))).bind fun x214 =>
      (scr sc (l3 + (3 : Int32))).bind fun x215 =>
      (scr sc (l3 + (4 : Int32))).bind fun x216 =>
      (scr sc (l3 + (5 : Int32))).bind fun x217 =>
      (cV p212.2 l2 7 (f_X7_copy p212.2 l2 x213 x214 x215 x216 x217)).bind fun p218 =>
      if p212.1 = p218.1 then
        f_L_law_b1469 k18 sc l1 l2 l3 p218.2
      else
        some ((0 : Int32), p218.2)
    else
    if x2 = (34 : Int32) then
      (scr sc (l3 + (1 : Int32))).bind fun x220 =>
      (scr sc (l3 + (2 : Int32))).bind fun x221 =>
      (scr sc (l3 + (3 : Int32))).bind fun x222 =>
      (cV s l1 6 (f_X6_lay s l1 x220 x221 x222)).bind fun p223 =>
      (scr sc (l3 + (1 : Int32))).bind fun x224 =>
      (scr sc (l3 + (2 : Int32))).bind fun x225 =>
      (scr sc (l3 + (3 : Int32))).bind fun x226 =>
      (cV p223.2 l2 7 (f_X7_lay p223.2 l2 x224 x225 x226)).bind fun p227 =>
      if p223.1 = p227.1 then
        f_L_law_b1469 k18 sc l1 l2 l3 p227.2
      else
        some ((0 : Int32), p227.2)
    else
    if x2 = (35 : Int32) then
      (scr sc (l3 + (1 : Int32))).bind fun x229 =>
      (scr sc (l3 + (2 : Int32))).bind fun x230 =>
      (cV s l1 6 (f_X6_ask s l1 x229 x230)).bind fun p231 =>
      (scr sc (l3 + (1 : Int32))).bind fun x232 =>
      (scr sc (l3 + (2 : Int32))).bind fun x233 =>
      (cV p231.2 l2 7 (f_X7_ask p231.2 l2 x232 x233)).bind fun p234 =>
      if p231.1 = p234.1 then
        f_L_law_b1469 k18 sc l1 l2 l3 p234.2
      else
        some ((0 : Int32), p234.2)
    else
    if x2 = (36 : Int32) then
      (scr sc (l3 + (1 : Int32))).bind fun x236 =>
      (scr sc (l3 + (2 : Int32))).bind fun x237 =>
      (cV s l1 6 (f_X6_item s l1 x236 x237)).bind fun p238 =>
      (scr sc (l3 + (1 : Int32))).bind fun x239 =>
      (scr sc (l3 + (2 : Int32))).bind fun x240 =>
      (cV p238.2 l2 7 (f_X7_item p238.2 l2 x239 x240)).bind fun p241 =>
      if p238.1 = p241.1 then
        f_L_law_b1469 k18 sc l1 l2 l3 p241.2
      else
        some ((0 : Int32), p241.2)
    else
    if x2 = (37 : Int32) then
      (scr sc (l3 + (1 : Int32))).bind fun x243 =>
      (scr sc (l3 + (2 : Int32))).bind fun x244 =>
      (cV s l1 6 (f_X6_rest s l1 x243 x244)).bind fun p245 =>
      (scr sc (l3 + (1 : Int32))).bind fun x246 =>
      (scr sc (l3 + (2 : Int32))).bind fun x247 =>
      (cV p245.2 l2 7 (f_X7_rest p245.2 l2 x246 x247)).bind fun p248 =>
      if p245.1 = p248.1 then
        f_L_law_b1469 k18 sc l1 l2 l3 p248.2
      else
        some ((0 : Int32), p248.2)
    else
    if x2 = (38 : Int32) then
      (scr sc (l3 + (1 : Int32))).bind fun x250 =>
      (cV s l1 6 (f_X6_tell s l1 x250)).bind fun p251 =>
      (scr sc (l3 + (1 : Int32))).bind fun x252 =>
      (cV p251.2 l2 7 (f_X7_tell p251.2 l2 x252)).bind fun p253 =>
      if p251.1 = p253.1 then
        f_L_law_b1469 k18 sc l1 l2 l3 p253.2
      else
        some ((0 : Int32), p253.2)
    else
    if x2 = (39 : Int32) then
      (scr sc (l3 + (1 : Int32))).bind fun x255 =>
      (cV s l1 6 (f_X6_check s l1 x255)).bind fun p256 =>
      (scr sc (l3 + (1 : Int32))).bind fun x257 =>
      (cV p256.2 l2 7 (f_X7_check p256.2 l2 x257)).bind fun p258 =>
      if p256.1 = p258.1 then
        f_L_law_b1469 k18 sc l1 l2 l3 p258.2
      else
        some ((0 : Int32), p258.2)
    else
    if x2 = (40 : Int32) then
      (cV s l1 6 (f_X6_keep s l1)).bind fun p260 =>
      (cV p260.2 l2 7 (f_X7_keep p260.2 l2)).bind fun p261 =>
      if p260.1 = p261.1 then
        f_L_law_b1469 k18 sc l1 l2 l3 p261.2
      else
        some ((0 : Int32), p261.2)
    else
    if x2 = (41 : Int32) then
      (cV s l1 6 (f_X6_back s l1)).bind fun p263 =>
      (cV p263.2 l2 7 (f_X7_back p263.2 l2)).bind fun p264 =>
      if p263.1 = p264.1 then
        f_L_law_b1469 k18 sc l1 l2 l3 p264.2
      else
        some ((0 : Int32), p264.2)
    else
    if x2 = (42 : Int32) then
      (scr sc (l3 + (1 : Int32))).bind fun x266 =>
      (cV s l1 6 (f_X6_count s l1 x266)).bind fun p267 =>
      (scr sc (l3 + (1 : Int32))).bind fun x268 =>
      (cV p267.2 l2 7 (f_X7_count p267.2 l2 x268)).bind fun p269 =>
      if p267.1 = p269.1 then
        f_L_law_b1469 k18 sc l1 l2 l3 p269.2
      else
        some ((0 : Int32), p269.2)
    else
    f_L_law_b1469 k18 sc l1 l2 l3 s
theorem b_L_law_18 (E : jE) (k18 : (Nat × (Nat → Int32)) → Nat → Nat → Int32 → hS → Option (Int32 × hS)) (h18 : ∀ (s : hS)  (l1 : Nat) (l2 : Nat) (l3 : Int32) , Jo E M_L_law cvI 18 [(0, .ref E.2.2.2.2.2.2.2.1), (1, .ref l1), (2, .ref l2), (3, .int l3)] [] s (k18 E.2.2.2.2.2.2.2.2 l1 l2 l3 s)) (s : hS)  (l1 : Nat) (l2 : Nat) (l3 : Int32)  : Jo E M_L_law cvI 18 [(0, .ref E.2.2.2.2.2.2.2.1), (1, .ref l1), (2, .ref l2), (3, .int l3)] [] s (f_L_law_b18 k18 E.2.2.2.2.2.2.2.2 l1 l2 l3 s) := by
  unfold f_L_law_b18
  refine Jo_iloadn 3 dL_law_18 rfl rfl ?_
  refine Jo_aloadn 0 dL_law_19 rfl rfl ?_
  refine Jo_sclen dL_law_20 ?_
  refine Jo_bipush (v := (6 : Int32)) dL_law_21 (by decide) ?_
  refine Jo_isub dL_law_23 ?_
  refine Jo_icmp_gt 1475 dL_law_24 (by decide) rfl ?_ ?_
  · refine Jo_iconst (v := (1 : Int32)) dL_law_1475 (by decide) ?_
    exact Jo_zret1 rfl dL_law_1476
  · refine Jo_aloadn 0 dL_law_27 rfl rfl ?_
    refine Jo_iloadn 3 dL_law_28 rfl rfl ?_
    refine Jo_scld dL_law_29 (fun x1 => ?_)
    refine Jo_bipush (v := (63 : Int32)) dL_law_30 (by decide) ?_
    refine Jo_iand dL_law_32 ?_
    refine Jo_nm (fun x2 => ?_)
    refine Jo_case ?_ (fun g3 => ?_)
    · refine Jo_tabIn (off := 187) 220 dL_law_33 (by decide) (by decide) (by decide) (by decide) ?_
      refine Jo_aloadn 1 dL_law_220 rfl rfl ?_
      refine Jo_aloadn 0 dL_law_221 rfl rfl ?_
      refine Jo_iloadn 3 dL_law_222 rfl rfl ?_
      refine Jo_iconst (v := (1 : Int32)) dL_law_223 (by decide) ?_
      refine Jo_iadd dL_law_224 ?_
      refine Jo_scld dL_law_225 (fun x4 => ?_)
      refine Jo_callVi (a := l1) (rest := []) [.int x4] cc_6 yF_X6_fact yV_X6_fact w_981 rfl rfl ⟨Nat.le_of_ble_eq_true rfl, Nat.le_of_ble_eq_true rfl, Nat.le_of_ble_eq_true rfl⟩ dL_law_226 rfl (K_X6_fact E s l1 x4) (fun p5 => ?_)
      refine Jo_aloadn 2 dL_law_229 rfl rfl ?_
      refine Jo_aloadn 0 dL_law_230 rfl rfl ?_
      refine Jo_iloadn 3 dL_law_231 rfl rfl ?_
      refine Jo_iconst (v := (1 : Int32)) dL_law_232 (by decide) ?_
      refine Jo_iadd dL_law_233 ?_
      refine Jo_scld dL_law_234 (fun x6 => ?_)
      refine Jo_callVi (a := l2) (rest := [.int p5.1]) [.int x6] cc_7 yF_X7_fact yV_X7_fact w_980 rfl rfl ⟨Nat.le_of_ble_eq_true rfl, Nat.le_of_ble_eq_true rfl, Nat.le_of_ble_eq_true rfl⟩ dL_law_235 rfl (K_X7_fact E p5.2 l2 x6) (fun p7 => ?_)
      refine Jo_icmp_eq 1469 dL_law_238 (by decide) rfl ?_ ?_
      · exact b_L_law_1469 E k18 h18 p7.2 l1 l2 l3
      · refine Jo_iconst (v := (0 : Int32)) dL_law_241 (by decide) ?_
        exact Jo_zret0 rfl dL_law_242
    refine Jo_case ?_ (fun g8 => ?_)
    · refine Jo_tabIn (off := 210) 243 dL_law_33 (by decide) (by decide) (by decide) (by decide) ?_
      refine Jo_aloadn 1 dL_law_243 rfl rfl ?_
      refine Jo_aloadn 0 dL_law_244 rfl rfl ?_
      refine Jo_iloadn 3 dL_law_245 rfl rfl ?_
      refine Jo_iconst (v := (1 : Int32)) dL_law_246 (by decide) ?_
      refine Jo_iadd dL_law_247 ?_
      refine Jo_scld dL_law_248 (fun x9 => ?_)
      refine Jo_aloadn 0 dL_law_249 rfl rfl ?_
      refine Jo_iloadn 3 dL_law_250 rfl rfl ?_
      refine Jo_iconst (v := (2 : Int32)) dL_law_251 (by decide) ?_
      refine Jo_iadd dL_law_252 ?_
      refine Jo_scld dL_law_253 (fun x10 => ?_)
      refine Jo_callVi (a := l1) (rest := []) [.int x9, .int x10] cc_6 yF_X6_factTold yV_X6_factTold w_983 rfl rfl ⟨Nat.le_of_ble_eq_true rfl, Nat.le_of_ble_eq_true rfl, Nat.le_of_ble_eq_true rfl⟩ dL_law_254 rfl (K_X6_factTold E s l1 x9 x10) (fun p11 => ?_)
      refine Jo_aloadn 2 dL_law_257 rfl rfl ?_
      refine Jo_aloadn 0 dL_law_258 rfl rfl ?_
      refine Jo_iloadn 3 dL_law_259 rfl rfl ?_
      refine Jo_iconst (v := (1 : Int32)) dL_law_260 (by decide) ?_
      refine Jo_iadd dL_law_261 ?_
      refine Jo_scld dL_law_262 (fun x12 => ?_)
      refine Jo_aloadn 0 dL_law_263 rfl rfl ?_
      refine Jo_iloadn 3 dL_law_264 rfl rfl ?_
      refine Jo_iconst (v := (2 : Int32)) dL_law_265 (by decide) ?_
      refine Jo_iadd dL_law_266 ?_
      refine Jo_scld dL_law_267 (fun x13 => ?_)
      refine Jo_callVi (a := l2) (rest := [.int p11.1]) [.int x12, .int x13] cc_7 yF_X7_factTold yV_X7_factTold w_982 rfl rfl ⟨Nat.le_of_ble_eq_true rfl, Nat.le_of_ble_eq_true rfl, Nat.le_of_ble_eq_true rfl⟩ dL_law_268 rfl (K_X7_factTold E p11.2 l2 x12 x13) (fun p14 => ?_)
      refine Jo_icmp_eq 1469 dL_law_271 (by decide) rfl ?_ ?_
      · exact b_L_law_1469 E k18 h18 p14.2 l1 l2 l3
      · refine Jo_iconst (v := (0 : Int32)) dL_law_274 (by decide) ?_
        exact Jo_zret0 rfl dL_law_275
    refine Jo_case ?_ (fun g15 => ?_)
    · refine Jo_tabIn (off := 243) 276 dL_law_33 (by decide) (by decide) (by decide) (by decide) ?_
      refine Jo_aloadn 1 dL_law_276 rfl rfl ?_
      refine Jo_aloadn 0 dL_law_277 rfl rfl ?_
      refine Jo_iloadn 3 dL_law_278 rfl rfl ?_
      refine Jo_iconst (v := (1 : Int32)) dL_law_279 (by decide) ?_
      refine Jo_iadd dL_law_280 ?_
      refine Jo_scld dL_law_281 (fun x16 => ?_)
      refine Jo_aloadn 0 dL_law_282 rfl rfl ?_
      refine Jo_iloadn 3 dL_law_283 rfl rfl ?_
      refine Jo_iconst (v := (2 : Int32)) dL_law_284 (by decide) ?_
      refine Jo_iadd dL_law_285 ?_
      refine Jo_scld dL_law_286 (fun x17 => ?_)
      refine Jo_aloadn 0 dL_law_287 rfl rfl ?_
      refine Jo_iloadn 3 dL_law_288 rfl rfl ?_
      refine Jo_iconst (v := (3 : Int32)) dL_law_289 (by decide) ?_
      refine Jo_iadd dL_law_290 ?_
      refine Jo_scld dL_law_291 (fun x18 => ?_)
      refine Jo_callVi (a := l1) (rest := []) [.int x16, .int x17, .int x18] cc_6 yF_X6_set yV_X6_set w_985 rfl rfl ⟨Nat.le_of_ble_eq_true rfl, Nat.le_of_ble_eq_true rfl, Nat.le_of_ble_eq_true rfl⟩ dL_law_292 rfl (K_X6_set E s l1 x16 x17 x18) (fun p19 => ?_)
      refine Jo_aloadn 2 dL_law_295 rfl rfl ?_
      refine Jo_aloadn 0 dL_law_296 rfl rfl ?_
      refine Jo_iloadn 3 dL_law_297 rfl rfl ?_
      refine Jo_iconst (v := (1 : Int32)) dL_law_298 (by decide) ?_
      refine Jo_iadd dL_law_299 ?_
      refine Jo_scld dL_law_300 (fun x20 => ?_)
      refine Jo_aloadn 0 dL_law_301 rfl rfl ?_
      refine Jo_iloadn 3 dL_law_302 rfl rfl ?_
      refine Jo_iconst (v := (2 : Int32)) dL_law_303 (by decide) ?_
      refine Jo_iadd dL_law_304 ?_
      refine Jo_scld dL_law_305 (fun x21 => ?_)
      refine Jo_aloadn 0 dL_law_306 rfl rfl ?_
      refine Jo_iloadn 3 dL_law_307 rfl rfl ?_
      refine Jo_iconst (v := (3 : Int32)) dL_law_308 (by decide) ?_
      refine Jo_iadd dL_law_309 ?_
      refine Jo_scld dL_law_310 (fun x22 => ?_)
      refine Jo_callVi (a := l2) (rest := [.int p19.1]) [.int x20, .int x21, .int x22] cc_7 yF_X7_set yV_X7_set w_984 rfl rfl ⟨Nat.le_of_ble_eq_true rfl, Nat.le_of_ble_eq_true rfl, Nat.le_of_ble_eq_true rfl⟩ dL_law_311 rfl (K_X7_set E p19.2 l2 x20 x21 x22) (fun p23 => ?_)
      refine Jo_icmp_eq 1469 dL_law_314 (by decide) rfl ?_ ?_
      · exact b_L_law_1469 E k18 h18 p23.2 l1 l2 l3
      · refine Jo_iconst (v := (0 : Int32)) dL_law_317 (by decide) ?_
        exact Jo_zret0 rfl dL_law_318
    refine Jo_case ?_ (fun g24 => ?_)
    · refine Jo_tabIn (off := 286) 319 dL_law_33 (by decide) (by decide) (by decide) (by decide) ?_
      refine Jo_aloadn 1 dL_law_319 rfl rfl ?_
      refine Jo_callVi (a := l1) (rest := []) [] cc_6 yF_X6_person yV_X6_person w_987 rfl rfl ⟨Nat.le_of_ble_eq_true rfl, Nat.le_of_ble_eq_true rfl, Nat.le_of_ble_eq_true rfl⟩ dL_law_320 rfl (K_X6_person E s l1) (fun p25 => ?_)
      refine Jo_aloadn 2 dL_law_323 rfl rfl ?_
      refine Jo_callVi (a := l2) (rest := [.int p25.1]) [] cc_7 yF_X7_person yV_X7_person w_986 rfl rfl ⟨Nat.le_of_ble_eq_true rfl, Nat.le_of_ble_eq_true rfl, Nat.le_of_ble_eq_true rfl⟩ dL_law_324 rfl (K_X7_person E p25.2 l2) (fun p26 => ?_)
      refine Jo_icmp_eq 1469 dL_law_327 (by decide) rfl ?_ ?_
      · exact b_L_law_1469 E k18 h18 p26.2 l1 l2 l3
      · refine Jo_iconst (v := (0 : Int32)) dL_law_330 (by decide) ?_
        exact Jo_zret0 rfl dL_law_331
    refine Jo_case ?_ (fun g27 => ?_)
    · refine Jo_tabIn (off := 299) 332 dL_law_33 (by decide) (by decide) (by decide) (by decide) ?_
      refine Jo_aloadn 1 dL_law_332 rfl rfl ?_
      refine Jo_aloadn 0 dL_law_333 rfl rfl ?_
      refine Jo_iloadn 3 dL_law_334 rfl rfl ?_
      refine Jo_iconst (v := (1 : Int32)) dL_law_335 (by decide) ?_
      refine Jo_iadd dL_law_336 ?_
      refine Jo_scld dL_law_337 (fun x28 => ?_)
      refine Jo_aloadn 0 dL_law_338 rfl rfl ?_
      refine Jo_iloadn 3 dL_law_339 rfl rfl ?_
      refine Jo_iconst (v := (2 : Int32)) dL_law_340 (by decide) ?_
      refine Jo_iadd dL_law_341 ?_
      refine Jo_scld dL_law_342 (fun x29 => ?_)
      refine Jo_callVi (a := l1) (rest := []) [.int x28, .int x29] cc_6 yF_X6_personTold yV_X6_personTold w_989 rfl rfl ⟨Nat.le_of_ble_eq_true rfl, Nat.le_of_ble_eq_true rfl, Nat.le_of_ble_eq_true rfl⟩ dL_law_343 rfl (K_X6_personTold E s l1 x28 x29) (fun p30 => ?_)
      refine Jo_aloadn 2 dL_law_346 rfl rfl ?_
      refine Jo_aloadn 0 dL_law_347 rfl rfl ?_
      refine Jo_iloadn 3 dL_law_348 rfl rfl ?_
      refine Jo_iconst (v := (1 : Int32)) dL_law_349 (by decide) ?_
      refine Jo_iadd dL_law_350 ?_
      refine Jo_scld dL_law_351 (fun x31 => ?_)
      refine Jo_aloadn 0 dL_law_352 rfl rfl ?_
      refine Jo_iloadn 3 dL_law_353 rfl rfl ?_
      refine Jo_iconst (v := (2 : Int32)) dL_law_354 (by decide) ?_
      refine Jo_iadd dL_law_355 ?_
      refine Jo_scld dL_law_356 (fun x32 => ?_)
      refine Jo_callVi (a := l2) (rest := [.int p30.1]) [.int x31, .int x32] cc_7 yF_X7_personTold yV_X7_personTold w_988 rfl rfl ⟨Nat.le_of_ble_eq_true rfl, Nat.le_of_ble_eq_true rfl, Nat.le_of_ble_eq_true rfl⟩ dL_law_357 rfl (K_X7_personTold E p30.2 l2 x31 x32) (fun p33 => ?_)
      refine Jo_icmp_eq 1469 dL_law_360 (by decide) rfl ?_ ?_
      · exact b_L_law_1469 E k18 h18 p33.2 l1 l2 l3
      · refine Jo_iconst (v := (0 : Int32)) dL_law_363 (by decide) ?_
        exact Jo_zret0 rfl dL_law_364
    refine Jo_case ?_ (fun g34 => ?_)
    · refine Jo_tabIn (off := 332) 365 dL_law_33 (by decide) (by decide) (by decide) (by decide) ?_
      refine Jo_aloadn 1 dL_law_365 rfl rfl ?_
      refine Jo_aloadn 0 dL_law_366 rfl rfl ?_
      refine Jo_iloadn 3 dL_law_367 rfl rfl ?_
      refine Jo_iconst (v := (1 : Int32)) dL_law_368 (by decide) ?_
      refine Jo_iadd dL_law_369 ?_
      refine Jo_scld dL_law_370 (fun x35 => ?_)
      refine Jo_aloadn 0 dL_law_371 rfl rfl ?_
      refine Jo_iloadn 3 dL_law_372 rfl rfl ?_
      refine Jo_iconst (v := (2 : Int32)) dL_law_373 (by decide) ?_
      refine Jo_iadd dL_law_374 ?_
      refine Jo_scld dL_law_375 (fun x36 => ?_)
      refine Jo_aloadn 0 dL_law_376 rfl rfl ?_
      refine Jo_iloadn 3 dL_law_377 rfl rfl ?_
      refine Jo_iconst (v := (3 : Int32)) dL_law_378 (by decide) ?_
      refine Jo_iadd dL_law_379 ?_
      refine Jo_scld dL_law_380 (fun x37 => ?_)
      refine Jo_callVi (a := l1) (rest := []) [.int x35, .int x36, .int x37] cc_6 yF_X6_knows yV_X6_knows w_991 rfl rfl ⟨Nat.le_of_ble_eq_true rfl, Nat.le_of_ble_eq_true rfl, Nat.le_of_ble_eq_true rfl⟩ dL_law_381 rfl (K_X6_knows E s l1 x35 x36 x37) (fun p38 => ?_)
      refine Jo_aloadn 2 dL_law_384 rfl rfl ?_
      refine Jo_aloadn 0 dL_law_385 rfl rfl ?_
      refine Jo_iloadn 3 dL_law_386 rfl rfl ?_
      refine Jo_iconst (v := (1 : Int32)) dL_law_387 (by decide) ?_
      refine Jo_iadd dL_law_388 ?_
      refine Jo_scld dL_law_389 (fun x39 => ?_)
      refine Jo_aloadn 0 dL_law_390 rfl rfl ?_
      refine Jo_iloadn 3 dL_law_391 rfl rfl ?_
      refine Jo_iconst (v := (2 : Int32)) dL_law_392 (by decide) ?_
      refine Jo_iadd dL_law_393 ?_
      refine Jo_scld dL_law_394 (fun x40 => ?_)
      refine Jo_aloadn 0 dL_law_395 rfl rfl ?_
      refine Jo_iloadn 3 dL_law_396 rfl rfl ?_
      refine Jo_iconst (v := (3 : Int32)) dL_law_397 (by decide) ?_
      refine Jo_iadd dL_law_398 ?_
      refine Jo_scld dL_law_399 (fun x41 => ?_)
      refine Jo_callVi (a := l2) (rest := [.int p38.1]) [.int x39, .int x40, .int x41] cc_7 yF_X7_knows yV_X7_knows w_990 rfl rfl ⟨Nat.le_of_ble_eq_true rfl, Nat.le_of_ble_eq_true rfl, Nat.le_of_ble_eq_true rfl⟩ dL_law_400 rfl (K_X7_knows E p38.2 l2 x39 x40 x41) (fun p42 => ?_)
      refine Jo_icmp_eq 1469 dL_law_403 (by decide) rfl ?_ ?_
      · exact b_L_law_1469 E k18 h18 p42.2 l1 l2 l3
      · refine Jo_iconst (v := (0 : Int32)) dL_law_406 (by decide) ?_
        exact Jo_zret0 rfl dL_law_407
    refine Jo_case ?_ (fun g43 => ?_)
    · refine Jo_tabIn (off := 375) 408 dL_law_33 (by decide) (by decide) (by decide) (by decide) ?_
      refine Jo_aloadn 1 dL_law_408 rfl rfl ?_
      refine Jo_aloadn 0 dL_law_409 rfl rfl ?_
      refine Jo_iloadn 3 dL_law_410 rfl rfl ?_
      refine Jo_iconst (v := (1 : Int32)) dL_law_411 (by decide) ?_
      refine Jo_iadd dL_law_412 ?_
      refine Jo_scld dL_law_413 (fun x44 => ?_)
      refine Jo_aloadn 0 dL_law_414 rfl rfl ?_
      refine Jo_iloadn 3 dL_law_415 rfl rfl ?_
      refine Jo_iconst (v := (2 : Int32)) dL_law_416 (by decide) ?_
      refine Jo_iadd dL_law_417 ?_
      refine Jo_scld dL_law_418 (fun x45 => ?_)
      refine Jo_aloadn 0 dL_law_419 rfl rfl ?_
      refine Jo_iloadn 3 dL_law_420 rfl rfl ?_
      refine Jo_iconst (v := (3 : Int32)) dL_law_421 (by decide) ?_
      refine Jo_iadd dL_law_422 ?_
      refine Jo_scld dL_law_423 (fun x46 => ?_)
      refine Jo_callVi (a := l1) (rest := []) [.int x44, .int x45, .int x46] cc_6 yF_X6_follows yV_X6_follows w_993 rfl rfl ⟨Nat.le_of_ble_eq_true rfl, Nat.le_of_ble_eq_true rfl, Nat.le_of_ble_eq_true rfl⟩ dL_law_424 rfl (K_X6_follows E s l1 x44 x45 x46) (fun p47 => ?_)
      refine Jo_aloadn 2 dL_law_427 rfl rfl ?_
      refine Jo_aloadn 0 dL_law_428 rfl rfl ?_
      refine Jo_iloadn 3 dL_law_429 rfl rfl ?_
      refine Jo_iconst (v := (1 : Int32)) dL_law_430 (by decide) ?_
      refine Jo_iadd dL_law_431 ?_
      refine Jo_scld dL_law_432 (fun x48 => ?_)
      refine Jo_aloadn 0 dL_law_433 rfl rfl ?_
      refine Jo_iloadn 3 dL_law_434 rfl rfl ?_
      refine Jo_iconst (v := (2 : Int32)) dL_law_435 (by decide) ?_
      refine Jo_iadd dL_law_436 ?_
      refine Jo_scld dL_law_437 (fun x49 => ?_)
      refine Jo_aloadn 0 dL_law_438 rfl rfl ?_
      refine Jo_iloadn 3 dL_law_439 rfl rfl ?_
      refine Jo_iconst (v := (3 : Int32)) dL_law_440 (by decide) ?_
      refine Jo_iadd dL_law_441 ?_
      refine Jo_scld dL_law_442 (fun x50 => ?_)
      refine Jo_callVi (a := l2) (rest := [.int p47.1]) [.int x48, .int x49, .int x50] cc_7 yF_X7_follows yV_X7_follows w_992 rfl rfl ⟨Nat.le_of_ble_eq_true rfl, Nat.le_of_ble_eq_true rfl, Nat.le_of_ble_eq_true rfl⟩ dL_law_443 rfl (K_X7_follows E p47.2 l2 x48 x49 x50) (fun p51 => ?_)
      refine Jo_icmp_eq 1469 dL_law_446 (by decide) rfl ?_ ?_
      · exact b_L_law_1469 E k18 h18 p51.2 l1 l2 l3
      · refine Jo_iconst (v := (0 : Int32)) dL_law_449 (by decide) ?_
        exact Jo_zret0 rfl dL_law_450
    refine Jo_case ?_ (fun g52 => ?_)
    · refine Jo_tabIn (off := 418) 451 dL_law_33 (by decide) (by decide) (by decide) (by decide) ?_
      refine Jo_aloadn 1 dL_law_451 rfl rfl ?_
      refine Jo_aloadn 0 dL_law_452 rfl rfl ?_
      refine Jo_iloadn 3 dL_law_453 rfl rfl ?_
      refine Jo_iconst (v := (1 : Int32)) dL_law_454 (by decide) ?_
      refine Jo_iadd dL_law_455 ?_
      refine Jo_scld dL_law_456 (fun x53 => ?_)
      refine Jo_aloadn 0 dL_law_457 rfl rfl ?_
      refine Jo_iloadn 3 dL_law_458 rfl rfl ?_
      refine Jo_iconst (v := (2 : Int32)) dL_law_459 (by decide) ?_
      refine Jo_iadd dL_law_460 ?_
      refine Jo_scld dL_law_461 (fun x54 => ?_)
      refine Jo_callVi (a := l1) (rest := []) [.int x53, .int x54] cc_6 yF_X6_price yV_X6_price w_995 rfl rfl ⟨Nat.le_of_ble_eq_true rfl, Nat.le_of_ble_eq_true rfl, Nat.le_of_ble_eq_true rfl⟩ dL_law_462 rfl (K_X6_price E s l1 x53 x54) (fun p55 => ?_)
      refine Jo_aloadn 2 dL_law_465 rfl rfl ?_
      refine Jo_aloadn 0 dL_law_466 rfl rfl ?_
      refine Jo_iloadn 3 dL_law_467 rfl rfl ?_
      refine Jo_iconst (v := (1 : Int32)) dL_law_468 (by decide) ?_
      refine Jo_iadd dL_law_469 ?_
      refine Jo_scld dL_law_470 (fun x56 => ?_)
      refine Jo_aloadn 0 dL_law_471 rfl rfl ?_
      refine Jo_iloadn 3 dL_law_472 rfl rfl ?_
      refine Jo_iconst (v := (2 : Int32)) dL_law_473 (by decide) ?_
      refine Jo_iadd dL_law_474 ?_
      refine Jo_scld dL_law_475 (fun x57 => ?_)
      refine Jo_callVi (a := l2) (rest := [.int p55.1]) [.int x56, .int x57] cc_7 yF_X7_price yV_X7_price w_994 rfl rfl ⟨Nat.le_of_ble_eq_true rfl, Nat.le_of_ble_eq_true rfl, Nat.le_of_ble_eq_true rfl⟩ dL_law_476 rfl (K_X7_price E p55.2 l2 x56 x57) (fun p58 => ?_)
      refine Jo_icmp_eq 1469 dL_law_479 (by decide) rfl ?_ ?_
      · exact b_L_law_1469 E k18 h18 p58.2 l1 l2 l3
      · refine Jo_iconst (v := (0 : Int32)) dL_law_482 (by decide) ?_
        exact Jo_zret0 rfl dL_law_483
    refine Jo_case ?_ (fun g59 => ?_)
    · refine Jo_tabIn (off := 451) 484 dL_law_33 (by decide) (by decide) (by decide) (by decide) ?_
      refine Jo_aloadn 1 dL_law_484 rfl rfl ?_
      refine Jo_callVi (a := l1) (rest := []) [] cc_6 yF_X6_deal yV_X6_deal w_997 rfl rfl ⟨Nat.le_of_ble_eq_true rfl, Nat.le_of_ble_eq_true rfl, Nat.le_of_ble_eq_true rfl⟩ dL_law_485 rfl (K_X6_deal E s l1) (fun p60 => ?_)
      refine Jo_aloadn 2 dL_law_488 rfl rfl ?_
      refine Jo_callVi (a := l2) (rest := [.int p60.1]) [] cc_7 yF_X7_deal yV_X7_deal w_996 rfl rfl ⟨Nat.le_of_ble_eq_true rfl, Nat.le_of_ble_eq_true rfl, Nat.le_of_ble_eq_true rfl⟩ dL_law_489 rfl (K_X7_deal E p60.2 l2) (fun p61 => ?_)
      refine Jo_icmp_eq 1469 dL_law_492 (by decide) rfl ?_ ?_
      · exact b_L_law_1469 E k18 h18 p61.2 l1 l2 l3
      · refine Jo_iconst (v := (0 : Int32)) dL_law_495 (by decide) ?_
        exact Jo_zret0 rfl dL_law_496
    refine Jo_case ?_ (fun g62 => ?_)
    · refine Jo_tabIn (off := 464) 497 dL_law_33 (by decide) (by decide) (by decide) (by decide) ?_
      refine Jo_aloadn 1 dL_law_497 rfl rfl ?_
      refine Jo_aloadn 0 dL_law_498 rfl rfl ?_
      refine Jo_iloadn 3 dL_law_499 rfl rfl ?_
      refine Jo_iconst (v := (1 : Int32)) dL_law_500 (by decide) ?_
      refine Jo_iadd dL_law_501 ?_
      refine Jo_scld dL_law_502 (fun x63 => ?_)
      refine Jo_callVi (a := l1) (rest := []) [.int x63] cc_6 yF_X6_seed yV_X6_seed w_999 rfl rfl ⟨Nat.le_of_ble_eq_true rfl, Nat.le_of_ble_eq_true rfl, Nat.le_of_ble_eq_true rfl⟩ dL_law_503 rfl (K_X6_seed E s l1 x63) (fun p64 => ?_)
      refine Jo_aloadn 2 dL_law_506 rfl rfl ?_
      refine Jo_aloadn 0 dL_law_507 rfl rfl ?_
      refine Jo_iloadn 3 dL_law_508 rfl rfl ?_
      refine Jo_iconst (v := (1 : Int32)) dL_law_509 (by decide) ?_
      refine Jo_iadd dL_law_510 ?_
      refine Jo_scld dL_law_511 (fun x65 => ?_)
      refine Jo_callVi (a := l2) (rest := [.int p64.1]) [.int x65] cc_7 yF_X7_seed yV_X7_seed w_998 rfl rfl ⟨Nat.le_of_ble_eq_true rfl, Nat.le_of_ble_eq_true rfl, Nat.le_of_ble_eq_true rfl⟩ dL_law_512 rfl (K_X7_seed E p64.2 l2 x65) (fun p66 => ?_)
      refine Jo_icmp_eq 1469 dL_law_515 (by decide) rfl ?_ ?_
      · exact b_L_law_1469 E k18 h18 p66.2 l1 l2 l3
      · refine Jo_iconst (v := (0 : Int32)) dL_law_518 (by decide) ?_
        exact Jo_zret0 rfl dL_law_519
    refine Jo_case ?_ (fun g67 => ?_)
    · refine Jo_tabIn (off := 487) 520 dL_law_33 (by decide) (by decide) (by decide) (by decide) ?_
      refine Jo_aloadn 1 dL_law_520 rfl rfl ?_
      refine Jo_aloadn 0 dL_law_521 rfl rfl ?_
      refine Jo_iloadn 3 dL_law_522 rfl rfl ?_
      refine Jo_iconst (v := (1 : Int32)) dL_law_523 (by decide) ?_
      refine Jo_iadd dL_law_524 ?_
      refine Jo_scld dL_law_525 (fun x68 => ?_)
      refine Jo_callVi (a := l1) (rest := []) [.int x68] cc_6 yF_X6_clock yV_X6_clock w_1001 rfl rfl ⟨Nat.le_of_ble_eq_true rfl, Nat.le_of_ble_eq_true rfl, Nat.le_of_ble_eq_true rfl⟩ dL_law_526 rfl (K_X6_clock E s l1 x68) (fun p69 => ?_)
      refine Jo_aloadn 2 dL_law_529 rfl rfl ?_
      refine Jo_aloadn 0 dL_law_530 rfl rfl ?_
      refine Jo_iloadn 3 dL_law_531 rfl rfl ?_
      refine Jo_iconst (v := (1 : Int32)) dL_law_532 (by decide) ?_
      refine Jo_iadd dL_law_533 ?_
      refine Jo_scld dL_law_534 (fun x70 => ?_)
      refine Jo_callVi (a := l2) (rest := [.int p69.1]) [.int x70] cc_7 yF_X7_clock yV_X7_clock w_1000 rfl rfl ⟨Nat.le_of_ble_eq_true rfl, Nat.le_of_ble_eq_true rfl, Nat.le_of_ble_eq_true rfl⟩ dL_law_535 rfl (K_X7_clock E p69.2 l2 x70) (fun p71 => ?_)
      refine Jo_icmp_eq 1469 dL_law_538 (by decide) rfl ?_ ?_
      · exact b_L_law_1469 E k18 h18 p71.2 l1 l2 l3
      · refine Jo_iconst (v := (0 : Int32)) dL_law_541 (by decide) ?_
        exact Jo_zret0 rfl dL_law_542
    refine Jo_case ?_ (fun g72 => ?_)
    · refine Jo_tabIn (off := 510) 543 dL_law_33 (by decide) (by decide) (by decide) (by decide) ?_
      refine Jo_aloadn 1 dL_law_543 rfl rfl ?_
      refine Jo_aloadn 0 dL_law_544 rfl rfl ?_
      refine Jo_iloadn 3 dL_law_545 rfl rfl ?_
      refine Jo_iconst (v := (1 : Int32)) dL_law_546 (by decide) ?_
      refine Jo_iadd dL_law_547 ?_
      refine Jo_scld dL_law_548 (fun x73 => ?_)
      refine Jo_aloadn 0 dL_law_549 rfl rfl ?_
      refine Jo_iloadn 3 dL_law_550 rfl rfl ?_
      refine Jo_iconst (v := (2 : Int32)) dL_law_551 (by decide) ?_
      refine Jo_iadd dL_law_552 ?_
      refine Jo_scld dL_law_553 (fun x74 => ?_)
      refine Jo_aloadn 0 dL_law_554 rfl rfl ?_
      refine Jo_iloadn 3 dL_law_555 rfl rfl ?_
      refine Jo_iconst (v := (3 : Int32)) dL_law_556 (by decide) ?_
      refine Jo_iadd dL_law_557 ?_
      refine Jo_scld dL_law_558 (fun x75 => ?_)
      refine Jo_callVi (a := l1) (rest := []) [.int x73, .int x74, .int x75] cc_6 yF_X6_talk yV_X6_talk w_1003 rfl rfl ⟨Nat.le_of_ble_eq_true rfl, Nat.le_of_ble_eq_true rfl, Nat.le_of_ble_eq_true rfl⟩ dL_law_559 rfl (K_X6_talk E s l1 x73 x74 x75) (fun p76 => ?_)
      refine Jo_aloadn 2 dL_law_562 rfl rfl ?_
      refine Jo_aloadn 0 dL_law_563 rfl rfl ?_
      refine Jo_iloadn 3 dL_law_564 rfl rfl ?_
      refine Jo_iconst (v := (1 : Int32)) dL_law_565 (by decide) ?_
      refine Jo_iadd dL_law_566 ?_
      refine Jo_scld dL_law_567 (fun x77 => ?_)
      refine Jo_aloadn 0 dL_law_568 rfl rfl ?_
      refine Jo_iloadn 3 dL_law_569 rfl rfl ?_
      refine Jo_iconst (v := (2 : Int32)) dL_law_570 (by decide) ?_
      refine Jo_iadd dL_law_571 ?_
      refine Jo_scld dL_law_572 (fun x78 => ?_)
      refine Jo_aloadn 0 dL_law_573 rfl rfl ?_
      refine Jo_iloadn 3 dL_law_574 rfl rfl ?_
      refine Jo_iconst (v := (3 : Int32)) dL_law_575 (by decide) ?_
      refine Jo_iadd dL_law_576 ?_
      refine Jo_scld dL_law_577 (fun x79 => ?_)
      refine Jo_callVi (a := l2) (rest := [.int p76.1]) [.int x77, .int x78, .int x79] cc_7 yF_X7_talk yV_X7_talk w_1002 rfl rfl ⟨Nat.le_of_ble_eq_true rfl, Nat.le_of_ble_eq_true rfl, Nat.le_of_ble_eq_true rfl⟩ dL_law_578 rfl (K_X7_talk E p76.2 l2 x77 x78 x79) (fun p80 => ?_)
      refine Jo_icmp_eq 1469 dL_law_581 (by decide) rfl ?_ ?_
      · exact b_L_law_1469 E k18 h18 p80.2 l1 l2 l3
      · refine Jo_iconst (v := (0 : Int32)) dL_law_584 (by decide) ?_
        exact Jo_zret0 rfl dL_law_585
    refine Jo_case ?_ (fun g81 => ?_)
    · refine Jo_tabIn (off := 553) 586 dL_law_33 (by decide) (by decide) (by decide) (by decide) ?_
      refine Jo_aloadn 1 dL_law_586 rfl rfl ?_
      refine Jo_aloadn 0 dL_law_587 rfl rfl ?_
      refine Jo_iloadn 3 dL_law_588 rfl rfl ?_
      refine Jo_iconst (v := (1 : Int32)) dL_law_589 (by decide) ?_
      refine Jo_iadd dL_law_590 ?_
      refine Jo_scld dL_law_591 (fun x82 => ?_)
      refine Jo_aloadn 0 dL_law_592 rfl rfl ?_
      refine Jo_iloadn 3 dL_law_593 rfl rfl ?_
      refine Jo_iconst (v := (2 : Int32)) dL_law_594 (by decide) ?_
      refine Jo_iadd dL_law_595 ?_
      refine Jo_scld dL_law_596 (fun x83 => ?_)
      refine Jo_callVi (a := l1) (rest := []) [.int x82, .int x83] cc_6 yF_X6_told yV_X6_told w_1005 rfl rfl ⟨Nat.le_of_ble_eq_true rfl, Nat.le_of_ble_eq_true rfl, Nat.le_of_ble_eq_true rfl⟩ dL_law_597 rfl (K_X6_told E s l1 x82 x83) (fun p84 => ?_)
      refine Jo_aloadn 2 dL_law_600 rfl rfl ?_
      refine Jo_aloadn 0 dL_law_601 rfl rfl ?_
      refine Jo_iloadn 3 dL_law_602 rfl rfl ?_
      refine Jo_iconst (v := (1 : Int32)) dL_law_603 (by decide) ?_
      refine Jo_iadd dL_law_604 ?_
      refine Jo_scld dL_law_605 (fun x85 => ?_)
      refine Jo_aloadn 0 dL_law_606 rfl rfl ?_
      refine Jo_iloadn 3 dL_law_607 rfl rfl ?_
      refine Jo_iconst (v := (2 : Int32)) dL_law_608 (by decide) ?_
      refine Jo_iadd dL_law_609 ?_
      refine Jo_scld dL_law_610 (fun x86 => ?_)
      refine Jo_callVi (a := l2) (rest := [.int p84.1]) [.int x85, .int x86] cc_7 yF_X7_told yV_X7_told w_1004 rfl rfl ⟨Nat.le_of_ble_eq_true rfl, Nat.le_of_ble_eq_true rfl, Nat.le_of_ble_eq_true rfl⟩ dL_law_611 rfl (K_X7_told E p84.2 l2 x85 x86) (fun p87 => ?_)
      refine Jo_icmp_eq 1469 dL_law_614 (by decide) rfl ?_ ?_
      · exact b_L_law_1469 E k18 h18 p87.2 l1 l2 l3
      · refine Jo_iconst (v := (0 : Int32)) dL_law_617 (by decide) ?_
        exact Jo_zret0 rfl dL_law_618
    refine Jo_case ?_ (fun g88 => ?_)
    · refine Jo_tabIn (off := 586) 619 dL_law_33 (by decide) (by decide) (by decide) (by decide) ?_
      refine Jo_aloadn 1 dL_law_619 rfl rfl ?_
      refine Jo_aloadn 0 dL_law_620 rfl rfl ?_
      refine Jo_iloadn 3 dL_law_621 rfl rfl ?_
      refine Jo_iconst (v := (1 : Int32)) dL_law_622 (by decide) ?_
      refine Jo_iadd dL_law_623 ?_
      refine Jo_scld dL_law_624 (fun x89 => ?_)
      refine Jo_aloadn 0 dL_law_625 rfl rfl ?_
      refine Jo_iloadn 3 dL_law_626 rfl rfl ?_
      refine Jo_iconst (v := (2 : Int32)) dL_law_627 (by decide) ?_
      refine Jo_iadd dL_law_628 ?_
      refine Jo_scld dL_law_629 (fun x90 => ?_)
      refine Jo_callVi (a := l1) (rest := []) [.int x89, .int x90] cc_6 yF_X6_as yV_X6_as w_1007 rfl rfl ⟨Nat.le_of_ble_eq_true rfl, Nat.le_of_ble_eq_true rfl, Nat.le_of_ble_eq_true rfl⟩ dL_law_630 rfl (K_X6_as E s l1 x89 x90) (fun p91 => ?_)
      refine Jo_aloadn 2 dL_law_633 rfl rfl ?_
      refine Jo_aloadn 0 dL_law_634 rfl rfl ?_
      refine Jo_iloadn 3 dL_law_635 rfl rfl ?_
      refine Jo_iconst (v := (1 : Int32)) dL_law_636 (by decide) ?_
      refine Jo_iadd dL_law_637 ?_
      refine Jo_scld dL_law_638 (fun x92 => ?_)
      refine Jo_aloadn 0 dL_law_639 rfl rfl ?_
      refine Jo_iloadn 3 dL_law_640 rfl rfl ?_
      refine Jo_iconst (v := (2 : Int32)) dL_law_641 (by decide) ?_
      refine Jo_iadd dL_law_642 ?_
      refine Jo_scld dL_law_643 (fun x93 => ?_)
      refine Jo_callVi (a := l2) (rest := [.int p91.1]) [.int x92, .int x93] cc_7 yF_X7_as yV_X7_as w_1006 rfl rfl ⟨Nat.le_of_ble_eq_true rfl, Nat.le_of_ble_eq_true rfl, Nat.le_of_ble_eq_true rfl⟩ dL_law_644 rfl (K_X7_as E p91.2 l2 x92 x93) (fun p94 => ?_)
      refine Jo_icmp_eq 1469 dL_law_647 (by decide) rfl ?_ ?_
      · exact b_L_law_1469 E k18 h18 p94.2 l1 l2 l3
      · refine Jo_iconst (v := (0 : Int32)) dL_law_650 (by decide) ?_
        exact Jo_zret0 rfl dL_law_651
    refine Jo_case ?_ (fun g95 => ?_)
    · refine Jo_tabIn (off := 619) 652 dL_law_33 (by decide) (by decide) (by decide) (by decide) ?_
      refine Jo_aloadn 1 dL_law_652 rfl rfl ?_
      refine Jo_aloadn 0 dL_law_653 rfl rfl ?_
      refine Jo_iloadn 3 dL_law_654 rfl rfl ?_
      refine Jo_iconst (v := (1 : Int32)) dL_law_655 (by decide) ?_
      refine Jo_iadd dL_law_656 ?_
      refine Jo_scld dL_law_657 (fun x96 => ?_)
      refine Jo_aloadn 0 dL_law_658 rfl rfl ?_
      refine Jo_iloadn 3 dL_law_659 rfl rfl ?_
      refine Jo_iconst (v := (2 : Int32)) dL_law_660 (by decide) ?_
      refine Jo_iadd dL_law_661 ?_
      refine Jo_scld dL_law_662 (fun x97 => ?_)
      refine Jo_callVi (a := l1) (rest := []) [.int x96, .int x97] cc_6 yF_X6_turns yV_X6_turns w_1009 rfl rfl ⟨Nat.le_of_ble_eq_true rfl, Nat.le_of_ble_eq_true rfl, Nat.le_of_ble_eq_true rfl⟩ dL_law_663 rfl (K_X6_turns E s l1 x96 x97) (fun p98 => ?_)
      refine Jo_aloadn 2 dL_law_666 rfl rfl ?_
      refine Jo_aloadn 0 dL_law_667 rfl rfl ?_
      refine Jo_iloadn 3 dL_law_668 rfl rfl ?_
      refine Jo_iconst (v := (1 : Int32)) dL_law_669 (by decide) ?_
      refine Jo_iadd dL_law_670 ?_
      refine Jo_scld dL_law_671 (fun x99 => ?_)
      refine Jo_aloadn 0 dL_law_672 rfl rfl ?_
      refine Jo_iloadn 3 dL_law_673 rfl rfl ?_
      refine Jo_iconst (v := (2 : Int32)) dL_law_674 (by decide) ?_
      refine Jo_iadd dL_law_675 ?_
      refine Jo_scld dL_law_676 (fun x100 => ?_)
      refine Jo_callVi (a := l2) (rest := [.int p98.1]) [.int x99, .int x100] cc_7 yF_X7_turns yV_X7_turns w_1008 rfl rfl ⟨Nat.le_of_ble_eq_true rfl, Nat.le_of_ble_eq_true rfl, Nat.le_of_ble_eq_true rfl⟩ dL_law_677 rfl (K_X7_turns E p98.2 l2 x99 x100) (fun p101 => ?_)
      refine Jo_icmp_eq 1469 dL_law_680 (by decide) rfl ?_ ?_
      · exact b_L_law_1469 E k18 h18 p101.2 l1 l2 l3
      · refine Jo_iconst (v := (0 : Int32)) dL_law_683 (by decide) ?_
        exact Jo_zret0 rfl dL_law_684
    refine Jo_case ?_ (fun g102 => ?_)
    · refine Jo_tabIn (off := 652) 685 dL_law_33 (by decide) (by decide) (by decide) (by decide) ?_
      refine Jo_aloadn 1 dL_law_685 rfl rfl ?_
      refine Jo_aloadn 0 dL_law_686 rfl rfl ?_
      refine Jo_iloadn 3 dL_law_687 rfl rfl ?_
      refine Jo_iconst (v := (1 : Int32)) dL_law_688 (by decide) ?_
      refine Jo_iadd dL_law_689 ?_
      refine Jo_scld dL_law_690 (fun x103 => ?_)
      refine Jo_callVi (a := l1) (rest := []) [.int x103] cc_6 yF_X6_say yV_X6_say w_1011 rfl rfl ⟨Nat.le_of_ble_eq_true rfl, Nat.le_of_ble_eq_true rfl, Nat.le_of_ble_eq_true rfl⟩ dL_law_691 rfl (K_X6_say E s l1 x103) (fun p104 => ?_)
      refine Jo_aloadn 2 dL_law_694 rfl rfl ?_
      refine Jo_aloadn 0 dL_law_695 rfl rfl ?_
      refine Jo_iloadn 3 dL_law_696 rfl rfl ?_
      refine Jo_iconst (v := (1 : Int32)) dL_law_697 (by decide) ?_
      refine Jo_iadd dL_law_698 ?_
      refine Jo_scld dL_law_699 (fun x105 => ?_)
      refine Jo_callVi (a := l2) (rest := [.int p104.1]) [.int x105] cc_7 yF_X7_say yV_X7_say w_1010 rfl rfl ⟨Nat.le_of_ble_eq_true rfl, Nat.le_of_ble_eq_true rfl, Nat.le_of_ble_eq_true rfl⟩ dL_law_700 rfl (K_X7_say E p104.2 l2 x105) (fun p106 => ?_)
      refine Jo_icmp_eq 1469 dL_law_703 (by decide) rfl ?_ ?_
      · exact b_L_law_1469 E k18 h18 p106.2 l1 l2 l3
      · refine Jo_iconst (v := (0 : Int32)) dL_law_706 (by decide) ?_
        exact Jo_zret0 rfl dL_law_707
    refine Jo_case ?_ (fun g107 => ?_)
    · refine Jo_tabIn (off := 675) 708 dL_law_33 (by decide) (by decide) (by decide) (by decide) ?_
      refine Jo_aloadn 1 dL_law_708 rfl rfl ?_
      refine Jo_callVi (a := l1) (rest := []) [] cc_6 yF_X6_round yV_X6_round w_1013 rfl rfl ⟨Nat.le_of_ble_eq_true rfl, Nat.le_of_ble_eq_true rfl, Nat.le_of_ble_eq_true rfl⟩ dL_law_709 rfl (K_X6_round E s l1) (fun p108 => ?_)
      refine Jo_aloadn 2 dL_law_712 rfl rfl ?_
      refine Jo_callVi (a := l2) (rest := [.int p108.1]) [] cc_7 yF_X7_round yV_X7_round w_1012 rfl rfl ⟨Nat.le_of_ble_eq_true rfl, Nat.le_of_ble_eq_true rfl, Nat.le_of_ble_eq_true rfl⟩ dL_law_713 rfl (K_X7_round E p108.2 l2) (fun p109 => ?_)
      refine Jo_icmp_eq 1469 dL_law_716 (by decide) rfl ?_ ?_
      · exact b_L_law_1469 E k18 h18 p109.2 l1 l2 l3
      · refine Jo_iconst (v := (0 : Int32)) dL_law_719 (by decide) ?_
        exact Jo_zret0 rfl dL_law_720
    refine Jo_case ?_ (fun g110 => ?_)
    · refine Jo_tabIn (off := 688) 721 dL_law_33 (by decide) (by decide) (by decide) (by decide) ?_
      refine Jo_aloadn 1 dL_law_721 rfl rfl ?_
      refine Jo_callVi (a := l1) (rest := []) [] cc_6 yF_X6_market yV_X6_market w_1015 rfl rfl ⟨Nat.le_of_ble_eq_true rfl, Nat.le_of_ble_eq_true rfl, Nat.le_of_ble_eq_true rfl⟩ dL_law_722 rfl (K_X6_market E s l1) (fun p111 => ?_)
      refine Jo_aloadn 2 dL_law_725 rfl rfl ?_
      refine Jo_callVi (a := l2) (rest := [.int p111.1]) [] cc_7 yF_X7_market yV_X7_market w_1014 rfl rfl ⟨Nat.le_of_ble_eq_true rfl, Nat.le_of_ble_eq_true rfl, Nat.le_of_ble_eq_true rfl⟩ dL_law_726 rfl (K_X7_market E p111.2 l2) (fun p112 => ?_)
      refine Jo_icmp_eq 1469 dL_law_729 (by decide) rfl ?_ ?_
      · exact b_L_law_1469 E k18 h18 p112.2 l1 l2 l3
      · refine Jo_iconst (v := (0 : Int32)) dL_law_732 (by decide) ?_
        exact Jo_zret0 rfl dL_law_733
    refine Jo_case ?_ (fun g113 => ?_)
    · refine Jo_tabIn (off := 701) 734 dL_law_33 (by decide) (by decide) (by decide) (by decide) ?_
      refine Jo_aloadn 1 dL_law_734 rfl rfl ?_
      refine Jo_callVi (a := l1) (rest := []) [] cc_6 yF_X6_richest yV_X6_richest w_1017 rfl rfl ⟨Nat.le_of_ble_eq_true rfl, Nat.le_of_ble_eq_true rfl, Nat.le_of_ble_eq_true rfl⟩ dL_law_735 rfl (K_X6_richest E s l1) (fun p114 => ?_)
      refine Jo_aloadn 2 dL_law_738 rfl rfl ?_
      refine Jo_callVi (a := l2) (rest := [.int p114.1]) [] cc_7 yF_X7_richest yV_X7_richest w_1016 rfl rfl ⟨Nat.le_of_ble_eq_true rfl, Nat.le_of_ble_eq_true rfl, Nat.le_of_ble_eq_true rfl⟩ dL_law_739 rfl (K_X7_richest E p114.2 l2) (fun p115 => ?_)
      refine Jo_icmp_eq 1469 dL_law_742 (by decide) rfl ?_ ?_
      · exact b_L_law_1469 E k18 h18 p115.2 l1 l2 l3
      · refine Jo_iconst (v := (0 : Int32)) dL_law_745 (by decide) ?_
        exact Jo_zret0 rfl dL_law_746
    refine Jo_case ?_ (fun g116 => ?_)
    · refine Jo_tabIn (off := 714) 747 dL_law_33 (by decide) (by decide) (by decide) (by decide) ?_
      refine Jo_aloadn 1 dL_law_747 rfl rfl ?_
      refine Jo_aloadn 0 dL_law_748 rfl rfl ?_
      refine Jo_iloadn 3 dL_law_749 rfl rfl ?_
      refine Jo_iconst (v := (1 : Int32)) dL_law_750 (by decide) ?_
      refine Jo_iadd dL_law_751 ?_
      refine Jo_scld dL_law_752 (fun x117 => ?_)
      refine Jo_aloadn 0 dL_law_753 rfl rfl ?_
      refine Jo_iloadn 3 dL_law_754 rfl rfl ?_
      refine Jo_iconst (v := (2 : Int32)) dL_law_755 (by decide) ?_
      refine Jo_iadd dL_law_756 ?_
      refine Jo_scld dL_law_757 (fun x118 => ?_)
      refine Jo_aloadn 0 dL_law_758 rfl rfl ?_
      refine Jo_iloadn 3 dL_law_759 rfl rfl ?_
      refine Jo_iconst (v := (3 : Int32)) dL_law_760 (by decide) ?_
      refine Jo_iadd dL_law_761 ?_
      refine Jo_scld dL_law_762 (fun x119 => ?_)
      refine Jo_aloadn 0 dL_law_763 rfl rfl ?_
      refine Jo_iloadn 3 dL_law_764 rfl rfl ?_
      refine Jo_iconst (v := (4 : Int32)) dL_law_765 (by decide) ?_
      refine Jo_iadd dL_law_766 ?_
      refine Jo_scld dL_law_767 (fun x120 => ?_)
      refine Jo_callVi (a := l1) (rest := []) [.int x117, .int x118, .int x119, .int x120] cc_6 yF_X6_fewest yV_X6_fewest w_1019 rfl rfl ⟨Nat.le_of_ble_eq_true rfl, Nat.le_of_ble_eq_true rfl, Nat.le_of_ble_eq_true rfl⟩ dL_law_768 rfl (K_X6_fewest E s l1 x117 x118 x119 x120) (fun p121 => ?_)
      refine Jo_aloadn 2 dL_law_771 rfl rfl ?_
      refine Jo_aloadn 0 dL_law_772 rfl rfl ?_
      refine Jo_iloadn 3 dL_law_773 rfl rfl ?_
      refine Jo_iconst (v := (1 : Int32)) dL_law_774 (by decide) ?_
      refine Jo_iadd dL_law_775 ?_
      refine Jo_scld dL_law_776 (fun x122 => ?_)
      refine Jo_aloadn 0 dL_law_777 rfl rfl ?_
      refine Jo_iloadn 3 dL_law_778 rfl rfl ?_
      refine Jo_iconst (v := (2 : Int32)) dL_law_779 (by decide) ?_
      refine Jo_iadd dL_law_780 ?_
      refine Jo_scld dL_law_781 (fun x123 => ?_)
      refine Jo_aloadn 0 dL_law_782 rfl rfl ?_
      refine Jo_iloadn 3 dL_law_783 rfl rfl ?_
      refine Jo_iconst (v := (3 : Int32)) dL_law_784 (by decide) ?_
      refine Jo_iadd dL_law_785 ?_
      refine Jo_scld dL_law_786 (fun x124 => ?_)
      refine Jo_aloadn 0 dL_law_787 rfl rfl ?_
      refine Jo_iloadn 3 dL_law_788 rfl rfl ?_
      refine Jo_iconst (v := (4 : Int32)) dL_law_789 (by decide) ?_
      refine Jo_iadd dL_law_790 ?_
      refine Jo_scld dL_law_791 (fun x125 => ?_)
      refine Jo_callVi (a := l2) (rest := [.int p121.1]) [.int x122, .int x123, .int x124, .int x125] cc_7 yF_X7_fewest yV_X7_fewest w_1018 rfl rfl ⟨Nat.le_of_ble_eq_true rfl, Nat.le_of_ble_eq_true rfl, Nat.le_of_ble_eq_true rfl⟩ dL_law_792 rfl (K_X7_fewest E p121.2 l2 x122 x123 x124 x125) (fun p126 => ?_)
      refine Jo_icmp_eq 1469 dL_law_795 (by decide) rfl ?_ ?_
      · exact b_L_law_1469 E k18 h18 p126.2 l1 l2 l3
      · refine Jo_iconst (v := (0 : Int32)) dL_law_798 (by decide) ?_
        exact Jo_zret0 rfl dL_law_799
    refine Jo_case ?_ (fun g127 => ?_)
    · refine Jo_tabIn (off := 767) 800 dL_law_33 (by decide) (by decide) (by decide) (by decide) ?_
      refine Jo_aloadn 1 dL_law_800 rfl rfl ?_
      refine Jo_aloadn 0 dL_law_801 rfl rfl ?_
      refine Jo_iloadn 3 dL_law_802 rfl rfl ?_
      refine Jo_iconst (v := (1 : Int32)) dL_law_803 (by decide) ?_
      refine Jo_iadd dL_law_804 ?_
      refine Jo_scld dL_law_805 (fun x128 => ?_)
      refine Jo_aloadn 0 dL_law_806 rfl rfl ?_
      refine Jo_iloadn 3 dL_law_807 rfl rfl ?_
      refine Jo_iconst (v := (2 : Int32)) dL_law_808 (by decide) ?_
      refine Jo_iadd dL_law_809 ?_
      refine Jo_scld dL_law_810 (fun x129 => ?_)
      refine Jo_callVi (a := l1) (rest := []) [.int x128, .int x129] cc_6 yF_X6_look yV_X6_look w_1021 rfl rfl ⟨Nat.le_of_ble_eq_true rfl, Nat.le_of_ble_eq_true rfl, Nat.le_of_ble_eq_true rfl⟩ dL_law_811 rfl (K_X6_look E s l1 x128 x129) (fun p130 => ?_)
      refine Jo_aloadn 2 dL_law_814 rfl rfl ?_
      refine Jo_aloadn 0 dL_law_815 rfl rfl ?_
      refine Jo_iloadn 3 dL_law_816 rfl rfl ?_
      refine Jo_iconst (v := (1 : Int32)) dL_law_817 (by decide) ?_
      refine Jo_iadd dL_law_818 ?_
      refine Jo_scld dL_law_819 (fun x131 => ?_)
      refine Jo_aloadn 0 dL_law_820 rfl rfl ?_
      refine Jo_iloadn 3 dL_law_821 rfl rfl ?_
      refine Jo_iconst (v := (2 : Int32)) dL_law_822 (by decide) ?_
      refine Jo_iadd dL_law_823 ?_
      refine Jo_scld dL_law_824 (fun x132 => ?_)
      refine Jo_callVi (a := l2) (rest := [.int p130.1]) [.int x131, .int x132] cc_7 yF_X7_look yV_X7_look w_1020 rfl rfl ⟨Nat.le_of_ble_eq_true rfl, Nat.le_of_ble_eq_true rfl, Nat.le_of_ble_eq_true rfl⟩ dL_law_825 rfl (K_X7_look E p130.2 l2 x131 x132) (fun p133 => ?_)
      refine Jo_icmp_eq 1469 dL_law_828 (by decide) rfl ?_ ?_
      · exact b_L_law_1469 E k18 h18 p133.2 l1 l2 l3
      · refine Jo_iconst (v := (0 : Int32)) dL_law_831 (by decide) ?_
        exact Jo_zret0 rfl dL_law_832
    refine Jo_case ?_ (fun g134 => ?_)
    · refine Jo_tabIn (off := 800) 833 dL_law_33 (by decide) (by decide) (by decide) (by decide) ?_
      refine Jo_aloadn 1 dL_law_833 rfl rfl ?_
      refine Jo_aloadn 0 dL_law_834 rfl rfl ?_
      refine Jo_iloadn 3 dL_law_835 rfl rfl ?_
      refine Jo_iconst (v := (1 : Int32)) dL_law_836 (by decide) ?_
      refine Jo_iadd dL_law_837 ?_
      refine Jo_scld dL_law_838 (fun x135 => ?_)
      refine Jo_aloadn 0 dL_law_839 rfl rfl ?_
      refine Jo_iloadn 3 dL_law_840 rfl rfl ?_
      refine Jo_iconst (v := (2 : Int32)) dL_law_841 (by decide) ?_
      refine Jo_iadd dL_law_842 ?_
      refine Jo_scld dL_law_843 (fun x136 => ?_)
      refine Jo_callVi (a := l1) (rest := []) [.int x135, .int x136] cc_6 yF_X6_find yV_X6_find w_1023 rfl rfl ⟨Nat.le_of_ble_eq_true rfl, Nat.le_of_ble_eq_true rfl, Nat.le_of_ble_eq_true rfl⟩ dL_law_844 rfl (K_X6_find E s l1 x135 x136) (fun p137 => ?_)
      refine Jo_aloadn 2 dL_law_847 rfl rfl ?_
      refine Jo_aloadn 0 dL_law_848 rfl rfl ?_
      refine Jo_iloadn 3 dL_law_849 rfl rfl ?_
      refine Jo_iconst (v := (1 : Int32)) dL_law_850 (by decide) ?_
      refine Jo_iadd dL_law_851 ?_
      refine Jo_scld dL_law_852 (fun x138 => ?_)
      refine Jo_aloadn 0 dL_law_853 rfl rfl ?_
      refine Jo_iloadn 3 dL_law_854 rfl rfl ?_
      refine Jo_iconst (v := (2 : Int32)) dL_law_855 (by decide) ?_
      refine Jo_iadd dL_law_856 ?_
      refine Jo_scld dL_law_857 (fun x139 => ?_)
      refine Jo_callVi (a := l2) (rest := [.int p137.1]) [.int x138, .int x139] cc_7 yF_X7_find yV_X7_find w_1022 rfl rfl ⟨Nat.le_of_ble_eq_true rfl, Nat.le_of_ble_eq_true rfl, Nat.le_of_ble_eq_true rfl⟩ dL_law_858 rfl (K_X7_find E p137.2 l2 x138 x139) (fun p140 => ?_)
      refine Jo_icmp_eq 1469 dL_law_861 (by decide) rfl ?_ ?_
      · exact b_L_law_1469 E k18 h18 p140.2 l1 l2 l3
      · refine Jo_iconst (v := (0 : Int32)) dL_law_864 (by decide) ?_
        exact Jo_zret0 rfl dL_law_865
    refine Jo_case ?_ (fun g141 => ?_)
    · refine Jo_tabIn (off := 833) 866 dL_law_33 (by decide) (by decide) (by decide) (by decide) ?_
      refine Jo_aloadn 1 dL_law_866 rfl rfl ?_
      refine Jo_aloadn 0 dL_law_867 rfl rfl ?_
      refine Jo_iloadn 3 dL_law_868 rfl rfl ?_
      refine Jo_iconst (v := (1 : Int32)) dL_law_869 (by decide) ?_
      refine Jo_iadd dL_law_870 ?_
      refine Jo_scld dL_law_871 (fun x142 => ?_)
      refine Jo_callVi (a := l1) (rest := []) [.int x142] cc_6 yF_X6_keepsBack yV_X6_keepsBack w_1025 rfl rfl ⟨Nat.le_of_ble_eq_true rfl, Nat.le_of_ble_eq_true rfl, Nat.le_of_ble_eq_true rfl⟩ dL_law_872 rfl (K_X6_keepsBack E s l1 x142) (fun p143 => ?_)
      refine Jo_aloadn 2 dL_law_875 rfl rfl ?_
      refine Jo_aloadn 0 dL_law_876 rfl rfl ?_
      refine Jo_iloadn 3 dL_law_877 rfl rfl ?_
      refine Jo_iconst (v := (1 : Int32)) dL_law_878 (by decide) ?_
      refine Jo_iadd dL_law_879 ?_
      refine Jo_scld dL_law_880 (fun x144 => ?_)
      refine Jo_callVi (a := l2) (rest := [.int p143.1]) [.int x144] cc_7 yF_X7_keepsBack yV_X7_keepsBack w_1024 rfl rfl ⟨Nat.le_of_ble_eq_true rfl, Nat.le_of_ble_eq_true rfl, Nat.le_of_ble_eq_true rfl⟩ dL_law_881 rfl (K_X7_keepsBack E p143.2 l2 x144) (fun p145 => ?_)
      refine Jo_icmp_eq 1469 dL_law_884 (by decide) rfl ?_ ?_
      · exact b_L_law_1469 E k18 h18 p145.2 l1 l2 l3
      · refine Jo_iconst (v := (0 : Int32)) dL_law_887 (by decide) ?_
        exact Jo_zret0 rfl dL_law_888
    refine Jo_case ?_ (fun g146 => ?_)
    · refine Jo_tabIn (off := 856) 889 dL_law_33 (by decide) (by decide) (by decide) (by decide) ?_
      refine Jo_aloadn 1 dL_law_889 rfl rfl ?_
      refine Jo_callVi (a := l1) (rest := []) [] cc_6 yF_X6_fine yV_X6_fine w_1027 rfl rfl ⟨Nat.le_of_ble_eq_true rfl, Nat.le_of_ble_eq_true rfl, Nat.le_of_ble_eq_true rfl⟩ dL_law_890 rfl (K_X6_fine E s l1) (fun p147 => ?_)
      refine Jo_aloadn 2 dL_law_893 rfl rfl ?_
      refine Jo_callVi (a := l2) (rest := [.int p147.1]) [] cc_7 yF_X7_fine yV_X7_fine w_1026 rfl rfl ⟨Nat.le_of_ble_eq_true rfl, Nat.le_of_ble_eq_true rfl, Nat.le_of_ble_eq_true rfl⟩ dL_law_894 rfl (K_X7_fine E p147.2 l2) (fun p148 => ?_)
      refine Jo_icmp_eq 1469 dL_law_897 (by decide) rfl ?_ ?_
      · exact b_L_law_1469 E k18 h18 p148.2 l1 l2 l3
      · refine Jo_iconst (v := (0 : Int32)) dL_law_900 (by decide) ?_
        exact Jo_zret0 rfl dL_law_901
    refine Jo_case ?_ (fun g149 => ?_)
    · refine Jo_tabIn (off := 869) 902 dL_law_33 (by decide) (by decide) (by decide) (by decide) ?_
      refine Jo_aloadn 1 dL_law_902 rfl rfl ?_
      refine Jo_aloadn 0 dL_law_903 rfl rfl ?_
      refine Jo_iloadn 3 dL_law_904 rfl rfl ?_
      refine Jo_iconst (v := (1 : Int32)) dL_law_905 (by decide) ?_
      refine Jo_iadd dL_law_906 ?_
      refine Jo_scld dL_law_907 (fun x150 => ?_)
      refine Jo_aloadn 0 dL_law_908 rfl rfl ?_
      refine Jo_iloadn 3 dL_law_909 rfl rfl ?_
      refine Jo_iconst (v := (2 : Int32)) dL_law_910 (by decide) ?_
      refine Jo_iadd dL_law_911 ?_
      refine Jo_scld dL_law_912 (fun x151 => ?_)
      refine Jo_aloadn 0 dL_law_913 rfl rfl ?_
      refine Jo_iloadn 3 dL_law_914 rfl rfl ?_
      refine Jo_iconst (v := (3 : Int32)) dL_law_915 (by decide) ?_
      refine Jo_iadd dL_law_916 ?_
      refine Jo_scld dL_law_917 (fun x152 => ?_)
      refine Jo_callVi (a := l1) (rest := []) [.int x150, .int x151, .int x152] cc_6 yF_X6_feed yV_X6_feed w_1029 rfl rfl ⟨Nat.le_of_ble_eq_true rfl, Nat.le_of_ble_eq_true rfl, Nat.le_of_ble_eq_true rfl⟩ dL_law_918 rfl (K_X6_feed E s l1 x150 x151 x152) (fun p153 => ?_)
      refine Jo_aloadn 2 dL_law_921 rfl rfl ?_
      refine Jo_aloadn 0 dL_law_922 rfl rfl ?_
      refine Jo_iloadn 3 dL_law_923 rfl rfl ?_
      refine Jo_iconst (v := (1 : Int32)) dL_law_924 (by decide) ?_
      refine Jo_iadd dL_law_925 ?_
      refine Jo_scld dL_law_926 (fun x154 => ?_)
      refine Jo_aloadn 0 dL_law_927 rfl rfl ?_
      refine Jo_iloadn 3 dL_law_928 rfl rfl ?_
      refine Jo_iconst (v := (2 : Int32)) dL_law_929 (by decide) ?_
      refine Jo_iadd dL_law_930 ?_
      refine Jo_scld dL_law_931 (fun x155 => ?_)
      refine Jo_aloadn 0 dL_law_932 rfl rfl ?_
      refine Jo_iloadn 3 dL_law_933 rfl rfl ?_
      refine Jo_iconst (v := (3 : Int32)) dL_law_934 (by decide) ?_
      refine Jo_iadd dL_law_935 ?_
      refine Jo_scld dL_law_936 (fun x156 => ?_)
      refine Jo_callVi (a := l2) (rest := [.int p153.1]) [.int x154, .int x155, .int x156] cc_7 yF_X7_feed yV_X7_feed w_1028 rfl rfl ⟨Nat.le_of_ble_eq_true rfl, Nat.le_of_ble_eq_true rfl, Nat.le_of_ble_eq_true rfl⟩ dL_law_937 rfl (K_X7_feed E p153.2 l2 x154 x155 x156) (fun p157 => ?_)
      refine Jo_icmp_eq 1469 dL_law_940 (by decide) rfl ?_ ?_
      · exact b_L_law_1469 E k18 h18 p157.2 l1 l2 l3
      · refine Jo_iconst (v := (0 : Int32)) dL_law_943 (by decide) ?_
        exact Jo_zret0 rfl dL_law_944
    refine Jo_case ?_ (fun g158 => ?_)
    · refine Jo_tabIn (off := 912) 945 dL_law_33 (by decide) (by decide) (by decide) (by decide) ?_
      refine Jo_aloadn 1 dL_law_945 rfl rfl ?_
      refine Jo_aloadn 0 dL_law_946 rfl rfl ?_
      refine Jo_iloadn 3 dL_law_947 rfl rfl ?_
      refine Jo_iconst (v := (1 : Int32)) dL_law_948 (by decide) ?_
      refine Jo_iadd dL_law_949 ?_
      refine Jo_scld dL_law_950 (fun x159 => ?_)
      refine Jo_callVi (a := l1) (rest := []) [.int x159] cc_6 yF_X6_trim yV_X6_trim w_1031 rfl rfl ⟨Nat.le_of_ble_eq_true rfl, Nat.le_of_ble_eq_true rfl, Nat.le_of_ble_eq_true rfl⟩ dL_law_951 rfl (K_X6_trim E s l1 x159) (fun p160 => ?_)
      refine Jo_aloadn 2 dL_law_954 rfl rfl ?_
      refine Jo_aloadn 0 dL_law_955 rfl rfl ?_
      refine Jo_iloadn 3 dL_law_956 rfl rfl ?_
      refine Jo_iconst (v := (1 : Int32)) dL_law_957 (by decide) ?_
      refine Jo_iadd dL_law_958 ?_
      refine Jo_scld dL_law_959 (fun x161 => ?_)
      refine Jo_callVi (a := l2) (rest := [.int p160.1]) [.int x161] cc_7 yF_X7_trim yV_X7_trim w_1030 rfl rfl ⟨Nat.le_of_ble_eq_true rfl, Nat.le_of_ble_eq_true rfl, Nat.le_of_ble_eq_true rfl⟩ dL_law_960 rfl (K_X7_trim E p160.2 l2 x161) (fun p162 => ?_)
      refine Jo_icmp_eq 1469 dL_law_963 (by decide) rfl ?_ ?_
      · exact b_L_law_1469 E k18 h18 p162.2 l1 l2 l3
      · refine Jo_iconst (v := (0 : Int32)) dL_law_966 (by decide) ?_
        exact Jo_zret0 rfl dL_law_967
    refine Jo_case ?_ (fun g163 => ?_)
    · refine Jo_tabIn (off := 935) 968 dL_law_33 (by decide) (by decide) (by decide) (by decide) ?_
      refine Jo_aloadn 1 dL_law_968 rfl rfl ?_
      refine Jo_callVi (a := l1) (rest := []) [] cc_6 yF_X6_text yV_X6_text w_1033 rfl rfl ⟨Nat.le_of_ble_eq_true rfl, Nat.le_of_ble_eq_true rfl, Nat.le_of_ble_eq_true rfl⟩ dL_law_969 rfl (K_X6_text E s l1) (fun p164 => ?_)
      refine Jo_aloadn 2 dL_law_972 rfl rfl ?_
      refine Jo_callVi (a := l2) (rest := [.int p164.1]) [] cc_7 yF_X7_text yV_X7_text w_1032 rfl rfl ⟨Nat.le_of_ble_eq_true rfl, Nat.le_of_ble_eq_true rfl, Nat.le_of_ble_eq_true rfl⟩ dL_law_973 rfl (K_X7_text E p164.2 l2) (fun p165 => ?_)
      refine Jo_icmp_eq 1469 dL_law_976 (by decide) rfl ?_ ?_
      · exact b_L_law_1469 E k18 h18 p165.2 l1 l2 l3
      · refine Jo_iconst (v := (0 : Int32)) dL_law_979 (by decide) ?_
        exact Jo_zret0 rfl dL_law_980
    refine Jo_case ?_ (fun g166 => ?_)
    · refine Jo_tabIn (off := 948) 981 dL_law_33 (by decide) (by decide) (by decide) (by decide) ?_
      refine Jo_aloadn 1 dL_law_981 rfl rfl ?_
      refine Jo_aloadn 0 dL_law_982 rfl rfl ?_
      refine Jo_iloadn 3 dL_law_983 rfl rfl ?_
      refine Jo_iconst (v := (1 : Int32)) dL_law_984 (by decide) ?_
      refine Jo_iadd dL_law_985 ?_
      refine Jo_scld dL_law_986 (fun x167 => ?_)
      refine Jo_aloadn 0 dL_law_987 rfl rfl ?_
      refine Jo_iloadn 3 dL_law_988 rfl rfl ?_
      refine Jo_iconst (v := (2 : Int32)) dL_law_989 (by decide) ?_
      refine Jo_iadd dL_law_990 ?_
      refine Jo_scld dL_law_991 (fun x168 => ?_)
      refine Jo_callVi (a := l1) (rest := []) [.int x167, .int x168] cc_6 yF_X6_textTold yV_X6_textTold w_1035 rfl rfl ⟨Nat.le_of_ble_eq_true rfl, Nat.le_of_ble_eq_true rfl, Nat.le_of_ble_eq_true rfl⟩ dL_law_992 rfl (K_X6_textTold E s l1 x167 x168) (fun p169 => ?_)
      refine Jo_aloadn 2 dL_law_995 rfl rfl ?_
      refine Jo_aloadn 0 dL_law_996 rfl rfl ?_
      refine Jo_iloadn 3 dL_law_997 rfl rfl ?_
      refine Jo_iconst (v := (1 : Int32)) dL_law_998 (by decide) ?_
      refine Jo_iadd dL_law_999 ?_
      refine Jo_scld dL_law_1000 (fun x170 => ?_)
      refine Jo_aloadn 0 dL_law_1001 rfl rfl ?_
      refine Jo_iloadn 3 dL_law_1002 rfl rfl ?_
      refine Jo_iconst (v := (2 : Int32)) dL_law_1003 (by decide) ?_
      refine Jo_iadd dL_law_1004 ?_
      refine Jo_scld dL_law_1005 (fun x171 => ?_)
      refine Jo_callVi (a := l2) (rest := [.int p169.1]) [.int x170, .int x171] cc_7 yF_X7_textTold yV_X7_textTold w_1034 rfl rfl ⟨Nat.le_of_ble_eq_true rfl, Nat.le_of_ble_eq_true rfl, Nat.le_of_ble_eq_true rfl⟩ dL_law_1006 rfl (K_X7_textTold E p169.2 l2 x170 x171) (fun p172 => ?_)
      refine Jo_icmp_eq 1469 dL_law_1009 (by decide) rfl ?_ ?_
      · exact b_L_law_1469 E k18 h18 p172.2 l1 l2 l3
      · refine Jo_iconst (v := (0 : Int32)) dL_law_1012 (by decide) ?_
        exact Jo_zret0 rfl dL_law_1013
    refine Jo_case ?_ (fun g173 => ?_)
    · refine Jo_tabIn (off := 981) 1014 dL_law_33 (by decide) (by decide) (by decide) (by decide) ?_
      refine Jo_aloadn 1 dL_law_1014 rfl rfl ?_
      refine Jo_aloadn 0 dL_law_1015 rfl rfl ?_
      refine Jo_iloadn 3 dL_law_1016 rfl rfl ?_
      refine Jo_iconst (v := (1 : Int32)) dL_law_1017 (by decide) ?_
      refine Jo_iadd dL_law_1018 ?_
      refine Jo_scld dL_law_1019 (fun x174 => ?_)
      refine Jo_callVi (a := l1) (rest := []) [.int x174] cc_6 yF_X6_why yV_X6_why w_1037 rfl rfl ⟨Nat.le_of_ble_eq_true rfl, Nat.le_of_ble_eq_true rfl, Nat.le_of_ble_eq_true rfl⟩ dL_law_1020 rfl (K_X6_why E s l1 x174) (fun p175 => ?_)
      refine Jo_aloadn 2 dL_law_1023 rfl rfl ?_
      refine Jo_aloadn 0 dL_law_1024 rfl rfl ?_
      refine Jo_iloadn 3 dL_law_1025 rfl rfl ?_
      refine Jo_iconst (v := (1 : Int32)) dL_law_1026 (by decide) ?_
      refine Jo_iadd dL_law_1027 ?_
      refine Jo_scld dL_law_1028 (fun x176 => ?_)
      refine Jo_callVi (a := l2) (rest := [.int p175.1]) [.int x176] cc_7 yF_X7_why yV_X7_why w_1036 rfl rfl ⟨Nat.le_of_ble_eq_true rfl, Nat.le_of_ble_eq_true rfl, Nat.le_of_ble_eq_true rfl⟩ dL_law_1029 rfl (K_X7_why E p175.2 l2 x176) (fun p177 => ?_)
      refine Jo_icmp_eq 1469 dL_law_1032 (by decide) rfl ?_ ?_
      · exact b_L_law_1469 E k18 h18 p177.2 l1 l2 l3
      · refine Jo_iconst (v := (0 : Int32)) dL_law_1035 (by decide) ?_
        exact Jo_zret0 rfl dL_law_1036
    refine Jo_case ?_ (fun g178 => ?_)
    · refine Jo_tabIn (off := 1004) 1037 dL_law_33 (by decide) (by decide) (by decide) (by decide) ?_
      refine Jo_aloadn 1 dL_law_1037 rfl rfl ?_
      refine Jo_aloadn 0 dL_law_1038 rfl rfl ?_
      refine Jo_iloadn 3 dL_law_1039 rfl rfl ?_
      refine Jo_iconst (v := (1 : Int32)) dL_law_1040 (by decide) ?_
      refine Jo_iadd dL_law_1041 ?_
      refine Jo_scld dL_law_1042 (fun x179 => ?_)
      refine Jo_aloadn 0 dL_law_1043 rfl rfl ?_
      refine Jo_iloadn 3 dL_law_1044 rfl rfl ?_
      refine Jo_iconst (v := (2 : Int32)) dL_law_1045 (by decide) ?_
      refine Jo_iadd dL_law_1046 ?_
      refine Jo_scld dL_law_1047 (fun x180 => ?_)
      refine Jo_aloadn 0 dL_law_1048 rfl rfl ?_
      refine Jo_iloadn 3 dL_law_1049 rfl rfl ?_
      refine Jo_iconst (v := (3 : Int32)) dL_law_1050 (by decide) ?_
      refine Jo_iadd dL_law_1051 ?_
      refine Jo_scld dL_law_1052 (fun x181 => ?_)
      refine Jo_callVi (a := l1) (rest := []) [.int x179, .int x180, .int x181] cc_6 yF_X6_sheet yV_X6_sheet w_1039 rfl rfl ⟨Nat.le_of_ble_eq_true rfl, Nat.le_of_ble_eq_true rfl, Nat.le_of_ble_eq_true rfl⟩ dL_law_1053 rfl (K_X6_sheet E s l1 x179 x180 x181) (fun p182 => ?_)
      refine Jo_aloadn 2 dL_law_1056 rfl rfl ?_
      refine Jo_aloadn 0 dL_law_1057 rfl rfl ?_
      refine Jo_iloadn 3 dL_law_1058 rfl rfl ?_
      refine Jo_iconst (v := (1 : Int32)) dL_law_1059 (by decide) ?_
      refine Jo_iadd dL_law_1060 ?_
      refine Jo_scld dL_law_1061 (fun x183 => ?_)
      refine Jo_aloadn 0 dL_law_1062 rfl rfl ?_
      refine Jo_iloadn 3 dL_law_1063 rfl rfl ?_
      refine Jo_iconst (v := (2 : Int32)) dL_law_1064 (by decide) ?_
      refine Jo_iadd dL_law_1065 ?_
      refine Jo_scld dL_law_1066 (fun x184 => ?_)
      refine Jo_aloadn 0 dL_law_1067 rfl rfl ?_
      refine Jo_iloadn 3 dL_law_1068 rfl rfl ?_
      refine Jo_iconst (v := (3 : Int32)) dL_law_1069 (by decide) ?_
      refine Jo_iadd dL_law_1070 ?_
      refine Jo_scld dL_law_1071 (fun x185 => ?_)
      refine Jo_callVi (a := l2) (rest := [.int p182.1]) [.int x183, .int x184, .int x185] cc_7 yF_X7_sheet yV_X7_sheet w_1038 rfl rfl ⟨Nat.le_of_ble_eq_true rfl, Nat.le_of_ble_eq_true rfl, Nat.le_of_ble_eq_true rfl⟩ dL_law_1072 rfl (K_X7_sheet E p182.2 l2 x183 x184 x185) (fun p186 => ?_)
      refine Jo_icmp_eq 1469 dL_law_1075 (by decide) rfl ?_ ?_
      · exact b_L_law_1469 E k18 h18 p186.2 l1 l2 l3
      · refine Jo_iconst (v := (0 : Int32)) dL_law_1078 (by decide) ?_
        exact Jo_zret0 rfl dL_law_1079
    refine Jo_case ?_ (fun g187 => ?_)
    · refine Jo_tabIn (off := 1047) 1080 dL_law_33 (by decide) (by decide) (by decide) (by decide) ?_
      refine Jo_aloadn 1 dL_law_1080 rfl rfl ?_
      refine Jo_aloadn 0 dL_law_1081 rfl rfl ?_
      refine Jo_iloadn 3 dL_law_1082 rfl rfl ?_
      refine Jo_iconst (v := (1 : Int32)) dL_law_1083 (by decide) ?_
      refine Jo_iadd dL_law_1084 ?_
      refine Jo_scld dL_law_1085 (fun x188 => ?_)
      refine Jo_aloadn 0 dL_law_1086 rfl rfl ?_
      refine Jo_iloadn 3 dL_law_1087 rfl rfl ?_
      refine Jo_iconst (v := (2 : Int32)) dL_law_1088 (by decide) ?_
      refine Jo_iadd dL_law_1089 ?_
      refine Jo_scld dL_law_1090 (fun x189 => ?_)
      refine Jo_aloadn 0 dL_law_1091 rfl rfl ?_
      refine Jo_iloadn 3 dL_law_1092 rfl rfl ?_
      refine Jo_iconst (v := (3 : Int32)) dL_law_1093 (by decide) ?_
      refine Jo_iadd dL_law_1094 ?_
      refine Jo_scld dL_law_1095 (fun x190 => ?_)
      refine Jo_callVi (a := l1) (rest := []) [.int x188, .int x189, .int x190] cc_6 yF_X6_mark yV_X6_mark w_1041 rfl rfl ⟨Nat.le_of_ble_eq_true rfl, Nat.le_of_ble_eq_true rfl, Nat.le_of_ble_eq_true rfl⟩ dL_law_1096 rfl (K_X6_mark E s l1 x188 x189 x190) (fun p191 => ?_)
      refine Jo_aloadn 2 dL_law_1099 rfl rfl ?_
      refine Jo_aloadn 0 dL_law_1100 rfl rfl ?_
      refine Jo_iloadn 3 dL_law_1101 rfl rfl ?_
      refine Jo_iconst (v := (1 : Int32)) dL_law_1102 (by decide) ?_
      refine Jo_iadd dL_law_1103 ?_
      refine Jo_scld dL_law_1104 (fun x192 => ?_)
      refine Jo_aloadn 0 dL_law_1105 rfl rfl ?_
      refine Jo_iloadn 3 dL_law_1106 rfl rfl ?_
      refine Jo_iconst (v := (2 : Int32)) dL_law_1107 (by decide) ?_
      refine Jo_iadd dL_law_1108 ?_
      refine Jo_scld dL_law_1109 (fun x193 => ?_)
      refine Jo_aloadn 0 dL_law_1110 rfl rfl ?_
      refine Jo_iloadn 3 dL_law_1111 rfl rfl ?_
      refine Jo_iconst (v := (3 : Int32)) dL_law_1112 (by decide) ?_
      refine Jo_iadd dL_law_1113 ?_
      refine Jo_scld dL_law_1114 (fun x194 => ?_)
      refine Jo_callVi (a := l2) (rest := [.int p191.1]) [.int x192, .int x193, .int x194] cc_7 yF_X7_mark yV_X7_mark w_1040 rfl rfl ⟨Nat.le_of_ble_eq_true rfl, Nat.le_of_ble_eq_true rfl, Nat.le_of_ble_eq_true rfl⟩ dL_law_1115 rfl (K_X7_mark E p191.2 l2 x192 x193 x194) (fun p195 => ?_)
      refine Jo_icmp_eq 1469 dL_law_1118 (by decide) rfl ?_ ?_
      · exact b_L_law_1469 E k18 h18 p195.2 l1 l2 l3
      · refine Jo_iconst (v := (0 : Int32)) dL_law_1121 (by decide) ?_
        exact Jo_zret0 rfl dL_law_1122
    refine Jo_case ?_ (fun g196 => ?_)
    · refine Jo_tabIn (off := 1090) 1123 dL_law_33 (by decide) (by decide) (by decide) (by decide) ?_
      refine Jo_aloadn 1 dL_law_1123 rfl rfl ?_
      refine Jo_aloadn 0 dL_law_1124 rfl rfl ?_
      refine Jo_iloadn 3 dL_law_1125 rfl rfl ?_
      refine Jo_iconst (v := (1 : Int32)) dL_law_1126 (by decide) ?_
      refine Jo_iadd dL_law_1127 ?_
      refine Jo_scld dL_law_1128 (fun x197 => ?_)
      refine Jo_callVi (a := l1) (rest := []) [.int x197] cc_6 yF_X6_pour yV_X6_pour w_1043 rfl rfl ⟨Nat.le_of_ble_eq_true rfl, Nat.le_of_ble_eq_true rfl, Nat.le_of_ble_eq_true rfl⟩ dL_law_1129 rfl (K_X6_pour E s l1 x197) (fun p198 => ?_)
      refine Jo_aloadn 2 dL_law_1132 rfl rfl ?_
      refine Jo_aloadn 0 dL_law_1133 rfl rfl ?_
      refine Jo_iloadn 3 dL_law_1134 rfl rfl ?_
      refine Jo_iconst (v := (1 : Int32)) dL_law_1135 (by decide) ?_
      refine Jo_iadd dL_law_1136 ?_
      refine Jo_scld dL_law_1137 (fun x199 => ?_)
      refine Jo_callVi (a := l2) (rest := [.int p198.1]) [.int x199] cc_7 yF_X7_pour yV_X7_pour w_1042 rfl rfl ⟨Nat.le_of_ble_eq_true rfl, Nat.le_of_ble_eq_true rfl, Nat.le_of_ble_eq_true rfl⟩ dL_law_1138 rfl (K_X7_pour E p198.2 l2 x199) (fun p200 => ?_)
      refine Jo_icmp_eq 1469 dL_law_1141 (by decide) rfl ?_ ?_
      · exact b_L_law_1469 E k18 h18 p200.2 l1 l2 l3
      · refine Jo_iconst (v := (0 : Int32)) dL_law_1144 (by decide) ?_
        exact Jo_zret0 rfl dL_law_1145
    refine Jo_case ?_ (fun g201 => ?_)
    · refine Jo_tabIn (off := 1113) 1146 dL_law_33 (by decide) (by decide) (by decide) (by decide) ?_
      refine Jo_aloadn 1 dL_law_1146 rfl rfl ?_
      refine Jo_aloadn 0 dL_law_1147 rfl rfl ?_
      refine Jo_iloadn 3 dL_law_1148 rfl rfl ?_
      refine Jo_iconst (v := (1 : Int32)) dL_law_1149 (by decide) ?_
      refine Jo_iadd dL_law_1150 ?_
      refine Jo_scld dL_law_1151 (fun x202 => ?_)
      refine Jo_callVi (a := l1) (rest := []) [.int x202] cc_6 yF_X6_reads yV_X6_reads w_1045 rfl rfl ⟨Nat.le_of_ble_eq_true rfl, Nat.le_of_ble_eq_true rfl, Nat.le_of_ble_eq_true rfl⟩ dL_law_1152 rfl (K_X6_reads E s l1 x202) (fun p203 => ?_)
      refine Jo_aloadn 2 dL_law_1155 rfl rfl ?_
      refine Jo_aloadn 0 dL_law_1156 rfl rfl ?_
      refine Jo_iloadn 3 dL_law_1157 rfl rfl ?_
      refine Jo_iconst (v := (1 : Int32)) dL_law_1158 (by decide) ?_
      refine Jo_iadd dL_law_1159 ?_
      refine Jo_scld dL_law_1160 (fun x204 => ?_)
      refine Jo_callVi (a := l2) (rest := [.int p203.1]) [.int x204] cc_7 yF_X7_reads yV_X7_reads w_1044 rfl rfl ⟨Nat.le_of_ble_eq_true rfl, Nat.le_of_ble_eq_true rfl, Nat.le_of_ble_eq_true rfl⟩ dL_law_1161 rfl (K_X7_reads E p203.2 l2 x204) (fun p205 => ?_)
      refine Jo_icmp_eq 1469 dL_law_1164 (by decide) rfl ?_ ?_
      · exact b_L_law_1469 E k18 h18 p205.2 l1 l2 l3
      · refine Jo_iconst (v := (0 : Int32)) dL_law_1167 (by decide) ?_
        exact Jo_zret0 rfl dL_law_1168
    refine Jo_case ?_ (fun g206 => ?_)
    · refine Jo_tabIn (off := 1136) 1169 dL_law_33 (by decide) (by decide) (by decide) (by decide) ?_
      refine Jo_aloadn 1 dL_law_1169 rfl rfl ?_
      refine Jo_aloadn 0 dL_law_1170 rfl rfl ?_
      refine Jo_iloadn 3 dL_law_1171 rfl rfl ?_
      refine Jo_iconst (v := (1 : Int32)) dL_law_1172 (by decide) ?_
      refine Jo_iadd dL_law_1173 ?_
      refine Jo_scld dL_law_1174 (fun x207 => ?_)
      refine Jo_aloadn 0 dL_law_1175 rfl rfl ?_
      refine Jo_iloadn 3 dL_law_1176 rfl rfl ?_
      refine Jo_iconst (v := (2 : Int32)) dL_law_1177 (by decide) ?_
      refine Jo_iadd dL_law_1178 ?_
      refine Jo_scld dL_law_1179 (fun x208 => ?_)
      refine Jo_aloadn 0 dL_law_1180 rfl rfl ?_
      refine Jo_iloadn 3 dL_law_1181 rfl rfl ?_
      refine Jo_iconst (v := (3 : Int32)) dL_law_1182 (by decide) ?_
      refine Jo_iadd dL_law_1183 ?_
      refine Jo_scld dL_law_1184 (fun x209 => ?_)
      refine Jo_aloadn 0 dL_law_1185 rfl rfl ?_
      refine Jo_iloadn 3 dL_law_1186 rfl rfl ?_
      refine Jo_iconst (v := (4 : Int32)) dL_law_1187 (by decide) ?_
      refine Jo_iadd dL_law_1188 ?_
      refine Jo_scld dL_law_1189 (fun x210 => ?_)
      refine Jo_aloadn 0 dL_law_1190 rfl rfl ?_
      refine Jo_iloadn 3 dL_law_1191 rfl rfl ?_
      refine Jo_iconst (v := (5 : Int32)) dL_law_1192 (by decide) ?_
      refine Jo_iadd dL_law_1193 ?_
      refine Jo_scld dL_law_1194 (fun x211 => ?_)
      refine Jo_callVi (a := l1) (rest := []) [.int x207, .int x208, .int x209, .int x210, .int x211] cc_6 yF_X6_copy yV_X6_copy w_1047 rfl rfl ⟨Nat.le_of_ble_eq_true rfl, Nat.le_of_ble_eq_true rfl, Nat.le_of_ble_eq_true rfl⟩ dL_law_1195 rfl (K_X6_copy E s l1 x207 x208 x209 x210 x211) (fun p212 => ?_)
      refine Jo_aloadn 2 dL_law_1198 rfl rfl ?_
      refine Jo_aloadn 0 dL_law_1199 rfl rfl ?_
      refine Jo_iloadn 3 dL_law_1200 rfl rfl ?_
      refine Jo_iconst (v := (1 : Int32)) dL_law_1201 (by decide) ?_
      refine Jo_iadd dL_law_1202 ?_
      refine Jo_scld dL_law_1203 (fun x213 => ?_)
      refine Jo_aloadn 0 dL_law_1204 rfl rfl ?_
      refine Jo_iloadn 3 dL_law_1205 rfl rfl ?_
      refine Jo_iconst (v := (2 : Int32)) dL_law_1206 (by decide) ?_
      refine Jo_iadd dL_law_1207 ?_
      refine Jo_scld dL_law_1208 (fun x214 => ?_)
      refine Jo_aloadn 0 dL_law_1209 rfl rfl ?_
      refine Jo_iloadn 3 dL_law_1210 rfl rfl ?_
      refine Jo_iconst (v := (3 : Int32)) dL_law_1211 (by decide) ?_
      refine Jo_iadd dL_law_1212 ?_
      refine Jo_scld dL_law_1213 (fun x215 => ?_)
      refine Jo_aloadn 0 dL_law_1214 rfl rfl ?_
      refine Jo_iloadn 3 dL_law_1215 rfl rfl ?_
      refine Jo_iconst (v := (4 : Int32)) dL_law_1216 (by decide) ?_
      refine Jo_iadd dL_law_1217 ?_
      refine Jo_scld dL_law_1218 (fun x216 => ?_)
      refine Jo_aloadn 0 dL_law_1219 rfl rfl ?_
      refine Jo_iloadn 3 dL_law_1220 rfl rfl ?_
      refine Jo_iconst (v := (5 : Int32)) dL_law_1221 (by decide) ?_
      refine Jo_iadd dL_law_1222 ?_
      refine Jo_scld dL_law_1223 (fun x217 => ?_)
      refine Jo_callVi (a := l2) (rest := [.int p212.1]) [.int x213, .int x214, .int x215, .int x216, .int x217] cc_7 yF_X7_copy yV_X7_copy w_1046 rfl rfl ⟨Nat.le_of_ble_eq_true rfl, Nat.le_of_ble_eq_true rfl, Nat.le_of_ble_eq_true rfl⟩ dL_law_1224 rfl (K_X7_copy E p212.2 l2 x213 x214 x215 x216 x217) (fun p218 => ?_)
      refine Jo_icmp_eq 1469 dL_law_1227 (by decide) rfl ?_ ?_
      · exact b_L_law_1469 E k18 h18 p218.2 l1 l2 l3
      · refine Jo_iconst (v := (0 : Int32)) dL_law_1230 (by decide) ?_
        exact Jo_zret0 rfl dL_law_1231
    refine Jo_case ?_ (fun g219 => ?_)
    · refine Jo_tabIn (off := 1199) 1232 dL_law_33 (by decide) (by decide) (by decide) (by decide) ?_
      refine Jo_aloadn 1 dL_law_1232 rfl rfl ?_
      refine Jo_aloadn 0 dL_law_1233 rfl rfl ?_
      refine Jo_iloadn 3 dL_law_1234 rfl rfl ?_
      refine Jo_iconst (v := (1 : Int32)) dL_law_1235 (by decide) ?_
      refine Jo_iadd dL_law_1236 ?_
      refine Jo_scld dL_law_1237 (fun x220 => ?_)
      refine Jo_aloadn 0 dL_law_1238 rfl rfl ?_
      refine Jo_iloadn 3 dL_law_1239 rfl rfl ?_
      refine Jo_iconst (v := (2 : Int32)) dL_law_1240 (by decide) ?_
      refine Jo_iadd dL_law_1241 ?_
      refine Jo_scld dL_law_1242 (fun x221 => ?_)
      refine Jo_aloadn 0 dL_law_1243 rfl rfl ?_
      refine Jo_iloadn 3 dL_law_1244 rfl rfl ?_
      refine Jo_iconst (v := (3 : Int32)) dL_law_1245 (by decide) ?_
      refine Jo_iadd dL_law_1246 ?_
      refine Jo_scld dL_law_1247 (fun x222 => ?_)
      refine Jo_callVi (a := l1) (rest := []) [.int x220, .int x221, .int x222] cc_6 yF_X6_lay yV_X6_lay w_1049 rfl rfl ⟨Nat.le_of_ble_eq_true rfl, Nat.le_of_ble_eq_true rfl, Nat.le_of_ble_eq_true rfl⟩ dL_law_1248 rfl (K_X6_lay E s l1 x220 x221 x222) (fun p223 => ?_)
      refine Jo_aloadn 2 dL_law_1251 rfl rfl ?_
      refine Jo_aloadn 0 dL_law_1252 rfl rfl ?_
      refine Jo_iloadn 3 dL_law_1253 rfl rfl ?_
      refine Jo_iconst (v := (1 : Int32)) dL_law_1254 (by decide) ?_
      refine Jo_iadd dL_law_1255 ?_
      refine Jo_scld dL_law_1256 (fun x224 => ?_)
      refine Jo_aloadn 0 dL_law_1257 rfl rfl ?_
      refine Jo_iloadn 3 dL_law_1258 rfl rfl ?_
      refine Jo_iconst (v := (2 : Int32)) dL_law_1259 (by decide) ?_
      refine Jo_iadd dL_law_1260 ?_
      refine Jo_scld dL_law_1261 (fun x225 => ?_)
      refine Jo_aloadn 0 dL_law_1262 rfl rfl ?_
      refine Jo_iloadn 3 dL_law_1263 rfl rfl ?_
      refine Jo_iconst (v := (3 : Int32)) dL_law_1264 (by decide) ?_
      refine Jo_iadd dL_law_1265 ?_
      refine Jo_scld dL_law_1266 (fun x226 => ?_)
      refine Jo_callVi (a := l2) (rest := [.int p223.1]) [.int x224, .int x225, .int x226] cc_7 yF_X7_lay yV_X7_lay w_1048 rfl rfl ⟨Nat.le_of_ble_eq_true rfl, Nat.le_of_ble_eq_true rfl, Nat.le_of_ble_eq_true rfl⟩ dL_law_1267 rfl (K_X7_lay E p223.2 l2 x224 x225 x226) (fun p227 => ?_)
      refine Jo_icmp_eq 1469 dL_law_1270 (by decide) rfl ?_ ?_
      · exact b_L_law_1469 E k18 h18 p227.2 l1 l2 l3
      · refine Jo_iconst (v := (0 : Int32)) dL_law_1273 (by decide) ?_
        exact Jo_zret0 rfl dL_law_1274
    refine Jo_case ?_ (fun g228 => ?_)
    · refine Jo_tabIn (off := 1242) 1275 dL_law_33 (by decide) (by decide) (by decide) (by decide) ?_
      refine Jo_aloadn 1 dL_law_1275 rfl rfl ?_
      refine Jo_aloadn 0 dL_law_1276 rfl rfl ?_
      refine Jo_iloadn 3 dL_law_1277 rfl rfl ?_
      refine Jo_iconst (v := (1 : Int32)) dL_law_1278 (by decide) ?_
      refine Jo_iadd dL_law_1279 ?_
      refine Jo_scld dL_law_1280 (fun x229 => ?_)
      refine Jo_aloadn 0 dL_law_1281 rfl rfl ?_
      refine Jo_iloadn 3 dL_law_1282 rfl rfl ?_
      refine Jo_iconst (v := (2 : Int32)) dL_law_1283 (by decide) ?_
      refine Jo_iadd dL_law_1284 ?_
      refine Jo_scld dL_law_1285 (fun x230 => ?_)
      refine Jo_callVi (a := l1) (rest := []) [.int x229, .int x230] cc_6 yF_X6_ask yV_X6_ask w_1051 rfl rfl ⟨Nat.le_of_ble_eq_true rfl, Nat.le_of_ble_eq_true rfl, Nat.le_of_ble_eq_true rfl⟩ dL_law_1286 rfl (K_X6_ask E s l1 x229 x230) (fun p231 => ?_)
      refine Jo_aloadn 2 dL_law_1289 rfl rfl ?_
      refine Jo_aloadn 0 dL_law_1290 rfl rfl ?_
      refine Jo_iloadn 3 dL_law_1291 rfl rfl ?_
      refine Jo_iconst (v := (1 : Int32)) dL_law_1292 (by decide) ?_
      refine Jo_iadd dL_law_1293 ?_
      refine Jo_scld dL_law_1294 (fun x232 => ?_)
      refine Jo_aloadn 0 dL_law_1295 rfl rfl ?_
      refine Jo_iloadn 3 dL_law_1296 rfl rfl ?_
      refine Jo_iconst (v := (2 : Int32)) dL_law_1297 (by decide) ?_
      refine Jo_iadd dL_law_1298 ?_
      refine Jo_scld dL_law_1299 (fun x233 => ?_)
      refine Jo_callVi (a := l2) (rest := [.int p231.1]) [.int x232, .int x233] cc_7 yF_X7_ask yV_X7_ask w_1050 rfl rfl ⟨Nat.le_of_ble_eq_true rfl, Nat.le_of_ble_eq_true rfl, Nat.le_of_ble_eq_true rfl⟩ dL_law_1300 rfl (K_X7_ask E p231.2 l2 x232 x233) (fun p234 => ?_)
      refine Jo_icmp_eq 1469 dL_law_1303 (by decide) rfl ?_ ?_
      · exact b_L_law_1469 E k18 h18 p234.2 l1 l2 l3
      · refine Jo_iconst (v := (0 : Int32)) dL_law_1306 (by decide) ?_
        exact Jo_zret0 rfl dL_law_1307
    refine Jo_case ?_ (fun g235 => ?_)
    · refine Jo_tabIn (off := 1275) 1308 dL_law_33 (by decide) (by decide) (by decide) (by decide) ?_
      refine Jo_aloadn 1 dL_law_1308 rfl rfl ?_
      refine Jo_aloadn 0 dL_law_1309 rfl rfl ?_
      refine Jo_iloadn 3 dL_law_1310 rfl rfl ?_
      refine Jo_iconst (v := (1 : Int32)) dL_law_1311 (by decide) ?_
      refine Jo_iadd dL_law_1312 ?_
      refine Jo_scld dL_law_1313 (fun x236 => ?_)
      refine Jo_aloadn 0 dL_law_1314 rfl rfl ?_
      refine Jo_iloadn 3 dL_law_1315 rfl rfl ?_
      refine Jo_iconst (v := (2 : Int32)) dL_law_1316 (by decide) ?_
      refine Jo_iadd dL_law_1317 ?_
      refine Jo_scld dL_law_1318 (fun x237 => ?_)
      refine Jo_callVi (a := l1) (rest := []) [.int x236, .int x237] cc_6 yF_X6_item yV_X6_item w_1053 rfl rfl ⟨Nat.le_of_ble_eq_true rfl, Nat.le_of_ble_eq_true rfl, Nat.le_of_ble_eq_true rfl⟩ dL_law_1319 rfl (K_X6_item E s l1 x236 x237) (fun p238 => ?_)
      refine Jo_aloadn 2 dL_law_1322 rfl rfl ?_
      refine Jo_aloadn 0 dL_law_1323 rfl rfl ?_
      refine Jo_iloadn 3 dL_law_1324 rfl rfl ?_
      refine Jo_iconst (v := (1 : Int32)) dL_law_1325 (by decide) ?_
      refine Jo_iadd dL_law_1326 ?_
      refine Jo_scld dL_law_1327 (fun x239 => ?_)
      refine Jo_aloadn 0 dL_law_1328 rfl rfl ?_
      refine Jo_iloadn 3 dL_law_1329 rfl rfl ?_
      refine Jo_iconst (v := (2 : Int32)) dL_law_1330 (by decide) ?_
      refine Jo_iadd dL_law_1331 ?_
      refine Jo_scld dL_law_1332 (fun x240 => ?_)
      refine Jo_callVi (a := l2) (rest := [.int p238.1]) [.int x239, .int x240] cc_7 yF_X7_item yV_X7_item w_1052 rfl rfl ⟨Nat.le_of_ble_eq_true rfl, Nat.le_of_ble_eq_true rfl, Nat.le_of_ble_eq_true rfl⟩ dL_law_1333 rfl (K_X7_item E p238.2 l2 x239 x240) (fun p241 => ?_)
      refine Jo_icmp_eq 1469 dL_law_1336 (by decide) rfl ?_ ?_
      · exact b_L_law_1469 E k18 h18 p241.2 l1 l2 l3
      · refine Jo_iconst (v := (0 : Int32)) dL_law_1339 (by decide) ?_
        exact Jo_zret0 rfl dL_law_1340
    refine Jo_case ?_ (fun g242 => ?_)
    · refine Jo_tabIn (off := 1308) 1341 dL_law_33 (by decide) (by decide) (by decide) (by decide) ?_
      refine Jo_aloadn 1 dL_law_1341 rfl rfl ?_
      refine Jo_aloadn 0 dL_law_1342 rfl rfl ?_
      refine Jo_iloadn 3 dL_law_1343 rfl rfl ?_
      refine Jo_iconst (v := (1 : Int32)) dL_law_1344 (by decide) ?_
      refine Jo_iadd dL_law_1345 ?_
      refine Jo_scld dL_law_1346 (fun x243 => ?_)
      refine Jo_aloadn 0 dL_law_1347 rfl rfl ?_
      refine Jo_iloadn 3 dL_law_1348 rfl rfl ?_
      refine Jo_iconst (v := (2 : Int32)) dL_law_1349 (by decide) ?_
      refine Jo_iadd dL_law_1350 ?_
      refine Jo_scld dL_law_1351 (fun x244 => ?_)
      refine Jo_callVi (a := l1) (rest := []) [.int x243, .int x244] cc_6 yF_X6_rest yV_X6_rest w_1055 rfl rfl ⟨Nat.le_of_ble_eq_true rfl, Nat.le_of_ble_eq_true rfl, Nat.le_of_ble_eq_true rfl⟩ dL_law_1352 rfl (K_X6_rest E s l1 x243 x244) (fun p245 => ?_)
      refine Jo_aloadn 2 dL_law_1355 rfl rfl ?_
      refine Jo_aloadn 0 dL_law_1356 rfl rfl ?_
      refine Jo_iloadn 3 dL_law_1357 rfl rfl ?_
      refine Jo_iconst (v := (1 : Int32)) dL_law_1358 (by decide) ?_
      refine Jo_iadd dL_law_1359 ?_
      refine Jo_scld dL_law_1360 (fun x246 => ?_)
      refine Jo_aloadn 0 dL_law_1361 rfl rfl ?_
      refine Jo_iloadn 3 dL_law_1362 rfl rfl ?_
      refine Jo_iconst (v := (2 : Int32)) dL_law_1363 (by decide) ?_
      refine Jo_iadd dL_law_1364 ?_
      refine Jo_scld dL_law_1365 (fun x247 => ?_)
      refine Jo_callVi (a := l2) (rest := [.int p245.1]) [.int x246, .int x247] cc_7 yF_X7_rest yV_X7_rest w_1054 rfl rfl ⟨Nat.le_of_ble_eq_true rfl, Nat.le_of_ble_eq_true rfl, Nat.le_of_ble_eq_true rfl⟩ dL_law_1366 rfl (K_X7_rest E p245.2 l2 x246 x247) (fun p248 => ?_)
      refine Jo_icmp_eq 1469 dL_law_1369 (by decide) rfl ?_ ?_
      · exact b_L_law_1469 E k18 h18 p248.2 l1 l2 l3
      · refine Jo_iconst (v := (0 : Int32)) dL_law_1372 (by decide) ?_
        exact Jo_zret0 rfl dL_law_1373
    refine Jo_case ?_ (fun g249 => ?_)
    · refine Jo_tabIn (off := 1341) 1374 dL_law_33 (by decide) (by decide) (by decide) (by decide) ?_
      refine Jo_aloadn 1 dL_law_1374 rfl rfl ?_
      refine Jo_aloadn 0 dL_law_1375 rfl rfl ?_
      refine Jo_iloadn 3 dL_law_1376 rfl rfl ?_
      refine Jo_iconst (v := (1 : Int32)) dL_law_1377 (by decide) ?_
      refine Jo_iadd dL_law_1378 ?_
      refine Jo_scld dL_law_1379 (fun x250 => ?_)
      refine Jo_callVi (a := l1) (rest := []) [.int x250] cc_6 yF_X6_tell yV_X6_tell w_1057 rfl rfl ⟨Nat.le_of_ble_eq_true rfl, Nat.le_of_ble_eq_true rfl, Nat.le_of_ble_eq_true rfl⟩ dL_law_1380 rfl (K_X6_tell E s l1 x250) (fun p251 => ?_)
      refine Jo_aloadn 2 dL_law_1383 rfl rfl ?_
      refine Jo_aloadn 0 dL_law_1384 rfl rfl ?_
      refine Jo_iloadn 3 dL_law_1385 rfl rfl ?_
      refine Jo_iconst (v := (1 : Int32)) dL_law_1386 (by decide) ?_
      refine Jo_iadd dL_law_1387 ?_
      refine Jo_scld dL_law_1388 (fun x252 => ?_)
      refine Jo_callVi (a := l2) (rest := [.int p251.1]) [.int x252] cc_7 yF_X7_tell yV_X7_tell w_1056 rfl rfl ⟨Nat.le_of_ble_eq_true rfl, Nat.le_of_ble_eq_true rfl, Nat.le_of_ble_eq_true rfl⟩ dL_law_1389 rfl (K_X7_tell E p251.2 l2 x252) (fun p253 => ?_)
      refine Jo_icmp_eq 1469 dL_law_1392 (by decide) rfl ?_ ?_
      · exact b_L_law_1469 E k18 h18 p253.2 l1 l2 l3
      · refine Jo_iconst (v := (0 : Int32)) dL_law_1395 (by decide) ?_
        exact Jo_zret0 rfl dL_law_1396
    refine Jo_case ?_ (fun g254 => ?_)
    · refine Jo_tabIn (off := 1364) 1397 dL_law_33 (by decide) (by decide) (by decide) (by decide) ?_
      refine Jo_aloadn 1 dL_law_1397 rfl rfl ?_
      refine Jo_aloadn 0 dL_law_1398 rfl rfl ?_
      refine Jo_iloadn 3 dL_law_1399 rfl rfl ?_
      refine Jo_iconst (v := (1 : Int32)) dL_law_1400 (by decide) ?_
      refine Jo_iadd dL_law_1401 ?_
      refine Jo_scld dL_law_1402 (fun x255 => ?_)
      refine Jo_callVi (a := l1) (rest := []) [.int x255] cc_6 yF_X6_check yV_X6_check w_1059 rfl rfl ⟨Nat.le_of_ble_eq_true rfl, Nat.le_of_ble_eq_true rfl, Nat.le_of_ble_eq_true rfl⟩ dL_law_1403 rfl (K_X6_check E s l1 x255) (fun p256 => ?_)
      refine Jo_aloadn 2 dL_law_1406 rfl rfl ?_
      refine Jo_aloadn 0 dL_law_1407 rfl rfl ?_
      refine Jo_iloadn 3 dL_law_1408 rfl rfl ?_
      refine Jo_iconst (v := (1 : Int32)) dL_law_1409 (by decide) ?_
      refine Jo_iadd dL_law_1410 ?_
      refine Jo_scld dL_law_1411 (fun x257 => ?_)
      refine Jo_callVi (a := l2) (rest := [.int p256.1]) [.int x257] cc_7 yF_X7_check yV_X7_check w_1058 rfl rfl ⟨Nat.le_of_ble_eq_true rfl, Nat.le_of_ble_eq_true rfl, Nat.le_of_ble_eq_true rfl⟩ dL_law_1412 rfl (K_X7_check E p256.2 l2 x257) (fun p258 => ?_)
      refine Jo_icmp_eq 1469 dL_law_1415 (by decide) rfl ?_ ?_
      · exact b_L_law_1469 E k18 h18 p258.2 l1 l2 l3
      · refine Jo_iconst (v := (0 : Int32)) dL_law_1418 (by decide) ?_
        exact Jo_zret0 rfl dL_law_1419
    refine Jo_case ?_ (fun g259 => ?_)
    · refine Jo_tabIn (off := 1387) 1420 dL_law_33 (by decide) (by decide) (by decide) (by decide) ?_
      refine Jo_aloadn 1 dL_law_1420 rfl rfl ?_
      refine Jo_callVi (a := l1) (rest := []) [] cc_6 yF_X6_keep yV_X6_keep w_1061 rfl rfl ⟨Nat.le_of_ble_eq_true rfl, Nat.le_of_ble_eq_true rfl, Nat.le_of_ble_eq_true rfl⟩ dL_law_1421 rfl (K_X6_keep E s l1) (fun p260 => ?_)
      refine Jo_aloadn 2 dL_law_1424 rfl rfl ?_
      refine Jo_callVi (a := l2) (rest := [.int p260.1]) [] cc_7 yF_X7_keep yV_X7_keep w_1060 rfl rfl ⟨Nat.le_of_ble_eq_true rfl, Nat.le_of_ble_eq_true rfl, Nat.le_of_ble_eq_true rfl⟩ dL_law_1425 rfl (K_X7_keep E p260.2 l2) (fun p261 => ?_)
      refine Jo_icmp_eq 1469 dL_law_1428 (by decide) rfl ?_ ?_
      · exact b_L_law_1469 E k18 h18 p261.2 l1 l2 l3
      · refine Jo_iconst (v := (0 : Int32)) dL_law_1431 (by decide) ?_
        exact Jo_zret0 rfl dL_law_1432
    refine Jo_case ?_ (fun g262 => ?_)
    · refine Jo_tabIn (off := 1400) 1433 dL_law_33 (by decide) (by decide) (by decide) (by decide) ?_
      refine Jo_aloadn 1 dL_law_1433 rfl rfl ?_
      refine Jo_callVi (a := l1) (rest := []) [] cc_6 yF_X6_back yV_X6_back w_1063 rfl rfl ⟨Nat.le_of_ble_eq_true rfl, Nat.le_of_ble_eq_true rfl, Nat.le_of_ble_eq_true rfl⟩ dL_law_1434 rfl (K_X6_back E s l1) (fun p263 => ?_)
      refine Jo_aloadn 2 dL_law_1437 rfl rfl ?_
      refine Jo_callVi (a := l2) (rest := [.int p263.1]) [] cc_7 yF_X7_back yV_X7_back w_1062 rfl rfl ⟨Nat.le_of_ble_eq_true rfl, Nat.le_of_ble_eq_true rfl, Nat.le_of_ble_eq_true rfl⟩ dL_law_1438 rfl (K_X7_back E p263.2 l2) (fun p264 => ?_)
      refine Jo_icmp_eq 1469 dL_law_1441 (by decide) rfl ?_ ?_
      · exact b_L_law_1469 E k18 h18 p264.2 l1 l2 l3
      · refine Jo_iconst (v := (0 : Int32)) dL_law_1444 (by decide) ?_
        exact Jo_zret0 rfl dL_law_1445
    refine Jo_case ?_ (fun g265 => ?_)
    · refine Jo_tabIn (off := 1413) 1446 dL_law_33 (by decide) (by decide) (by decide) (by decide) ?_
      refine Jo_aloadn 1 dL_law_1446 rfl rfl ?_
      refine Jo_aloadn 0 dL_law_1447 rfl rfl ?_
      refine Jo_iloadn 3 dL_law_1448 rfl rfl ?_
      refine Jo_iconst (v := (1 : Int32)) dL_law_1449 (by decide) ?_
      refine Jo_iadd dL_law_1450 ?_
      refine Jo_scld dL_law_1451 (fun x266 => ?_)
      refine Jo_callVi (a := l1) (rest := []) [.int x266] cc_6 yF_X6_count yV_X6_count w_1065 rfl rfl ⟨Nat.le_of_ble_eq_true rfl, Nat.le_of_ble_eq_true rfl, Nat.le_of_ble_eq_true rfl⟩ dL_law_1452 rfl (K_X6_count E s l1 x266) (fun p267 => ?_)
      refine Jo_aloadn 2 dL_law_1455 rfl rfl ?_
      refine Jo_aloadn 0 dL_law_1456 rfl rfl ?_
      refine Jo_iloadn 3 dL_law_1457 rfl rfl ?_
      refine Jo_iconst (v := (1 : Int32)) dL_law_1458 (by decide) ?_
      refine Jo_iadd dL_law_1459 ?_
      refine Jo_scld dL_law_1460 (fun x268 => ?_)
      refine Jo_callVi (a := l2) (rest := [.int p267.1]) [.int x268] cc_7 yF_X7_count yV_X7_count w_1064 rfl rfl ⟨Nat.le_of_ble_eq_true rfl, Nat.le_of_ble_eq_true rfl, Nat.le_of_ble_eq_true rfl⟩ dL_law_1461 rfl (K_X7_count E p267.2 l2 x268) (fun p269 => ?_)
      refine Jo_icmp_eq 1469 dL_law_1464 (by decide) rfl ?_ ?_
      · exact b_L_law_1469 E k18 h18 p269.2 l1 l2 l3
      · refine Jo_iconst (v := (0 : Int32)) dL_law_1467 (by decide) ?_
        exact Jo_zret0 rfl dL_law_1468
    refine Jo_tabOut 1469 dL_law_33 (by have qg3 := i32ne 0 (by decide) g3; have qg8 := i32ne 1 (by decide) g8; have qg15 := i32ne 2 (by decide) g15; have qg24 := i32ne 3 (by decide) g24; have qg27 := i32ne 4 (by decide) g27; have qg34 := i32ne 5 (by decide) g34; have qg43 := i32ne 6 (by decide) g43; have qg52 := i32ne 7 (by decide) g52; have qg59 := i32ne 8 (by decide) g59; have qg62 := i32ne 9 (by decide) g62; have qg67 := i32ne 10 (by decide) g67; have qg72 := i32ne 11 (by decide) g72; have qg81 := i32ne 12 (by decide) g81; have qg88 := i32ne 13 (by decide) g88; have qg95 := i32ne 14 (by decide) g95; have qg102 := i32ne 15 (by decide) g102; have qg107 := i32ne 16 (by decide) g107; have qg110 := i32ne 17 (by decide) g110; have qg113 := i32ne 18 (by decide) g113; have qg116 := i32ne 19 (by decide) g116; have qg127 := i32ne 20 (by decide) g127; have qg134 := i32ne 21 (by decide) g134; have qg141 := i32ne 22 (by decide) g141; have qg146 := i32ne 23 (by decide) g146; have qg149 := i32ne 24 (by decide) g149; have qg158 := i32ne 25 (by decide) g158; have qg163 := i32ne 26 (by decide) g163; have qg166 := i32ne 27 (by decide) g166; have qg173 := i32ne 28 (by decide) g173; have qg178 := i32ne 29 (by decide) g178; have qg187 := i32ne 30 (by decide) g187; have qg196 := i32ne 31 (by decide) g196; have qg201 := i32ne 32 (by decide) g201; have qg206 := i32ne 33 (by decide) g206; have qg219 := i32ne 34 (by decide) g219; have qg228 := i32ne 35 (by decide) g228; have qg235 := i32ne 36 (by decide) g235; have qg242 := i32ne 37 (by decide) g242; have qg249 := i32ne 38 (by decide) g249; have qg254 := i32ne 39 (by decide) g254; have qg259 := i32ne 40 (by decide) g259; have qg262 := i32ne 41 (by decide) g262; have qg265 := i32ne 42 (by decide) g265; omega) (by decide) ?_
    exact b_L_law_1469 E k18 h18 s l1 l2 l3
theorem e_L_law_18 (E : jE)  (n : Nat) : ∀ (s : hS)  (l1 : Nat) (l2 : Nat) (l3 : Int32) , Jo E M_L_law cvI 18 [(0, .ref E.2.2.2.2.2.2.2.1), (1, .ref l1), (2, .ref l2), (3, .int l3)] [] s ((jL f_L_law_b18 (fun _ _ _ _ _ => none) n) E.2.2.2.2.2.2.2.2 l1 l2 l3 s) :=
  jL_ind (P := fun f => ∀ (s : hS)  (l1 : Nat) (l2 : Nat) (l3 : Int32) , Jo E M_L_law cvI 18 [(0, .ref E.2.2.2.2.2.2.2.1), (1, .ref l1), (2, .ref l2), (3, .int l3)] [] s (f E.2.2.2.2.2.2.2.2 l1 l2 l3 s)) (fun _ _ _ _ => Jo_none) (fun b hb s l1 l2 l3 => b_L_law_18 E  b hb s l1 l2 l3) n
def f_L_law (s : hS) (sc : (Nat × (Nat → Int32))) : Option (Int32 × hS) :=
  (nB s 6 11).bind fun s1 =>
  (f_X6_init s1 s.1).bind fun p2 =>
  (nB p2.2 7 34).bind fun s3 =>
  (f_X7_init s3 p2.2.1).bind fun p4 =>
  jL f_L_law_b18 (fun _ _ _ _ _ => none) jF sc s.1 p2.2.1 (0 : Int32) p4.2
theorem b_L_law_in (E : jE)  (s : hS)   : Jo E M_L_law cvI 0 [(0, .ref E.2.2.2.2.2.2.2.1)] [] s (f_L_law s E.2.2.2.2.2.2.2.2) := by
  unfold f_L_law
  refine Jo_newB nf_6 ⟨w_1070, w_1071, w_278⟩ n0_6 dL_law_0 (fun s1 => ?_)
  refine Jo_dup dL_law_3 rfl ?_
  refine Jo_callCv (a := s.1) (rest := [.ref s.1]) [] rfl yF_X6_init yV_X6_init w_1069 rfl rfl ⟨Nat.le_of_ble_eq_true rfl, Nat.le_of_ble_eq_true rfl, Nat.le_of_ble_eq_true rfl⟩ dL_law_4 rfl (K_X6_init E s1 s.1) (fun p2 => ?_)
  refine Jo_astoren (ls' := [(1, .ref s.1), (0, .ref E.2.2.2.2.2.2.2.1)]) dL_law_7 rfl (by decide) rfl ?_
  refine Jo_newB nf_7 ⟨w_1067, w_1068, w_624⟩ n0_7 dL_law_8 (fun s3 => ?_)
  refine Jo_dup dL_law_11 rfl ?_
  refine Jo_callCv (a := p2.2.1) (rest := [.ref p2.2.1]) [] rfl yF_X7_init yV_X7_init w_1066 rfl rfl ⟨Nat.le_of_ble_eq_true rfl, Nat.le_of_ble_eq_true rfl, Nat.le_of_ble_eq_true rfl⟩ dL_law_12 rfl (K_X7_init E s3 p2.2.1) (fun p4 => ?_)
  refine Jo_astoren (ls' := [(2, .ref p2.2.1), (1, .ref s.1), (0, .ref E.2.2.2.2.2.2.2.1)]) dL_law_15 rfl (by decide) rfl ?_
  refine Jo_iconst (v := (0 : Int32)) dL_law_16 (by decide) ?_
  refine Jo_istoren (ls' := [(3, .int (0 : Int32)), (2, .ref p2.2.1), (1, .ref s.1), (0, .ref E.2.2.2.2.2.2.2.1)]) dL_law_17 rfl (by decide) rfl ?_
  refine Jo_sub [3, 2, 1, 0] rfl ?_
  exact e_L_law_18 E jF p4.2 s.1 p2.2.1 (0 : Int32)
