/-! HeronTalk$Text.valueFor(III)I -/
abbrev M_X4_valueFor : jM := (RX4, cX4_valueFor, 9, (some .int), "valueFor", 0, 0)
theorem yF_X4_valueFor : yF yX4_valueFor M_X4_valueFor 3 := ⟨w_174, w_129, by decide +kernel⟩
theorem yV_X4_valueFor : Cond.instanceMethod yX4_valueFor ∈ tbG ∧ Cond.selects yX4_valueFor.cls yX4_valueFor yX4_valueFor ∈ tbG := ⟨w_175, w_176⟩
theorem dX4_valueFor_0 : dI cX4_valueFor 0 1 (.iconst 0) 1 := ⟨by decide +kernel, rfl⟩
theorem dX4_valueFor_1 : dI cX4_valueFor 1 3 (.istore 4) 2 := ⟨by decide +kernel, rfl⟩
theorem dX4_valueFor_3 : dI cX4_valueFor 3 4 (.iconst 0) 1 := ⟨by decide +kernel, rfl⟩
theorem dX4_valueFor_4 : dI cX4_valueFor 4 6 (.istore 5) 2 := ⟨by decide +kernel, rfl⟩
theorem dX4_valueFor_6 : dI cX4_valueFor 6 8 (.iload 5) 2 := ⟨by decide +kernel, rfl⟩
theorem dX4_valueFor_8 : dI cX4_valueFor 8 9 (.aload_n 0) 1 := ⟨by decide +kernel, rfl⟩
theorem dX4_valueFor_9 : dI cX4_valueFor 9 12 (.getfield 18) 3 := ⟨by decide +kernel, rfl⟩
theorem dX4_valueFor_12 : dI cX4_valueFor 12 13 (.arraylength) 1 := ⟨by decide +kernel, rfl⟩
theorem dX4_valueFor_13 : decode cX4_valueFor 13 = .ok (.if_icmp .ge 473, 3) := by decide +kernel
theorem dX4_valueFor_16 : dI cX4_valueFor 16 17 (.aload_n 0) 1 := ⟨by decide +kernel, rfl⟩
theorem dX4_valueFor_17 : dI cX4_valueFor 17 20 (.getfield 18) 3 := ⟨by decide +kernel, rfl⟩
theorem dX4_valueFor_20 : dI cX4_valueFor 20 22 (.iload 5) 2 := ⟨by decide +kernel, rfl⟩
theorem dX4_valueFor_22 : dI cX4_valueFor 22 23 (.iaload) 1 := ⟨by decide +kernel, rfl⟩
theorem dX4_valueFor_23 : dI cX4_valueFor 23 25 (.istore 6) 2 := ⟨by decide +kernel, rfl⟩
theorem dX4_valueFor_25 : dI cX4_valueFor 25 27 (.iload 6) 2 := ⟨by decide +kernel, rfl⟩
theorem dX4_valueFor_27 : dI cX4_valueFor 27 29 (.bipush (-3)) 2 := ⟨by decide +kernel, rfl⟩
theorem dX4_valueFor_29 : decode cX4_valueFor 29 = .ok (.if_icmp .lt 62, 3) := by decide +kernel
theorem dX4_valueFor_32 : dI cX4_valueFor 32 34 (.iload 4) 2 := ⟨by decide +kernel, rfl⟩
theorem dX4_valueFor_34 : dI cX4_valueFor 34 35 (.aload_n 0) 1 := ⟨by decide +kernel, rfl⟩
theorem dX4_valueFor_35 : dI cX4_valueFor 35 38 (.getfield 22) 3 := ⟨by decide +kernel, rfl⟩
theorem dX4_valueFor_38 : dI cX4_valueFor 38 39 (.arraylength) 1 := ⟨by decide +kernel, rfl⟩
theorem dX4_valueFor_39 : decode cX4_valueFor 39 = .ok (.if_icmp .ge 441, 3) := by decide +kernel
theorem dX4_valueFor_42 : dI cX4_valueFor 42 44 (.iload 6) 2 := ⟨by decide +kernel, rfl⟩
theorem dX4_valueFor_44 : dI cX4_valueFor 44 45 (.iconst (-1)) 1 := ⟨by decide +kernel, rfl⟩
theorem dX4_valueFor_45 : decode cX4_valueFor 45 = .ok (.if_icmp .ne 7, 3) := by decide +kernel
theorem dX4_valueFor_48 : dI cX4_valueFor 48 49 (.iload_n 1) 1 := ⟨by decide +kernel, rfl⟩
theorem dX4_valueFor_49 : decode cX4_valueFor 49 = .ok (.goto 15, 3) := by decide +kernel
theorem dX4_valueFor_52 : dI cX4_valueFor 52 54 (.iload 6) 2 := ⟨by decide +kernel, rfl⟩
theorem dX4_valueFor_54 : dI cX4_valueFor 54 56 (.bipush (-2)) 2 := ⟨by decide +kernel, rfl⟩
theorem dX4_valueFor_56 : decode cX4_valueFor 56 = .ok (.if_icmp .ne 7, 3) := by decide +kernel
theorem dX4_valueFor_59 : dI cX4_valueFor 59 60 (.iload_n 2) 1 := ⟨by decide +kernel, rfl⟩
theorem dX4_valueFor_60 : decode cX4_valueFor 60 = .ok (.goto 4, 3) := by decide +kernel
theorem dX4_valueFor_63 : dI cX4_valueFor 63 64 (.iload_n 3) 1 := ⟨by decide +kernel, rfl⟩
theorem dX4_valueFor_64 : dI cX4_valueFor 64 66 (.istore 7) 2 := ⟨by decide +kernel, rfl⟩
theorem dX4_valueFor_66 : dI cX4_valueFor 66 67 (.aload_n 0) 1 := ⟨by decide +kernel, rfl⟩
theorem dX4_valueFor_67 : dI cX4_valueFor 67 70 (.getfield 22) 3 := ⟨by decide +kernel, rfl⟩
theorem dX4_valueFor_70 : dI cX4_valueFor 70 72 (.iload 4) 2 := ⟨by decide +kernel, rfl⟩
theorem dX4_valueFor_72 : dI cX4_valueFor 72 74 (.iload 6) 2 := ⟨by decide +kernel, rfl⟩
theorem dX4_valueFor_74 : decode cX4_valueFor 74 = .ok (.ifCond .lt 8, 3) := by decide +kernel
theorem dX4_valueFor_77 : dI cX4_valueFor 77 79 (.iload 6) 2 := ⟨by decide +kernel, rfl⟩
theorem dX4_valueFor_79 : decode cX4_valueFor 79 = .ok (.goto 5, 3) := by decide +kernel
theorem dX4_valueFor_82 : dI cX4_valueFor 82 84 (.iload 7) 2 := ⟨by decide +kernel, rfl⟩
theorem dX4_valueFor_84 : dI cX4_valueFor 84 85 (.iastore) 1 := ⟨by decide +kernel, rfl⟩
theorem dX4_valueFor_85 : dI cX4_valueFor 85 88 (.iinc 4 1) 3 := ⟨by decide +kernel, rfl⟩
theorem dX4_valueFor_88 : decode cX4_valueFor 88 = .ok (.goto 392, 3) := by decide +kernel
theorem dX4_valueFor_91 : dI cX4_valueFor 91 93 (.iload 6) 2 := ⟨by decide +kernel, rfl⟩
theorem dX4_valueFor_93 : dI cX4_valueFor 93 95 (.bipush (-33)) 2 := ⟨by decide +kernel, rfl⟩
theorem dX4_valueFor_95 : decode cX4_valueFor 95 = .ok (.if_icmp .ne 37, 3) := by decide +kernel
theorem dX4_valueFor_98 : dI cX4_valueFor 98 100 (.iload 4) 2 := ⟨by decide +kernel, rfl⟩
theorem dX4_valueFor_100 : decode cX4_valueFor 100 = .ok (.ifCond .le 380, 3) := by decide +kernel
theorem dX4_valueFor_103 : dI cX4_valueFor 103 104 (.aload_n 0) 1 := ⟨by decide +kernel, rfl⟩
theorem dX4_valueFor_104 : dI cX4_valueFor 104 107 (.getfield 22) 3 := ⟨by decide +kernel, rfl⟩
theorem dX4_valueFor_107 : dI cX4_valueFor 107 109 (.iload 4) 2 := ⟨by decide +kernel, rfl⟩
theorem dX4_valueFor_109 : dI cX4_valueFor 109 110 (.iconst 1) 1 := ⟨by decide +kernel, rfl⟩
theorem dX4_valueFor_110 : dI cX4_valueFor 110 111 (.isub) 1 := ⟨by decide +kernel, rfl⟩
theorem dX4_valueFor_111 : dI cX4_valueFor 111 112 (.aload_n 0) 1 := ⟨by decide +kernel, rfl⟩
theorem dX4_valueFor_112 : dI cX4_valueFor 112 115 (.getfield 22) 3 := ⟨by decide +kernel, rfl⟩
theorem dX4_valueFor_115 : dI cX4_valueFor 115 117 (.iload 4) 2 := ⟨by decide +kernel, rfl⟩
theorem dX4_valueFor_117 : dI cX4_valueFor 117 118 (.iconst 1) 1 := ⟨by decide +kernel, rfl⟩
theorem dX4_valueFor_118 : dI cX4_valueFor 118 119 (.isub) 1 := ⟨by decide +kernel, rfl⟩
theorem dX4_valueFor_119 : dI cX4_valueFor 119 120 (.iaload) 1 := ⟨by decide +kernel, rfl⟩
theorem dX4_valueFor_120 : decode cX4_valueFor 120 = .ok (.ifCond .ne 7, 3) := by decide +kernel
theorem dX4_valueFor_123 : dI cX4_valueFor 123 124 (.iconst 1) 1 := ⟨by decide +kernel, rfl⟩
theorem dX4_valueFor_124 : decode cX4_valueFor 124 = .ok (.goto 4, 3) := by decide +kernel
theorem dX4_valueFor_127 : dI cX4_valueFor 127 128 (.iconst 0) 1 := ⟨by decide +kernel, rfl⟩
theorem dX4_valueFor_128 : dI cX4_valueFor 128 129 (.iastore) 1 := ⟨by decide +kernel, rfl⟩
theorem dX4_valueFor_129 : decode cX4_valueFor 129 = .ok (.goto 351, 3) := by decide +kernel
theorem dX4_valueFor_132 : dI cX4_valueFor 132 134 (.iload 4) 2 := ⟨by decide +kernel, rfl⟩
theorem dX4_valueFor_134 : dI cX4_valueFor 134 135 (.iconst 2) 1 := ⟨by decide +kernel, rfl⟩
theorem dX4_valueFor_135 : decode cX4_valueFor 135 = .ok (.if_icmp .ge 6, 3) := by decide +kernel
theorem dX4_valueFor_138 : decode cX4_valueFor 138 = .ok (.goto 342, 3) := by decide +kernel
theorem dX4_valueFor_141 : dI cX4_valueFor 141 144 (.iinc 4 (-1)) 3 := ⟨by decide +kernel, rfl⟩
theorem dX4_valueFor_144 : dI cX4_valueFor 144 145 (.aload_n 0) 1 := ⟨by decide +kernel, rfl⟩
theorem dX4_valueFor_145 : dI cX4_valueFor 145 148 (.getfield 22) 3 := ⟨by decide +kernel, rfl⟩
theorem dX4_valueFor_148 : dI cX4_valueFor 148 150 (.iload 4) 2 := ⟨by decide +kernel, rfl⟩
theorem dX4_valueFor_150 : dI cX4_valueFor 150 151 (.iconst 1) 1 := ⟨by decide +kernel, rfl⟩
theorem dX4_valueFor_151 : dI cX4_valueFor 151 152 (.isub) 1 := ⟨by decide +kernel, rfl⟩
theorem dX4_valueFor_152 : dI cX4_valueFor 152 153 (.iaload) 1 := ⟨by decide +kernel, rfl⟩
theorem dX4_valueFor_153 : dI cX4_valueFor 153 155 (.istore 7) 2 := ⟨by decide +kernel, rfl⟩
theorem dX4_valueFor_155 : dI cX4_valueFor 155 156 (.aload_n 0) 1 := ⟨by decide +kernel, rfl⟩
theorem dX4_valueFor_156 : dI cX4_valueFor 156 159 (.getfield 22) 3 := ⟨by decide +kernel, rfl⟩
theorem dX4_valueFor_159 : dI cX4_valueFor 159 161 (.iload 4) 2 := ⟨by decide +kernel, rfl⟩
theorem dX4_valueFor_161 : dI cX4_valueFor 161 162 (.iaload) 1 := ⟨by decide +kernel, rfl⟩
theorem dX4_valueFor_162 : dI cX4_valueFor 162 164 (.istore 8) 2 := ⟨by decide +kernel, rfl⟩
theorem dX4_valueFor_164 : dI cX4_valueFor 164 166 (.iload 6) 2 := ⟨by decide +kernel, rfl⟩
theorem dX4_valueFor_166 : dI cX4_valueFor 166 167 (.ineg) 1 := ⟨by decide +kernel, rfl⟩
theorem dX4_valueFor_167 : decode cX4_valueFor 167 = .ok (.tableswitch 289 38 62 #[262, 289, 289, 289, 147, 113, 289, 130, 289, 164, 289, 289, 289, 289, 289, 289, 289, 289, 289, 289, 289, 289, 190, 214, 238], 113) := by decide +kernel
theorem dX4_valueFor_280 : dI cX4_valueFor 280 281 (.aload_n 0) 1 := ⟨by decide +kernel, rfl⟩
theorem dX4_valueFor_281 : dI cX4_valueFor 281 284 (.getfield 22) 3 := ⟨by decide +kernel, rfl⟩
theorem dX4_valueFor_284 : dI cX4_valueFor 284 286 (.iload 4) 2 := ⟨by decide +kernel, rfl⟩
theorem dX4_valueFor_286 : dI cX4_valueFor 286 287 (.iconst 1) 1 := ⟨by decide +kernel, rfl⟩
theorem dX4_valueFor_287 : dI cX4_valueFor 287 288 (.isub) 1 := ⟨by decide +kernel, rfl⟩
theorem dX4_valueFor_288 : dI cX4_valueFor 288 290 (.iload 7) 2 := ⟨by decide +kernel, rfl⟩
theorem dX4_valueFor_290 : dI cX4_valueFor 290 292 (.iload 8) 2 := ⟨by decide +kernel, rfl⟩
theorem dX4_valueFor_292 : dI cX4_valueFor 292 293 (.iadd) 1 := ⟨by decide +kernel, rfl⟩
theorem dX4_valueFor_293 : dI cX4_valueFor 293 294 (.iastore) 1 := ⟨by decide +kernel, rfl⟩
theorem dX4_valueFor_294 : decode cX4_valueFor 294 = .ok (.goto 186, 3) := by decide +kernel
theorem dX4_valueFor_297 : dI cX4_valueFor 297 298 (.aload_n 0) 1 := ⟨by decide +kernel, rfl⟩
theorem dX4_valueFor_298 : dI cX4_valueFor 298 301 (.getfield 22) 3 := ⟨by decide +kernel, rfl⟩
theorem dX4_valueFor_301 : dI cX4_valueFor 301 303 (.iload 4) 2 := ⟨by decide +kernel, rfl⟩
theorem dX4_valueFor_303 : dI cX4_valueFor 303 304 (.iconst 1) 1 := ⟨by decide +kernel, rfl⟩
theorem dX4_valueFor_304 : dI cX4_valueFor 304 305 (.isub) 1 := ⟨by decide +kernel, rfl⟩
theorem dX4_valueFor_305 : dI cX4_valueFor 305 307 (.iload 7) 2 := ⟨by decide +kernel, rfl⟩
theorem dX4_valueFor_307 : dI cX4_valueFor 307 309 (.iload 8) 2 := ⟨by decide +kernel, rfl⟩
theorem dX4_valueFor_309 : dI cX4_valueFor 309 310 (.isub) 1 := ⟨by decide +kernel, rfl⟩
theorem dX4_valueFor_310 : dI cX4_valueFor 310 311 (.iastore) 1 := ⟨by decide +kernel, rfl⟩
theorem dX4_valueFor_311 : decode cX4_valueFor 311 = .ok (.goto 169, 3) := by decide +kernel
theorem dX4_valueFor_314 : dI cX4_valueFor 314 315 (.aload_n 0) 1 := ⟨by decide +kernel, rfl⟩
theorem dX4_valueFor_315 : dI cX4_valueFor 315 318 (.getfield 22) 3 := ⟨by decide +kernel, rfl⟩
theorem dX4_valueFor_318 : dI cX4_valueFor 318 320 (.iload 4) 2 := ⟨by decide +kernel, rfl⟩
theorem dX4_valueFor_320 : dI cX4_valueFor 320 321 (.iconst 1) 1 := ⟨by decide +kernel, rfl⟩
theorem dX4_valueFor_321 : dI cX4_valueFor 321 322 (.isub) 1 := ⟨by decide +kernel, rfl⟩
theorem dX4_valueFor_322 : dI cX4_valueFor 322 324 (.iload 7) 2 := ⟨by decide +kernel, rfl⟩
theorem dX4_valueFor_324 : dI cX4_valueFor 324 326 (.iload 8) 2 := ⟨by decide +kernel, rfl⟩
theorem dX4_valueFor_326 : dI cX4_valueFor 326 327 (.imul) 1 := ⟨by decide +kernel, rfl⟩
theorem dX4_valueFor_327 : dI cX4_valueFor 327 328 (.iastore) 1 := ⟨by decide +kernel, rfl⟩
theorem dX4_valueFor_328 : decode cX4_valueFor 328 = .ok (.goto 152, 3) := by decide +kernel
theorem dX4_valueFor_331 : dI cX4_valueFor 331 332 (.aload_n 0) 1 := ⟨by decide +kernel, rfl⟩
theorem dX4_valueFor_332 : dI cX4_valueFor 332 335 (.getfield 22) 3 := ⟨by decide +kernel, rfl⟩
theorem dX4_valueFor_335 : dI cX4_valueFor 335 337 (.iload 4) 2 := ⟨by decide +kernel, rfl⟩
theorem dX4_valueFor_337 : dI cX4_valueFor 337 338 (.iconst 1) 1 := ⟨by decide +kernel, rfl⟩
theorem dX4_valueFor_338 : dI cX4_valueFor 338 339 (.isub) 1 := ⟨by decide +kernel, rfl⟩
theorem dX4_valueFor_339 : dI cX4_valueFor 339 341 (.iload 8) 2 := ⟨by decide +kernel, rfl⟩
theorem dX4_valueFor_341 : decode cX4_valueFor 341 = .ok (.ifCond .ne 7, 3) := by decide +kernel
theorem dX4_valueFor_344 : dI cX4_valueFor 344 345 (.iconst 0) 1 := ⟨by decide +kernel, rfl⟩
theorem dX4_valueFor_345 : decode cX4_valueFor 345 = .ok (.goto 8, 3) := by decide +kernel
theorem dX4_valueFor_348 : dI cX4_valueFor 348 350 (.iload 7) 2 := ⟨by decide +kernel, rfl⟩
theorem dX4_valueFor_350 : dI cX4_valueFor 350 352 (.iload 8) 2 := ⟨by decide +kernel, rfl⟩
theorem dX4_valueFor_352 : dI cX4_valueFor 352 353 (.idiv) 1 := ⟨by decide +kernel, rfl⟩
theorem dX4_valueFor_353 : dI cX4_valueFor 353 354 (.iastore) 1 := ⟨by decide +kernel, rfl⟩
theorem dX4_valueFor_354 : decode cX4_valueFor 354 = .ok (.goto 126, 3) := by decide +kernel
theorem dX4_valueFor_357 : dI cX4_valueFor 357 358 (.aload_n 0) 1 := ⟨by decide +kernel, rfl⟩
theorem dX4_valueFor_358 : dI cX4_valueFor 358 361 (.getfield 22) 3 := ⟨by decide +kernel, rfl⟩
theorem dX4_valueFor_361 : dI cX4_valueFor 361 363 (.iload 4) 2 := ⟨by decide +kernel, rfl⟩
theorem dX4_valueFor_363 : dI cX4_valueFor 363 364 (.iconst 1) 1 := ⟨by decide +kernel, rfl⟩
theorem dX4_valueFor_364 : dI cX4_valueFor 364 365 (.isub) 1 := ⟨by decide +kernel, rfl⟩
theorem dX4_valueFor_365 : dI cX4_valueFor 365 367 (.iload 7) 2 := ⟨by decide +kernel, rfl⟩
theorem dX4_valueFor_367 : dI cX4_valueFor 367 369 (.iload 8) 2 := ⟨by decide +kernel, rfl⟩
theorem dX4_valueFor_369 : decode cX4_valueFor 369 = .ok (.if_icmp .ge 7, 3) := by decide +kernel
theorem dX4_valueFor_372 : dI cX4_valueFor 372 373 (.iconst 1) 1 := ⟨by decide +kernel, rfl⟩
theorem dX4_valueFor_373 : decode cX4_valueFor 373 = .ok (.goto 4, 3) := by decide +kernel
theorem dX4_valueFor_376 : dI cX4_valueFor 376 377 (.iconst 0) 1 := ⟨by decide +kernel, rfl⟩
theorem dX4_valueFor_377 : dI cX4_valueFor 377 378 (.iastore) 1 := ⟨by decide +kernel, rfl⟩
theorem dX4_valueFor_378 : decode cX4_valueFor 378 = .ok (.goto 102, 3) := by decide +kernel
theorem dX4_valueFor_381 : dI cX4_valueFor 381 382 (.aload_n 0) 1 := ⟨by decide +kernel, rfl⟩
theorem dX4_valueFor_382 : dI cX4_valueFor 382 385 (.getfield 22) 3 := ⟨by decide +kernel, rfl⟩
theorem dX4_valueFor_385 : dI cX4_valueFor 385 387 (.iload 4) 2 := ⟨by decide +kernel, rfl⟩
theorem dX4_valueFor_387 : dI cX4_valueFor 387 388 (.iconst 1) 1 := ⟨by decide +kernel, rfl⟩
theorem dX4_valueFor_388 : dI cX4_valueFor 388 389 (.isub) 1 := ⟨by decide +kernel, rfl⟩
theorem dX4_valueFor_389 : dI cX4_valueFor 389 391 (.iload 7) 2 := ⟨by decide +kernel, rfl⟩
theorem dX4_valueFor_391 : dI cX4_valueFor 391 393 (.iload 8) 2 := ⟨by decide +kernel, rfl⟩
theorem dX4_valueFor_393 : decode cX4_valueFor 393 = .ok (.if_icmp .ne 7, 3) := by decide +kernel
theorem dX4_valueFor_396 : dI cX4_valueFor 396 397 (.iconst 1) 1 := ⟨by decide +kernel, rfl⟩
theorem dX4_valueFor_397 : decode cX4_valueFor 397 = .ok (.goto 4, 3) := by decide +kernel
theorem dX4_valueFor_400 : dI cX4_valueFor 400 401 (.iconst 0) 1 := ⟨by decide +kernel, rfl⟩
theorem dX4_valueFor_401 : dI cX4_valueFor 401 402 (.iastore) 1 := ⟨by decide +kernel, rfl⟩
theorem dX4_valueFor_402 : decode cX4_valueFor 402 = .ok (.goto 78, 3) := by decide +kernel
theorem dX4_valueFor_405 : dI cX4_valueFor 405 406 (.aload_n 0) 1 := ⟨by decide +kernel, rfl⟩
theorem dX4_valueFor_406 : dI cX4_valueFor 406 409 (.getfield 22) 3 := ⟨by decide +kernel, rfl⟩
theorem dX4_valueFor_409 : dI cX4_valueFor 409 411 (.iload 4) 2 := ⟨by decide +kernel, rfl⟩
theorem dX4_valueFor_411 : dI cX4_valueFor 411 412 (.iconst 1) 1 := ⟨by decide +kernel, rfl⟩
theorem dX4_valueFor_412 : dI cX4_valueFor 412 413 (.isub) 1 := ⟨by decide +kernel, rfl⟩
theorem dX4_valueFor_413 : dI cX4_valueFor 413 415 (.iload 7) 2 := ⟨by decide +kernel, rfl⟩
theorem dX4_valueFor_415 : dI cX4_valueFor 415 417 (.iload 8) 2 := ⟨by decide +kernel, rfl⟩
theorem dX4_valueFor_417 : decode cX4_valueFor 417 = .ok (.if_icmp .le 7, 3) := by decide +kernel
theorem dX4_valueFor_420 : dI cX4_valueFor 420 421 (.iconst 1) 1 := ⟨by decide +kernel, rfl⟩
theorem dX4_valueFor_421 : decode cX4_valueFor 421 = .ok (.goto 4, 3) := by decide +kernel
theorem dX4_valueFor_424 : dI cX4_valueFor 424 425 (.iconst 0) 1 := ⟨by decide +kernel, rfl⟩
theorem dX4_valueFor_425 : dI cX4_valueFor 425 426 (.iastore) 1 := ⟨by decide +kernel, rfl⟩
theorem dX4_valueFor_426 : decode cX4_valueFor 426 = .ok (.goto 54, 3) := by decide +kernel
theorem dX4_valueFor_429 : dI cX4_valueFor 429 430 (.aload_n 0) 1 := ⟨by decide +kernel, rfl⟩
theorem dX4_valueFor_430 : dI cX4_valueFor 430 433 (.getfield 22) 3 := ⟨by decide +kernel, rfl⟩
theorem dX4_valueFor_433 : dI cX4_valueFor 433 435 (.iload 4) 2 := ⟨by decide +kernel, rfl⟩
theorem dX4_valueFor_435 : dI cX4_valueFor 435 436 (.iconst 1) 1 := ⟨by decide +kernel, rfl⟩
theorem dX4_valueFor_436 : dI cX4_valueFor 436 437 (.isub) 1 := ⟨by decide +kernel, rfl⟩
theorem dX4_valueFor_437 : dI cX4_valueFor 437 439 (.iload 7) 2 := ⟨by decide +kernel, rfl⟩
theorem dX4_valueFor_439 : decode cX4_valueFor 439 = .ok (.ifCond .eq 12, 3) := by decide +kernel
theorem dX4_valueFor_442 : dI cX4_valueFor 442 444 (.iload 8) 2 := ⟨by decide +kernel, rfl⟩
theorem dX4_valueFor_444 : decode cX4_valueFor 444 = .ok (.ifCond .eq 7, 3) := by decide +kernel
theorem dX4_valueFor_447 : dI cX4_valueFor 447 448 (.iconst 1) 1 := ⟨by decide +kernel, rfl⟩
theorem dX4_valueFor_448 : decode cX4_valueFor 448 = .ok (.goto 4, 3) := by decide +kernel
theorem dX4_valueFor_451 : dI cX4_valueFor 451 452 (.iconst 0) 1 := ⟨by decide +kernel, rfl⟩
theorem dX4_valueFor_452 : dI cX4_valueFor 452 453 (.iastore) 1 := ⟨by decide +kernel, rfl⟩
theorem dX4_valueFor_453 : decode cX4_valueFor 453 = .ok (.goto 27, 3) := by decide +kernel
theorem dX4_valueFor_456 : dI cX4_valueFor 456 457 (.aload_n 0) 1 := ⟨by decide +kernel, rfl⟩
theorem dX4_valueFor_457 : dI cX4_valueFor 457 460 (.getfield 22) 3 := ⟨by decide +kernel, rfl⟩
theorem dX4_valueFor_460 : dI cX4_valueFor 460 462 (.iload 4) 2 := ⟨by decide +kernel, rfl⟩
theorem dX4_valueFor_462 : dI cX4_valueFor 462 463 (.iconst 1) 1 := ⟨by decide +kernel, rfl⟩
theorem dX4_valueFor_463 : dI cX4_valueFor 463 464 (.isub) 1 := ⟨by decide +kernel, rfl⟩
theorem dX4_valueFor_464 : dI cX4_valueFor 464 466 (.iload 7) 2 := ⟨by decide +kernel, rfl⟩
theorem dX4_valueFor_466 : decode cX4_valueFor 466 = .ok (.ifCond .ne 8, 3) := by decide +kernel
theorem dX4_valueFor_469 : dI cX4_valueFor 469 471 (.iload 8) 2 := ⟨by decide +kernel, rfl⟩
theorem dX4_valueFor_471 : decode cX4_valueFor 471 = .ok (.ifCond .eq 7, 3) := by decide +kernel
theorem dX4_valueFor_474 : dI cX4_valueFor 474 475 (.iconst 1) 1 := ⟨by decide +kernel, rfl⟩
theorem dX4_valueFor_475 : decode cX4_valueFor 475 = .ok (.goto 4, 3) := by decide +kernel
theorem dX4_valueFor_478 : dI cX4_valueFor 478 479 (.iconst 0) 1 := ⟨by decide +kernel, rfl⟩
theorem dX4_valueFor_479 : dI cX4_valueFor 479 480 (.iastore) 1 := ⟨by decide +kernel, rfl⟩
theorem dX4_valueFor_480 : dI cX4_valueFor 480 483 (.iinc 5 1) 3 := ⟨by decide +kernel, rfl⟩
theorem dX4_valueFor_483 : decode cX4_valueFor 483 = .ok (.goto (-477), 3) := by decide +kernel
theorem dX4_valueFor_486 : dI cX4_valueFor 486 488 (.iload 4) 2 := ⟨by decide +kernel, rfl⟩
theorem dX4_valueFor_488 : decode cX4_valueFor 488 = .ok (.ifCond .le 12, 3) := by decide +kernel
theorem dX4_valueFor_491 : dI cX4_valueFor 491 492 (.aload_n 0) 1 := ⟨by decide +kernel, rfl⟩
theorem dX4_valueFor_492 : dI cX4_valueFor 492 495 (.getfield 22) 3 := ⟨by decide +kernel, rfl⟩
theorem dX4_valueFor_495 : dI cX4_valueFor 495 496 (.iconst 0) 1 := ⟨by decide +kernel, rfl⟩
theorem dX4_valueFor_496 : dI cX4_valueFor 496 497 (.iaload) 1 := ⟨by decide +kernel, rfl⟩
theorem dX4_valueFor_497 : decode cX4_valueFor 497 = .ok (.goto 4, 3) := by decide +kernel
theorem dX4_valueFor_500 : dI cX4_valueFor 500 501 (.iconst 0) 1 := ⟨by decide +kernel, rfl⟩
theorem dX4_valueFor_501 : dI cX4_valueFor 501 502 (.ireturn) 1 := ⟨by decide +kernel, rfl⟩
def f_X4_valueFor_b480 (k6 : Nat → Int32 → Int32 → Int32 → Int32 → Int32 → hS → Option (Int32 × hS)) (l0 : Nat) (l1 : Int32) (l2 : Int32) (l3 : Int32) (l4 : Int32) (l5 : Int32) (s : hS) : Option (Int32 × hS) :=
  k6 l0 l1 l2 l3 l4 (l5 + (1 : Int32)) s
theorem b_X4_valueFor_480 (E : jE) (k6 : Nat → Int32 → Int32 → Int32 → Int32 → Int32 → hS → Option (Int32 × hS)) (h6 : ∀ (s : hS) (l0 : Nat) (l1 : Int32) (l2 : Int32) (l3 : Int32) (l4 : Int32) (l5 : Int32) , Jo E M_X4_valueFor cvI 6 [(0, .ref l0), (1, .int l1), (2, .int l2), (3, .int l3), (4, .int l4), (5, .int l5)] [] s (k6 l0 l1 l2 l3 l4 l5 s)) (s : hS) (l0 : Nat) (l1 : Int32) (l2 : Int32) (l3 : Int32) (l4 : Int32) (l5 : Int32)  : Jo E M_X4_valueFor cvI 480 [(0, .ref l0), (1, .int l1), (2, .int l2), (3, .int l3), (4, .int l4), (5, .int l5)] [] s (f_X4_valueFor_b480 k6 l0 l1 l2 l3 l4 l5 s) := by
  unfold f_X4_valueFor_b480
  refine Jo_iinc (v := (l5 + (1 : Int32))) (ls' := [(5, .int (l5 + (1 : Int32))), (0, .ref l0), (1, .int l1), (2, .int l2), (3, .int l3), (4, .int l4)]) 5 dX4_valueFor_480 rfl rfl (by decide) rfl ?_
  refine Jo_goto 6 dX4_valueFor_483 (by decide) ?_
  refine Jo_sub [1, 2, 3, 4, 5, 0] rfl ?_
  exact h6 s l0 l1 l2 l3 l4 (l5 + (1 : Int32))
def f_X4_valueFor_b479 (k6 : Nat → Int32 → Int32 → Int32 → Int32 → Int32 → hS → Option (Int32 × hS)) (l0 : Nat) (l1 : Int32) (l2 : Int32) (l3 : Int32) (l4 : Int32) (l5 : Int32) (t0 : Nat) (t1 : Int32) (t2 : Int32) (s : hS) : Option (Int32 × hS) :=
  (sI s t0 10 t1 t2).bind fun s1 =>
  f_X4_valueFor_b480 k6 l0 l1 l2 l3 l4 l5 s1
theorem b_X4_valueFor_479 (E : jE) (k6 : Nat → Int32 → Int32 → Int32 → Int32 → Int32 → hS → Option (Int32 × hS)) (h6 : ∀ (s : hS) (l0 : Nat) (l1 : Int32) (l2 : Int32) (l3 : Int32) (l4 : Int32) (l5 : Int32) , Jo E M_X4_valueFor cvI 6 [(0, .ref l0), (1, .int l1), (2, .int l2), (3, .int l3), (4, .int l4), (5, .int l5)] [] s (k6 l0 l1 l2 l3 l4 l5 s)) (s : hS) (l0 : Nat) (l1 : Int32) (l2 : Int32) (l3 : Int32) (l4 : Int32) (l5 : Int32) (t0 : Nat) (t1 : Int32) (t2 : Int32) : Jo E M_X4_valueFor cvI 479 [(0, .ref l0), (1, .int l1), (2, .int l2), (3, .int l3), (4, .int l4), (5, .int l5)] [.int t2, .int t1, .ref t0] s (f_X4_valueFor_b479 k6 l0 l1 l2 l3 l4 l5 t0 t1 t2 s) := by
  unfold f_X4_valueFor_b479
  refine Jo_iastore dX4_valueFor_479 (fun s1 => ?_)
  exact b_X4_valueFor_480 E k6 h6 s1 l0 l1 l2 l3 l4 l5
def f_X4_valueFor_b474 (k6 : Nat → Int32 → Int32 → Int32 → Int32 → Int32 → hS → Option (Int32 × hS)) (l0 : Nat) (l1 : Int32) (l2 : Int32) (l3 : Int32) (l4 : Int32) (l5 : Int32) (t0 : Nat) (t1 : Int32) (s : hS) : Option (Int32 × hS) :=
  f_X4_valueFor_b479 k6 l0 l1 l2 l3 l4 l5 t0 t1 (1 : Int32) s
theorem b_X4_valueFor_474 (E : jE) (k6 : Nat → Int32 → Int32 → Int32 → Int32 → Int32 → hS → Option (Int32 × hS)) (h6 : ∀ (s : hS) (l0 : Nat) (l1 : Int32) (l2 : Int32) (l3 : Int32) (l4 : Int32) (l5 : Int32) , Jo E M_X4_valueFor cvI 6 [(0, .ref l0), (1, .int l1), (2, .int l2), (3, .int l3), (4, .int l4), (5, .int l5)] [] s (k6 l0 l1 l2 l3 l4 l5 s)) (s : hS) (l0 : Nat) (l1 : Int32) (l2 : Int32) (l3 : Int32) (l4 : Int32) (l5 : Int32) (t0 : Nat) (t1 : Int32) : Jo E M_X4_valueFor cvI 474 [(0, .ref l0), (1, .int l1), (2, .int l2), (3, .int l3), (4, .int l4), (5, .int l5)] [.int t1, .ref t0] s (f_X4_valueFor_b474 k6 l0 l1 l2 l3 l4 l5 t0 t1 s) := by
  unfold f_X4_valueFor_b474
  refine Jo_iconst (v := (1 : Int32)) dX4_valueFor_474 (by decide) ?_
  refine Jo_goto 479 dX4_valueFor_475 (by decide) ?_
  exact b_X4_valueFor_479 E k6 h6 s l0 l1 l2 l3 l4 l5 t0 t1 (1 : Int32)
def f_X4_valueFor_b456 (k6 : Nat → Int32 → Int32 → Int32 → Int32 → Int32 → hS → Option (Int32 × hS)) (l0 : Nat) (l1 : Int32) (l2 : Int32) (l3 : Int32) (l4 : Int32) (l5 : Int32) (l7 : Int32) (l8 : Int32) (s : hS) : Option (Int32 × hS) :=
  (gR s l0 4 3).bind fun a1 =>
  if l7 = 0 then
    if l8 = 0 then
      f_X4_valueFor_b479 k6 l0 l1 l2 l3 l4 l5 a1 (l4 - (1 : Int32)) (0 : Int32) s
    else
      f_X4_valueFor_b474 k6 l0 l1 l2 l3 l4 l5 a1 (l4 - (1 : Int32)) s
  else
    f_X4_valueFor_b474 k6 l0 l1 l2 l3 l4 l5 a1 (l4 - (1 : Int32)) s
theorem b_X4_valueFor_456 (E : jE) (k6 : Nat → Int32 → Int32 → Int32 → Int32 → Int32 → hS → Option (Int32 × hS)) (h6 : ∀ (s : hS) (l0 : Nat) (l1 : Int32) (l2 : Int32) (l3 : Int32) (l4 : Int32) (l5 : Int32) , Jo E M_X4_valueFor cvI 6 [(0, .ref l0), (1, .int l1), (2, .int l2), (3, .int l3), (4, .int l4), (5, .int l5)] [] s (k6 l0 l1 l2 l3 l4 l5 s)) (s : hS) (l0 : Nat) (l1 : Int32) (l2 : Int32) (l3 : Int32) (l4 : Int32) (l5 : Int32) (l7 : Int32) (l8 : Int32)  : Jo E M_X4_valueFor cvI 456 [(0, .ref l0), (1, .int l1), (2, .int l2), (3, .int l3), (4, .int l4), (5, .int l5), (7, .int l7), (8, .int l8)] [] s (f_X4_valueFor_b456 k6 l0 l1 l2 l3 l4 l5 l7 l8 s) := by
  unfold f_X4_valueFor_b456
  refine Jo_aloadn 0 dX4_valueFor_456 rfl rfl ?_
  refine Jo_getR fF_4_3 fR_4_3 dX4_valueFor_457 w_123 (fun a1 => ?_)
  refine Jo_iload 4 dX4_valueFor_460 rfl ?_
  refine Jo_iconst (v := (1 : Int32)) dX4_valueFor_462 (by decide) ?_
  refine Jo_isub dX4_valueFor_463 ?_
  refine Jo_iload 6 dX4_valueFor_464 rfl ?_
  refine Jo_if_ne 474 dX4_valueFor_466 (by decide) rfl ?_ ?_
  · refine Jo_iload 7 dX4_valueFor_469 rfl ?_
    refine Jo_if_eq 478 dX4_valueFor_471 (by decide) rfl ?_ ?_
    · refine Jo_iconst (v := (0 : Int32)) dX4_valueFor_478 (by decide) ?_
      refine Jo_sub [0, 1, 2, 3, 4, 5] rfl ?_
      exact b_X4_valueFor_479 E k6 h6 s l0 l1 l2 l3 l4 l5 a1 (l4 - (1 : Int32)) (0 : Int32)
    · refine Jo_sub [0, 1, 2, 3, 4, 5] rfl ?_
      exact b_X4_valueFor_474 E k6 h6 s l0 l1 l2 l3 l4 l5 a1 (l4 - (1 : Int32))
  · refine Jo_sub [0, 1, 2, 3, 4, 5] rfl ?_
    exact b_X4_valueFor_474 E k6 h6 s l0 l1 l2 l3 l4 l5 a1 (l4 - (1 : Int32))
def f_X4_valueFor_b452 (k6 : Nat → Int32 → Int32 → Int32 → Int32 → Int32 → hS → Option (Int32 × hS)) (l0 : Nat) (l1 : Int32) (l2 : Int32) (l3 : Int32) (l4 : Int32) (l5 : Int32) (t0 : Nat) (t1 : Int32) (t2 : Int32) (s : hS) : Option (Int32 × hS) :=
  (sI s t0 10 t1 t2).bind fun s1 =>
  f_X4_valueFor_b480 k6 l0 l1 l2 l3 l4 l5 s1
theorem b_X4_valueFor_452 (E : jE) (k6 : Nat → Int32 → Int32 → Int32 → Int32 → Int32 → hS → Option (Int32 × hS)) (h6 : ∀ (s : hS) (l0 : Nat) (l1 : Int32) (l2 : Int32) (l3 : Int32) (l4 : Int32) (l5 : Int32) , Jo E M_X4_valueFor cvI 6 [(0, .ref l0), (1, .int l1), (2, .int l2), (3, .int l3), (4, .int l4), (5, .int l5)] [] s (k6 l0 l1 l2 l3 l4 l5 s)) (s : hS) (l0 : Nat) (l1 : Int32) (l2 : Int32) (l3 : Int32) (l4 : Int32) (l5 : Int32) (t0 : Nat) (t1 : Int32) (t2 : Int32) : Jo E M_X4_valueFor cvI 452 [(0, .ref l0), (1, .int l1), (2, .int l2), (3, .int l3), (4, .int l4), (5, .int l5)] [.int t2, .int t1, .ref t0] s (f_X4_valueFor_b452 k6 l0 l1 l2 l3 l4 l5 t0 t1 t2 s) := by
  unfold f_X4_valueFor_b452
  refine Jo_iastore dX4_valueFor_452 (fun s1 => ?_)
  refine Jo_goto 480 dX4_valueFor_453 (by decide) ?_
  exact b_X4_valueFor_480 E k6 h6 s1 l0 l1 l2 l3 l4 l5
def f_X4_valueFor_b451 (k6 : Nat → Int32 → Int32 → Int32 → Int32 → Int32 → hS → Option (Int32 × hS)) (l0 : Nat) (l1 : Int32) (l2 : Int32) (l3 : Int32) (l4 : Int32) (l5 : Int32) (t0 : Nat) (t1 : Int32) (s : hS) : Option (Int32 × hS) :=
  f_X4_valueFor_b452 k6 l0 l1 l2 l3 l4 l5 t0 t1 (0 : Int32) s
theorem b_X4_valueFor_451 (E : jE) (k6 : Nat → Int32 → Int32 → Int32 → Int32 → Int32 → hS → Option (Int32 × hS)) (h6 : ∀ (s : hS) (l0 : Nat) (l1 : Int32) (l2 : Int32) (l3 : Int32) (l4 : Int32) (l5 : Int32) , Jo E M_X4_valueFor cvI 6 [(0, .ref l0), (1, .int l1), (2, .int l2), (3, .int l3), (4, .int l4), (5, .int l5)] [] s (k6 l0 l1 l2 l3 l4 l5 s)) (s : hS) (l0 : Nat) (l1 : Int32) (l2 : Int32) (l3 : Int32) (l4 : Int32) (l5 : Int32) (t0 : Nat) (t1 : Int32) : Jo E M_X4_valueFor cvI 451 [(0, .ref l0), (1, .int l1), (2, .int l2), (3, .int l3), (4, .int l4), (5, .int l5)] [.int t1, .ref t0] s (f_X4_valueFor_b451 k6 l0 l1 l2 l3 l4 l5 t0 t1 s) := by
  unfold f_X4_valueFor_b451
  refine Jo_iconst (v := (0 : Int32)) dX4_valueFor_451 (by decide) ?_
  exact b_X4_valueFor_452 E k6 h6 s l0 l1 l2 l3 l4 l5 t0 t1 (0 : Int32)
def f_X4_valueFor_b353 (k6 : Nat → Int32 → Int32 → Int32 → Int32 → Int32 → hS → Option (Int32 × hS)) (l0 : Nat) (l1 : Int32) (l2 : Int32) (l3 : Int32) (l4 : Int32) (l5 : Int32) (t0 : Nat) (t1 : Int32) (t2 : Int32) (s : hS) : Option (Int32 × hS) :=
  (sI s t0 10 t1 t2).bind fun s1 =>
  f_X4_valueFor_b480 k6 l0 l1 l2 l3 l4 l5 s1
theorem b_X4_valueFor_353 (E : jE) (k6 : Nat → Int32 → Int32 → Int32 → Int32 → Int32 → hS → Option (Int32 × hS)) (h6 : ∀ (s : hS) (l0 : Nat) (l1 : Int32) (l2 : Int32) (l3 : Int32) (l4 : Int32) (l5 : Int32) , Jo E M_X4_valueFor cvI 6 [(0, .ref l0), (1, .int l1), (2, .int l2), (3, .int l3), (4, .int l4), (5, .int l5)] [] s (k6 l0 l1 l2 l3 l4 l5 s)) (s : hS) (l0 : Nat) (l1 : Int32) (l2 : Int32) (l3 : Int32) (l4 : Int32) (l5 : Int32) (t0 : Nat) (t1 : Int32) (t2 : Int32) : Jo E M_X4_valueFor cvI 353 [(0, .ref l0), (1, .int l1), (2, .int l2), (3, .int l3), (4, .int l4), (5, .int l5)] [.int t2, .int t1, .ref t0] s (f_X4_valueFor_b353 k6 l0 l1 l2 l3 l4 l5 t0 t1 t2 s) := by
  unfold f_X4_valueFor_b353
  refine Jo_iastore dX4_valueFor_353 (fun s1 => ?_)
  refine Jo_goto 480 dX4_valueFor_354 (by decide) ?_
  exact b_X4_valueFor_480 E k6 h6 s1 l0 l1 l2 l3 l4 l5
def f_X4_valueFor_b377 (k6 : Nat → Int32 → Int32 → Int32 → Int32 → Int32 → hS → Option (Int32 × hS)) (l0 : Nat) (l1 : Int32) (l2 : Int32) (l3 : Int32) (l4 : Int32) (l5 : Int32) (t0 : Nat) (t1 : Int32) (t2 : Int32) (s : hS) : Option (Int32 × hS) :=
  (sI s t0 10 t1 t2).bind fun s1 =>
  f_X4_valueFor_b480 k6 l0 l1 l2 l3 l4 l5 s1
theorem b_X4_valueFor_377 (E : jE) (k6 : Nat → Int32 → Int32 → Int32 → Int32 → Int32 → hS → Option (Int32 × hS)) (h6 : ∀ (s : hS) (l0 : Nat) (l1 : Int32) (l2 : Int32) (l3 : Int32) (l4 : Int32) (l5 : Int32) , Jo E M_X4_valueFor cvI 6 [(0, .ref l0), (1, .int l1), (2, .int l2), (3, .int l3), (4, .int l4), (5, .int l5)] [] s (k6 l0 l1 l2 l3 l4 l5 s)) (s : hS) (l0 : Nat) (l1 : Int32) (l2 : Int32) (l3 : Int32) (l4 : Int32) (l5 : Int32) (t0 : Nat) (t1 : Int32) (t2 : Int32) : Jo E M_X4_valueFor cvI 377 [(0, .ref l0), (1, .int l1), (2, .int l2), (3, .int l3), (4, .int l4), (5, .int l5)] [.int t2, .int t1, .ref t0] s (f_X4_valueFor_b377 k6 l0 l1 l2 l3 l4 l5 t0 t1 t2 s) := by
  unfold f_X4_valueFor_b377
  refine Jo_iastore dX4_valueFor_377 (fun s1 => ?_)
  refine Jo_goto 480 dX4_valueFor_378 (by decide) ?_
  exact b_X4_valueFor_480 E k6 h6 s1 l0 l1 l2 l3 l4 l5
def f_X4_valueFor_b401 (k6 : Nat → Int32 → Int32 → Int32 → Int32 → Int32 → hS → Option (Int32 × hS)) (l0 : Nat) (l1 : Int32) (l2 : Int32) (l3 : Int32) (l4 : Int32) (l5 : Int32) (t0 : Nat) (t1 : Int32) (t2 : Int32) (s : hS) : Option (Int32 × hS) :=
  (sI s t0 10 t1 t2).bind fun s1 =>
  f_X4_valueFor_b480 k6 l0 l1 l2 l3 l4 l5 s1
theorem b_X4_valueFor_401 (E : jE) (k6 : Nat → Int32 → Int32 → Int32 → Int32 → Int32 → hS → Option (Int32 × hS)) (h6 : ∀ (s : hS) (l0 : Nat) (l1 : Int32) (l2 : Int32) (l3 : Int32) (l4 : Int32) (l5 : Int32) , Jo E M_X4_valueFor cvI 6 [(0, .ref l0), (1, .int l1), (2, .int l2), (3, .int l3), (4, .int l4), (5, .int l5)] [] s (k6 l0 l1 l2 l3 l4 l5 s)) (s : hS) (l0 : Nat) (l1 : Int32) (l2 : Int32) (l3 : Int32) (l4 : Int32) (l5 : Int32) (t0 : Nat) (t1 : Int32) (t2 : Int32) : Jo E M_X4_valueFor cvI 401 [(0, .ref l0), (1, .int l1), (2, .int l2), (3, .int l3), (4, .int l4), (5, .int l5)] [.int t2, .int t1, .ref t0] s (f_X4_valueFor_b401 k6 l0 l1 l2 l3 l4 l5 t0 t1 t2 s) := by
  unfold f_X4_valueFor_b401
  refine Jo_iastore dX4_valueFor_401 (fun s1 => ?_)
  refine Jo_goto 480 dX4_valueFor_402 (by decide) ?_
  exact b_X4_valueFor_480 E k6 h6 s1 l0 l1 l2 l3 l4 l5
def f_X4_valueFor_b425 (k6 : Nat → Int32 → Int32 → Int32 → Int32 → Int32 → hS → Option (Int32 × hS)) (l0 : Nat) (l1 : Int32) (l2 : Int32) (l3 : Int32) (l4 : Int32) (l5 : Int32) (t0 : Nat) (t1 : Int32) (t2 : Int32) (s : hS) : Option (Int32 × hS) :=
  (sI s t0 10 t1 t2).bind fun s1 =>
  f_X4_valueFor_b480 k6 l0 l1 l2 l3 l4 l5 s1
theorem b_X4_valueFor_425 (E : jE) (k6 : Nat → Int32 → Int32 → Int32 → Int32 → Int32 → hS → Option (Int32 × hS)) (h6 : ∀ (s : hS) (l0 : Nat) (l1 : Int32) (l2 : Int32) (l3 : Int32) (l4 : Int32) (l5 : Int32) , Jo E M_X4_valueFor cvI 6 [(0, .ref l0), (1, .int l1), (2, .int l2), (3, .int l3), (4, .int l4), (5, .int l5)] [] s (k6 l0 l1 l2 l3 l4 l5 s)) (s : hS) (l0 : Nat) (l1 : Int32) (l2 : Int32) (l3 : Int32) (l4 : Int32) (l5 : Int32) (t0 : Nat) (t1 : Int32) (t2 : Int32) : Jo E M_X4_valueFor cvI 425 [(0, .ref l0), (1, .int l1), (2, .int l2), (3, .int l3), (4, .int l4), (5, .int l5)] [.int t2, .int t1, .ref t0] s (f_X4_valueFor_b425 k6 l0 l1 l2 l3 l4 l5 t0 t1 t2 s) := by
  unfold f_X4_valueFor_b425
  refine Jo_iastore dX4_valueFor_425 (fun s1 => ?_)
  refine Jo_goto 480 dX4_valueFor_426 (by decide) ?_
  exact b_X4_valueFor_480 E k6 h6 s1 l0 l1 l2 l3 l4 l5
def f_X4_valueFor_b128 (k6 : Nat → Int32 → Int32 → Int32 → Int32 → Int32 → hS → Option (Int32 × hS)) (l0 : Nat) (l1 : Int32) (l2 : Int32) (l3 : Int32) (l4 : Int32) (l5 : Int32) (t0 : Nat) (t1 : Int32) (t2 : Int32) (s : hS) : Option (Int32 × hS) :=
  (sI s t0 10 t1 t2).bind fun s1 =>
  f_X4_valueFor_b480 k6 l0 l1 l2 l3 l4 l5 s1
theorem b_X4_valueFor_128 (E : jE) (k6 : Nat → Int32 → Int32 → Int32 → Int32 → Int32 → hS → Option (Int32 × hS)) (h6 : ∀ (s : hS) (l0 : Nat) (l1 : Int32) (l2 : Int32) (l3 : Int32) (l4 : Int32) (l5 : Int32) , Jo E M_X4_valueFor cvI 6 [(0, .ref l0), (1, .int l1), (2, .int l2), (3, .int l3), (4, .int l4), (5, .int l5)] [] s (k6 l0 l1 l2 l3 l4 l5 s)) (s : hS) (l0 : Nat) (l1 : Int32) (l2 : Int32) (l3 : Int32) (l4 : Int32) (l5 : Int32) (t0 : Nat) (t1 : Int32) (t2 : Int32) : Jo E M_X4_valueFor cvI 128 [(0, .ref l0), (1, .int l1), (2, .int l2), (3, .int l3), (4, .int l4), (5, .int l5)] [.int t2, .int t1, .ref t0] s (f_X4_valueFor_b128 k6 l0 l1 l2 l3 l4 l5 t0 t1 t2 s) := by
  unfold f_X4_valueFor_b128
  refine Jo_iastore dX4_valueFor_128 (fun s1 => ?_)
  refine Jo_goto 480 dX4_valueFor_129 (by decide) ?_
  exact b_X4_valueFor_480 E k6 h6 s1 l0 l1 l2 l3 l4 l5
def f_X4_valueFor_b84 (k6 : Nat → Int32 → Int32 → Int32 → Int32 → Int32 → hS → Option (Int32 × hS)) (l0 : Nat) (l1 : Int32) (l2 : Int32) (l3 : Int32) (l4 : Int32) (l5 : Int32) (t0 : Nat) (t1 : Int32) (t2 : Int32) (s : hS) : Option (Int32 × hS) :=
  (sI s t0 10 t1 t2).bind fun s1 =>
  f_X4_valueFor_b480 k6 l0 l1 l2 l3 (l4 + (1 : Int32)) l5 s1
theorem b_X4_valueFor_84 (E : jE) (k6 : Nat → Int32 → Int32 → Int32 → Int32 → Int32 → hS → Option (Int32 × hS)) (h6 : ∀ (s : hS) (l0 : Nat) (l1 : Int32) (l2 : Int32) (l3 : Int32) (l4 : Int32) (l5 : Int32) , Jo E M_X4_valueFor cvI 6 [(0, .ref l0), (1, .int l1), (2, .int l2), (3, .int l3), (4, .int l4), (5, .int l5)] [] s (k6 l0 l1 l2 l3 l4 l5 s)) (s : hS) (l0 : Nat) (l1 : Int32) (l2 : Int32) (l3 : Int32) (l4 : Int32) (l5 : Int32) (t0 : Nat) (t1 : Int32) (t2 : Int32) : Jo E M_X4_valueFor cvI 84 [(0, .ref l0), (1, .int l1), (2, .int l2), (3, .int l3), (4, .int l4), (5, .int l5)] [.int t2, .int t1, .ref t0] s (f_X4_valueFor_b84 k6 l0 l1 l2 l3 l4 l5 t0 t1 t2 s) := by
  unfold f_X4_valueFor_b84
  refine Jo_iastore dX4_valueFor_84 (fun s1 => ?_)
  refine Jo_iinc (v := (l4 + (1 : Int32))) (ls' := [(4, .int (l4 + (1 : Int32))), (0, .ref l0), (1, .int l1), (2, .int l2), (3, .int l3), (5, .int l5)]) 4 dX4_valueFor_85 rfl rfl (by decide) rfl ?_
  refine Jo_goto 480 dX4_valueFor_88 (by decide) ?_
  refine Jo_sub [1, 2, 3, 4, 0, 5] rfl ?_
  exact b_X4_valueFor_480 E k6 h6 s1 l0 l1 l2 l3 (l4 + (1 : Int32)) l5
def f_X4_valueFor_b64 (k6 : Nat → Int32 → Int32 → Int32 → Int32 → Int32 → hS → Option (Int32 × hS)) (l0 : Nat) (l1 : Int32) (l2 : Int32) (l3 : Int32) (l4 : Int32) (l5 : Int32) (l6 : Int32) (t0 : Int32) (s : hS) : Option (Int32 × hS) :=
  (gR s l0 4 3).bind fun a1 =>
  if l6 < 0 then
    f_X4_valueFor_b84 k6 l0 l1 l2 l3 l4 l5 a1 l4 t0 s
  else
    f_X4_valueFor_b84 k6 l0 l1 l2 l3 l4 l5 a1 l4 l6 s
theorem b_X4_valueFor_64 (E : jE) (k6 : Nat → Int32 → Int32 → Int32 → Int32 → Int32 → hS → Option (Int32 × hS)) (h6 : ∀ (s : hS) (l0 : Nat) (l1 : Int32) (l2 : Int32) (l3 : Int32) (l4 : Int32) (l5 : Int32) , Jo E M_X4_valueFor cvI 6 [(0, .ref l0), (1, .int l1), (2, .int l2), (3, .int l3), (4, .int l4), (5, .int l5)] [] s (k6 l0 l1 l2 l3 l4 l5 s)) (s : hS) (l0 : Nat) (l1 : Int32) (l2 : Int32) (l3 : Int32) (l4 : Int32) (l5 : Int32) (l6 : Int32) (t0 : Int32) : Jo E M_X4_valueFor cvI 64 [(0, .ref l0), (1, .int l1), (2, .int l2), (3, .int l3), (4, .int l4), (5, .int l5), (6, .int l6)] [.int t0] s (f_X4_valueFor_b64 k6 l0 l1 l2 l3 l4 l5 l6 t0 s) := by
  unfold f_X4_valueFor_b64
  refine Jo_istore (ls' := [(7, .int t0), (0, .ref l0), (1, .int l1), (2, .int l2), (3, .int l3), (4, .int l4), (5, .int l5), (6, .int l6)]) dX4_valueFor_64 (by decide) rfl ?_
  refine Jo_aloadn 1 dX4_valueFor_66 rfl rfl ?_
  refine Jo_getR fF_4_3 fR_4_3 dX4_valueFor_67 w_123 (fun a1 => ?_)
  refine Jo_iload 5 dX4_valueFor_70 rfl ?_
  refine Jo_iload 7 dX4_valueFor_72 rfl ?_
  refine Jo_if_lt 82 dX4_valueFor_74 (by decide) rfl ?_ ?_
  · refine Jo_iload 0 dX4_valueFor_82 rfl ?_
    refine Jo_sub [1, 2, 3, 4, 5, 6] rfl ?_
    exact b_X4_valueFor_84 E k6 h6 s l0 l1 l2 l3 l4 l5 a1 l4 t0
  · refine Jo_iload 7 dX4_valueFor_77 rfl ?_
    refine Jo_goto 84 dX4_valueFor_79 (by decide) ?_
    refine Jo_sub [1, 2, 3, 4, 5, 6] rfl ?_
    exact b_X4_valueFor_84 E k6 h6 s l0 l1 l2 l3 l4 l5 a1 l4 l6
def f_X4_valueFor_b6 (k6 : Nat → Int32 → Int32 → Int32 → Int32 → Int32 → hS → Option (Int32 × hS)) (l0 : Nat) (l1 : Int32) (l2 : Int32) (l3 : Int32) (l4 : Int32) (l5 : Int32) (s : hS) : Option (Int32 × hS) :=
  (gR s l0 4 2).bind fun a1 =>
  (aL s a1 10).bind fun x2 =>
  if x2 ≤ l5 then
    if l4 ≤ 0 then
      some ((0 : Int32), s)
    else
      (gR s l0 4 3).bind fun a3 =>
      (aI s a3 10 (0 : Int32)).bind fun x4 =>
      some (x4, s)
  else
    (gR s l0 4 2).bind fun a5 =>
    (aI s a5 10 l5).bind fun x6 =>
    if x6 < (-3 : Int32) then
      if x6 = (-33 : Int32) then
        if l4 ≤ 0 then
          f_X4_valueFor_b480 k6 l0 l1 l2 l3 l4 l5 s
        else
          (gR s l0 4 3).bind fun a48 =>
          (gR s l0 4 3).bind fun a49 =>
          (aI s a49 10 (l4 - (1 : Int32))).bind fun x50 =>
          if x50 = 0 then
            f_X4_valueFor_b128 k6 l0 l1 l2 l3 l4 l5 a48 (l4 - (1 : Int32)) (1 : Int32) s
          else
            f_X4_valueFor_b128 k6 l0 l1 l2 l3 l4 l5 a48 (l4 - (1 : Int32)) (0 : Int32) s
      else
        if (2 : Int32) ≤ l4 then
          (gR s l0 4 3).bind fun a7 =>
          (aI s a7 10 ((l4 + (-1 : Int32)) - (1 : Int32))).bind fun x8 =>
          (gR s l0 4 3).bind fun a9 =>
          (aI s a9 10 (l4 + (-1 : Int32))).bind fun x10 =>
          nmv ((-x6)) fun x11 =>
          if x11 = (38 : Int32) then
            (gR s l0 4 3).bind fun a13 =>
            if x8 = 0 then
              f_X4_valueFor_b451 k6 l0 l1 l2 l3 (l4 + (-1 : Int32)) l5 a13 ((l4 + (-1 : Int32)) - (1 : Int32)) s
            else
              if x10 = 0 then
                f_X4_valueFor_b451 k6 l0 l1 l2 l3 (l4 + (-1 : Int32)) l5 a13 ((l4 + (-1 : Int32)) - (1 : Int32)) s
              else
                f_X4_valueFor_b452 k6 l0 l1 l2 l3 (l4 + (-1 : Int32)) l5 a13 ((l4 + (-1 : Int32)) - (1 : Int32)) (1 : Int32) s
          else
          if x11 = (42 : Int32) then
            (gR s l0 4 3).bind fun a15 =>
            (sI s a15 10 ((l4 + (-1 : Int32)) - (1 : Int32)) (x8 * x10)).bind fun s16 =>
            f_X4_valueFor_b480 k6 l0 l1 l2 l3 (l4 + (-1 : Int32)) l5 s16
          else
          if x11 = (43 : Int32) then
            (gR s l0 4 3).bind fun a18 =>
            (sI s a18 10 ((l4 + (-1 : Int32)) - (1 : Int32)) (x8 + x10)).bind fun s19 =>
            f_X4_valueFor_b480 k6 l0 l1 l2 l3 (l4 + (-1 : Int32)) l5 s19
          else
          if x11 = (45 : Int32) then
            (gR s l0 4 3).bind fun a21 =>
            (sI s a21 10 ((l4 + (-1 : Int32)) - (1 : Int32)) (x8 - x10)).bind fun s22 =>
            f_X4_valueFor_b480 k6 l0 l1 l2 l3 (l4 + (-1 : Int32)) l5 s22
          else
          if x11 = (47 : Int32) then
            (gR s l0 4 3).bind fun a24 =>
            if x10 = 0 then
              f_X4_valueFor_b353 k6 l0 l1 l2 l3 (l4 + (-1 : Int32)) l5 a24 ((l4 + (-1 : Int32)) - (1 : Int32)) (0 : Int32) s
            else
              if x10 = 0 then none else
              f_X4_valueFor_b353 k6 l0 l1 l2 l3 (l4 + (-1 : Int32)) l5 a24 ((l4 + (-1 : Int32)) - (1 : Int32)) (x8 / x10) s
          else
          if x11 = (60 : Int32) then
            (gR s l0 4 3).bind fun a26 =>
            if x10 ≤ x8 then
              f_X4_valueFor_b377 k6 l0 l1 l2 l3 (l4 + (-1 : Int32)) l5 a26 ((l4 + (-1 : Int32)) - (1 : Int32)) (0 : Int32) s
            else
              f_X4_valueFor_b377 k6 l0 l1 l2 l3 (l4 + (-1 : Int32)) l5 a26 ((l4 + (-1 : Int32)) - (1 : Int32)) (1 : Int32) s
          else
          if x11 = (61 : Int32) then
            (gR s l0 4 3).bind fun a28 =>
            if x8 = x10 then
              f_X4_valueFor_b401 k6 l0 l1 l2 l3 (l4 + (-1 : Int32)) l5 a28 ((l4 + (-1 : Int32)) - (1 : Int32)) (1 : Int32) s
            else
              f_X4_valueFor_b401 k6 l0 l1 l2 l3 (l4 + (-1 : Int32)) l5 a28 ((l4 + (-1 : Int32)) - (1 : Int32)) (0 : Int32) s
          else
          if x11 = (62 : Int32) then
            (gR s l0 4 3).bind fun a30 =>
            if x8 ≤ x10 then
              f_X4_valueFor_b425 k6 l0 l1 l2 l3 (l4 + (-1 : Int32)) l5 a30 ((l4 + (-1 : Int32)) - (1 : Int32)) (0 : Int32) s
            else
              f_X4_valueFor_b425 k6 l0 l1 l2 l3 (l4 + (-1 : Int32)) l5 a30 ((l4 + (-1 : Int32)) - (1 : Int32)) (1 : Int32) s
          else
          f_X4_valueFor_b456 k6 l0 l1 l2 l3 (l4 + (-1 : Int32)) l5 x8 x10 s
        else
          f_X4_valueFor_b480 k6 l0 l1 l2 l3 l4 l5 s
    else
      (gR s l0 4 3).bind fun a51 =>
      (aL s a51 10).bind fun x52 =>
      if x52 ≤ l4 then
        f_X4_valueFor_b480 k6 l0 l1 l2 l3 l4 l5 s
      else
        if x6 = (-1 : Int32) then
          f_X4_valueFor_b64 k6 l0 l1 l2 l3 l4 l5 x6 l1 s
        else
          if x6 = (-2 : Int32) then
            f_X4_valueFor_b64 k6 l0 l1 l2 l3 l4 l5 x6 l2 s
          else
            f_X4_valueFor_b64 k6 l0 l1 l2 l3 l4 l5 x6 l3 s
theorem b_X4_valueFor_6 (E : jE) (k6 : Nat → Int32 → Int32 → Int32 → Int32 → Int32 → hS → Option (Int32 × hS)) (h6 : ∀ (s : hS) (l0 : Nat) (l1 : Int32) (l2 : Int32) (l3 : Int32) (l4 : Int32) (l5 : Int32) , Jo E M_X4_valueFor cvI 6 [(0, .ref l0), (1, .int l1), (2, .int l2), (3, .int l3), (4, .int l4), (5, .int l5)] [] s (k6 l0 l1 l2 l3 l4 l5 s)) (s : hS) (l0 : Nat) (l1 : Int32) (l2 : Int32) (l3 : Int32) (l4 : Int32) (l5 : Int32)  : Jo E M_X4_valueFor cvI 6 [(0, .ref l0), (1, .int l1), (2, .int l2), (3, .int l3), (4, .int l4), (5, .int l5)] [] s (f_X4_valueFor_b6 k6 l0 l1 l2 l3 l4 l5 s) := by
  unfold f_X4_valueFor_b6
  refine Jo_iload 5 dX4_valueFor_6 rfl ?_
  refine Jo_aloadn 0 dX4_valueFor_8 rfl rfl ?_
  refine Jo_getR fF_4_2 fR_4_2 dX4_valueFor_9 w_124 (fun a1 => ?_)
  refine Jo_alen hti_10 dX4_valueFor_12 (fun x2 => ?_)
  refine Jo_icmp_ge 486 dX4_valueFor_13 (by decide) rfl ?_ ?_
  · refine Jo_iload 4 dX4_valueFor_486 rfl ?_
    refine Jo_if_le 500 dX4_valueFor_488 (by decide) rfl ?_ ?_
    · refine Jo_iconst (v := (0 : Int32)) dX4_valueFor_500 (by decide) ?_
      exact Jo_iret rfl dX4_valueFor_501
    · refine Jo_aloadn 0 dX4_valueFor_491 rfl rfl ?_
      refine Jo_getR fF_4_3 fR_4_3 dX4_valueFor_492 w_123 (fun a3 => ?_)
      refine Jo_iconst (v := (0 : Int32)) dX4_valueFor_495 (by decide) ?_
      refine Jo_iaload dX4_valueFor_496 (fun x4 => ?_)
      refine Jo_goto 501 dX4_valueFor_497 (by decide) ?_
      exact Jo_iret rfl dX4_valueFor_501
  · refine Jo_aloadn 0 dX4_valueFor_16 rfl rfl ?_
    refine Jo_getR fF_4_2 fR_4_2 dX4_valueFor_17 w_124 (fun a5 => ?_)
    refine Jo_iload 5 dX4_valueFor_20 rfl ?_
    refine Jo_iaload dX4_valueFor_22 (fun x6 => ?_)
    refine Jo_istore (ls' := [(6, .int x6), (0, .ref l0), (1, .int l1), (2, .int l2), (3, .int l3), (4, .int l4), (5, .int l5)]) dX4_valueFor_23 (by decide) rfl ?_
    refine Jo_iload 0 dX4_valueFor_25 rfl ?_
    refine Jo_bipush (v := (-3 : Int32)) dX4_valueFor_27 (by decide) ?_
    refine Jo_icmp_lt 91 dX4_valueFor_29 (by decide) rfl ?_ ?_
    · refine Jo_iload 0 dX4_valueFor_91 rfl ?_
      refine Jo_bipush (v := (-33 : Int32)) dX4_valueFor_93 (by decide) ?_
      refine Jo_icmp_ne 132 dX4_valueFor_95 (by decide) rfl ?_ ?_
      · refine Jo_iload 5 dX4_valueFor_98 rfl ?_
        refine Jo_if_le 480 dX4_valueFor_100 (by decide) rfl ?_ ?_
        · refine Jo_sub [1, 2, 3, 4, 5, 6] rfl ?_
          exact b_X4_valueFor_480 E k6 h6 s l0 l1 l2 l3 l4 l5
        · refine Jo_aloadn 1 dX4_valueFor_103 rfl rfl ?_
          refine Jo_getR fF_4_3 fR_4_3 dX4_valueFor_104 w_123 (fun a48 => ?_)
          refine Jo_iload 5 dX4_valueFor_107 rfl ?_
          refine Jo_iconst (v := (1 : Int32)) dX4_valueFor_109 (by decide) ?_
          refine Jo_isub dX4_valueFor_110 ?_
          refine Jo_aloadn 1 dX4_valueFor_111 rfl rfl ?_
          refine Jo_getR fF_4_3 fR_4_3 dX4_valueFor_112 w_123 (fun a49 => ?_)
          refine Jo_iload 5 dX4_valueFor_115 rfl ?_
          refine Jo_iconst (v := (1 : Int32)) dX4_valueFor_117 (by decide) ?_
          refine Jo_isub dX4_valueFor_118 ?_
          refine Jo_iaload dX4_valueFor_119 (fun x50 => ?_)
          refine Jo_if_ne 127 dX4_valueFor_120 (by decide) rfl ?_ ?_
          · refine Jo_iconst (v := (1 : Int32)) dX4_valueFor_123 (by decide) ?_
            refine Jo_goto 128 dX4_valueFor_124 (by decide) ?_
            refine Jo_sub [1, 2, 3, 4, 5, 6] rfl ?_
            exact b_X4_valueFor_128 E k6 h6 s l0 l1 l2 l3 l4 l5 a48 (l4 - (1 : Int32)) (1 : Int32)
          · refine Jo_iconst (v := (0 : Int32)) dX4_valueFor_127 (by decide) ?_
            refine Jo_sub [1, 2, 3, 4, 5, 6] rfl ?_
            exact b_X4_valueFor_128 E k6 h6 s l0 l1 l2 l3 l4 l5 a48 (l4 - (1 : Int32)) (0 : Int32)
      · refine Jo_iload 5 dX4_valueFor_132 rfl ?_
        refine Jo_iconst (v := (2 : Int32)) dX4_valueFor_134 (by decide) ?_
        refine Jo_icmp_ge 141 dX4_valueFor_135 (by decide) rfl ?_ ?_
        · refine Jo_iinc (v := (l4 + (-1 : Int32))) (ls' := [(4, .int (l4 + (-1 : Int32))), (6, .int x6), (0, .ref l0), (1, .int l1), (2, .int l2), (3, .int l3), (5, .int l5)]) 5 dX4_valueFor_141 rfl rfl (by decide) rfl ?_
          refine Jo_aloadn 2 dX4_valueFor_144 rfl rfl ?_
          refine Jo_getR fF_4_3 fR_4_3 dX4_valueFor_145 w_123 (fun a7 => ?_)
          refine Jo_iload 0 dX4_valueFor_148 rfl ?_
          refine Jo_iconst (v := (1 : Int32)) dX4_valueFor_150 (by decide) ?_
          refine Jo_isub dX4_valueFor_151 ?_
          refine Jo_iaload dX4_valueFor_152 (fun x8 => ?_)
          refine Jo_istore (ls' := [(7, .int x8), (4, .int (l4 + (-1 : Int32))), (6, .int x6), (0, .ref l0), (1, .int l1), (2, .int l2), (3, .int l3), (5, .int l5)]) dX4_valueFor_153 (by decide) rfl ?_
          refine Jo_aloadn 3 dX4_valueFor_155 rfl rfl ?_
          refine Jo_getR fF_4_3 fR_4_3 dX4_valueFor_156 w_123 (fun a9 => ?_)
          refine Jo_iload 1 dX4_valueFor_159 rfl ?_
          refine Jo_iaload dX4_valueFor_161 (fun x10 => ?_)
          refine Jo_istore (ls' := [(8, .int x10), (7, .int x8), (4, .int (l4 + (-1 : Int32))), (6, .int x6), (0, .ref l0), (1, .int l1), (2, .int l2), (3, .int l3), (5, .int l5)]) dX4_valueFor_162 (by decide) rfl ?_
          refine Jo_iload 3 dX4_valueFor_164 rfl ?_
          refine Jo_ineg dX4_valueFor_166 ?_
          refine Jo_nm (fun x11 => ?_)
          refine Jo_case ?_ (fun g12 => ?_)
          · refine Jo_tabIn (off := 262) 429 dX4_valueFor_167 (by decide) (by decide) (by decide) (by decide) ?_
            refine Jo_aloadn 4 dX4_valueFor_429 rfl rfl ?_
            refine Jo_getR fF_4_3 fR_4_3 dX4_valueFor_430 w_123 (fun a13 => ?_)
            refine Jo_iload 2 dX4_valueFor_433 rfl ?_
            refine Jo_iconst (v := (1 : Int32)) dX4_valueFor_435 (by decide) ?_
            refine Jo_isub dX4_valueFor_436 ?_
            refine Jo_iload 1 dX4_valueFor_437 rfl ?_
            refine Jo_if_eq 451 dX4_valueFor_439 (by decide) rfl ?_ ?_
            · refine Jo_sub [4, 5, 6, 7, 2, 8] rfl ?_
              exact b_X4_valueFor_451 E k6 h6 s l0 l1 l2 l3 (l4 + (-1 : Int32)) l5 a13 ((l4 + (-1 : Int32)) - (1 : Int32))
            · refine Jo_iload 0 dX4_valueFor_442 rfl ?_
              refine Jo_if_eq 451 dX4_valueFor_444 (by decide) rfl ?_ ?_
              · refine Jo_sub [4, 5, 6, 7, 2, 8] rfl ?_
                exact b_X4_valueFor_451 E k6 h6 s l0 l1 l2 l3 (l4 + (-1 : Int32)) l5 a13 ((l4 + (-1 : Int32)) - (1 : Int32))
              · refine Jo_iconst (v := (1 : Int32)) dX4_valueFor_447 (by decide) ?_
                refine Jo_goto 452 dX4_valueFor_448 (by decide) ?_
                refine Jo_sub [4, 5, 6, 7, 2, 8] rfl ?_
                exact b_X4_valueFor_452 E k6 h6 s l0 l1 l2 l3 (l4 + (-1 : Int32)) l5 a13 ((l4 + (-1 : Int32)) - (1 : Int32)) (1 : Int32)
          refine Jo_case ?_ (fun g14 => ?_)
          · refine Jo_tabIn (off := 147) 314 dX4_valueFor_167 (by decide) (by decide) (by decide) (by decide) ?_
            refine Jo_aloadn 4 dX4_valueFor_314 rfl rfl ?_
            refine Jo_getR fF_4_3 fR_4_3 dX4_valueFor_315 w_123 (fun a15 => ?_)
            refine Jo_iload 2 dX4_valueFor_318 rfl ?_
            refine Jo_iconst (v := (1 : Int32)) dX4_valueFor_320 (by decide) ?_
            refine Jo_isub dX4_valueFor_321 ?_
            refine Jo_iload 1 dX4_valueFor_322 rfl ?_
            refine Jo_iload 0 dX4_valueFor_324 rfl ?_
            refine Jo_imul dX4_valueFor_326 ?_
            refine Jo_iastore dX4_valueFor_327 (fun s16 => ?_)
            refine Jo_goto 480 dX4_valueFor_328 (by decide) ?_
            refine Jo_sub [4, 5, 6, 7, 2, 8] rfl ?_
            exact b_X4_valueFor_480 E k6 h6 s16 l0 l1 l2 l3 (l4 + (-1 : Int32)) l5
          refine Jo_case ?_ (fun g17 => ?_)
          · refine Jo_tabIn (off := 113) 280 dX4_valueFor_167 (by decide) (by decide) (by decide) (by decide) ?_
            refine Jo_aloadn 4 dX4_valueFor_280 rfl rfl ?_
            refine Jo_getR fF_4_3 fR_4_3 dX4_valueFor_281 w_123 (fun a18 => ?_)
            refine Jo_iload 2 dX4_valueFor_284 rfl ?_
            refine Jo_iconst (v := (1 : Int32)) dX4_valueFor_286 (by decide) ?_
            refine Jo_isub dX4_valueFor_287 ?_
            refine Jo_iload 1 dX4_valueFor_288 rfl ?_
            refine Jo_iload 0 dX4_valueFor_290 rfl ?_
            refine Jo_iadd dX4_valueFor_292 ?_
            refine Jo_iastore dX4_valueFor_293 (fun s19 => ?_)
            refine Jo_goto 480 dX4_valueFor_294 (by decide) ?_
            refine Jo_sub [4, 5, 6, 7, 2, 8] rfl ?_
            exact b_X4_valueFor_480 E k6 h6 s19 l0 l1 l2 l3 (l4 + (-1 : Int32)) l5
          refine Jo_case ?_ (fun g20 => ?_)
          · refine Jo_tabIn (off := 130) 297 dX4_valueFor_167 (by decide) (by decide) (by decide) (by decide) ?_
            refine Jo_aloadn 4 dX4_valueFor_297 rfl rfl ?_
            refine Jo_getR fF_4_3 fR_4_3 dX4_valueFor_298 w_123 (fun a21 => ?_)
            refine Jo_iload 2 dX4_valueFor_301 rfl ?_
            refine Jo_iconst (v := (1 : Int32)) dX4_valueFor_303 (by decide) ?_
            refine Jo_isub dX4_valueFor_304 ?_
            refine Jo_iload 1 dX4_valueFor_305 rfl ?_
            refine Jo_iload 0 dX4_valueFor_307 rfl ?_
            refine Jo_isub dX4_valueFor_309 ?_
            refine Jo_iastore dX4_valueFor_310 (fun s22 => ?_)
            refine Jo_goto 480 dX4_valueFor_311 (by decide) ?_
            refine Jo_sub [4, 5, 6, 7, 2, 8] rfl ?_
            exact b_X4_valueFor_480 E k6 h6 s22 l0 l1 l2 l3 (l4 + (-1 : Int32)) l5
          refine Jo_case ?_ (fun g23 => ?_)
          · refine Jo_tabIn (off := 164) 331 dX4_valueFor_167 (by decide) (by decide) (by decide) (by decide) ?_
            refine Jo_aloadn 4 dX4_valueFor_331 rfl rfl ?_
            refine Jo_getR fF_4_3 fR_4_3 dX4_valueFor_332 w_123 (fun a24 => ?_)
            refine Jo_iload 2 dX4_valueFor_335 rfl ?_
            refine Jo_iconst (v := (1 : Int32)) dX4_valueFor_337 (by decide) ?_
            refine Jo_isub dX4_valueFor_338 ?_
            refine Jo_iload 0 dX4_valueFor_339 rfl ?_
            refine Jo_if_ne 348 dX4_valueFor_341 (by decide) rfl ?_ ?_
            · refine Jo_iconst (v := (0 : Int32)) dX4_valueFor_344 (by decide) ?_
              refine Jo_goto 353 dX4_valueFor_345 (by decide) ?_
              refine Jo_sub [4, 5, 6, 7, 2, 8] rfl ?_
              exact b_X4_valueFor_353 E k6 h6 s l0 l1 l2 l3 (l4 + (-1 : Int32)) l5 a24 ((l4 + (-1 : Int32)) - (1 : Int32)) (0 : Int32)
            · refine Jo_iload 1 dX4_valueFor_348 rfl ?_
              refine Jo_iload 0 dX4_valueFor_350 rfl ?_
              refine Jo_idiv dX4_valueFor_352 ?_
              refine Jo_sub [4, 5, 6, 7, 2, 8] rfl ?_
              exact b_X4_valueFor_353 E k6 h6 s l0 l1 l2 l3 (l4 + (-1 : Int32)) l5 a24 ((l4 + (-1 : Int32)) - (1 : Int32)) (x8 / x10)
          refine Jo_case ?_ (fun g25 => ?_)
          · refine Jo_tabIn (off := 190) 357 dX4_valueFor_167 (by decide) (by decide) (by decide) (by decide) ?_
            refine Jo_aloadn 4 dX4_valueFor_357 rfl rfl ?_
            refine Jo_getR fF_4_3 fR_4_3 dX4_valueFor_358 w_123 (fun a26 => ?_)
            refine Jo_iload 2 dX4_valueFor_361 rfl ?_
            refine Jo_iconst (v := (1 : Int32)) dX4_valueFor_363 (by decide) ?_
            refine Jo_isub dX4_valueFor_364 ?_
            refine Jo_iload 1 dX4_valueFor_365 rfl ?_
            refine Jo_iload 0 dX4_valueFor_367 rfl ?_
            refine Jo_icmp_ge 376 dX4_valueFor_369 (by decide) rfl ?_ ?_
            · refine Jo_iconst (v := (0 : Int32)) dX4_valueFor_376 (by decide) ?_
              refine Jo_sub [4, 5, 6, 7, 2, 8] rfl ?_
              exact b_X4_valueFor_377 E k6 h6 s l0 l1 l2 l3 (l4 + (-1 : Int32)) l5 a26 ((l4 + (-1 : Int32)) - (1 : Int32)) (0 : Int32)
            · refine Jo_iconst (v := (1 : Int32)) dX4_valueFor_372 (by decide) ?_
              refine Jo_goto 377 dX4_valueFor_373 (by decide) ?_
              refine Jo_sub [4, 5, 6, 7, 2, 8] rfl ?_
              exact b_X4_valueFor_377 E k6 h6 s l0 l1 l2 l3 (l4 + (-1 : Int32)) l5 a26 ((l4 + (-1 : Int32)) - (1 : Int32)) (1 : Int32)
          refine Jo_case ?_ (fun g27 => ?_)
          · refine Jo_tabIn (off := 214) 381 dX4_valueFor_167 (by decide) (by decide) (by decide) (by decide) ?_
            refine Jo_aloadn 4 dX4_valueFor_381 rfl rfl ?_
            refine Jo_getR fF_4_3 fR_4_3 dX4_valueFor_382 w_123 (fun a28 => ?_)
            refine Jo_iload 2 dX4_valueFor_385 rfl ?_
            refine Jo_iconst (v := (1 : Int32)) dX4_valueFor_387 (by decide) ?_
            refine Jo_isub dX4_valueFor_388 ?_
            refine Jo_iload 1 dX4_valueFor_389 rfl ?_
            refine Jo_iload 0 dX4_valueFor_391 rfl ?_
            refine Jo_icmp_ne 400 dX4_valueFor_393 (by decide) rfl ?_ ?_
            · refine Jo_iconst (v := (1 : Int32)) dX4_valueFor_396 (by decide) ?_
              refine Jo_goto 401 dX4_valueFor_397 (by decide) ?_
              refine Jo_sub [4, 5, 6, 7, 2, 8] rfl ?_
              exact b_X4_valueFor_401 E k6 h6 s l0 l1 l2 l3 (l4 + (-1 : Int32)) l5 a28 ((l4 + (-1 : Int32)) - (1 : Int32)) (1 : Int32)
            · refine Jo_iconst (v := (0 : Int32)) dX4_valueFor_400 (by decide) ?_
              refine Jo_sub [4, 5, 6, 7, 2, 8] rfl ?_
              exact b_X4_valueFor_401 E k6 h6 s l0 l1 l2 l3 (l4 + (-1 : Int32)) l5 a28 ((l4 + (-1 : Int32)) - (1 : Int32)) (0 : Int32)
          refine Jo_case ?_ (fun g29 => ?_)
          · refine Jo_tabIn (off := 238) 405 dX4_valueFor_167 (by decide) (by decide) (by decide) (by decide) ?_
            refine Jo_aloadn 4 dX4_valueFor_405 rfl rfl ?_
            refine Jo_getR fF_4_3 fR_4_3 dX4_valueFor_406 w_123 (fun a30 => ?_)
            refine Jo_iload 2 dX4_valueFor_409 rfl ?_
            refine Jo_iconst (v := (1 : Int32)) dX4_valueFor_411 (by decide) ?_
            refine Jo_isub dX4_valueFor_412 ?_
            refine Jo_iload 1 dX4_valueFor_413 rfl ?_
            refine Jo_iload 0 dX4_valueFor_415 rfl ?_
            refine Jo_icmp_le 424 dX4_valueFor_417 (by decide) rfl ?_ ?_
            · refine Jo_iconst (v := (0 : Int32)) dX4_valueFor_424 (by decide) ?_
              refine Jo_sub [4, 5, 6, 7, 2, 8] rfl ?_
              exact b_X4_valueFor_425 E k6 h6 s l0 l1 l2 l3 (l4 + (-1 : Int32)) l5 a30 ((l4 + (-1 : Int32)) - (1 : Int32)) (0 : Int32)
            · refine Jo_iconst (v := (1 : Int32)) dX4_valueFor_420 (by decide) ?_
              refine Jo_goto 425 dX4_valueFor_421 (by decide) ?_
              refine Jo_sub [4, 5, 6, 7, 2, 8] rfl ?_
              exact b_X4_valueFor_425 E k6 h6 s l0 l1 l2 l3 (l4 + (-1 : Int32)) l5 a30 ((l4 + (-1 : Int32)) - (1 : Int32)) (1 : Int32)
          refine Jo_split (v := (39 : Int32)) ?_ (fun g31 => ?_)
          · refine Jo_tabIn (off := 289) 456 dX4_valueFor_167 (by decide) (by decide) (by decide) (by decide) ?_
            refine Jo_sub [4, 5, 6, 7, 2, 8, 1, 0] rfl ?_
            exact b_X4_valueFor_456 E k6 h6 s l0 l1 l2 l3 (l4 + (-1 : Int32)) l5 x8 x10
          refine Jo_split (v := (40 : Int32)) ?_ (fun g32 => ?_)
          · refine Jo_tabIn (off := 289) 456 dX4_valueFor_167 (by decide) (by decide) (by decide) (by decide) ?_
            refine Jo_sub [4, 5, 6, 7, 2, 8, 1, 0] rfl ?_
            exact b_X4_valueFor_456 E k6 h6 s l0 l1 l2 l3 (l4 + (-1 : Int32)) l5 x8 x10
          refine Jo_split (v := (41 : Int32)) ?_ (fun g33 => ?_)
          · refine Jo_tabIn (off := 289) 456 dX4_valueFor_167 (by decide) (by decide) (by decide) (by decide) ?_
            refine Jo_sub [4, 5, 6, 7, 2, 8, 1, 0] rfl ?_
            exact b_X4_valueFor_456 E k6 h6 s l0 l1 l2 l3 (l4 + (-1 : Int32)) l5 x8 x10
          refine Jo_split (v := (44 : Int32)) ?_ (fun g34 => ?_)
          · refine Jo_tabIn (off := 289) 456 dX4_valueFor_167 (by decide) (by decide) (by decide) (by decide) ?_
            refine Jo_sub [4, 5, 6, 7, 2, 8, 1, 0] rfl ?_
            exact b_X4_valueFor_456 E k6 h6 s l0 l1 l2 l3 (l4 + (-1 : Int32)) l5 x8 x10
          refine Jo_split (v := (46 : Int32)) ?_ (fun g35 => ?_)
          · refine Jo_tabIn (off := 289) 456 dX4_valueFor_167 (by decide) (by decide) (by decide) (by decide) ?_
            refine Jo_sub [4, 5, 6, 7, 2, 8, 1, 0] rfl ?_
            exact b_X4_valueFor_456 E k6 h6 s l0 l1 l2 l3 (l4 + (-1 : Int32)) l5 x8 x10
          refine Jo_split (v := (48 : Int32)) ?_ (fun g36 => ?_)
          · refine Jo_tabIn (off := 289) 456 dX4_valueFor_167 (by decide) (by decide) (by decide) (by decide) ?_
            refine Jo_sub [4, 5, 6, 7, 2, 8, 1, 0] rfl ?_
            exact b_X4_valueFor_456 E k6 h6 s l0 l1 l2 l3 (l4 + (-1 : Int32)) l5 x8 x10
          refine Jo_split (v := (49 : Int32)) ?_ (fun g37 => ?_)
          · refine Jo_tabIn (off := 289) 456 dX4_valueFor_167 (by decide) (by decide) (by decide) (by decide) ?_
            refine Jo_sub [4, 5, 6, 7, 2, 8, 1, 0] rfl ?_
            exact b_X4_valueFor_456 E k6 h6 s l0 l1 l2 l3 (l4 + (-1 : Int32)) l5 x8 x10
          refine Jo_split (v := (50 : Int32)) ?_ (fun g38 => ?_)
          · refine Jo_tabIn (off := 289) 456 dX4_valueFor_167 (by decide) (by decide) (by decide) (by decide) ?_
            refine Jo_sub [4, 5, 6, 7, 2, 8, 1, 0] rfl ?_
            exact b_X4_valueFor_456 E k6 h6 s l0 l1 l2 l3 (l4 + (-1 : Int32)) l5 x8 x10
          refine Jo_split (v := (51 : Int32)) ?_ (fun g39 => ?_)
          · refine Jo_tabIn (off := 289) 456 dX4_valueFor_167 (by decide) (by decide) (by decide) (by decide) ?_
            refine Jo_sub [4, 5, 6, 7, 2, 8, 1, 0] rfl ?_
            exact b_X4_valueFor_456 E k6 h6 s l0 l1 l2 l3 (l4 + (-1 : Int32)) l5 x8 x10
          refine Jo_split (v := (52 : Int32)) ?_ (fun g40 => ?_)
          · refine Jo_tabIn (off := 289) 456 dX4_valueFor_167 (by decide) (by decide) (by decide) (by decide) ?_
            refine Jo_sub [4, 5, 6, 7, 2, 8, 1, 0] rfl ?_
            exact b_X4_valueFor_456 E k6 h6 s l0 l1 l2 l3 (l4 + (-1 : Int32)) l5 x8 x10
          refine Jo_split (v := (53 : Int32)) ?_ (fun g41 => ?_)
          · refine Jo_tabIn (off := 289) 456 dX4_valueFor_167 (by decide) (by decide) (by decide) (by decide) ?_
            refine Jo_sub [4, 5, 6, 7, 2, 8, 1, 0] rfl ?_
            exact b_X4_valueFor_456 E k6 h6 s l0 l1 l2 l3 (l4 + (-1 : Int32)) l5 x8 x10
          refine Jo_split (v := (54 : Int32)) ?_ (fun g42 => ?_)
          · refine Jo_tabIn (off := 289) 456 dX4_valueFor_167 (by decide) (by decide) (by decide) (by decide) ?_
            refine Jo_sub [4, 5, 6, 7, 2, 8, 1, 0] rfl ?_
            exact b_X4_valueFor_456 E k6 h6 s l0 l1 l2 l3 (l4 + (-1 : Int32)) l5 x8 x10
          refine Jo_split (v := (55 : Int32)) ?_ (fun g43 => ?_)
          · refine Jo_tabIn (off := 289) 456 dX4_valueFor_167 (by decide) (by decide) (by decide) (by decide) ?_
            refine Jo_sub [4, 5, 6, 7, 2, 8, 1, 0] rfl ?_
            exact b_X4_valueFor_456 E k6 h6 s l0 l1 l2 l3 (l4 + (-1 : Int32)) l5 x8 x10
          refine Jo_split (v := (56 : Int32)) ?_ (fun g44 => ?_)
          · refine Jo_tabIn (off := 289) 456 dX4_valueFor_167 (by decide) (by decide) (by decide) (by decide) ?_
            refine Jo_sub [4, 5, 6, 7, 2, 8, 1, 0] rfl ?_
            exact b_X4_valueFor_456 E k6 h6 s l0 l1 l2 l3 (l4 + (-1 : Int32)) l5 x8 x10
          refine Jo_split (v := (57 : Int32)) ?_ (fun g45 => ?_)
          · refine Jo_tabIn (off := 289) 456 dX4_valueFor_167 (by decide) (by decide) (by decide) (by decide) ?_
            refine Jo_sub [4, 5, 6, 7, 2, 8, 1, 0] rfl ?_
            exact b_X4_valueFor_456 E k6 h6 s l0 l1 l2 l3 (l4 + (-1 : Int32)) l5 x8 x10
          refine Jo_split (v := (58 : Int32)) ?_ (fun g46 => ?_)
          · refine Jo_tabIn (off := 289) 456 dX4_valueFor_167 (by decide) (by decide) (by decide) (by decide) ?_
            refine Jo_sub [4, 5, 6, 7, 2, 8, 1, 0] rfl ?_
            exact b_X4_valueFor_456 E k6 h6 s l0 l1 l2 l3 (l4 + (-1 : Int32)) l5 x8 x10
          refine Jo_split (v := (59 : Int32)) ?_ (fun g47 => ?_)
          · refine Jo_tabIn (off := 289) 456 dX4_valueFor_167 (by decide) (by decide) (by decide) (by decide) ?_
            refine Jo_sub [4, 5, 6, 7, 2, 8, 1, 0] rfl ?_
            exact b_X4_valueFor_456 E k6 h6 s l0 l1 l2 l3 (l4 + (-1 : Int32)) l5 x8 x10
          refine Jo_tabOut 456 dX4_valueFor_167 (by have qg12 := i32ne 38 (by decide) g12; have qg14 := i32ne 42 (by decide) g14; have qg17 := i32ne 43 (by decide) g17; have qg20 := i32ne 45 (by decide) g20; have qg23 := i32ne 47 (by decide) g23; have qg25 := i32ne 60 (by decide) g25; have qg27 := i32ne 61 (by decide) g27; have qg29 := i32ne 62 (by decide) g29; have qg31 := i32ne 39 (by decide) g31; have qg32 := i32ne 40 (by decide) g32; have qg33 := i32ne 41 (by decide) g33; have qg34 := i32ne 44 (by decide) g34; have qg35 := i32ne 46 (by decide) g35; have qg36 := i32ne 48 (by decide) g36; have qg37 := i32ne 49 (by decide) g37; have qg38 := i32ne 50 (by decide) g38; have qg39 := i32ne 51 (by decide) g39; have qg40 := i32ne 52 (by decide) g40; have qg41 := i32ne 53 (by decide) g41; have qg42 := i32ne 54 (by decide) g42; have qg43 := i32ne 55 (by decide) g43; have qg44 := i32ne 56 (by decide) g44; have qg45 := i32ne 57 (by decide) g45; have qg46 := i32ne 58 (by decide) g46; have qg47 := i32ne 59 (by decide) g47; omega) (by decide) ?_
          refine Jo_sub [4, 5, 6, 7, 2, 8, 1, 0] rfl ?_
          exact b_X4_valueFor_456 E k6 h6 s l0 l1 l2 l3 (l4 + (-1 : Int32)) l5 x8 x10
        · refine Jo_goto 480 dX4_valueFor_138 (by decide) ?_
          refine Jo_sub [1, 2, 3, 4, 5, 6] rfl ?_
          exact b_X4_valueFor_480 E k6 h6 s l0 l1 l2 l3 l4 l5
    · refine Jo_iload 5 dX4_valueFor_32 rfl ?_
      refine Jo_aloadn 1 dX4_valueFor_34 rfl rfl ?_
      refine Jo_getR fF_4_3 fR_4_3 dX4_valueFor_35 w_123 (fun a51 => ?_)
      refine Jo_alen hti_10 dX4_valueFor_38 (fun x52 => ?_)
      refine Jo_icmp_ge 480 dX4_valueFor_39 (by decide) rfl ?_ ?_
      · refine Jo_sub [1, 2, 3, 4, 5, 6] rfl ?_
        exact b_X4_valueFor_480 E k6 h6 s l0 l1 l2 l3 l4 l5
      · refine Jo_iload 0 dX4_valueFor_42 rfl ?_
        refine Jo_iconst (v := (-1 : Int32)) dX4_valueFor_44 (by decide) ?_
        refine Jo_icmp_ne 52 dX4_valueFor_45 (by decide) rfl ?_ ?_
        · refine Jo_iloadn 2 dX4_valueFor_48 rfl rfl ?_
          refine Jo_goto 64 dX4_valueFor_49 (by decide) ?_
          refine Jo_sub [1, 2, 3, 4, 5, 6, 0] rfl ?_
          exact b_X4_valueFor_64 E k6 h6 s l0 l1 l2 l3 l4 l5 x6 l1
        · refine Jo_iload 0 dX4_valueFor_52 rfl ?_
          refine Jo_bipush (v := (-2 : Int32)) dX4_valueFor_54 (by decide) ?_
          refine Jo_icmp_ne 63 dX4_valueFor_56 (by decide) rfl ?_ ?_
          · refine Jo_iloadn 3 dX4_valueFor_59 rfl rfl ?_
            refine Jo_goto 64 dX4_valueFor_60 (by decide) ?_
            refine Jo_sub [1, 2, 3, 4, 5, 6, 0] rfl ?_
            exact b_X4_valueFor_64 E k6 h6 s l0 l1 l2 l3 l4 l5 x6 l2
          · refine Jo_iloadn 4 dX4_valueFor_63 rfl rfl ?_
            refine Jo_sub [1, 2, 3, 4, 5, 6, 0] rfl ?_
            exact b_X4_valueFor_64 E k6 h6 s l0 l1 l2 l3 l4 l5 x6 l3
theorem e_X4_valueFor_6 (E : jE)  (n : Nat) : ∀ (s : hS) (l0 : Nat) (l1 : Int32) (l2 : Int32) (l3 : Int32) (l4 : Int32) (l5 : Int32) , Jo E M_X4_valueFor cvI 6 [(0, .ref l0), (1, .int l1), (2, .int l2), (3, .int l3), (4, .int l4), (5, .int l5)] [] s ((jL f_X4_valueFor_b6 (fun _ _ _ _ _ _ _ => none) n) l0 l1 l2 l3 l4 l5 s) :=
  jL_ind (P := fun f => ∀ (s : hS) (l0 : Nat) (l1 : Int32) (l2 : Int32) (l3 : Int32) (l4 : Int32) (l5 : Int32) , Jo E M_X4_valueFor cvI 6 [(0, .ref l0), (1, .int l1), (2, .int l2), (3, .int l3), (4, .int l4), (5, .int l5)] [] s (f l0 l1 l2 l3 l4 l5 s)) (fun _ _ _ _ _ _ _ => Jo_none) (fun b hb s l0 l1 l2 l3 l4 l5 => b_X4_valueFor_6 E  b hb s l0 l1 l2 l3 l4 l5) n
def f_X4_valueFor (s : hS) (a0 : Nat) (i1 : Int32) (i2 : Int32) (i3 : Int32) : Option (Int32 × hS) :=
  jL f_X4_valueFor_b6 (fun _ _ _ _ _ _ _ => none) jF a0 i1 i2 i3 (0 : Int32) (0 : Int32) s
theorem b_X4_valueFor_in (E : jE)  (s : hS) (a0 : Nat) (i1 : Int32) (i2 : Int32) (i3 : Int32)  : Jo E M_X4_valueFor cvI 0 [(0, .ref a0), (1, .int i1), (2, .int i2), (3, .int i3)] [] s (f_X4_valueFor s a0 i1 i2 i3) := by
  unfold f_X4_valueFor
  refine Jo_iconst (v := (0 : Int32)) dX4_valueFor_0 (by decide) ?_
  refine Jo_istore (ls' := [(4, .int (0 : Int32)), (0, .ref a0), (1, .int i1), (2, .int i2), (3, .int i3)]) dX4_valueFor_1 (by decide) rfl ?_
  refine Jo_iconst (v := (0 : Int32)) dX4_valueFor_3 (by decide) ?_
  refine Jo_istore (ls' := [(5, .int (0 : Int32)), (4, .int (0 : Int32)), (0, .ref a0), (1, .int i1), (2, .int i2), (3, .int i3)]) dX4_valueFor_4 (by decide) rfl ?_
  refine Jo_sub [2, 3, 4, 5, 1, 0] rfl ?_
  exact e_X4_valueFor_6 E jF s a0 i1 i2 i3 (0 : Int32) (0 : Int32)
theorem K_X4_valueFor (E : jE) (s : hS) (a0 : Nat) (i1 : Int32) (i2 : Int32) (i3 : Int32) : jK E yX4_valueFor M_X4_valueFor cvI [.ref a0, .int i1, .int i2, .int i3] s (f_X4_valueFor s a0 i1 i2 i3) := jK_of ⟨by decide, rfl, rfl⟩ (Nat.le_of_ble_eq_true rfl) (b_X4_valueFor_in E s a0 i1 i2 i3)
