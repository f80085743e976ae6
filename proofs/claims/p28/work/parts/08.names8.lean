theorem ggL_law_X5_digest : GoodIn wsL_law wsX5_digest := goodIn_ca (goodIn_ca ggL_law_X5_digest_core (goodIn_sub (fun _ h => List.mem_append_left _ (List.mem_append_right _ h)) (by decide +kernel))) (goodIn_sub (fun _ h => List.mem_append_right _ h) (by decide +kernel))
set_option maxRecDepth 20000 in
theorem gL_law_X5_digest : GoodIn wsL_law (wsV RL 90 RX5 yX5_digest wsX5_digest) := goodIn_app (goodIn_of _ (by decide +kernel)) ggL_law_X5_digest
set_option maxRecDepth 20000 in
theorem ggL_law_X5_bestKey : GoodIn wsL_law wsX5_bestKey := goodIn_ca (goodIn_r _ [674, 117, 118, 119, 2, 120, 121, 122, 21, 111, 218, 219, 220, 675, 676, 677, 678, 32, 28, 29, 679, 347, 348, 50, 349, 72, 350, 351, 352, 353, 204, 205, 206, 224, 225, 226, 227, 116, 27, 228, 146, 147, 20, 148, 39, 229, 131, 132, 133, 230, 231, 232, 233, 234, 235, 236, 237, 238, 239, 240, 207, 208, 209, 210, 211, 212, 213, 241, 242, 243, 244, 73, 245, 246, 247, 693, 694, 695, 696, 697, 698, 699, 700, 701, 702, 703, 704, 705, 706, 707, 708, 709, 710, 711, 712, 713, 720, 721, 714, 715, 716, 717, 718, 719] (by decide +kernel) (by decide +kernel)) (goodIn_sub (fun _ h => List.mem_append_right _ h) (by decide +kernel))
set_option maxRecDepth 20000 in
theorem gL_law_X5_bestKey : GoodIn wsL_law (wsV RL 94 RX5 yX5_bestKey wsX5_bestKey) := goodIn_app (goodIn_of _ (by decide +kernel)) ggL_law_X5_bestKey
set_option maxRecDepth 20000 in
theorem ggL_law_X5_likeness : GoodIn wsL_law wsX5_likeness := goodIn_ca (goodIn_ca (goodIn_r _ [686, 21, 116, 687, 139, 5, 140, 117, 118, 119, 2, 120, 121, 122, 111, 221, 222, 223, 100, 101, 688, 689, 690, 20, 691, 38, 130, 131, 132, 133, 39, 145, 146, 147, 148, 692, 158, 159, 160, 161, 162, 163, 164, 693, 694, 695, 696, 697, 698, 699, 700, 701, 702] (by decide +kernel) (by decide +kernel)) (goodIn_sub (fun _ h => List.mem_append_right _ h) (by decide +kernel))) (goodIn_sub (fun _ h => List.mem_append_left _ (List.mem_append_right _ h)) (by decide +kernel))
set_option maxRecDepth 20000 in
theorem gL_law_X5_likeness : GoodIn wsL_law (wsV RL 97 RX5 yX5_likeness wsX5_likeness) := goodIn_app (goodIn_of _ (by decide +kernel)) ggL_law_X5_likeness
theorem dL_law_0 : decode cL_law 0 = .ok (.new 9, 3) := by decide +kernel
theorem dL_law_3 : decode cL_law 3 = .ok (.dup, 1) := by decide +kernel
theorem dL_law_4 : decode cL_law 4 = .ok (.invokespecial 11, 3) := by decide +kernel
theorem dL_law_7 : decode cL_law 7 = .ok (.astore_n 1, 1) := by decide +kernel
theorem dL_law_8 : decode cL_law 8 = .ok (.iconst 3, 1) := by decide +kernel
theorem dL_law_9 : decode cL_law 9 = .ok (.aload_n 0, 1) := by decide +kernel
theorem dL_law_10 : decode cL_law 10 = .ok (.iconst 0, 1) := by decide +kernel
theorem dL_law_11 : decode cL_law 11 = .ok (.invokestatic 12, 3) := by decide +kernel
theorem dL_law_14 : decode cL_law 14 = .ok (.bipush 10, 2) := by decide +kernel
theorem dL_law_16 : decode cL_law 16 = .ok (.invokestatic 18, 3) := by decide +kernel
theorem dL_law_19 : decode cL_law 19 = .ok (.iadd, 1) := by decide +kernel
theorem dL_law_20 : decode cL_law 20 = .ok (.istore_n 2, 1) := by decide +kernel
theorem dL_law_21 : decode cL_law 21 = .ok (.iconst 0, 1) := by decide +kernel
theorem dL_law_22 : decode cL_law 22 = .ok (.istore_n 3, 1) := by decide +kernel
theorem dL_law_23 : decode cL_law 23 = .ok (.iload_n 3, 1) := by decide +kernel
theorem dL_law_24 : decode cL_law 24 = .ok (.iload_n 2, 1) := by decide +kernel
theorem dL_law_25 : decode cL_law 25 = .ok (.if_icmp .ge 34, 3) := by decide +kernel
theorem dL_law_28 : decode cL_law 28 = .ok (.aload_n 1, 1) := by decide +kernel
theorem dL_law_29 : decode cL_law 29 = .ok (.bipush 20, 2) := by decide +kernel
theorem dL_law_31 : decode cL_law 31 = .ok (.aload_n 0, 1) := by decide +kernel
theorem dL_law_32 : decode cL_law 32 = .ok (.iload_n 3, 1) := by decide +kernel
theorem dL_law_33 : decode cL_law 33 = .ok (.invokestatic 12, 3) := by decide +kernel
theorem dL_law_36 : decode cL_law 36 = .ok (.iload_n 3, 1) := by decide +kernel
theorem dL_law_37 : decode cL_law 37 = .ok (.iadd, 1) := by decide +kernel
theorem dL_law_38 : decode cL_law 38 = .ok (.bipush 8, 2) := by decide +kernel
theorem dL_law_40 : decode cL_law 40 = .ok (.invokestatic 18, 3) := by decide +kernel
theorem dL_law_43 : decode cL_law 43 = .ok (.iadd, 1) := by decide +kernel
theorem dL_law_44 : decode cL_law 44 = .ok (.invokevirtual 22, 3) := by decide +kernel
theorem dL_law_47 : decode cL_law 47 = .ok (.iload_n 3, 1) := by decide +kernel
theorem dL_law_48 : decode cL_law 48 = .ok (.if_icmp .eq 5, 3) := by decide +kernel
theorem dL_law_51 : decode cL_law 51 = .ok (.iconst 0, 1) := by decide +kernel
theorem dL_law_52 : decode cL_law 52 = .ok (.ireturn, 1) := by decide +kernel
theorem dL_law_53 : decode cL_law 53 = .ok (.iinc 3 1, 3) := by decide +kernel
theorem dL_law_56 : decode cL_law 56 = .ok (.goto (-33), 3) := by decide +kernel
theorem dL_law_59 : decode cL_law 59 = .ok (.aload_n 1, 1) := by decide +kernel
theorem dL_law_60 : decode cL_law 60 = .ok (.invokevirtual 26, 3) := by decide +kernel
theorem dL_law_63 : decode cL_law 63 = .ok (.ifCond .ne 11, 3) := by decide +kernel
theorem dL_law_66 : decode cL_law 66 = .ok (.aload_n 1, 1) := by decide +kernel
theorem dL_law_67 : decode cL_law 67 = .ok (.invokevirtual 26, 3) := by decide +kernel
theorem dL_law_70 : decode cL_law 70 = .ok (.iconst 1, 1) := by decide +kernel
theorem dL_law_71 : decode cL_law 71 = .ok (.if_icmp .eq 5, 3) := by decide +kernel
theorem dL_law_74 : decode cL_law 74 = .ok (.iconst 0, 1) := by decide +kernel
theorem dL_law_75 : decode cL_law 75 = .ok (.ireturn, 1) := by decide +kernel
theorem dL_law_76 : decode cL_law 76 = .ok (.iconst 0, 1) := by decide +kernel
theorem dL_law_77 : decode cL_law 77 = .ok (.istore_n 3, 1) := by decide +kernel
theorem dL_law_78 : decode cL_law 78 = .ok (.iload_n 3, 1) := by decide +kernel
theorem dL_law_79 : decode cL_law 79 = .ok (.bipush 50, 2) := by decide +kernel
theorem dL_law_81 : decode cL_law 81 = .ok (.if_icmp .ge 560, 3) := by decide +kernel
theorem dL_law_84 : decode cL_law 84 = .ok (.aload_n 0, 1) := by decide +kernel
theorem dL_law_85 : decode cL_law 85 = .ok (.iload_n 3, 1) := by decide +kernel
theorem dL_law_86 : decode cL_law 86 = .ok (.bipush 16, 2) := by decide +kernel
theorem dL_law_88 : decode cL_law 88 = .ok (.irem, 1) := by decide +kernel
theorem dL_law_89 : decode cL_law 89 = .ok (.invokestatic 12, 3) := by decide +kernel
theorem dL_law_92 : decode cL_law 92 = .ok (.bipush 31, 2) := by decide +kernel
theorem dL_law_94 : decode cL_law 94 = .ok (.iload_n 3, 1) := by decide +kernel
theorem dL_law_95 : decode cL_law 95 = .ok (.imul, 1) := by decide +kernel
theorem dL_law_96 : decode cL_law 96 = .ok (.iadd, 1) := by decide +kernel
theorem dL_law_97 : decode cL_law 97 = .ok (.istore 4, 2) := by decide +kernel
theorem dL_law_99 : decode cL_law 99 = .ok (.aload_n 0, 1) := by decide +kernel
theorem dL_law_100 : decode cL_law 100 = .ok (.bipush 7, 2) := by decide +kernel
theorem dL_law_102 : decode cL_law 102 = .ok (.iload_n 3, 1) := by decide +kernel
theorem dL_law_103 : decode cL_law 103 = .ok (.imul, 1) := by decide +kernel
theorem dL_law_104 : decode cL_law 104 = .ok (.iconst 3, 1) := by decide +kernel
theorem dL_law_105 : decode cL_law 105 = .ok (.iadd, 1) := by decide +kernel
theorem dL_law_106 : decode cL_law 106 = .ok (.bipush 16, 2) := by decide +kernel
theorem dL_law_108 : decode cL_law 108 = .ok (.irem, 1) := by decide +kernel
theorem dL_law_109 : decode cL_law 109 = .ok (.invokestatic 12, 3) := by decide +kernel
theorem dL_law_112 : decode cL_law 112 = .ok (.iconst 5, 1) := by decide +kernel
theorem dL_law_113 : decode cL_law 113 = .ok (.iload_n 3, 1) := by decide +kernel
theorem dL_law_114 : decode cL_law 114 = .ok (.imul, 1) := by decide +kernel
theorem dL_law_115 : decode cL_law 115 = .ok (.iadd, 1) := by decide +kernel
theorem dL_law_116 : decode cL_law 116 = .ok (.istore 5, 2) := by decide +kernel
theorem dL_law_118 : decode cL_law 118 = .ok (.iload 5, 2) := by decide +kernel
theorem dL_law_120 : decode cL_law 120 = .ok (.iconst 2, 1) := by decide +kernel
theorem dL_law_121 : decode cL_law 121 = .ok (.invokestatic 18, 3) := by decide +kernel
theorem dL_law_124 : decode cL_law 124 = .ok (.istore 6, 2) := by decide +kernel
theorem dL_law_126 : decode cL_law 126 = .ok (.iload 4, 2) := by decide +kernel
theorem dL_law_128 : decode cL_law 128 = .ok (.bipush 17, 2) := by decide +kernel
theorem dL_law_130 : decode cL_law 130 = .ok (.idiv, 1) := by decide +kernel
theorem dL_law_131 : decode cL_law 131 = .ok (.iconst 3, 1) := by decide +kernel
theorem dL_law_132 : decode cL_law 132 = .ok (.invokestatic 18, 3) := by decide +kernel
theorem dL_law_135 : decode cL_law 135 = .ok (.istore 7, 2) := by decide +kernel
theorem dL_law_137 : decode cL_law 137 = .ok (.iload 4, 2) := by decide +kernel
theorem dL_law_139 : decode cL_law 139 = .ok (.bipush 17, 2) := by decide +kernel
theorem dL_law_141 : decode cL_law 141 = .ok (.invokestatic 18, 3) := by decide +kernel
theorem dL_law_144 : decode cL_law 144 = .ok (.tableswitch 461 0 12 #[68, 68, 68, 172, 172, 172, 223, 267, 289, 289, 335, 380, 397], 68) := by decide +kernel
theorem dL_law_212 : decode cL_law 212 = .ok (.iconst 0, 1) := by decide +kernel
theorem dL_law_213 : decode cL_law 213 = .ok (.istore 8, 2) := by decide +kernel
theorem dL_law_215 : decode cL_law 215 = .ok (.iload 8, 2) := by decide +kernel
theorem dL_law_217 : decode cL_law 217 = .ok (.iconst 5, 1) := by decide +kernel
theorem dL_law_218 : decode cL_law 218 = .ok (.if_icmp .ge 95, 3) := by decide +kernel
theorem dL_law_221 : decode cL_law 221 = .ok (.aload_n 1, 1) := by decide +kernel
theorem dL_law_222 : decode cL_law 222 = .ok (.iload 6, 2) := by decide +kernel
theorem dL_law_224 : decode cL_law 224 = .ok (.iconst 0, 1) := by decide +kernel
theorem dL_law_225 : decode cL_law 225 = .ok (.invokevirtual 30, 3) := by decide +kernel
theorem dL_law_228 : decode cL_law 228 = .ok (.istore 9, 2) := by decide +kernel
theorem dL_law_230 : decode cL_law 230 = .ok (.iload 9, 2) := by decide +kernel
theorem dL_law_232 : decode cL_law 232 = .ok (.bipush 30, 2) := by decide +kernel
theorem dL_law_234 : decode cL_law 234 = .ok (.if_icmp .ne 6, 3) := by decide +kernel
theorem dL_law_237 : decode cL_law 237 = .ok (.goto 76, 3) := by decide +kernel
theorem dL_law_240 : decode cL_law 240 = .ok (.aload_n 1, 1) := by decide +kernel
theorem dL_law_241 : decode cL_law 241 = .ok (.iload 6, 2) := by decide +kernel
theorem dL_law_243 : decode cL_law 243 = .ok (.iload 5, 2) := by decide +kernel
theorem dL_law_245 : decode cL_law 245 = .ok (.iconst 3, 1) := by decide +kernel
theorem dL_law_246 : decode cL_law 246 = .ok (.idiv, 1) := by decide +kernel
theorem dL_law_247 : decode cL_law 247 = .ok (.bipush 13, 2) := by decide +kernel
theorem dL_law_249 : decode cL_law 249 = .ok (.iload 8, 2) := by decide +kernel
theorem dL_law_251 : decode cL_law 251 = .ok (.imul, 1) := by decide +kernel
theorem dL_law_252 : decode cL_law 252 = .ok (.iadd, 1) := by decide +kernel
theorem dL_law_253 : decode cL_law 253 = .ok (.bipush 64, 2) := by decide +kernel
theorem dL_law_255 : decode cL_law 255 = .ok (.invokestatic 18, 3) := by decide +kernel
theorem dL_law_258 : decode cL_law 258 = .ok (.bipush 19, 2) := by decide +kernel
theorem dL_law_260 : decode cL_law 260 = .ok (.iload 4, 2) := by decide +kernel
theorem dL_law_262 : decode cL_law 262 = .ok (.iconst 3, 1) := by decide +kernel
theorem dL_law_263 : decode cL_law 263 = .ok (.idiv, 1) := by decide +kernel
theorem dL_law_264 : decode cL_law 264 = .ok (.bipush 7, 2) := by decide +kernel
theorem dL_law_266 : decode cL_law 266 = .ok (.iload 8, 2) := by decide +kernel
theorem dL_law_268 : decode cL_law 268 = .ok (.imul, 1) := by decide +kernel
theorem dL_law_269 : decode cL_law 269 = .ok (.iadd, 1) := by decide +kernel
theorem dL_law_270 : decode cL_law 270 = .ok (.bipush 10, 2) := by decide +kernel
theorem dL_law_272 : decode cL_law 272 = .ok (.invokestatic 18, 3) := by decide +kernel
theorem dL_law_275 : decode cL_law 275 = .ok (.iadd, 1) := by decide +kernel
theorem dL_law_276 : decode cL_law 276 = .ok (.invokevirtual 33, 3) := by decide +kernel
theorem dL_law_279 : decode cL_law 279 = .ok (.istore 10, 2) := by decide +kernel
theorem dL_law_281 : decode cL_law 281 = .ok (.iload 10, 2) := by decide +kernel
theorem dL_law_283 : decode cL_law 283 = .ok (.iload 9, 2) := by decide +kernel
theorem dL_law_285 : decode cL_law 285 = .ok (.isub, 1) := by decide +kernel
theorem dL_law_286 : decode cL_law 286 = .ok (.invokestatic 37, 3) := by decide +kernel
theorem dL_law_289 : decode cL_law 289 = .ok (.iconst 1, 1) := by decide +kernel
theorem dL_law_290 : decode cL_law 290 = .ok (.if_icmp .ne 15, 3) := by decide +kernel
theorem dL_law_293 : decode cL_law 293 = .ok (.aload_n 1, 1) := by decide +kernel
theorem dL_law_294 : decode cL_law 294 = .ok (.iload 6, 2) := by decide +kernel
theorem dL_law_296 : decode cL_law 296 = .ok (.iconst 0, 1) := by decide +kernel
theorem dL_law_297 : decode cL_law 297 = .ok (.invokevirtual 30, 3) := by decide +kernel
theorem dL_law_300 : decode cL_law 300 = .ok (.iload 10, 2) := by decide +kernel
theorem dL_law_302 : decode cL_law 302 = .ok (.if_icmp .eq 5, 3) := by decide +kernel
theorem dL_law_305 : decode cL_law 305 = .ok (.iconst 0, 1) := by decide +kernel
theorem dL_law_306 : decode cL_law 306 = .ok (.ireturn, 1) := by decide +kernel
theorem dL_law_307 : decode cL_law 307 = .ok (.iinc 8 1, 3) := by decide +kernel
theorem dL_law_310 : decode cL_law 310 = .ok (.goto (-95), 3) := by decide +kernel
theorem dL_law_313 : decode cL_law 313 = .ok (.goto 312, 3) := by decide +kernel
theorem dL_law_316 : decode cL_law 316 = .ok (.aload_n 1, 1) := by decide +kernel
theorem dL_law_317 : decode cL_law 317 = .ok (.iconst 3, 1) := by decide +kernel
theorem dL_law_318 : decode cL_law 318 = .ok (.invokevirtual 42, 3) := by decide +kernel
theorem dL_law_321 : decode cL_law 321 = .ok (.istore 8, 2) := by decide +kernel
theorem dL_law_323 : decode cL_law 323 = .ok (.aload_n 1, 1) := by decide +kernel
theorem dL_law_324 : decode cL_law 324 = .ok (.iload 6, 2) := by decide +kernel
theorem dL_law_326 : decode cL_law 326 = .ok (.iload 7, 2) := by decide +kernel
theorem dL_law_328 : decode cL_law 328 = .ok (.iload 5, 2) := by decide +kernel
theorem dL_law_330 : decode cL_law 330 = .ok (.iconst 3, 1) := by decide +kernel
theorem dL_law_331 : decode cL_law 331 = .ok (.idiv, 1) := by decide +kernel
theorem dL_law_332 : decode cL_law 332 = .ok (.bipush 7, 2) := by decide +kernel
theorem dL_law_334 : decode cL_law 334 = .ok (.invokestatic 18, 3) := by decide +kernel
theorem dL_law_337 : decode cL_law 337 = .ok (.iconst 3, 1) := by decide +kernel
theorem dL_law_338 : decode cL_law 338 = .ok (.isub, 1) := by decide +kernel
theorem dL_law_339 : decode cL_law 339 = .ok (.invokevirtual 45, 3) := by decide +kernel
theorem dL_law_342 : decode cL_law 342 = .ok (.istore 9, 2) := by decide +kernel
theorem dL_law_344 : decode cL_law 344 = .ok (.aload_n 1, 1) := by decide +kernel
theorem dL_law_345 : decode cL_law 345 = .ok (.iconst 3, 1) := by decide +kernel
theorem dL_law_346 : decode cL_law 346 = .ok (.invokevirtual 42, 3) := by decide +kernel
theorem dL_law_349 : decode cL_law 349 = .ok (.iload 8, 2) := by decide +kernel
theorem dL_law_351 : decode cL_law 351 = .ok (.isub, 1) := by decide +kernel
theorem dL_law_352 : decode cL_law 352 = .ok (.iload 9, 2) := by decide +kernel
theorem dL_law_354 : decode cL_law 354 = .ok (.iadd, 1) := by decide +kernel
theorem dL_law_355 : decode cL_law 355 = .ok (.aload_n 1, 1) := by decide +kernel
theorem dL_law_356 : decode cL_law 356 = .ok (.iload 6, 2) := by decide +kernel
theorem dL_law_358 : decode cL_law 358 = .ok (.iconst 0, 1) := by decide +kernel
theorem dL_law_359 : decode cL_law 359 = .ok (.invokevirtual 30, 3) := by decide +kernel
theorem dL_law_362 : decode cL_law 362 = .ok (.if_icmp .eq 263, 3) := by decide +kernel
theorem dL_law_365 : decode cL_law 365 = .ok (.iconst 0, 1) := by decide +kernel
theorem dL_law_366 : decode cL_law 366 = .ok (.ireturn, 1) := by decide +kernel
theorem dL_law_367 : decode cL_law 367 = .ok (.aload_n 1, 1) := by decide +kernel
theorem dL_law_368 : decode cL_law 368 = .ok (.iconst 3, 1) := by decide +kernel
theorem dL_law_369 : decode cL_law 369 = .ok (.invokevirtual 42, 3) := by decide +kernel
theorem dL_law_372 : decode cL_law 372 = .ok (.istore 10, 2) := by decide +kernel
theorem dL_law_374 : decode cL_law 374 = .ok (.aload_n 1, 1) := by decide +kernel
theorem dL_law_375 : decode cL_law 375 = .ok (.iload 7, 2) := by decide +kernel
theorem dL_law_377 : decode cL_law 377 = .ok (.iload 5, 2) := by decide +kernel
theorem dL_law_379 : decode cL_law 379 = .ok (.iconst 3, 1) := by decide +kernel
theorem dL_law_380 : decode cL_law 380 = .ok (.invokestatic 18, 3) := by decide +kernel
theorem dL_law_383 : decode cL_law 383 = .ok (.ifCond .le 7, 3) := by decide +kernel
theorem dL_law_386 : decode cL_law 386 = .ok (.iconst 1, 1) := by decide +kernel
theorem dL_law_387 : decode cL_law 387 = .ok (.goto 4, 3) := by decide +kernel
theorem dL_law_390 : decode cL_law 390 = .ok (.iconst 0, 1) := by decide +kernel
theorem dL_law_391 : decode cL_law 391 = .ok (.invokevirtual 48, 3) := by decide +kernel
theorem dL_law_394 : decode cL_law 394 = .ok (.istore 11, 2) := by decide +kernel
theorem dL_law_396 : decode cL_law 396 = .ok (.aload_n 1, 1) := by decide +kernel
theorem dL_law_397 : decode cL_law 397 = .ok (.iconst 3, 1) := by decide +kernel
theorem dL_law_398 : decode cL_law 398 = .ok (.invokevirtual 42, 3) := by decide +kernel
theorem dL_law_401 : decode cL_law 401 = .ok (.iload 10, 2) := by decide +kernel
theorem dL_law_403 : decode cL_law 403 = .ok (.iload 11, 2) := by decide +kernel
theorem dL_law_405 : decode cL_law 405 = .ok (.isub, 1) := by decide +kernel
theorem dL_law_406 : decode cL_law 406 = .ok (.if_icmp .eq 219, 3) := by decide +kernel
theorem dL_law_409 : decode cL_law 409 = .ok (.iconst 0, 1) := by decide +kernel
theorem dL_law_410 : decode cL_law 410 = .ok (.ireturn, 1) := by decide +kernel
theorem dL_law_411 : decode cL_law 411 = .ok (.aload_n 1, 1) := by decide +kernel
theorem dL_law_412 : decode cL_law 412 = .ok (.iload 7, 2) := by decide +kernel
theorem dL_law_414 : decode cL_law 414 = .ok (.invokevirtual 52, 3) := by decide +kernel
theorem dL_law_417 : decode cL_law 417 = .ok (.iconst 2, 1) := by decide +kernel
theorem dL_law_418 : decode cL_law 418 = .ok (.if_icmp .gt 13, 3) := by decide +kernel
theorem dL_law_421 : decode cL_law 421 = .ok (.aload_n 1, 1) := by decide +kernel
theorem dL_law_422 : decode cL_law 422 = .ok (.iconst 5, 1) := by decide +kernel
theorem dL_law_423 : decode cL_law 423 = .ok (.invokevirtual 42, 3) := by decide +kernel
theorem dL_law_426 : decode cL_law 426 = .ok (.iload 7, 2) := by decide +kernel
theorem dL_law_428 : decode cL_law 428 = .ok (.if_icmp .eq 197, 3) := by decide +kernel
theorem dL_law_431 : decode cL_law 431 = .ok (.iconst 0, 1) := by decide +kernel
theorem dL_law_432 : decode cL_law 432 = .ok (.ireturn, 1) := by decide +kernel
theorem dL_law_433 : decode cL_law 433 = .ok (.aload_n 1, 1) := by decide +kernel
theorem dL_law_434 : decode cL_law 434 = .ok (.bipush 6, 2) := by decide +kernel
theorem dL_law_436 : decode cL_law 436 = .ok (.invokevirtual 42, 3) := by decide +kernel
theorem dL_law_439 : decode cL_law 439 = .ok (.istore 12, 2) := by decide +kernel
theorem dL_law_441 : decode cL_law 441 = .ok (.aload_n 1, 1) := by decide +kernel
theorem dL_law_442 : decode cL_law 442 = .ok (.iconst 1, 1) := by decide +kernel
theorem dL_law_443 : decode cL_law 443 = .ok (.iload 5, 2) := by decide +kernel
theorem dL_law_445 : decode cL_law 445 = .ok (.sipush 500, 3) := by decide +kernel
theorem dL_law_448 : decode cL_law 448 = .ok (.invokestatic 18, 3) := by decide +kernel
theorem dL_law_451 : decode cL_law 451 = .ok (.iadd, 1) := by decide +kernel
theorem dL_law_452 : decode cL_law 452 = .ok (.invokevirtual 55, 3) := by decide +kernel
theorem dL_law_455 : decode cL_law 455 = .ok (.sipush 2000, 3) := by decide +kernel
theorem dL_law_458 : decode cL_law 458 = .ok (.iload 12, 2) := by decide +kernel
theorem dL_law_460 : decode cL_law 460 = .ok (.iconst 1, 1) := by decide +kernel
theorem dL_law_461 : decode cL_law 461 = .ok (.iadd, 1) := by decide +kernel
theorem dL_law_462 : decode cL_law 462 = .ok (.iload 5, 2) := by decide +kernel
theorem dL_law_464 : decode cL_law 464 = .ok (.sipush 500, 3) := by decide +kernel
theorem dL_law_467 : decode cL_law 467 = .ok (.invokestatic 18, 3) := by decide +kernel
theorem dL_law_470 : decode cL_law 470 = .ok (.iadd, 1) := by decide +kernel
theorem dL_law_471 : decode cL_law 471 = .ok (.invokestatic 58, 3) := by decide +kernel
theorem dL_law_474 : decode cL_law 474 = .ok (.if_icmp .eq 151, 3) := by decide +kernel
theorem dL_law_477 : decode cL_law 477 = .ok (.iconst 0, 1) := by decide +kernel
theorem dL_law_478 : decode cL_law 478 = .ok (.ireturn, 1) := by decide +kernel
theorem dL_law_479 : decode cL_law 479 = .ok (.aload_n 1, 1) := by decide +kernel
theorem dL_law_480 : decode cL_law 480 = .ok (.iconst 1, 1) := by decide +kernel
theorem dL_law_481 : decode cL_law 481 = .ok (.iload 5, 2) := by decide +kernel
theorem dL_law_483 : decode cL_law 483 = .ok (.bipush 8, 2) := by decide +kernel
theorem dL_law_485 : decode cL_law 485 = .ok (.invokestatic 18, 3) := by decide +kernel
theorem dL_law_488 : decode cL_law 488 = .ok (.iadd, 1) := by decide +kernel
theorem dL_law_489 : decode cL_law 489 = .ok (.invokevirtual 61, 3) := by decide +kernel
theorem dL_law_492 : decode cL_law 492 = .ok (.aload_n 1, 1) := by decide +kernel
theorem dL_law_493 : decode cL_law 493 = .ok (.invokevirtual 65, 3) := by decide +kernel
theorem dL_law_496 : decode cL_law 496 = .ok (.dcmp .l, 1) := by decide +kernel
theorem dL_law_497 : decode cL_law 497 = .ok (.ifCond .ne 25, 3) := by decide +kernel
theorem dL_law_500 : decode cL_law 500 = .ok (.aload_n 1, 1) := by decide +kernel
theorem dL_law_501 : decode cL_law 501 = .ok (.invokevirtual 65, 3) := by decide +kernel
theorem dL_law_504 : decode cL_law 504 = .ok (.ldc2_w 69, 3) := by decide +kernel
theorem dL_law_507 : decode cL_law 507 = .ok (.dcmp .l, 1) := by decide +kernel
theorem dL_law_508 : decode cL_law 508 = .ok (.ifCond .gt 14, 3) := by decide +kernel
theorem dL_law_511 : decode cL_law 511 = .ok (.aload_n 1, 1) := by decide +kernel
theorem dL_law_512 : decode cL_law 512 = .ok (.invokevirtual 65, 3) := by decide +kernel
theorem dL_law_515 : decode cL_law 515 = .ok (.ldc2_w 71, 3) := by decide +kernel
theorem dL_law_518 : decode cL_law 518 = .ok (.dcmp .g, 1) := by decide +kernel
theorem dL_law_519 : decode cL_law 519 = .ok (.ifCond .ge 106, 3) := by decide +kernel
theorem dL_law_522 : decode cL_law 522 = .ok (.iconst 0, 1) := by decide +kernel
theorem dL_law_523 : decode cL_law 523 = .ok (.ireturn, 1) := by decide +kernel
theorem dL_law_524 : decode cL_law 524 = .ok (.aload_n 1, 1) := by decide +kernel
theorem dL_law_525 : decode cL_law 525 = .ok (.invokevirtual 73, 3) := by decide +kernel
theorem dL_law_528 : decode cL_law 528 = .ok (.ifCond .lt 11, 3) := by decide +kernel
theorem dL_law_531 : decode cL_law 531 = .ok (.aload_n 1, 1) := by decide +kernel
theorem dL_law_532 : decode cL_law 532 = .ok (.iconst 1, 1) := by decide +kernel
theorem dL_law_533 : decode cL_law 533 = .ok (.invokevirtual 42, 3) := by decide +kernel
theorem dL_law_536 : decode cL_law 536 = .ok (.ifCond .eq 89, 3) := by decide +kernel
theorem dL_law_539 : decode cL_law 539 = .ok (.iconst 0, 1) := by decide +kernel
theorem dL_law_540 : decode cL_law 540 = .ok (.ireturn, 1) := by decide +kernel
theorem dL_law_541 : decode cL_law 541 = .ok (.iload 5, 2) := by decide +kernel
theorem dL_law_543 : decode cL_law 543 = .ok (.iload_n 2, 1) := by decide +kernel
theorem dL_law_544 : decode cL_law 544 = .ok (.invokestatic 18, 3) := by decide +kernel
theorem dL_law_547 : decode cL_law 547 = .ok (.istore 13, 2) := by decide +kernel
theorem dL_law_549 : decode cL_law 549 = .ok (.aload_n 1, 1) := by decide +kernel
theorem dL_law_550 : decode cL_law 550 = .ok (.iload 13, 2) := by decide +kernel
theorem dL_law_552 : decode cL_law 552 = .ok (.iconst 0, 1) := by decide +kernel
theorem dL_law_553 : decode cL_law 553 = .ok (.invokevirtual 76, 3) := by decide +kernel
theorem dL_law_556 : decode cL_law 556 = .ok (.istore 14, 2) := by decide +kernel
theorem dL_law_558 : decode cL_law 558 = .ok (.aload_n 1, 1) := by decide +kernel
theorem dL_law_559 : decode cL_law 559 = .ok (.iload 13, 2) := by decide +kernel
theorem dL_law_561 : decode cL_law 561 = .ok (.bipush 20, 2) := by decide +kernel
theorem dL_law_563 : decode cL_law 563 = .ok (.iload 4, 2) := by decide +kernel
theorem dL_law_565 : decode cL_law 565 = .ok (.iconst 3, 1) := by decide +kernel
theorem dL_law_566 : decode cL_law 566 = .ok (.idiv, 1) := by decide +kernel
theorem dL_law_567 : decode cL_law 567 = .ok (.bipush 8, 2) := by decide +kernel
theorem dL_law_569 : decode cL_law 569 = .ok (.invokestatic 18, 3) := by decide +kernel
theorem dL_law_572 : decode cL_law 572 = .ok (.iadd, 1) := by decide +kernel
theorem dL_law_573 : decode cL_law 573 = .ok (.invokevirtual 79, 3) := by decide +kernel
theorem dL_law_576 : decode cL_law 576 = .ok (.iload 14, 2) := by decide +kernel
theorem dL_law_578 : decode cL_law 578 = .ok (.if_icmp .ne 25, 3) := by decide +kernel
theorem dL_law_581 : decode cL_law 581 = .ok (.aload_n 1, 1) := by decide +kernel
theorem dL_law_582 : decode cL_law 582 = .ok (.iload 13, 2) := by decide +kernel
theorem dL_law_584 : decode cL_law 584 = .ok (.iconst 0, 1) := by decide +kernel
theorem dL_law_585 : decode cL_law 585 = .ok (.invokevirtual 76, 3) := by decide +kernel
theorem dL_law_588 : decode cL_law 588 = .ok (.bipush 20, 2) := by decide +kernel
theorem dL_law_590 : decode cL_law 590 = .ok (.iload 4, 2) := by decide +kernel
theorem dL_law_592 : decode cL_law 592 = .ok (.iconst 3, 1) := by decide +kernel
theorem dL_law_593 : decode cL_law 593 = .ok (.idiv, 1) := by decide +kernel
theorem dL_law_594 : decode cL_law 594 = .ok (.bipush 8, 2) := by decide +kernel
theorem dL_law_596 : decode cL_law 596 = .ok (.invokestatic 18, 3) := by decide +kernel
theorem dL_law_599 : decode cL_law 599 = .ok (.iadd, 1) := by decide +kernel
theorem dL_law_600 : decode cL_law 600 = .ok (.if_icmp .eq 25, 3) := by decide +kernel
theorem dL_law_603 : decode cL_law 603 = .ok (.iconst 0, 1) := by decide +kernel
theorem dL_law_604 : decode cL_law 604 = .ok (.ireturn, 1) := by decide +kernel
theorem dL_law_605 : decode cL_law 605 = .ok (.aload_n 1, 1) := by decide +kernel
theorem dL_law_606 : decode cL_law 606 = .ok (.iconst 1, 1) := by decide +kernel
theorem dL_law_607 : decode cL_law 607 = .ok (.iload 5, 2) := by decide +kernel
theorem dL_law_609 : decode cL_law 609 = .ok (.sipush 128, 3) := by decide +kernel
theorem dL_law_612 : decode cL_law 612 = .ok (.invokestatic 18, 3) := by decide +kernel
theorem dL_law_615 : decode cL_law 615 = .ok (.iadd, 1) := by decide +kernel
theorem dL_law_616 : decode cL_law 616 = .ok (.iload_n 2, 1) := by decide +kernel
theorem dL_law_617 : decode cL_law 617 = .ok (.invokestatic 82, 3) := by decide +kernel
theorem dL_law_620 : decode cL_law 620 = .ok (.ifCond .ne 5, 3) := by decide +kernel
theorem dL_law_623 : decode cL_law 623 = .ok (.iconst 0, 1) := by decide +kernel
theorem dL_law_624 : decode cL_law 624 = .ok (.ireturn, 1) := by decide +kernel
theorem dL_law_625 : decode cL_law 625 = .ok (.aload_n 1, 1) := by decide +kernel
theorem dL_law_626 : decode cL_law 626 = .ok (.iload_n 2, 1) := by decide +kernel
theorem dL_law_627 : decode cL_law 627 = .ok (.invokestatic 86, 3) := by decide +kernel
theorem dL_law_630 : decode cL_law 630 = .ok (.ifCond .ne 5, 3) := by decide +kernel
theorem dL_law_633 : decode cL_law 633 = .ok (.iconst 0, 1) := by decide +kernel
theorem dL_law_634 : decode cL_law 634 = .ok (.ireturn, 1) := by decide +kernel
theorem dL_law_635 : decode cL_law 635 = .ok (.iinc 3 1, 3) := by decide +kernel
theorem dL_law_638 : decode cL_law 638 = .ok (.goto (-560), 3) := by decide +kernel
theorem dL_law_641 : decode cL_law 641 = .ok (.aload_n 1, 1) := by decide +kernel
theorem dL_law_642 : decode cL_law 642 = .ok (.invokevirtual 90, 3) := by decide +kernel
theorem dL_law_645 : decode cL_law 645 = .ok (.lstore_n 3, 1) := by decide +kernel
theorem dL_law_646 : decode cL_law 646 = .ok (.iconst 0, 1) := by decide +kernel
theorem dL_law_647 : decode cL_law 647 = .ok (.istore 5, 2) := by decide +kernel
theorem dL_law_649 : decode cL_law 649 = .ok (.iload 5, 2) := by decide +kernel
theorem dL_law_651 : decode cL_law 651 = .ok (.iconst 2, 1) := by decide +kernel
theorem dL_law_652 : decode cL_law 652 = .ok (.if_icmp .ge 83, 3) := by decide +kernel
theorem dL_law_655 : decode cL_law 655 = .ok (.aload_n 1, 1) := by decide +kernel
theorem dL_law_656 : decode cL_law 656 = .ok (.iload 5, 2) := by decide +kernel
theorem dL_law_658 : decode cL_law 658 = .ok (.iconst 0, 1) := by decide +kernel
theorem dL_law_659 : decode cL_law 659 = .ok (.invokevirtual 94, 3) := by decide +kernel
theorem dL_law_662 : decode cL_law 662 = .ok (.istore 6, 2) := by decide +kernel
theorem dL_law_664 : decode cL_law 664 = .ok (.iload 6, 2) := by decide +kernel
theorem dL_law_666 : decode cL_law 666 = .ok (.bipush (-24), 2) := by decide +kernel
theorem dL_law_668 : decode cL_law 668 = .ok (.if_icmp .lt 59, 3) := by decide +kernel
theorem dL_law_671 : decode cL_law 671 = .ok (.iload 6, 2) := by decide +kernel
theorem dL_law_673 : decode cL_law 673 = .ok (.bipush 24, 2) := by decide +kernel
theorem dL_law_675 : decode cL_law 675 = .ok (.if_icmp .gt 52, 3) := by decide +kernel
theorem dL_law_678 : decode cL_law 678 = .ok (.aload_n 1, 1) := by decide +kernel
theorem dL_law_679 : decode cL_law 679 = .ok (.iload 5, 2) := by decide +kernel
theorem dL_law_681 : decode cL_law 681 = .ok (.iload 5, 2) := by decide +kernel
theorem dL_law_683 : decode cL_law 683 = .ok (.iconst 0, 1) := by decide +kernel
theorem dL_law_684 : decode cL_law 684 = .ok (.invokevirtual 97, 3) := by decide +kernel
theorem dL_law_687 : decode cL_law 687 = .ok (.aload_n 1, 1) := by decide +kernel
theorem dL_law_688 : decode cL_law 688 = .ok (.iload 5, 2) := by decide +kernel
theorem dL_law_690 : decode cL_law 690 = .ok (.iconst 0, 1) := by decide +kernel
theorem dL_law_691 : decode cL_law 691 = .ok (.invokevirtual 30, 3) := by decide +kernel
theorem dL_law_694 : decode cL_law 694 = .ok (.ifCond .ne 7, 3) := by decide +kernel
theorem dL_law_697 : decode cL_law 697 = .ok (.dconst 0, 1) := by decide +kernel
theorem dL_law_698 : decode cL_law 698 = .ok (.goto 4, 3) := by decide +kernel
theorem dL_law_701 : decode cL_law 701 = .ok (.dconst 1, 1) := by decide +kernel
theorem dL_law_702 : decode cL_law 702 = .ok (.dcmp .l, 1) := by decide +kernel
theorem dL_law_703 : decode cL_law 703 = .ok (.ifCond .ne 24, 3) := by decide +kernel
theorem dL_law_706 : decode cL_law 706 = .ok (.aload_n 1, 1) := by decide +kernel
theorem dL_law_707 : decode cL_law 707 = .ok (.iconst 0, 1) := by decide +kernel
theorem dL_law_708 : decode cL_law 708 = .ok (.iconst 1, 1) := by decide +kernel
theorem dL_law_709 : decode cL_law 709 = .ok (.iload 6, 2) := by decide +kernel
theorem dL_law_711 : decode cL_law 711 = .ok (.invokevirtual 97, 3) := by decide +kernel
theorem dL_law_714 : decode cL_law 714 = .ok (.aload_n 1, 1) := by decide +kernel
theorem dL_law_715 : decode cL_law 715 = .ok (.iconst 1, 1) := by decide +kernel
theorem dL_law_716 : decode cL_law 716 = .ok (.iconst 0, 1) := by decide +kernel
theorem dL_law_717 : decode cL_law 717 = .ok (.iload 6, 2) := by decide +kernel
theorem dL_law_719 : decode cL_law 719 = .ok (.ineg, 1) := by decide +kernel
theorem dL_law_720 : decode cL_law 720 = .ok (.invokevirtual 97, 3) := by decide +kernel
theorem dL_law_723 : decode cL_law 723 = .ok (.dcmp .l, 1) := by decide +kernel
theorem dL_law_724 : decode cL_law 724 = .ok (.ifCond .eq 5, 3) := by decide +kernel
theorem dL_law_727 : decode cL_law 727 = .ok (.iconst 0, 1) := by decide +kernel
theorem dL_law_728 : decode cL_law 728 = .ok (.ireturn, 1) := by decide +kernel
theorem dL_law_729 : decode cL_law 729 = .ok (.iinc 5 1, 3) := by decide +kernel
theorem dL_law_732 : decode cL_law 732 = .ok (.goto (-83), 3) := by decide +kernel
theorem dL_law_735 : decode cL_law 735 = .ok (.aload_n 1, 1) := by decide +kernel
theorem dL_law_736 : decode cL_law 736 = .ok (.invokevirtual 90, 3) := by decide +kernel
theorem dL_law_739 : decode cL_law 739 = .ok (.lload_n 3, 1) := by decide +kernel
theorem dL_law_740 : decode cL_law 740 = .ok (.lcmp, 1) := by decide +kernel
theorem dL_law_741 : decode cL_law 741 = .ok (.ifCond .ne 7, 3) := by decide +kernel
theorem dL_law_744 : decode cL_law 744 = .ok (.iconst 1, 1) := by decide +kernel
theorem dL_law_745 : decode cL_law 745 = .ok (.goto 4, 3) := by decide +kernel
theorem dL_law_748 : decode cL_law 748 = .ok (.iconst 0, 1) := by decide +kernel
theorem dL_law_749 : decode cL_law 749 = .ok (.ireturn, 1) := by decide +kernel
set_option maxRecDepth 20000 in
theorem ggL_plucks_X5_ofTooth : GoodIn wsL_plucks wsX5_ofTooth := goodIn_ca (goodIn_ca (goodIn_r _ [5, 6, 7, 8, 9, 10, 11, 12, 13, 14, 4, 15, 16, 17, 18, 19, 20, 21, 22, 23, 24, 25, 26, 27, 28, 29, 30, 31, 32, 33, 34, 35, 36, 37, 38, 39, 40, 41, 42, 43, 44, 45, 46, 47, 48, 49, 50, 51, 52, 53, 54, 55, 56, 57, 58] (by decide +kernel) (by decide +kernel)) (goodIn_sub (fun _ h => List.mem_cons_of_mem _ (List.mem_append_left _ (List.mem_append_right _ h))) (by decide +kernel))) (goodIn_sub (fun _ h => List.mem_cons_of_mem _ (List.mem_append_right _ h)) (by decide +kernel))
set_option maxRecDepth 20000 in
theorem gL_plucks_X5_ofTooth : GoodIn wsL_plucks (wsV RL 76 RX5 yX5_ofTooth wsX5_ofTooth) := goodIn_app (goodIn_of _ (by decide +kernel)) ggL_plucks_X5_ofTooth
theorem dL_plucks_0 : decode cL_plucks 0 = .ok (.iconst 0, 1) := by decide +kernel
theorem dL_plucks_1 : decode cL_plucks 1 = .ok (.istore_n 2, 1) := by decide +kernel
theorem dL_plucks_2 : decode cL_plucks 2 = .ok (.iconst 0, 1) := by decide +kernel
theorem dL_plucks_3 : decode cL_plucks 3 = .ok (.istore_n 3, 1) := by decide +kernel
theorem dL_plucks_4 : decode cL_plucks 4 = .ok (.iload_n 3, 1) := by decide +kernel
theorem dL_plucks_5 : decode cL_plucks 5 = .ok (.iload_n 1, 1) := by decide +kernel
theorem dL_plucks_6 : decode cL_plucks 6 = .ok (.if_icmp .ge 18, 3) := by decide +kernel
theorem dL_plucks_9 : decode cL_plucks 9 = .ok (.iload_n 2, 1) := by decide +kernel
theorem dL_plucks_10 : decode cL_plucks 10 = .ok (.aload_n 0, 1) := by decide +kernel
theorem dL_plucks_11 : decode cL_plucks 11 = .ok (.iload_n 3, 1) := by decide +kernel
theorem dL_plucks_12 : decode cL_plucks 12 = .ok (.iconst 3, 1) := by decide +kernel
theorem dL_plucks_13 : decode cL_plucks 13 = .ok (.invokevirtual 76, 3) := by decide +kernel
theorem dL_plucks_16 : decode cL_plucks 16 = .ok (.iadd, 1) := by decide +kernel
theorem dL_plucks_17 : decode cL_plucks 17 = .ok (.istore_n 2, 1) := by decide +kernel
theorem dL_plucks_18 : decode cL_plucks 18 = .ok (.iinc 3 1, 3) := by decide +kernel
theorem dL_plucks_21 : decode cL_plucks 21 = .ok (.goto (-17), 3) := by decide +kernel
theorem dL_plucks_24 : decode cL_plucks 24 = .ok (.iload_n 2, 1) := by decide +kernel
theorem dL_plucks_25 : decode cL_plucks 25 = .ok (.ireturn, 1) := by decide +kernel
set_option maxRecDepth 20000 in
theorem ggL_isPlayed_L_plucks : GoodIn wsL_isPlayed wsL_plucks := goodIn_ca (goodIn_ca (goodIn_r _ [11, 12, 13, 14, 15, 16, 17, 18, 19, 20, 21, 22, 23, 24, 25, 26, 27, 28, 29, 30, 31, 32, 33, 34, 35, 36, 37, 38, 39, 40, 41, 42, 43, 44, 45, 46, 47, 48, 49, 50, 51, 52, 53, 54, 192, 193, 194, 195, 196, 197, 198, 199, 200, 201, 202, 203, 204, 205, 206] (by decide +kernel) (by decide +kernel)) (goodIn_sub (fun _ h => List.mem_cons_of_mem _ (List.mem_append_left _ (List.mem_append_right _ h))) (by decide +kernel))) (goodIn_sub (fun _ h => List.mem_cons_of_mem _ (List.mem_append_right _ h)) (by decide +kernel))
set_option maxRecDepth 20000 in
theorem gL_isPlayed_L_plucks : GoodIn wsL_isPlayed (va_wsS RL 101 yL_plucks wsL_plucks) := goodIn_app (goodIn_of _ (by decide +kernel)) ggL_isPlayed_L_plucks
set_option maxRecDepth 20000 in
theorem ggL_isPlayed_X5_many : GoodIn wsL_isPlayed wsX5_many := goodIn_ca (goodIn_r _ [58, 17, 29, 59, 60, 61, 62, 63, 64, 65, 66, 67, 68, 69, 70, 71, 72, 73, 30, 31, 15, 32, 33, 34, 74, 75, 76, 77, 78, 79, 80, 81, 82, 83, 84, 22, 35, 36, 37, 38, 39, 40, 41, 42, 43, 44, 45, 46, 47, 48, 49, 50, 51, 52, 53, 54, 192, 193, 194, 195, 196, 197, 198, 199, 200, 201, 202, 203, 204, 207, 208, 209, 210, 211, 212, 213, 214, 215, 216, 217, 218, 219, 220, 221, 222, 223, 224, 225, 205, 206] (by decide +kernel) (by decide +kernel)) (goodIn_sub (fun _ h => List.mem_cons_of_mem _ (List.mem_append_right _ h)) (by decide +kernel))
set_option maxRecDepth 20000 in
theorem gL_isPlayed_X5_many : GoodIn wsL_isPlayed (wsV RL 42 RX5 yX5_many wsX5_many) := goodIn_app (goodIn_of _ (by decide +kernel)) ggL_isPlayed_X5_many
set_option maxRecDepth 20000 in
theorem ggL_isPlayed_X5_wouldBuzz : GoodIn wsL_isPlayed wsX5_wouldBuzz := goodIn_ca (goodIn_r _ [88, 89, 61, 70, 90, 91, 15, 92, 33, 34, 93, 94, 95, 96, 97, 98, 99, 100, 101, 102, 103, 104, 105, 106, 107, 108, 109, 110, 77, 111, 79, 112, 80, 113, 114, 115, 116, 117, 118, 38, 119, 44, 120, 121, 122, 123, 45, 46, 47, 124, 125, 126, 127, 128, 129, 130, 131, 132, 133, 134, 135, 136, 137, 138, 139, 140, 141, 142, 143, 6, 3, 7, 144, 145, 146, 147, 148, 149, 150, 151, 152, 153, 154, 155, 156, 157, 158, 159, 160, 161, 162, 163, 164, 165, 166, 167, 168, 169, 170, 171, 172, 173, 174, 175, 176, 177, 178, 179, 180, 181, 182, 192, 193, 194, 195, 196, 197, 198, 210, 211, 212, 213, 214, 215, 216, 217, 218, 219, 220, 199, 200, 201, 202, 203, 204, 205, 206, 221, 222, 223, 224, 225] (by decide +kernel) (by decide +kernel)) (goodIn_sub (fun _ h => List.mem_cons_of_mem _ (List.mem_append_right _ h)) (by decide +kernel))
set_option maxRecDepth 20000 in
theorem gL_isPlayed_X5_wouldBuzz : GoodIn wsL_isPlayed (wsV RL 105 RX5 yX5_wouldBuzz wsX5_wouldBuzz) := goodIn_app (goodIn_of _ (by decide +kernel)) ggL_isPlayed_X5_wouldBuzz
set_option maxRecDepth 20000 in
theorem ggL_isPlayed_X5_lasts : GoodIn wsL_isPlayed wsX5_lasts := goodIn_r _ [186, 89, 61, 64, 93, 94, 95, 96, 97, 98, 99, 100, 101, 102, 103, 104, 105, 106, 107, 108, 109, 110, 77, 111, 79, 112, 80, 113, 114, 115, 116, 117, 118, 38, 119, 44, 120, 121, 122, 123, 45, 46, 47, 124, 125, 126, 127, 128, 129, 130, 131, 187, 137, 138, 139, 140, 141, 142, 143, 6, 3, 7, 144, 145, 146, 147, 148, 149, 150, 151, 152, 153, 154, 155, 156, 157, 158, 159, 160, 161, 162, 163, 164, 165, 166, 167, 168, 169, 170, 171, 172, 173, 174, 175, 176, 177, 178, 179, 180, 181, 182, 192, 193, 194, 195, 196, 197, 198, 210, 211, 212, 213, 214, 215, 216, 217, 218, 219, 220, 199, 200, 201, 202, 203, 204, 205, 206, 221, 222, 223, 224, 225] (by decide +kernel) (by decide +kernel)
set_option maxRecDepth 20000 in
theorem gL_isPlayed_X5_lasts : GoodIn wsL_isPlayed (wsV RL 108 RX5 yX5_lasts wsX5_lasts) := goodIn_app (goodIn_of _ (by decide +kernel)) ggL_isPlayed_X5_lasts
set_option maxRecDepth 20000 in
theorem ggL_isPlayed_X5_play : GoodIn wsL_isPlayed wsX5_play := goodIn_ca (goodIn_r _ [191, 67, 68, 61, 90, 91, 15, 92, 33, 34, 132, 133, 134, 96, 135, 101, 136, 137, 138, 139, 107, 140, 103, 104, 98, 141, 142, 99, 100, 143, 6, 3, 7, 144, 145, 146, 147, 148, 102, 149, 150, 151, 152, 38, 153, 44, 45, 46, 47, 154, 155, 156, 157, 105, 158, 159, 106, 160, 161, 162, 77, 163, 114, 115, 113, 80, 164, 165, 166, 167, 168, 169, 170, 171, 172, 173, 174, 175, 176, 177, 178, 179, 180, 181, 128, 182, 129, 130, 131, 192, 193, 194, 195, 196, 197, 198, 221, 222, 223, 224, 225, 210, 211, 212, 213, 214, 215, 216, 217, 218, 219, 220, 199, 200, 201, 202, 203, 204, 205, 206] (by decide +kernel) (by decide +kernel)) (goodIn_sub (fun _ h => List.mem_cons_of_mem _ (List.mem_append_right _ h)) (by decide +kernel))
set_option maxRecDepth 20000 in
theorem gL_isPlayed_X5_play : GoodIn wsL_isPlayed (wsV RL 111 RX5 yX5_play wsX5_play) := goodIn_app (goodIn_of _ (by decide +kernel)) ggL_isPlayed_X5_play
theorem dL_isPlayed_0 : decode cL_isPlayed 0 = .ok (.aload_n 0, 1) := by decide +kernel
theorem dL_isPlayed_1 : decode cL_isPlayed 1 = .ok (.iload_n 2, 1) := by decide +kernel
theorem dL_isPlayed_2 : decode cL_isPlayed 2 = .ok (.invokestatic 101, 3) := by decide +kernel
theorem dL_isPlayed_5 : decode cL_isPlayed 5 = .ok (.istore_n 3, 1) := by decide +kernel
theorem dL_isPlayed_6 : decode cL_isPlayed 6 = .ok (.aload_n 0, 1) := by decide +kernel
theorem dL_isPlayed_7 : decode cL_isPlayed 7 = .ok (.bipush 9, 2) := by decide +kernel
theorem dL_isPlayed_9 : decode cL_isPlayed 9 = .ok (.invokevirtual 42, 3) := by decide +kernel
theorem dL_isPlayed_12 : decode cL_isPlayed 12 = .ok (.istore 4, 2) := by decide +kernel
theorem dL_isPlayed_14 : decode cL_isPlayed 14 = .ok (.aload_n 0, 1) := by decide +kernel
theorem dL_isPlayed_15 : decode cL_isPlayed 15 = .ok (.bipush 11, 2) := by decide +kernel
theorem dL_isPlayed_17 : decode cL_isPlayed 17 = .ok (.invokevirtual 42, 3) := by decide +kernel
theorem dL_isPlayed_20 : decode cL_isPlayed 20 = .ok (.istore 5, 2) := by decide +kernel
theorem dL_isPlayed_22 : decode cL_isPlayed 22 = .ok (.aload_n 0, 1) := by decide +kernel
theorem dL_isPlayed_23 : decode cL_isPlayed 23 = .ok (.bipush 6, 2) := by decide +kernel
theorem dL_isPlayed_25 : decode cL_isPlayed 25 = .ok (.invokevirtual 42, 3) := by decide +kernel
theorem dL_isPlayed_28 : decode cL_isPlayed 28 = .ok (.istore 6, 2) := by decide +kernel
theorem dL_isPlayed_30 : decode cL_isPlayed 30 = .ok (.aload_n 0, 1) := by decide +kernel
theorem dL_isPlayed_31 : decode cL_isPlayed 31 = .ok (.bipush 8, 2) := by decide +kernel
theorem dL_isPlayed_33 : decode cL_isPlayed 33 = .ok (.invokevirtual 42, 3) := by decide +kernel
theorem dL_isPlayed_36 : decode cL_isPlayed 36 = .ok (.istore 7, 2) := by decide +kernel
theorem dL_isPlayed_38 : decode cL_isPlayed 38 = .ok (.aload_n 0, 1) := by decide +kernel
theorem dL_isPlayed_39 : decode cL_isPlayed 39 = .ok (.bipush 14, 2) := by decide +kernel
theorem dL_isPlayed_41 : decode cL_isPlayed 41 = .ok (.invokevirtual 42, 3) := by decide +kernel
theorem dL_isPlayed_44 : decode cL_isPlayed 44 = .ok (.istore 8, 2) := by decide +kernel
theorem dL_isPlayed_46 : decode cL_isPlayed 46 = .ok (.aload_n 0, 1) := by decide +kernel
theorem dL_isPlayed_47 : decode cL_isPlayed 47 = .ok (.iload_n 1, 1) := by decide +kernel
theorem dL_isPlayed_48 : decode cL_isPlayed 48 = .ok (.invokevirtual 105, 3) := by decide +kernel
theorem dL_isPlayed_51 : decode cL_isPlayed 51 = .ok (.istore 9, 2) := by decide +kernel
theorem dL_isPlayed_53 : decode cL_isPlayed 53 = .ok (.aload_n 0, 1) := by decide +kernel
theorem dL_isPlayed_54 : decode cL_isPlayed 54 = .ok (.invokevirtual 108, 3) := by decide +kernel
theorem dL_isPlayed_57 : decode cL_isPlayed 57 = .ok (.istore 10, 2) := by decide +kernel
theorem dL_isPlayed_59 : decode cL_isPlayed 59 = .ok (.aload_n 0, 1) := by decide +kernel
theorem dL_isPlayed_60 : decode cL_isPlayed 60 = .ok (.iload_n 1, 1) := by decide +kernel
theorem dL_isPlayed_61 : decode cL_isPlayed 61 = .ok (.invokevirtual 111, 3) := by decide +kernel
theorem dL_isPlayed_64 : decode cL_isPlayed 64 = .ok (.istore 11, 2) := by decide +kernel
theorem dL_isPlayed_66 : decode cL_isPlayed 66 = .ok (.aload_n 0, 1) := by decide +kernel
theorem dL_isPlayed_67 : decode cL_isPlayed 67 = .ok (.bipush 8, 2) := by decide +kernel
theorem dL_isPlayed_69 : decode cL_isPlayed 69 = .ok (.invokevirtual 42, 3) := by decide +kernel
theorem dL_isPlayed_72 : decode cL_isPlayed 72 = .ok (.iload 7, 2) := by decide +kernel
theorem dL_isPlayed_74 : decode cL_isPlayed 74 = .ok (.isub, 1) := by decide +kernel
theorem dL_isPlayed_75 : decode cL_isPlayed 75 = .ok (.istore 12, 2) := by decide +kernel
theorem dL_isPlayed_77 : decode cL_isPlayed 77 = .ok (.aload_n 0, 1) := by decide +kernel
theorem dL_isPlayed_78 : decode cL_isPlayed 78 = .ok (.iload_n 2, 1) := by decide +kernel
theorem dL_isPlayed_79 : decode cL_isPlayed 79 = .ok (.invokestatic 101, 3) := by decide +kernel
theorem dL_isPlayed_82 : decode cL_isPlayed 82 = .ok (.iload_n 3, 1) := by decide +kernel
theorem dL_isPlayed_83 : decode cL_isPlayed 83 = .ok (.isub, 1) := by decide +kernel
theorem dL_isPlayed_84 : decode cL_isPlayed 84 = .ok (.istore 13, 2) := by decide +kernel
theorem dL_isPlayed_86 : decode cL_isPlayed 86 = .ok (.aload_n 0, 1) := by decide +kernel
theorem dL_isPlayed_87 : decode cL_isPlayed 87 = .ok (.bipush 9, 2) := by decide +kernel
theorem dL_isPlayed_89 : decode cL_isPlayed 89 = .ok (.invokevirtual 42, 3) := by decide +kernel
theorem dL_isPlayed_92 : decode cL_isPlayed 92 = .ok (.iload 4, 2) := by decide +kernel
theorem dL_isPlayed_94 : decode cL_isPlayed 94 = .ok (.isub, 1) := by decide +kernel
theorem dL_isPlayed_95 : decode cL_isPlayed 95 = .ok (.iload 11, 2) := by decide +kernel
theorem dL_isPlayed_97 : decode cL_isPlayed 97 = .ok (.if_icmp .ne 49, 3) := by decide +kernel
theorem dL_isPlayed_100 : decode cL_isPlayed 100 = .ok (.aload_n 0, 1) := by decide +kernel
theorem dL_isPlayed_101 : decode cL_isPlayed 101 = .ok (.bipush 11, 2) := by decide +kernel
theorem dL_isPlayed_103 : decode cL_isPlayed 103 = .ok (.invokevirtual 42, 3) := by decide +kernel
theorem dL_isPlayed_106 : decode cL_isPlayed 106 = .ok (.iload 5, 2) := by decide +kernel
theorem dL_isPlayed_108 : decode cL_isPlayed 108 = .ok (.isub, 1) := by decide +kernel
theorem dL_isPlayed_109 : decode cL_isPlayed 109 = .ok (.iload 9, 2) := by decide +kernel
theorem dL_isPlayed_111 : decode cL_isPlayed 111 = .ok (.if_icmp .ne 35, 3) := by decide +kernel
theorem dL_isPlayed_114 : decode cL_isPlayed 114 = .ok (.iload 13, 2) := by decide +kernel
theorem dL_isPlayed_116 : decode cL_isPlayed 116 = .ok (.iload 11, 2) := by decide +kernel
theorem dL_isPlayed_118 : decode cL_isPlayed 118 = .ok (.iload 9, 2) := by decide +kernel
theorem dL_isPlayed_120 : decode cL_isPlayed 120 = .ok (.iadd, 1) := by decide +kernel
theorem dL_isPlayed_121 : decode cL_isPlayed 121 = .ok (.if_icmp .ne 25, 3) := by decide +kernel
theorem dL_isPlayed_124 : decode cL_isPlayed 124 = .ok (.iload 12, 2) := by decide +kernel
theorem dL_isPlayed_126 : decode cL_isPlayed 126 = .ok (.iload_n 1, 1) := by decide +kernel
theorem dL_isPlayed_127 : decode cL_isPlayed 127 = .ok (.iload 10, 2) := by decide +kernel
theorem dL_isPlayed_129 : decode cL_isPlayed 129 = .ok (.invokestatic 58, 3) := by decide +kernel
theorem dL_isPlayed_132 : decode cL_isPlayed 132 = .ok (.if_icmp .ne 14, 3) := by decide +kernel
theorem dL_isPlayed_135 : decode cL_isPlayed 135 = .ok (.aload_n 0, 1) := by decide +kernel
theorem dL_isPlayed_136 : decode cL_isPlayed 136 = .ok (.bipush 14, 2) := by decide +kernel
theorem dL_isPlayed_138 : decode cL_isPlayed 138 = .ok (.invokevirtual 42, 3) := by decide +kernel
theorem dL_isPlayed_141 : decode cL_isPlayed 141 = .ok (.iload 8, 2) := by decide +kernel
theorem dL_isPlayed_143 : decode cL_isPlayed 143 = .ok (.if_icmp .ge 5, 3) := by decide +kernel
theorem dL_isPlayed_146 : decode cL_isPlayed 146 = .ok (.iconst 0, 1) := by decide +kernel
theorem dL_isPlayed_147 : decode cL_isPlayed 147 = .ok (.ireturn, 1) := by decide +kernel
theorem dL_isPlayed_148 : decode cL_isPlayed 148 = .ok (.iload 6, 2) := by decide +kernel
theorem dL_isPlayed_150 : decode cL_isPlayed 150 = .ok (.iconst 2, 1) := by decide +kernel
theorem dL_isPlayed_151 : decode cL_isPlayed 151 = .ok (.iload 12, 2) := by decide +kernel
theorem dL_isPlayed_153 : decode cL_isPlayed 153 = .ok (.imul, 1) := by decide +kernel
theorem dL_isPlayed_154 : decode cL_isPlayed 154 = .ok (.isub, 1) := by decide +kernel
theorem dL_isPlayed_155 : decode cL_isPlayed 155 = .ok (.iload 13, 2) := by decide +kernel
theorem dL_isPlayed_157 : decode cL_isPlayed 157 = .ok (.isub, 1) := by decide +kernel
theorem dL_isPlayed_158 : decode cL_isPlayed 158 = .ok (.istore 14, 2) := by decide +kernel
theorem dL_isPlayed_160 : decode cL_isPlayed 160 = .ok (.aload_n 0, 1) := by decide +kernel
theorem dL_isPlayed_161 : decode cL_isPlayed 161 = .ok (.bipush 6, 2) := by decide +kernel
theorem dL_isPlayed_163 : decode cL_isPlayed 163 = .ok (.invokevirtual 42, 3) := by decide +kernel
theorem dL_isPlayed_166 : decode cL_isPlayed 166 = .ok (.iconst 0, 1) := by decide +kernel
theorem dL_isPlayed_167 : decode cL_isPlayed 167 = .ok (.iload 14, 2) := by decide +kernel
theorem dL_isPlayed_169 : decode cL_isPlayed 169 = .ok (.invokestatic 114, 3) := by decide +kernel
theorem dL_isPlayed_172 : decode cL_isPlayed 172 = .ok (.if_icmp .ne 64, 3) := by decide +kernel
theorem dL_isPlayed_175 : decode cL_isPlayed 175 = .ok (.aload_n 0, 1) := by decide +kernel
theorem dL_isPlayed_176 : decode cL_isPlayed 176 = .ok (.bipush 6, 2) := by decide +kernel
theorem dL_isPlayed_178 : decode cL_isPlayed 178 = .ok (.invokevirtual 42, 3) := by decide +kernel
theorem dL_isPlayed_181 : decode cL_isPlayed 181 = .ok (.ifCond .le 7, 3) := by decide +kernel
theorem dL_isPlayed_184 : decode cL_isPlayed 184 = .ok (.iconst 1, 1) := by decide +kernel
theorem dL_isPlayed_185 : decode cL_isPlayed 185 = .ok (.goto 4, 3) := by decide +kernel
theorem dL_isPlayed_188 : decode cL_isPlayed 188 = .ok (.iconst 0, 1) := by decide +kernel
theorem dL_isPlayed_189 : decode cL_isPlayed 189 = .ok (.iload 10, 2) := by decide +kernel
theorem dL_isPlayed_191 : decode cL_isPlayed 191 = .ok (.iload_n 1, 1) := by decide +kernel
theorem dL_isPlayed_192 : decode cL_isPlayed 192 = .ok (.if_icmp .le 7, 3) := by decide +kernel
theorem dL_isPlayed_195 : decode cL_isPlayed 195 = .ok (.iconst 1, 1) := by decide +kernel
theorem dL_isPlayed_196 : decode cL_isPlayed 196 = .ok (.goto 4, 3) := by decide +kernel
theorem dL_isPlayed_199 : decode cL_isPlayed 199 = .ok (.iconst 0, 1) := by decide +kernel
theorem dL_isPlayed_200 : decode cL_isPlayed 200 = .ok (.if_icmp .ne 36, 3) := by decide +kernel
theorem dL_isPlayed_203 : decode cL_isPlayed 203 = .ok (.aload_n 0, 1) := by decide +kernel
theorem dL_isPlayed_204 : decode cL_isPlayed 204 = .ok (.invokevirtual 108, 3) := by decide +kernel
theorem dL_isPlayed_207 : decode cL_isPlayed 207 = .ok (.iload 10, 2) := by decide +kernel
theorem dL_isPlayed_209 : decode cL_isPlayed 209 = .ok (.iload 12, 2) := by decide +kernel
theorem dL_isPlayed_211 : decode cL_isPlayed 211 = .ok (.isub, 1) := by decide +kernel
theorem dL_isPlayed_212 : decode cL_isPlayed 212 = .ok (.if_icmp .ne 24, 3) := by decide +kernel
theorem dL_isPlayed_215 : decode cL_isPlayed 215 = .ok (.aload_n 0, 1) := by decide +kernel
theorem dL_isPlayed_216 : decode cL_isPlayed 216 = .ok (.iconst 4, 1) := by decide +kernel
theorem dL_isPlayed_217 : decode cL_isPlayed 217 = .ok (.invokevirtual 42, 3) := by decide +kernel
theorem dL_isPlayed_220 : decode cL_isPlayed 220 = .ok (.aload_n 0, 1) := by decide +kernel
theorem dL_isPlayed_221 : decode cL_isPlayed 221 = .ok (.bipush 8, 2) := by decide +kernel
theorem dL_isPlayed_223 : decode cL_isPlayed 223 = .ok (.invokevirtual 42, 3) := by decide +kernel
theorem dL_isPlayed_226 : decode cL_isPlayed 226 = .ok (.bipush 64, 2) := by decide +kernel
theorem dL_isPlayed_228 : decode cL_isPlayed 228 = .ok (.irem, 1) := by decide +kernel
theorem dL_isPlayed_229 : decode cL_isPlayed 229 = .ok (.if_icmp .ne 7, 3) := by decide +kernel
theorem dL_isPlayed_232 : decode cL_isPlayed 232 = .ok (.iconst 1, 1) := by decide +kernel
theorem dL_isPlayed_233 : decode cL_isPlayed 233 = .ok (.goto 4, 3) := by decide +kernel
theorem dL_isPlayed_236 : decode cL_isPlayed 236 = .ok (.iconst 0, 1) := by decide +kernel
theorem dL_isPlayed_237 : decode cL_isPlayed 237 = .ok (.ireturn, 1) := by decide +kernel
set_option maxRecDepth 20000 in
theorem ggL_areWell_X5_ofTooth : GoodIn wsL_areWell wsX5_ofTooth := goodIn_ca (goodIn_ca (goodIn_r _ [9, 10, 11, 12, 13, 14, 15, 16, 17, 18, 8, 19, 20, 21, 22, 23, 24, 25, 26, 27, 28, 29, 30, 31, 32, 33, 34, 35, 36, 37, 38, 39, 40, 41, 42, 43, 44, 45, 46, 47, 352, 353, 354, 355, 356, 357, 358, 359, 360, 361, 362, 363, 364, 365, 366] (by decide +kernel) (by decide +kernel)) (goodIn_sub (fun _ h => List.mem_cons_of_mem _ (List.mem_append_left _ (List.mem_append_right _ h))) (by decide +kernel))) (goodIn_sub (fun _ h => List.mem_cons_of_mem _ (List.mem_append_right _ h)) (by decide +kernel))
set_option maxRecDepth 20000 in
theorem gL_areWell_X5_ofTooth : GoodIn wsL_areWell (wsV RL 76 RX5 yX5_ofTooth wsX5_ofTooth) := goodIn_app (goodIn_of _ (by decide +kernel)) ggL_areWell_X5_ofTooth
set_option maxRecDepth 20000 in
theorem ggL_areWell_X5_pins : GoodIn wsL_areWell wsX5_pins := goodIn_ca (goodIn_r _ [51, 15, 16, 17, 18, 8, 19, 20, 21, 10, 22, 52, 53, 54, 55, 34, 35, 31, 36, 37, 38, 39, 40, 352, 353, 354, 355, 356, 357, 358, 359, 360, 361, 362, 363, 364, 365, 366] (by decide +kernel) (by decide +kernel)) (goodIn_sub (fun _ h => List.mem_cons_of_mem _ (List.mem_append_left _ (List.mem_append_right _ h))) (by decide +kernel))
set_option maxRecDepth 20000 in
theorem gL_areWell_X5_pins : GoodIn wsL_areWell (wsV RL 117 RX5 yX5_pins wsX5_pins) := goodIn_app (goodIn_of _ (by decide +kernel)) ggL_areWell_X5_pins
set_option maxRecDepth 20000 in
theorem ggL_areWell_J13_bitCount_95d88 : GoodIn wsL_areWell wsJ13_bitCount_95d88 := goodIn_r _ [44, 45, 46, 47] (by decide +kernel) (by decide +kernel)
set_option maxRecDepth 20000 in
theorem gL_areWell_J13_bitCount_95d88 : GoodIn wsL_areWell (va_wsS RL 121 yJ13_bitCount_95d88 wsJ13_bitCount_95d88) := goodIn_app (goodIn_of _ (by decide +kernel)) ggL_areWell_J13_bitCount_95d88
set_option maxRecDepth 20000 in
theorem ggL_areWell_J13_rotateLeft_b2ac5 : GoodIn wsL_areWell wsJ13_rotateLeft_b2ac5 := goodIn_r _ [59] (by decide +kernel) (by decide +kernel)
set_option maxRecDepth 20000 in
theorem gL_areWell_J13_rotateLeft_b2ac5 : GoodIn wsL_areWell (va_wsS RL 127 yJ13_rotateLeft_b2ac5 wsJ13_rotateLeft_b2ac5) := goodIn_app (goodIn_of _ (by decide +kernel)) ggL_areWell_J13_rotateLeft_b2ac5
set_option maxRecDepth 20000 in
theorem ggL_areWell_X5_many : GoodIn wsL_areWell wsX5_many := goodIn_ca (goodIn_r _ [63, 10, 22, 64, 65, 66, 67, 68, 69, 70, 71, 72, 73, 74, 75, 76, 77, 78, 23, 24, 8, 25, 26, 27, 79, 80, 81, 82, 83, 84, 85, 86, 87, 88, 89, 15, 28, 29, 30, 31, 32, 33, 34, 35, 36, 37, 38, 39, 40, 41, 42, 43, 44, 45, 46, 47, 352, 353, 354, 355, 356, 357, 358, 359, 360, 361, 362, 363, 364, 367, 368, 369, 370, 371, 372, 373, 374, 375, 376, 377, 378, 379, 380, 381, 382, 383, 384, 385, 365, 366] (by decide +kernel) (by decide +kernel)) (goodIn_sub (fun _ h => List.mem_cons_of_mem _ (List.mem_append_right _ h)) (by decide +kernel))
set_option maxRecDepth 20000 in
theorem gL_areWell_X5_many : GoodIn wsL_areWell (wsV RL 42 RX5 yX5_many wsX5_many) := goodIn_app (goodIn_of _ (by decide +kernel)) ggL_areWell_X5_many
set_option maxRecDepth 20000 in
theorem ggL_areWell_X5_when : GoodIn wsL_areWell wsX5_when := goodIn_ca (goodIn_r _ [93, 94, 72, 95, 96, 97, 8, 98, 20, 21, 74, 99, 100, 101, 102, 103, 104, 105, 106, 107, 108, 109, 110, 111, 112, 113, 352, 353, 354, 355, 356, 357, 358, 381, 382, 383, 384, 385] (by decide +kernel) (by decide +kernel)) (goodIn_sub (fun _ h => List.mem_cons_of_mem _ (List.mem_append_left _ (List.mem_append_right _ h))) (by decide +kernel))
set_option maxRecDepth 20000 in
theorem gL_areWell_X5_when : GoodIn wsL_areWell (wsV RL 131 RX5 yX5_when wsX5_when) := goodIn_app (goodIn_of _ (by decide +kernel)) ggL_areWell_X5_when
set_option maxRecDepth 20000 in
theorem ggL_areWell_X5_heard : GoodIn wsL_areWell wsX5_heard := goodIn_ca (goodIn_r _ [117, 72, 95, 96, 97, 8, 98, 20, 21, 74, 118, 119, 120, 102, 121, 122, 105, 106, 107, 108, 109, 352, 353, 354, 355, 356, 357, 358, 381, 382, 383, 384, 385] (by decide +kernel) (by decide +kernel)) (goodIn_sub (fun _ h => List.mem_cons_of_mem _ (List.mem_append_left _ (List.mem_append_right _ h))) (by decide +kernel))
set_option maxRecDepth 20000 in
theorem gL_areWell_X5_heard : GoodIn wsL_areWell (wsV RL 134 RX5 yX5_heard wsX5_heard) := goodIn_app (goodIn_of _ (by decide +kernel)) ggL_areWell_X5_heard
set_option maxRecDepth 20000 in
theorem ggL_areWell_X5_row : GoodIn wsL_areWell wsX5_row := goodIn_ca (goodIn_r _ [126, 127, 128, 129, 10, 22, 130, 131, 8, 132, 20, 21, 133, 134, 135, 136, 137, 138, 139, 140, 141, 142, 143, 144, 145, 146, 147, 148, 149, 150, 151, 152, 153, 154, 155, 156, 157, 158, 12, 15, 66, 68, 159, 160, 161, 31, 162, 37, 38, 39, 40, 163, 164, 165, 166, 167, 168, 169, 170, 171, 172, 173, 174, 175, 176, 177, 178, 179, 180, 181, 182, 183, 184, 185, 186, 187, 188, 189, 3, 190, 191, 192, 193, 194, 195, 196, 197, 198, 199, 200, 201, 202, 203, 204, 205, 2, 4, 206, 207, 208, 209, 210, 211, 212, 213, 214, 215, 216, 217, 218, 219, 220, 221, 222, 223, 224, 225, 226, 227, 228, 229, 230, 231, 232, 233, 234, 235, 236, 237, 238, 239, 240, 241, 242, 243, 244, 245, 246, 247, 248, 249, 250, 251, 252, 253, 254, 255, 256, 257, 258, 259, 260, 261, 262, 263, 264, 265, 266, 267, 268, 269, 270, 271, 272, 273, 274, 275, 276, 277, 278, 279, 280, 281, 282, 283, 284, 285, 286, 287, 288, 289, 290, 291, 292, 293, 294, 295, 296, 297, 298, 299, 300, 301, 302, 303, 304, 305, 306, 307, 308, 309, 310, 311, 312, 313, 314, 315, 316, 386, 387, 388, 389, 352, 353, 354, 355, 356, 357, 358, 359, 360, 361, 362, 363, 364, 370, 371, 372, 373, 374, 375, 376, 377, 378, 379, 380, 365, 366, 390, 391, 392, 393] (by decide +kernel) (by decide +kernel)) (goodIn_sub (fun _ h => List.mem_cons_of_mem _ (List.mem_append_left _ (List.mem_append_right _ h))) (by decide +kernel))
set_option maxRecDepth 20000 in
theorem gL_areWell_X5_row : GoodIn wsL_areWell (wsV RL 137 RX5 yX5_row wsX5_row) := goodIn_app (goodIn_of _ (by decide +kernel)) ggL_areWell_X5_row
set_option maxRecDepth 20000 in
theorem ggL_areWell_J0_length_8abf5 : GoodIn wsL_areWell wsJ0_length_8abf5 := goodIn_r _ [320, 277, 321, 322, 323, 238, 324, 278, 276, 390, 391, 392, 393] (by decide +kernel) (by decide +kernel)
set_option maxRecDepth 20000 in
theorem gL_areWell_J0_length_8abf5 : GoodIn wsL_areWell (wsV RL 141 RJ0 yJ0_length_8abf5 wsJ0_length_8abf5) := goodIn_app (goodIn_of _ (by decide +kernel)) ggL_areWell_J0_length_8abf5
set_option maxRecDepth 20000 in
theorem ggL_areWell_X5_wear : GoodIn wsL_areWell wsX5_wear := goodIn_ca (goodIn_r _ [328, 15, 16, 17, 18, 8, 19, 20, 21, 10, 22, 52, 53, 54, 130, 131, 132, 159, 160, 161, 31, 162, 37, 38, 39, 40, 329, 330, 331, 332, 333, 334, 335, 336, 352, 353, 354, 355, 356, 357, 358, 359, 360, 361, 362, 363, 364, 365, 366] (by decide +kernel) (by decide +kernel)) (goodIn_sub (fun _ h => List.mem_cons_of_mem _ (List.mem_append_left _ (List.mem_append_right _ h))) (by decide +kernel))
set_option maxRecDepth 20000 in
theorem gL_areWell_X5_wear : GoodIn wsL_areWell (wsV RL 146 RX5 yX5_wear wsX5_wear) := goodIn_app (goodIn_of _ (by decide +kernel)) ggL_areWell_X5_wear
set_option maxRecDepth 20000 in
theorem ggL_areWell_J0_charAt_5068e : GoodIn wsL_areWell wsJ0_charAt_5068e := goodIn_r _ [340, 277, 341, 342, 343, 238, 344, 278, 276, 345, 346, 217, 347, 348, 258, 259, 240, 260, 261, 243, 262, 349, 350, 149, 351, 254, 255, 256, 233, 234, 235, 257, 310, 311, 312, 248, 249, 250, 390, 391, 392, 393] (by decide +kernel) (by decide +kernel)
set_option maxRecDepth 20000 in
theorem gL_areWell_J0_charAt_5068e : GoodIn wsL_areWell (wsV RL 149 RJ0 yJ0_charAt_5068e wsJ0_charAt_5068e) := goodIn_app (goodIn_of _ (by decide +kernel)) ggL_areWell_J0_charAt_5068e
theorem dL_areWell_0 : decode cL_areWell 0 = .ok (.iconst 0, 1) := by decide +kernel
theorem dL_areWell_1 : decode cL_areWell 1 = .ok (.istore_n 2, 1) := by decide +kernel
theorem dL_areWell_2 : decode cL_areWell 2 = .ok (.iconst 0, 1) := by decide +kernel
theorem dL_areWell_3 : decode cL_areWell 3 = .ok (.istore_n 3, 1) := by decide +kernel
theorem dL_areWell_4 : decode cL_areWell 4 = .ok (.iconst 0, 1) := by decide +kernel
theorem dL_areWell_5 : decode cL_areWell 5 = .ok (.istore 4, 2) := by decide +kernel
theorem dL_areWell_7 : decode cL_areWell 7 = .ok (.iload 4, 2) := by decide +kernel
theorem dL_areWell_9 : decode cL_areWell 9 = .ok (.iload_n 1, 1) := by decide +kernel
theorem dL_areWell_10 : decode cL_areWell 10 = .ok (.if_icmp .ge 163, 3) := by decide +kernel
theorem dL_areWell_13 : decode cL_areWell 13 = .ok (.aload_n 0, 1) := by decide +kernel
theorem dL_areWell_14 : decode cL_areWell 14 = .ok (.iload 4, 2) := by decide +kernel
theorem dL_areWell_16 : decode cL_areWell 16 = .ok (.iconst 1, 1) := by decide +kernel
theorem dL_areWell_17 : decode cL_areWell 17 = .ok (.invokevirtual 76, 3) := by decide +kernel
theorem dL_areWell_20 : decode cL_areWell 20 = .ok (.iconst 1, 1) := by decide +kernel
theorem dL_areWell_21 : decode cL_areWell 21 = .ok (.if_icmp .ne 7, 3) := by decide +kernel
theorem dL_areWell_24 : decode cL_areWell 24 = .ok (.iconst 1, 1) := by decide +kernel
theorem dL_areWell_25 : decode cL_areWell 25 = .ok (.goto 4, 3) := by decide +kernel
theorem dL_areWell_28 : decode cL_areWell 28 = .ok (.iconst 0, 1) := by decide +kernel
theorem dL_areWell_29 : decode cL_areWell 29 = .ok (.istore 5, 2) := by decide +kernel
theorem dL_areWell_31 : decode cL_areWell 31 = .ok (.iload_n 3, 1) := by decide +kernel
theorem dL_areWell_32 : decode cL_areWell 32 = .ok (.iload 5, 2) := by decide +kernel
theorem dL_areWell_34 : decode cL_areWell 34 = .ok (.ifCond .eq 7, 3) := by decide +kernel
theorem dL_areWell_37 : decode cL_areWell 37 = .ok (.iconst 1, 1) := by decide +kernel
theorem dL_areWell_38 : decode cL_areWell 38 = .ok (.goto 4, 3) := by decide +kernel
theorem dL_areWell_41 : decode cL_areWell 41 = .ok (.iconst 0, 1) := by decide +kernel
theorem dL_areWell_42 : decode cL_areWell 42 = .ok (.iadd, 1) := by decide +kernel
theorem dL_areWell_43 : decode cL_areWell 43 = .ok (.istore_n 3, 1) := by decide +kernel
theorem dL_areWell_44 : decode cL_areWell 44 = .ok (.iload 5, 2) := by decide +kernel
theorem dL_areWell_46 : decode cL_areWell 46 = .ok (.aload_n 0, 1) := by decide +kernel
theorem dL_areWell_47 : decode cL_areWell 47 = .ok (.iload 4, 2) := by decide +kernel
theorem dL_areWell_49 : decode cL_areWell 49 = .ok (.iconst 2, 1) := by decide +kernel
theorem dL_areWell_50 : decode cL_areWell 50 = .ok (.invokevirtual 76, 3) := by decide +kernel
theorem dL_areWell_53 : decode cL_areWell 53 = .ok (.iconst 4, 1) := by decide +kernel
theorem dL_areWell_54 : decode cL_areWell 54 = .ok (.if_icmp .ne 7, 3) := by decide +kernel
theorem dL_areWell_57 : decode cL_areWell 57 = .ok (.iconst 1, 1) := by decide +kernel
theorem dL_areWell_58 : decode cL_areWell 58 = .ok (.goto 4, 3) := by decide +kernel
theorem dL_areWell_61 : decode cL_areWell 61 = .ok (.iconst 0, 1) := by decide +kernel
theorem dL_areWell_62 : decode cL_areWell 62 = .ok (.if_icmp .ne 14, 3) := by decide +kernel
theorem dL_areWell_65 : decode cL_areWell 65 = .ok (.aload_n 0, 1) := by decide +kernel
theorem dL_areWell_66 : decode cL_areWell 66 = .ok (.iload 4, 2) := by decide +kernel
theorem dL_areWell_68 : decode cL_areWell 68 = .ok (.iconst 2, 1) := by decide +kernel
theorem dL_areWell_69 : decode cL_areWell 69 = .ok (.invokevirtual 76, 3) := by decide +kernel
theorem dL_areWell_72 : decode cL_areWell 72 = .ok (.iconst 4, 1) := by decide +kernel
theorem dL_areWell_73 : decode cL_areWell 73 = .ok (.if_icmp .le 5, 3) := by decide +kernel
theorem dL_areWell_76 : decode cL_areWell 76 = .ok (.iconst 0, 1) := by decide +kernel
theorem dL_areWell_77 : decode cL_areWell 77 = .ok (.ireturn, 1) := by decide +kernel
theorem dL_areWell_78 : decode cL_areWell 78 = .ok (.iconst 0, 1) := by decide +kernel
theorem dL_areWell_79 : decode cL_areWell 79 = .ok (.istore 6, 2) := by decide +kernel
theorem dL_areWell_81 : decode cL_areWell 81 = .ok (.iconst 0, 1) := by decide +kernel
theorem dL_areWell_82 : decode cL_areWell 82 = .ok (.istore 7, 2) := by decide +kernel
theorem dL_areWell_84 : decode cL_areWell 84 = .ok (.iload 7, 2) := by decide +kernel
theorem dL_areWell_86 : decode cL_areWell 86 = .ok (.iconst 3, 1) := by decide +kernel
theorem dL_areWell_87 : decode cL_areWell 87 = .ok (.if_icmp .ge 61, 3) := by decide +kernel
theorem dL_areWell_90 : decode cL_areWell 90 = .ok (.aload_n 0, 1) := by decide +kernel
theorem dL_areWell_91 : decode cL_areWell 91 = .ok (.iload 4, 2) := by decide +kernel
theorem dL_areWell_93 : decode cL_areWell 93 = .ok (.iload 7, 2) := by decide +kernel
theorem dL_areWell_95 : decode cL_areWell 95 = .ok (.invokevirtual 117, 3) := by decide +kernel
theorem dL_areWell_98 : decode cL_areWell 98 = .ok (.lstore 8, 2) := by decide +kernel
theorem dL_areWell_100 : decode cL_areWell 100 = .ok (.iload 6, 2) := by decide +kernel
theorem dL_areWell_102 : decode cL_areWell 102 = .ok (.lload 8, 2) := by decide +kernel
theorem dL_areWell_104 : decode cL_areWell 104 = .ok (.invokestatic 121, 3) := by decide +kernel
theorem dL_areWell_107 : decode cL_areWell 107 = .ok (.iadd, 1) := by decide +kernel
theorem dL_areWell_108 : decode cL_areWell 108 = .ok (.istore 6, 2) := by decide +kernel
theorem dL_areWell_110 : decode cL_areWell 110 = .ok (.iconst 1, 1) := by decide +kernel
theorem dL_areWell_111 : decode cL_areWell 111 = .ok (.istore 10, 2) := by decide +kernel
theorem dL_areWell_113 : decode cL_areWell 113 = .ok (.iload 10, 2) := by decide +kernel
theorem dL_areWell_115 : decode cL_areWell 115 = .ok (.iconst 4, 1) := by decide +kernel
theorem dL_areWell_116 : decode cL_areWell 116 = .ok (.if_icmp .ge 26, 3) := by decide +kernel
theorem dL_areWell_119 : decode cL_areWell 119 = .ok (.lload 8, 2) := by decide +kernel
theorem dL_areWell_121 : decode cL_areWell 121 = .ok (.lload 8, 2) := by decide +kernel
theorem dL_areWell_123 : decode cL_areWell 123 = .ok (.iload 10, 2) := by decide +kernel
theorem dL_areWell_125 : decode cL_areWell 125 = .ok (.invokestatic 127, 3) := by decide +kernel
theorem dL_areWell_128 : decode cL_areWell 128 = .ok (.land, 1) := by decide +kernel
theorem dL_areWell_129 : decode cL_areWell 129 = .ok (.lconst 0, 1) := by decide +kernel
theorem dL_areWell_130 : decode cL_areWell 130 = .ok (.lcmp, 1) := by decide +kernel
theorem dL_areWell_131 : decode cL_areWell 131 = .ok (.ifCond .eq 5, 3) := by decide +kernel
theorem dL_areWell_134 : decode cL_areWell 134 = .ok (.iconst 0, 1) := by decide +kernel
theorem dL_areWell_135 : decode cL_areWell 135 = .ok (.ireturn, 1) := by decide +kernel
theorem dL_areWell_136 : decode cL_areWell 136 = .ok (.iinc 10 1, 3) := by decide +kernel
theorem dL_areWell_139 : decode cL_areWell 139 = .ok (.goto (-26), 3) := by decide +kernel
theorem dL_areWell_142 : decode cL_areWell 142 = .ok (.iinc 7 1, 3) := by decide +kernel
theorem dL_areWell_145 : decode cL_areWell 145 = .ok (.goto (-61), 3) := by decide +kernel
theorem dL_areWell_148 : decode cL_areWell 148 = .ok (.aload_n 0, 1) := by decide +kernel
theorem dL_areWell_149 : decode cL_areWell 149 = .ok (.iload 4, 2) := by decide +kernel
theorem dL_areWell_151 : decode cL_areWell 151 = .ok (.iconst 4, 1) := by decide +kernel
theorem dL_areWell_152 : decode cL_areWell 152 = .ok (.invokevirtual 76, 3) := by decide +kernel
theorem dL_areWell_155 : decode cL_areWell 155 = .ok (.iload 6, 2) := by decide +kernel
theorem dL_areWell_157 : decode cL_areWell 157 = .ok (.if_icmp .eq 5, 3) := by decide +kernel
theorem dL_areWell_160 : decode cL_areWell 160 = .ok (.iconst 0, 1) := by decide +kernel
theorem dL_areWell_161 : decode cL_areWell 161 = .ok (.ireturn, 1) := by decide +kernel
theorem dL_areWell_162 : decode cL_areWell 162 = .ok (.iload_n 2, 1) := by decide +kernel
theorem dL_areWell_163 : decode cL_areWell 163 = .ok (.iload 6, 2) := by decide +kernel
theorem dL_areWell_165 : decode cL_areWell 165 = .ok (.iadd, 1) := by decide +kernel
theorem dL_areWell_166 : decode cL_areWell 166 = .ok (.istore_n 2, 1) := by decide +kernel
theorem dL_areWell_167 : decode cL_areWell 167 = .ok (.iinc 4 1, 3) := by decide +kernel
theorem dL_areWell_170 : decode cL_areWell 170 = .ok (.goto (-163), 3) := by decide +kernel
theorem dL_areWell_173 : decode cL_areWell 173 = .ok (.aload_n 0, 1) := by decide +kernel
theorem dL_areWell_174 : decode cL_areWell 174 = .ok (.bipush 10, 2) := by decide +kernel
theorem dL_areWell_176 : decode cL_areWell 176 = .ok (.invokevirtual 42, 3) := by decide +kernel
theorem dL_areWell_179 : decode cL_areWell 179 = .ok (.istore 4, 2) := by decide +kernel
theorem dL_areWell_181 : decode cL_areWell 181 = .ok (.iload 4, 2) := by decide +kernel
theorem dL_areWell_183 : decode cL_areWell 183 = .ok (.bipush 40, 2) := by decide +kernel
theorem dL_areWell_185 : decode cL_areWell 185 = .ok (.aload_n 0, 1) := by decide +kernel
theorem dL_areWell_186 : decode cL_areWell 186 = .ok (.bipush 9, 2) := by decide +kernel
theorem dL_areWell_188 : decode cL_areWell 188 = .ok (.invokevirtual 42, 3) := by decide +kernel
theorem dL_areWell_191 : decode cL_areWell 191 = .ok (.invokestatic 58, 3) := by decide +kernel
theorem dL_areWell_194 : decode cL_areWell 194 = .ok (.if_icmp .ne 21, 3) := by decide +kernel
theorem dL_areWell_197 : decode cL_areWell 197 = .ok (.aload_n 0, 1) := by decide +kernel
theorem dL_areWell_198 : decode cL_areWell 198 = .ok (.iconst 3, 1) := by decide +kernel
theorem dL_areWell_199 : decode cL_areWell 199 = .ok (.invokevirtual 42, 3) := by decide +kernel
theorem dL_areWell_202 : decode cL_areWell 202 = .ok (.iload_n 2, 1) := by decide +kernel
theorem dL_areWell_203 : decode cL_areWell 203 = .ok (.if_icmp .ne 12, 3) := by decide +kernel
theorem dL_areWell_206 : decode cL_areWell 206 = .ok (.aload_n 0, 1) := by decide +kernel
theorem dL_areWell_207 : decode cL_areWell 207 = .ok (.iconst 1, 1) := by decide +kernel
theorem dL_areWell_208 : decode cL_areWell 208 = .ok (.invokevirtual 42, 3) := by decide +kernel
theorem dL_areWell_211 : decode cL_areWell 211 = .ok (.iload_n 3, 1) := by decide +kernel
theorem dL_areWell_212 : decode cL_areWell 212 = .ok (.if_icmp .eq 5, 3) := by decide +kernel
theorem dL_areWell_215 : decode cL_areWell 215 = .ok (.iconst 0, 1) := by decide +kernel
theorem dL_areWell_216 : decode cL_areWell 216 = .ok (.ireturn, 1) := by decide +kernel
theorem dL_areWell_217 : decode cL_areWell 217 = .ok (.iconst 1, 1) := by decide +kernel
theorem dL_areWell_218 : decode cL_areWell 218 = .ok (.istore 5, 2) := by decide +kernel
theorem dL_areWell_220 : decode cL_areWell 220 = .ok (.iload 5, 2) := by decide +kernel
theorem dL_areWell_222 : decode cL_areWell 222 = .ok (.iload 4, 2) := by decide +kernel
theorem dL_areWell_224 : decode cL_areWell 224 = .ok (.if_icmp .ge 38, 3) := by decide +kernel
theorem dL_areWell_227 : decode cL_areWell 227 = .ok (.aload_n 0, 1) := by decide +kernel
theorem dL_areWell_228 : decode cL_areWell 228 = .ok (.iload 5, 2) := by decide +kernel
theorem dL_areWell_230 : decode cL_areWell 230 = .ok (.invokevirtual 131, 3) := by decide +kernel
theorem dL_areWell_233 : decode cL_areWell 233 = .ok (.aload_n 0, 1) := by decide +kernel
theorem dL_areWell_234 : decode cL_areWell 234 = .ok (.iload 5, 2) := by decide +kernel
theorem dL_areWell_236 : decode cL_areWell 236 = .ok (.iconst 1, 1) := by decide +kernel
theorem dL_areWell_237 : decode cL_areWell 237 = .ok (.isub, 1) := by decide +kernel
theorem dL_areWell_238 : decode cL_areWell 238 = .ok (.invokevirtual 131, 3) := by decide +kernel
theorem dL_areWell_241 : decode cL_areWell 241 = .ok (.dcmp .g, 1) := by decide +kernel
theorem dL_areWell_242 : decode cL_areWell 242 = .ok (.ifCond .lt 12, 3) := by decide +kernel
theorem dL_areWell_245 : decode cL_areWell 245 = .ok (.aload_n 0, 1) := by decide +kernel
theorem dL_areWell_246 : decode cL_areWell 246 = .ok (.iload 5, 2) := by decide +kernel
theorem dL_areWell_248 : decode cL_areWell 248 = .ok (.invokevirtual 134, 3) := by decide +kernel
theorem dL_areWell_251 : decode cL_areWell 251 = .ok (.ifCond .ge 5, 3) := by decide +kernel
theorem dL_areWell_254 : decode cL_areWell 254 = .ok (.iconst 0, 1) := by decide +kernel
theorem dL_areWell_255 : decode cL_areWell 255 = .ok (.ireturn, 1) := by decide +kernel
theorem dL_areWell_256 : decode cL_areWell 256 = .ok (.iinc 5 1, 3) := by decide +kernel
theorem dL_areWell_259 : decode cL_areWell 259 = .ok (.goto (-39), 3) := by decide +kernel
theorem dL_areWell_262 : decode cL_areWell 262 = .ok (.aload_n 0, 1) := by decide +kernel
theorem dL_areWell_263 : decode cL_areWell 263 = .ok (.iconst 4, 1) := by decide +kernel
theorem dL_areWell_264 : decode cL_areWell 264 = .ok (.invokevirtual 42, 3) := by decide +kernel
theorem dL_areWell_267 : decode cL_areWell 267 = .ok (.istore 5, 2) := by decide +kernel
theorem dL_areWell_269 : decode cL_areWell 269 = .ok (.aload_n 0, 1) := by decide +kernel
theorem dL_areWell_270 : decode cL_areWell 270 = .ok (.iload 5, 2) := by decide +kernel
theorem dL_areWell_272 : decode cL_areWell 272 = .ok (.invokevirtual 137, 3) := by decide +kernel
theorem dL_areWell_275 : decode cL_areWell 275 = .ok (.astore 6, 2) := by decide +kernel
theorem dL_areWell_277 : decode cL_areWell 277 = .ok (.aload 6, 2) := by decide +kernel
theorem dL_areWell_279 : decode cL_areWell 279 = .ok (.invokevirtual 141, 3) := by decide +kernel
theorem dL_areWell_282 : decode cL_areWell 282 = .ok (.iload_n 1, 1) := by decide +kernel
theorem dL_areWell_283 : decode cL_areWell 283 = .ok (.if_icmp .eq 5, 3) := by decide +kernel
theorem dL_areWell_286 : decode cL_areWell 286 = .ok (.iconst 0, 1) := by decide +kernel
theorem dL_areWell_287 : decode cL_areWell 287 = .ok (.ireturn, 1) := by decide +kernel
theorem dL_areWell_288 : decode cL_areWell 288 = .ok (.iconst 0, 1) := by decide +kernel
theorem dL_areWell_289 : decode cL_areWell 289 = .ok (.istore 7, 2) := by decide +kernel
theorem dL_areWell_291 : decode cL_areWell 291 = .ok (.iload 7, 2) := by decide +kernel
theorem dL_areWell_293 : decode cL_areWell 293 = .ok (.iload_n 1, 1) := by decide +kernel
theorem dL_areWell_294 : decode cL_areWell 294 = .ok (.if_icmp .ge 85, 3) := by decide +kernel
theorem dL_areWell_297 : decode cL_areWell 297 = .ok (.aload_n 0, 1) := by decide +kernel
theorem dL_areWell_298 : decode cL_areWell 298 = .ok (.iload 7, 2) := by decide +kernel
theorem dL_areWell_300 : decode cL_areWell 300 = .ok (.aload_n 0, 1) := by decide +kernel
theorem dL_areWell_301 : decode cL_areWell 301 = .ok (.iconst 5, 1) := by decide +kernel
theorem dL_areWell_302 : decode cL_areWell 302 = .ok (.invokevirtual 42, 3) := by decide +kernel
theorem dL_areWell_305 : decode cL_areWell 305 = .ok (.iload 5, 2) := by decide +kernel
theorem dL_areWell_307 : decode cL_areWell 307 = .ok (.invokevirtual 146, 3) := by decide +kernel
theorem dL_areWell_310 : decode cL_areWell 310 = .ok (.ifCond .lt 7, 3) := by decide +kernel
theorem dL_areWell_313 : decode cL_areWell 313 = .ok (.iconst 1, 1) := by decide +kernel
theorem dL_areWell_314 : decode cL_areWell 314 = .ok (.goto 4, 3) := by decide +kernel
theorem dL_areWell_317 : decode cL_areWell 317 = .ok (.iconst 0, 1) := by decide +kernel
theorem dL_areWell_318 : decode cL_areWell 318 = .ok (.istore 8, 2) := by decide +kernel
theorem dL_areWell_320 : decode cL_areWell 320 = .ok (.aload 6, 2) := by decide +kernel
theorem dL_areWell_322 : decode cL_areWell 322 = .ok (.iload 7, 2) := by decide +kernel
theorem dL_areWell_324 : decode cL_areWell 324 = .ok (.invokevirtual 149, 3) := by decide +kernel
theorem dL_areWell_327 : decode cL_areWell 327 = .ok (.aload_n 0, 1) := by decide +kernel
theorem dL_areWell_328 : decode cL_areWell 328 = .ok (.iload 7, 2) := by decide +kernel
theorem dL_areWell_330 : decode cL_areWell 330 = .ok (.iconst 1, 1) := by decide +kernel
theorem dL_areWell_331 : decode cL_areWell 331 = .ok (.invokevirtual 76, 3) := by decide +kernel
theorem dL_areWell_334 : decode cL_areWell 334 = .ok (.iconst 1, 1) := by decide +kernel
theorem dL_areWell_335 : decode cL_areWell 335 = .ok (.if_icmp .ne 8, 3) := by decide +kernel
theorem dL_areWell_338 : decode cL_areWell 338 = .ok (.bipush 120, 2) := by decide +kernel
theorem dL_areWell_340 : decode cL_areWell 340 = .ok (.goto 15, 3) := by decide +kernel
theorem dL_areWell_343 : decode cL_areWell 343 = .ok (.iload 8, 2) := by decide +kernel
theorem dL_areWell_345 : decode cL_areWell 345 = .ok (.ifCond .eq 8, 3) := by decide +kernel
theorem dL_areWell_348 : decode cL_areWell 348 = .ok (.bipush 124, 2) := by decide +kernel
theorem dL_areWell_350 : decode cL_areWell 350 = .ok (.goto 5, 3) := by decide +kernel
theorem dL_areWell_353 : decode cL_areWell 353 = .ok (.bipush 46, 2) := by decide +kernel
theorem dL_areWell_355 : decode cL_areWell 355 = .ok (.if_icmp .ne 16, 3) := by decide +kernel
theorem dL_areWell_358 : decode cL_areWell 358 = .ok (.aload_n 0, 1) := by decide +kernel
theorem dL_areWell_359 : decode cL_areWell 359 = .ok (.iload 7, 2) := by decide +kernel
theorem dL_areWell_361 : decode cL_areWell 361 = .ok (.iconst 0, 1) := by decide +kernel
theorem dL_areWell_362 : decode cL_areWell 362 = .ok (.iload 5, 2) := by decide +kernel
theorem dL_areWell_364 : decode cL_areWell 364 = .ok (.invokevirtual 146, 3) := by decide +kernel
theorem dL_areWell_367 : decode cL_areWell 367 = .ok (.iconst 4, 1) := by decide +kernel
theorem dL_areWell_368 : decode cL_areWell 368 = .ok (.if_icmp .le 5, 3) := by decide +kernel
theorem dL_areWell_371 : decode cL_areWell 371 = .ok (.iconst 0, 1) := by decide +kernel
theorem dL_areWell_372 : decode cL_areWell 372 = .ok (.ireturn, 1) := by decide +kernel
theorem dL_areWell_373 : decode cL_areWell 373 = .ok (.iinc 7 1, 3) := by decide +kernel
theorem dL_areWell_376 : decode cL_areWell 376 = .ok (.goto (-85), 3) := by decide +kernel
theorem dL_areWell_379 : decode cL_areWell 379 = .ok (.iconst 1, 1) := by decide +kernel
theorem dL_areWell_380 : decode cL_areWell 380 = .ok (.ireturn, 1) := by decide +kernel
abbrev vwCl : List vw_C := [(RJ0, TJ0, 4), (RJ4, TJ4, 4), (RX0, TX0, 2), (RX1, TX1, 6), (RX2, TX2, 5), (RX3, TX3, 3), (RX4, TX4, 11), (RX5, TX5, 7)]

