theorem dX8_init_271 : decode cX8_init 271 = .ok (.aload_n 0, 1) := by decide +kernel
theorem dX8_init_272 : decode cX8_init 272 = .ok (.sipush 960, 3) := by decide +kernel
theorem dX8_init_275 : decode cX8_init 275 = .ok (.newarray .int, 2) := by decide +kernel
theorem dX8_init_277 : decode cX8_init 277 = .ok (.putfield 111, 3) := by decide +kernel
theorem dX8_init_280 : decode cX8_init 280 = .ok (.aload_n 0, 1) := by decide +kernel
theorem dX8_init_281 : decode cX8_init 281 = .ok (.sipush 960, 3) := by decide +kernel
theorem dX8_init_284 : decode cX8_init 284 = .ok (.newarray .int, 2) := by decide +kernel
theorem dX8_init_286 : decode cX8_init 286 = .ok (.putfield 114, 3) := by decide +kernel
theorem dX8_init_289 : decode cX8_init 289 = .ok (.aload_n 0, 1) := by decide +kernel
theorem dX8_init_290 : decode cX8_init 290 = .ok (.bipush 48, 2) := by decide +kernel
theorem dX8_init_292 : decode cX8_init 292 = .ok (.newarray .int, 2) := by decide +kernel
theorem dX8_init_294 : decode cX8_init 294 = .ok (.putfield 117, 3) := by decide +kernel
theorem dX8_init_297 : decode cX8_init 297 = .ok (.aload_n 0, 1) := by decide +kernel
theorem dX8_init_298 : decode cX8_init 298 = .ok (.iconst 3, 1) := by decide +kernel
theorem dX8_init_299 : decode cX8_init 299 = .ok (.newarray .int, 2) := by decide +kernel
theorem dX8_init_301 : decode cX8_init 301 = .ok (.putfield 120, 3) := by decide +kernel
theorem dX8_init_304 : decode cX8_init 304 = .ok (.aload_n 0, 1) := by decide +kernel
theorem dX8_init_305 : decode cX8_init 305 = .ok (.bipush 16, 2) := by decide +kernel
theorem dX8_init_307 : decode cX8_init 307 = .ok (.newarray .boolean, 2) := by decide +kernel
theorem dX8_init_309 : decode cX8_init 309 = .ok (.putfield 123, 3) := by decide +kernel
theorem dX8_init_312 : decode cX8_init 312 = .ok (.aload_n 0, 1) := by decide +kernel
theorem dX8_init_313 : decode cX8_init 313 = .ok (.bipush 16, 2) := by decide +kernel
theorem dX8_init_315 : decode cX8_init 315 = .ok (.newarray .int, 2) := by decide +kernel
theorem dX8_init_317 : decode cX8_init 317 = .ok (.putfield 126, 3) := by decide +kernel
theorem dX8_init_320 : decode cX8_init 320 = .ok (.aload_n 0, 1) := by decide +kernel
theorem dX8_init_321 : decode cX8_init 321 = .ok (.bipush 16, 2) := by decide +kernel
theorem dX8_init_323 : decode cX8_init 323 = .ok (.newarray .int, 2) := by decide +kernel
theorem dX8_init_325 : decode cX8_init 325 = .ok (.putfield 129, 3) := by decide +kernel
theorem dX8_init_328 : decode cX8_init 328 = .ok (.aload_n 0, 1) := by decide +kernel
theorem dX8_init_329 : decode cX8_init 329 = .ok (.sipush 150, 3) := by decide +kernel
theorem dX8_init_332 : decode cX8_init 332 = .ok (.newarray .int, 2) := by decide +kernel
theorem dX8_init_334 : decode cX8_init 334 = .ok (.putfield 132, 3) := by decide +kernel
theorem dX8_init_337 : decode cX8_init 337 = .ok (.aload_n 0, 1) := by decide +kernel
theorem dX8_init_338 : decode cX8_init 338 = .ok (.sipush 150, 3) := by decide +kernel
theorem dX8_init_341 : decode cX8_init 341 = .ok (.newarray .int, 2) := by decide +kernel
theorem dX8_init_343 : decode cX8_init 343 = .ok (.putfield 135, 3) := by decide +kernel
theorem dX8_init_346 : decode cX8_init 346 = .ok (.aload_n 0, 1) := by decide +kernel
theorem dX8_init_347 : decode cX8_init 347 = .ok (.sipush 150, 3) := by decide +kernel
theorem dX8_init_350 : decode cX8_init 350 = .ok (.newarray .int, 2) := by decide +kernel
theorem dX8_init_352 : decode cX8_init 352 = .ok (.putfield 138, 3) := by decide +kernel
theorem dX8_init_355 : decode cX8_init 355 = .ok (.aload_n 0, 1) := by decide +kernel
theorem dX8_init_356 : decode cX8_init 356 = .ok (.sipush 150, 3) := by decide +kernel
theorem dX8_init_359 : decode cX8_init 359 = .ok (.newarray .int, 2) := by decide +kernel
theorem dX8_init_361 : decode cX8_init 361 = .ok (.putfield 141, 3) := by decide +kernel
theorem dX8_init_364 : decode cX8_init 364 = .ok (.aload_n 0, 1) := by decide +kernel
theorem dX8_init_365 : decode cX8_init 365 = .ok (.sipush 960, 3) := by decide +kernel
theorem dX8_init_368 : decode cX8_init 368 = .ok (.newarray .int, 2) := by decide +kernel
theorem dX8_init_370 : decode cX8_init 370 = .ok (.putfield 144, 3) := by decide +kernel
theorem dX8_init_373 : decode cX8_init 373 = .ok (.aload_n 0, 1) := by decide +kernel
theorem dX8_init_374 : decode cX8_init 374 = .ok (.sipush 960, 3) := by decide +kernel
theorem dX8_init_377 : decode cX8_init 377 = .ok (.newarray .int, 2) := by decide +kernel
theorem dX8_init_379 : decode cX8_init 379 = .ok (.putfield 147, 3) := by decide +kernel
theorem dX8_init_382 : decode cX8_init 382 = .ok (.aload_n 0, 1) := by decide +kernel
theorem dX8_init_383 : decode cX8_init 383 = .ok (.sipush 960, 3) := by decide +kernel
theorem dX8_init_386 : decode cX8_init 386 = .ok (.newarray .int, 2) := by decide +kernel
theorem dX8_init_388 : decode cX8_init 388 = .ok (.putfield 150, 3) := by decide +kernel
theorem dX8_init_391 : decode cX8_init 391 = .ok (.return_, 1) := by decide +kernel
theorem dX8_feed_0 : decode cX8_feed 0 = .ok (.aload_n 0, 1) := by decide +kernel
theorem dX8_feed_1 : decode cX8_feed 1 = .ok (.iconst 0, 1) := by decide +kernel
theorem dX8_feed_2 : decode cX8_feed 2 = .ok (.putfield 153, 3) := by decide +kernel
theorem dX8_feed_5 : decode cX8_feed 5 = .ok (.aload_n 0, 1) := by decide +kernel
theorem dX8_feed_6 : decode cX8_feed 6 = .ok (.getfield 156, 3) := by decide +kernel
theorem dX8_feed_9 : decode cX8_feed 9 = .ok (.sipush 780, 3) := by decide +kernel
theorem dX8_feed_12 : decode cX8_feed 12 = .ok (.if_icmp .le 5, 3) := by decide +kernel
theorem dX8_feed_15 : decode cX8_feed 15 = .ok (.iconst (-1), 1) := by decide +kernel
theorem dX8_feed_16 : decode cX8_feed 16 = .ok (.ireturn, 1) := by decide +kernel
theorem dX8_feed_17 : decode cX8_feed 17 = .ok (.iconst 0, 1) := by decide +kernel
theorem dX8_feed_18 : decode cX8_feed 18 = .ok (.istore 6, 2) := by decide +kernel
theorem dX8_feed_20 : decode cX8_feed 20 = .ok (.iload 6, 2) := by decide +kernel
theorem dX8_feed_22 : decode cX8_feed 22 = .ok (.bipush 20, 2) := by decide +kernel
theorem dX8_feed_24 : decode cX8_feed 24 = .ok (.if_icmp .ge 86, 3) := by decide +kernel
theorem dX8_feed_27 : decode cX8_feed 27 = .ok (.iload 6, 2) := by decide +kernel
theorem dX8_feed_29 : decode cX8_feed 29 = .ok (.iconst 4, 1) := by decide +kernel
theorem dX8_feed_30 : decode cX8_feed 30 = .ok (.if_icmp .ge 7, 3) := by decide +kernel
theorem dX8_feed_33 : decode cX8_feed 33 = .ok (.iload_n 1, 1) := by decide +kernel
theorem dX8_feed_34 : decode cX8_feed 34 = .ok (.goto 39, 3) := by decide +kernel
theorem dX8_feed_37 : decode cX8_feed 37 = .ok (.iload 6, 2) := by decide +kernel
theorem dX8_feed_39 : decode cX8_feed 39 = .ok (.bipush 8, 2) := by decide +kernel
theorem dX8_feed_41 : decode cX8_feed 41 = .ok (.if_icmp .ge 7, 3) := by decide +kernel
theorem dX8_feed_44 : decode cX8_feed 44 = .ok (.iload_n 2, 1) := by decide +kernel
theorem dX8_feed_45 : decode cX8_feed 45 = .ok (.goto 28, 3) := by decide +kernel
theorem dX8_feed_48 : decode cX8_feed 48 = .ok (.iload 6, 2) := by decide +kernel
theorem dX8_feed_50 : decode cX8_feed 50 = .ok (.bipush 12, 2) := by decide +kernel
theorem dX8_feed_52 : decode cX8_feed 52 = .ok (.if_icmp .ge 7, 3) := by decide +kernel
theorem dX8_feed_55 : decode cX8_feed 55 = .ok (.iload_n 3, 1) := by decide +kernel
theorem dX8_feed_56 : decode cX8_feed 56 = .ok (.goto 17, 3) := by decide +kernel
theorem dX8_feed_59 : decode cX8_feed 59 = .ok (.iload 6, 2) := by decide +kernel
theorem dX8_feed_61 : decode cX8_feed 61 = .ok (.bipush 16, 2) := by decide +kernel
theorem dX8_feed_63 : decode cX8_feed 63 = .ok (.if_icmp .ge 8, 3) := by decide +kernel
theorem dX8_feed_66 : decode cX8_feed 66 = .ok (.iload 4, 2) := by decide +kernel
theorem dX8_feed_68 : decode cX8_feed 68 = .ok (.goto 5, 3) := by decide +kernel
theorem dX8_feed_71 : decode cX8_feed 71 = .ok (.iload 5, 2) := by decide +kernel
theorem dX8_feed_73 : decode cX8_feed 73 = .ok (.istore 7, 2) := by decide +kernel
theorem dX8_feed_75 : decode cX8_feed 75 = .ok (.aload_n 0, 1) := by decide +kernel
theorem dX8_feed_76 : decode cX8_feed 76 = .ok (.getfield 7, 3) := by decide +kernel
theorem dX8_feed_79 : decode cX8_feed 79 = .ok (.aload_n 0, 1) := by decide +kernel
theorem dX8_feed_80 : decode cX8_feed 80 = .ok (.getfield 156, 3) := by decide +kernel
theorem dX8_feed_83 : decode cX8_feed 83 = .ok (.iload 6, 2) := by decide +kernel
theorem dX8_feed_85 : decode cX8_feed 85 = .ok (.iadd, 1) := by decide +kernel
theorem dX8_feed_86 : decode cX8_feed 86 = .ok (.iload 7, 2) := by decide +kernel
theorem dX8_feed_88 : decode cX8_feed 88 = .ok (.bipush 24, 2) := by decide +kernel
theorem dX8_feed_90 : decode cX8_feed 90 = .ok (.bipush 8, 2) := by decide +kernel
theorem dX8_feed_92 : decode cX8_feed 92 = .ok (.iload 6, 2) := by decide +kernel
theorem dX8_feed_94 : decode cX8_feed 94 = .ok (.iconst 4, 1) := by decide +kernel
theorem dX8_feed_95 : decode cX8_feed 95 = .ok (.irem, 1) := by decide +kernel
theorem dX8_feed_96 : decode cX8_feed 96 = .ok (.imul, 1) := by decide +kernel
theorem dX8_feed_97 : decode cX8_feed 97 = .ok (.isub, 1) := by decide +kernel
theorem dX8_feed_98 : decode cX8_feed 98 = .ok (.ishr, 1) := by decide +kernel
theorem dX8_feed_99 : decode cX8_feed 99 = .ok (.sipush 255, 3) := by decide +kernel
theorem dX8_feed_102 : decode cX8_feed 102 = .ok (.iand, 1) := by decide +kernel
theorem dX8_feed_103 : decode cX8_feed 103 = .ok (.iastore, 1) := by decide +kernel
theorem dX8_feed_104 : decode cX8_feed 104 = .ok (.iinc 6 1, 3) := by decide +kernel
theorem dX8_feed_107 : decode cX8_feed 107 = .ok (.goto (-87), 3) := by decide +kernel
theorem dX8_feed_110 : decode cX8_feed 110 = .ok (.aload_n 0, 1) := by decide +kernel
theorem dX8_feed_111 : decode cX8_feed 111 = .ok (.dup, 1) := by decide +kernel
theorem dX8_feed_112 : decode cX8_feed 112 = .ok (.getfield 156, 3) := by decide +kernel
theorem dX8_feed_115 : decode cX8_feed 115 = .ok (.bipush 20, 2) := by decide +kernel
theorem dX8_feed_117 : decode cX8_feed 117 = .ok (.iadd, 1) := by decide +kernel
theorem dX8_feed_118 : decode cX8_feed 118 = .ok (.putfield 156, 3) := by decide +kernel
theorem dX8_feed_121 : decode cX8_feed 121 = .ok (.aload_n 0, 1) := by decide +kernel
theorem dX8_feed_122 : decode cX8_feed 122 = .ok (.getfield 156, 3) := by decide +kernel
theorem dX8_feed_125 : decode cX8_feed 125 = .ok (.ireturn, 1) := by decide +kernel
theorem dX8_here0_0 : decode cX8_here0 0 = .ok (.aload_n 0, 1) := by decide +kernel
theorem dX8_here0_1 : decode cX8_here0 1 = .ok (.getfield 159, 3) := by decide +kernel
theorem dX8_here0_4 : decode cX8_here0 4 = .ok (.aload_n 0, 1) := by decide +kernel
theorem dX8_here0_5 : decode cX8_here0 5 = .ok (.getfield 162, 3) := by decide +kernel
theorem dX8_here0_8 : decode cX8_here0 8 = .ok (.if_icmp .ge 15, 3) := by decide +kernel
theorem dX8_here0_11 : decode cX8_here0 11 = .ok (.aload_n 0, 1) := by decide +kernel
theorem dX8_here0_12 : decode cX8_here0 12 = .ok (.getfield 7, 3) := by decide +kernel
theorem dX8_here0_15 : decode cX8_here0 15 = .ok (.aload_n 0, 1) := by decide +kernel
theorem dX8_here0_16 : decode cX8_here0 16 = .ok (.getfield 159, 3) := by decide +kernel
theorem dX8_here0_19 : decode cX8_here0 19 = .ok (.iaload, 1) := by decide +kernel
theorem dX8_here0_20 : decode cX8_here0 20 = .ok (.goto 4, 3) := by decide +kernel
theorem dX8_here0_23 : decode cX8_here0 23 = .ok (.iconst (-1), 1) := by decide +kernel
theorem dX8_here0_24 : decode cX8_here0 24 = .ok (.ireturn, 1) := by decide +kernel
theorem dX8_isSmall_0 : decode cX8_isSmall 0 = .ok (.iload_n 0, 1) := by decide +kernel
theorem dX8_isSmall_1 : decode cX8_isSmall 1 = .ok (.bipush 97, 2) := by decide +kernel
theorem dX8_isSmall_3 : decode cX8_isSmall 3 = .ok (.if_icmp .lt 13, 3) := by decide +kernel
theorem dX8_isSmall_6 : decode cX8_isSmall 6 = .ok (.iload_n 0, 1) := by decide +kernel
theorem dX8_isSmall_7 : decode cX8_isSmall 7 = .ok (.bipush 122, 2) := by decide +kernel
theorem dX8_isSmall_9 : decode cX8_isSmall 9 = .ok (.if_icmp .gt 7, 3) := by decide +kernel
theorem dX8_isSmall_12 : decode cX8_isSmall 12 = .ok (.iconst 1, 1) := by decide +kernel
theorem dX8_isSmall_13 : decode cX8_isSmall 13 = .ok (.goto 4, 3) := by decide +kernel
theorem dX8_isSmall_16 : decode cX8_isSmall 16 = .ok (.iconst 0, 1) := by decide +kernel
theorem dX8_isSmall_17 : decode cX8_isSmall 17 = .ok (.ireturn, 1) := by decide +kernel
theorem dX8_isDigit_0 : decode cX8_isDigit 0 = .ok (.iload_n 0, 1) := by decide +kernel
theorem dX8_isDigit_1 : decode cX8_isDigit 1 = .ok (.bipush 48, 2) := by decide +kernel
theorem dX8_isDigit_3 : decode cX8_isDigit 3 = .ok (.if_icmp .lt 13, 3) := by decide +kernel
theorem dX8_isDigit_6 : decode cX8_isDigit 6 = .ok (.iload_n 0, 1) := by decide +kernel
theorem dX8_isDigit_7 : decode cX8_isDigit 7 = .ok (.bipush 57, 2) := by decide +kernel
theorem dX8_isDigit_9 : decode cX8_isDigit 9 = .ok (.if_icmp .gt 7, 3) := by decide +kernel
theorem dX8_isDigit_12 : decode cX8_isDigit 12 = .ok (.iconst 1, 1) := by decide +kernel
theorem dX8_isDigit_13 : decode cX8_isDigit 13 = .ok (.goto 4, 3) := by decide +kernel
theorem dX8_isDigit_16 : decode cX8_isDigit 16 = .ok (.iconst 0, 1) := by decide +kernel
theorem dX8_isDigit_17 : decode cX8_isDigit 17 = .ok (.ireturn, 1) := by decide +kernel
set_option maxRecDepth 20000 in
theorem ggX8_next_X8_here0 : GoodIn wsX8_next wsX8_here0 := goodIn_r _ [9, 1, 10, 11, 71, 72, 73, 74, 75, 76, 77, 78, 79, 80, 81, 82, 83, 84, 85, 86, 87, 88, 89, 90, 91, 92, 93, 94, 95, 96, 97, 98, 99, 100, 101, 102, 103, 104, 105, 106, 107, 108, 109, 110, 111, 112, 113, 114, 115, 116, 117, 118, 119, 120, 121, 122, 123, 124, 125, 126, 127, 128, 129, 130, 131, 132, 133, 134, 135, 136, 137, 138, 139, 140, 141, 142] (by decide +kernel) (by decide +kernel)
set_option maxRecDepth 20000 in
theorem gX8_next_X8_here0 : GoodIn wsX8_next (wsV RX8 165 RX8 yX8_here0 wsX8_here0) := goodIn_app (goodIn_of _ (by decide +kernel)) ggX8_next_X8_here0
set_option maxRecDepth 20000 in
theorem ggX8_next_X8_isSmall : GoodIn wsX8_next wsX8_isSmall := goodIn_r _ [14] (by decide +kernel) (by decide +kernel)
set_option maxRecDepth 20000 in
theorem gX8_next_X8_isSmall : GoodIn wsX8_next (va_wsS RX8 175 yX8_isSmall wsX8_isSmall) := goodIn_app (goodIn_of _ (by decide +kernel)) ggX8_next_X8_isSmall
set_option maxRecDepth 20000 in
theorem ggX8_next_X8_wordOf : GoodIn wsX8_next wsX8_wordOf := goodIn_r _ [18, 2, 1, 11, 19, 20, 21, 22, 23, 24, 25, 26, 27, 28, 29, 30, 31, 32, 33, 34, 35, 36, 37, 38, 39, 40, 41, 42, 43, 44, 45, 46, 47, 48, 49, 50, 51, 52, 53, 54, 55, 56, 57, 58, 59, 60, 61, 62, 63, 64, 65, 66, 67, 71, 72, 73, 74, 75, 76, 77, 78, 79, 80, 81, 82, 83, 84, 85, 86, 87, 88, 89, 90, 91, 92, 93, 94, 95, 96, 97, 98, 99, 100, 101, 102, 103, 104, 105, 106, 107, 108, 109, 110, 111, 112, 113, 114, 115, 116, 117, 118, 119, 120, 121, 122, 123, 124, 125, 126, 127, 128, 129, 130, 131, 132, 133, 134, 135, 136, 137, 138, 139, 140, 141, 142] (by decide +kernel) (by decide +kernel)
set_option maxRecDepth 20000 in
theorem gX8_next_X8_wordOf : GoodIn wsX8_next (wsV RX8 179 RX8 yX8_wordOf wsX8_wordOf) := goodIn_app (goodIn_of _ (by decide +kernel)) ggX8_next_X8_wordOf
set_option maxRecDepth 20000 in
theorem ggX8_next_X8_isDigit : GoodIn wsX8_next wsX8_isDigit := goodIn_r _ [70] (by decide +kernel) (by decide +kernel)
set_option maxRecDepth 20000 in
theorem gX8_next_X8_isDigit : GoodIn wsX8_next (va_wsS RX8 185 yX8_isDigit wsX8_isDigit) := goodIn_app (goodIn_of _ (by decide +kernel)) ggX8_next_X8_isDigit
theorem dX8_next_0 : decode cX8_next 0 = .ok (.aload_n 0, 1) := by decide +kernel
theorem dX8_next_1 : decode cX8_next 1 = .ok (.invokevirtual 165, 3) := by decide +kernel
theorem dX8_next_4 : decode cX8_next 4 = .ok (.bipush 10, 2) := by decide +kernel
theorem dX8_next_6 : decode cX8_next 6 = .ok (.if_icmp .eq 12, 3) := by decide +kernel
theorem dX8_next_9 : decode cX8_next 9 = .ok (.aload_n 0, 1) := by decide +kernel
theorem dX8_next_10 : decode cX8_next 10 = .ok (.invokevirtual 165, 3) := by decide +kernel
theorem dX8_next_13 : decode cX8_next 13 = .ok (.bipush 32, 2) := by decide +kernel
theorem dX8_next_15 : decode cX8_next 15 = .ok (.if_icmp .ne 16, 3) := by decide +kernel
theorem dX8_next_18 : decode cX8_next 18 = .ok (.aload_n 0, 1) := by decide +kernel
theorem dX8_next_19 : decode cX8_next 19 = .ok (.dup, 1) := by decide +kernel
theorem dX8_next_20 : decode cX8_next 20 = .ok (.getfield 159, 3) := by decide +kernel
theorem dX8_next_23 : decode cX8_next 23 = .ok (.iconst 1, 1) := by decide +kernel
theorem dX8_next_24 : decode cX8_next 24 = .ok (.iadd, 1) := by decide +kernel
theorem dX8_next_25 : decode cX8_next 25 = .ok (.putfield 159, 3) := by decide +kernel
theorem dX8_next_28 : decode cX8_next 28 = .ok (.goto (-28), 3) := by decide +kernel
theorem dX8_next_31 : decode cX8_next 31 = .ok (.aload_n 0, 1) := by decide +kernel
theorem dX8_next_32 : decode cX8_next 32 = .ok (.aload_n 0, 1) := by decide +kernel
theorem dX8_next_33 : decode cX8_next 33 = .ok (.getfield 159, 3) := by decide +kernel
theorem dX8_next_36 : decode cX8_next 36 = .ok (.putfield 169, 3) := by decide +kernel
theorem dX8_next_39 : decode cX8_next 39 = .ok (.aload_n 0, 1) := by decide +kernel
theorem dX8_next_40 : decode cX8_next 40 = .ok (.invokevirtual 165, 3) := by decide +kernel
theorem dX8_next_43 : decode cX8_next 43 = .ok (.istore_n 1, 1) := by decide +kernel
theorem dX8_next_44 : decode cX8_next 44 = .ok (.iload_n 1, 1) := by decide +kernel
theorem dX8_next_45 : decode cX8_next 45 = .ok (.iconst (-1), 1) := by decide +kernel
theorem dX8_next_46 : decode cX8_next 46 = .ok (.if_icmp .ne 11, 3) := by decide +kernel
theorem dX8_next_49 : decode cX8_next 49 = .ok (.aload_n 0, 1) := by decide +kernel
theorem dX8_next_50 : decode cX8_next 50 = .ok (.iconst 3, 1) := by decide +kernel
theorem dX8_next_51 : decode cX8_next 51 = .ok (.putfield 172, 3) := by decide +kernel
theorem dX8_next_54 : decode cX8_next 54 = .ok (.goto 162, 3) := by decide +kernel
theorem dX8_next_57 : decode cX8_next 57 = .ok (.iload_n 1, 1) := by decide +kernel
theorem dX8_next_58 : decode cX8_next 58 = .ok (.invokestatic 175, 3) := by decide +kernel
theorem dX8_next_61 : decode cX8_next 61 = .ok (.ifCond .eq 54, 3) := by decide +kernel
theorem dX8_next_64 : decode cX8_next 64 = .ok (.aload_n 0, 1) := by decide +kernel
theorem dX8_next_65 : decode cX8_next 65 = .ok (.invokevirtual 165, 3) := by decide +kernel
theorem dX8_next_68 : decode cX8_next 68 = .ok (.invokestatic 175, 3) := by decide +kernel
theorem dX8_next_71 : decode cX8_next 71 = .ok (.ifCond .eq 16, 3) := by decide +kernel
theorem dX8_next_74 : decode cX8_next 74 = .ok (.aload_n 0, 1) := by decide +kernel
theorem dX8_next_75 : decode cX8_next 75 = .ok (.dup, 1) := by decide +kernel
theorem dX8_next_76 : decode cX8_next 76 = .ok (.getfield 159, 3) := by decide +kernel
theorem dX8_next_79 : decode cX8_next 79 = .ok (.iconst 1, 1) := by decide +kernel
theorem dX8_next_80 : decode cX8_next 80 = .ok (.iadd, 1) := by decide +kernel
theorem dX8_next_81 : decode cX8_next 81 = .ok (.putfield 159, 3) := by decide +kernel
theorem dX8_next_84 : decode cX8_next 84 = .ok (.goto (-20), 3) := by decide +kernel
theorem dX8_next_87 : decode cX8_next 87 = .ok (.aload_n 0, 1) := by decide +kernel
theorem dX8_next_88 : decode cX8_next 88 = .ok (.aload_n 0, 1) := by decide +kernel
theorem dX8_next_89 : decode cX8_next 89 = .ok (.invokevirtual 179, 3) := by decide +kernel
theorem dX8_next_92 : decode cX8_next 92 = .ok (.putfield 182, 3) := by decide +kernel
theorem dX8_next_95 : decode cX8_next 95 = .ok (.aload_n 0, 1) := by decide +kernel
theorem dX8_next_96 : decode cX8_next 96 = .ok (.aload_n 0, 1) := by decide +kernel
theorem dX8_next_97 : decode cX8_next 97 = .ok (.getfield 182, 3) := by decide +kernel
theorem dX8_next_100 : decode cX8_next 100 = .ok (.iconst (-1), 1) := by decide +kernel
theorem dX8_next_101 : decode cX8_next 101 = .ok (.if_icmp .ne 7, 3) := by decide +kernel
theorem dX8_next_104 : decode cX8_next 104 = .ok (.iconst 4, 1) := by decide +kernel
theorem dX8_next_105 : decode cX8_next 105 = .ok (.goto 4, 3) := by decide +kernel
theorem dX8_next_108 : decode cX8_next 108 = .ok (.iconst 0, 1) := by decide +kernel
theorem dX8_next_109 : decode cX8_next 109 = .ok (.putfield 172, 3) := by decide +kernel
theorem dX8_next_112 : decode cX8_next 112 = .ok (.goto 104, 3) := by decide +kernel
theorem dX8_next_115 : decode cX8_next 115 = .ok (.iload_n 1, 1) := by decide +kernel
theorem dX8_next_116 : decode cX8_next 116 = .ok (.invokestatic 185, 3) := by decide +kernel
theorem dX8_next_119 : decode cX8_next 119 = .ok (.ifCond .eq 72, 3) := by decide +kernel
theorem dX8_next_122 : decode cX8_next 122 = .ok (.aload_n 0, 1) := by decide +kernel
theorem dX8_next_123 : decode cX8_next 123 = .ok (.iconst 1, 1) := by decide +kernel
theorem dX8_next_124 : decode cX8_next 124 = .ok (.putfield 172, 3) := by decide +kernel
theorem dX8_next_127 : decode cX8_next 127 = .ok (.aload_n 0, 1) := by decide +kernel
theorem dX8_next_128 : decode cX8_next 128 = .ok (.iconst 0, 1) := by decide +kernel
theorem dX8_next_129 : decode cX8_next 129 = .ok (.putfield 182, 3) := by decide +kernel
theorem dX8_next_132 : decode cX8_next 132 = .ok (.aload_n 0, 1) := by decide +kernel
theorem dX8_next_133 : decode cX8_next 133 = .ok (.invokevirtual 165, 3) := by decide +kernel
theorem dX8_next_136 : decode cX8_next 136 = .ok (.invokestatic 185, 3) := by decide +kernel
theorem dX8_next_139 : decode cX8_next 139 = .ok (.ifCond .eq 77, 3) := by decide +kernel
theorem dX8_next_142 : decode cX8_next 142 = .ok (.aload_n 0, 1) := by decide +kernel
theorem dX8_next_143 : decode cX8_next 143 = .ok (.aload_n 0, 1) := by decide +kernel
theorem dX8_next_144 : decode cX8_next 144 = .ok (.getfield 182, 3) := by decide +kernel
theorem dX8_next_147 : decode cX8_next 147 = .ok (.sipush 999, 3) := by decide +kernel
theorem dX8_next_150 : decode cX8_next 150 = .ok (.if_icmp .le 10, 3) := by decide +kernel
theorem dX8_next_153 : decode cX8_next 153 = .ok (.aload_n 0, 1) := by decide +kernel
theorem dX8_next_154 : decode cX8_next 154 = .ok (.getfield 182, 3) := by decide +kernel
theorem dX8_next_157 : decode cX8_next 157 = .ok (.goto 18, 3) := by decide +kernel
theorem dX8_next_160 : decode cX8_next 160 = .ok (.bipush 10, 2) := by decide +kernel
theorem dX8_next_162 : decode cX8_next 162 = .ok (.aload_n 0, 1) := by decide +kernel
theorem dX8_next_163 : decode cX8_next 163 = .ok (.getfield 182, 3) := by decide +kernel
theorem dX8_next_166 : decode cX8_next 166 = .ok (.imul, 1) := by decide +kernel
theorem dX8_next_167 : decode cX8_next 167 = .ok (.aload_n 0, 1) := by decide +kernel
theorem dX8_next_168 : decode cX8_next 168 = .ok (.invokevirtual 165, 3) := by decide +kernel
theorem dX8_next_171 : decode cX8_next 171 = .ok (.iadd, 1) := by decide +kernel
theorem dX8_next_172 : decode cX8_next 172 = .ok (.bipush 48, 2) := by decide +kernel
theorem dX8_next_174 : decode cX8_next 174 = .ok (.isub, 1) := by decide +kernel
theorem dX8_next_175 : decode cX8_next 175 = .ok (.putfield 182, 3) := by decide +kernel
theorem dX8_next_178 : decode cX8_next 178 = .ok (.aload_n 0, 1) := by decide +kernel
theorem dX8_next_179 : decode cX8_next 179 = .ok (.dup, 1) := by decide +kernel
theorem dX8_next_180 : decode cX8_next 180 = .ok (.getfield 159, 3) := by decide +kernel
theorem dX8_next_183 : decode cX8_next 183 = .ok (.iconst 1, 1) := by decide +kernel
theorem dX8_next_184 : decode cX8_next 184 = .ok (.iadd, 1) := by decide +kernel
theorem dX8_next_185 : decode cX8_next 185 = .ok (.putfield 159, 3) := by decide +kernel
theorem dX8_next_188 : decode cX8_next 188 = .ok (.goto (-56), 3) := by decide +kernel
theorem dX8_next_191 : decode cX8_next 191 = .ok (.aload_n 0, 1) := by decide +kernel
theorem dX8_next_192 : decode cX8_next 192 = .ok (.dup, 1) := by decide +kernel
theorem dX8_next_193 : decode cX8_next 193 = .ok (.getfield 159, 3) := by decide +kernel
theorem dX8_next_196 : decode cX8_next 196 = .ok (.iconst 1, 1) := by decide +kernel
theorem dX8_next_197 : decode cX8_next 197 = .ok (.iadd, 1) := by decide +kernel
theorem dX8_next_198 : decode cX8_next 198 = .ok (.putfield 159, 3) := by decide +kernel
theorem dX8_next_201 : decode cX8_next 201 = .ok (.aload_n 0, 1) := by decide +kernel
theorem dX8_next_202 : decode cX8_next 202 = .ok (.iload_n 1, 1) := by decide +kernel
theorem dX8_next_203 : decode cX8_next 203 = .ok (.bipush 59, 2) := by decide +kernel
theorem dX8_next_205 : decode cX8_next 205 = .ok (.if_icmp .ne 7, 3) := by decide +kernel
theorem dX8_next_208 : decode cX8_next 208 = .ok (.iconst 2, 1) := by decide +kernel
theorem dX8_next_209 : decode cX8_next 209 = .ok (.goto 4, 3) := by decide +kernel
theorem dX8_next_212 : decode cX8_next 212 = .ok (.iconst 4, 1) := by decide +kernel
theorem dX8_next_213 : decode cX8_next 213 = .ok (.putfield 172, 3) := by decide +kernel
theorem dX8_next_216 : decode cX8_next 216 = .ok (.return_, 1) := by decide +kernel
set_option maxRecDepth 20000 in
theorem ggX8_wordOf_J0_length_8abf5 : GoodIn wsX8_wordOf wsJ0_length_8abf5 := goodIn_r _ [8, 9, 10, 11, 12, 7, 13, 14, 15] (by decide +kernel) (by decide +kernel)
set_option maxRecDepth 20000 in
theorem gX8_wordOf_J0_length_8abf5 : GoodIn wsX8_wordOf (wsV RX8 190 RJ0 yJ0_length_8abf5 wsJ0_length_8abf5) := goodIn_app (goodIn_of _ (by decide +kernel)) ggX8_wordOf_J0_length_8abf5
set_option maxRecDepth 20000 in
theorem ggX8_wordOf_J0_charAt_5068e : GoodIn wsX8_wordOf wsJ0_charAt_5068e := goodIn_r _ [19, 9, 20, 21, 22, 7, 23, 14, 15, 24, 25, 26, 27, 28, 29, 30, 31, 32, 33, 34, 35, 36, 37, 38, 39, 40, 41, 42, 43, 44, 45, 46, 47, 48, 49, 50, 51, 52] (by decide +kernel) (by decide +kernel)
set_option maxRecDepth 20000 in
theorem gX8_wordOf_J0_charAt_5068e : GoodIn wsX8_wordOf (wsV RX8 195 RJ0 yJ0_charAt_5068e wsJ0_charAt_5068e) := goodIn_app (goodIn_of _ (by decide +kernel)) ggX8_wordOf_J0_charAt_5068e
theorem dX8_wordOf_0 : decode cX8_wordOf 0 = .ok (.iconst 0, 1) := by decide +kernel
theorem dX8_wordOf_1 : decode cX8_wordOf 1 = .ok (.istore_n 1, 1) := by decide +kernel
theorem dX8_wordOf_2 : decode cX8_wordOf 2 = .ok (.iconst 0, 1) := by decide +kernel
theorem dX8_wordOf_3 : decode cX8_wordOf 3 = .ok (.istore_n 2, 1) := by decide +kernel
theorem dX8_wordOf_4 : decode cX8_wordOf 4 = .ok (.iload_n 2, 1) := by decide +kernel
theorem dX8_wordOf_5 : decode cX8_wordOf 5 = .ok (.ldc 188, 2) := by decide +kernel
theorem dX8_wordOf_7 : decode cX8_wordOf 7 = .ok (.invokevirtual 190, 3) := by decide +kernel
theorem dX8_wordOf_10 : decode cX8_wordOf 10 = .ok (.if_icmp .ge 113, 3) := by decide +kernel
theorem dX8_wordOf_13 : decode cX8_wordOf 13 = .ok (.iconst 0, 1) := by decide +kernel
theorem dX8_wordOf_14 : decode cX8_wordOf 14 = .ok (.istore_n 3, 1) := by decide +kernel
theorem dX8_wordOf_15 : decode cX8_wordOf 15 = .ok (.ldc 188, 2) := by decide +kernel
theorem dX8_wordOf_17 : decode cX8_wordOf 17 = .ok (.iload_n 2, 1) := by decide +kernel
theorem dX8_wordOf_18 : decode cX8_wordOf 18 = .ok (.iload_n 3, 1) := by decide +kernel
theorem dX8_wordOf_19 : decode cX8_wordOf 19 = .ok (.iadd, 1) := by decide +kernel
theorem dX8_wordOf_20 : decode cX8_wordOf 20 = .ok (.invokevirtual 195, 3) := by decide +kernel
theorem dX8_wordOf_23 : decode cX8_wordOf 23 = .ok (.bipush 32, 2) := by decide +kernel
theorem dX8_wordOf_25 : decode cX8_wordOf 25 = .ok (.if_icmp .eq 44, 3) := by decide +kernel
theorem dX8_wordOf_28 : decode cX8_wordOf 28 = .ok (.aload_n 0, 1) := by decide +kernel
theorem dX8_wordOf_29 : decode cX8_wordOf 29 = .ok (.getfield 169, 3) := by decide +kernel
theorem dX8_wordOf_32 : decode cX8_wordOf 32 = .ok (.iload_n 3, 1) := by decide +kernel
theorem dX8_wordOf_33 : decode cX8_wordOf 33 = .ok (.iadd, 1) := by decide +kernel
theorem dX8_wordOf_34 : decode cX8_wordOf 34 = .ok (.aload_n 0, 1) := by decide +kernel
theorem dX8_wordOf_35 : decode cX8_wordOf 35 = .ok (.getfield 159, 3) := by decide +kernel
theorem dX8_wordOf_38 : decode cX8_wordOf 38 = .ok (.if_icmp .ge 31, 3) := by decide +kernel
theorem dX8_wordOf_41 : decode cX8_wordOf 41 = .ok (.aload_n 0, 1) := by decide +kernel
theorem dX8_wordOf_42 : decode cX8_wordOf 42 = .ok (.getfield 7, 3) := by decide +kernel
theorem dX8_wordOf_45 : decode cX8_wordOf 45 = .ok (.aload_n 0, 1) := by decide +kernel
theorem dX8_wordOf_46 : decode cX8_wordOf 46 = .ok (.getfield 169, 3) := by decide +kernel
theorem dX8_wordOf_49 : decode cX8_wordOf 49 = .ok (.iload_n 3, 1) := by decide +kernel
theorem dX8_wordOf_50 : decode cX8_wordOf 50 = .ok (.iadd, 1) := by decide +kernel
theorem dX8_wordOf_51 : decode cX8_wordOf 51 = .ok (.iaload, 1) := by decide +kernel
theorem dX8_wordOf_52 : decode cX8_wordOf 52 = .ok (.ldc 188, 2) := by decide +kernel
theorem dX8_wordOf_54 : decode cX8_wordOf 54 = .ok (.iload_n 2, 1) := by decide +kernel
theorem dX8_wordOf_55 : decode cX8_wordOf 55 = .ok (.iload_n 3, 1) := by decide +kernel
theorem dX8_wordOf_56 : decode cX8_wordOf 56 = .ok (.iadd, 1) := by decide +kernel
theorem dX8_wordOf_57 : decode cX8_wordOf 57 = .ok (.invokevirtual 195, 3) := by decide +kernel
theorem dX8_wordOf_60 : decode cX8_wordOf 60 = .ok (.if_icmp .ne 9, 3) := by decide +kernel
theorem dX8_wordOf_63 : decode cX8_wordOf 63 = .ok (.iinc 3 1, 3) := by decide +kernel
theorem dX8_wordOf_66 : decode cX8_wordOf 66 = .ok (.goto (-51), 3) := by decide +kernel
theorem dX8_wordOf_69 : decode cX8_wordOf 69 = .ok (.ldc 188, 2) := by decide +kernel
theorem dX8_wordOf_71 : decode cX8_wordOf 71 = .ok (.iload_n 2, 1) := by decide +kernel
theorem dX8_wordOf_72 : decode cX8_wordOf 72 = .ok (.iload_n 3, 1) := by decide +kernel
theorem dX8_wordOf_73 : decode cX8_wordOf 73 = .ok (.iadd, 1) := by decide +kernel
theorem dX8_wordOf_74 : decode cX8_wordOf 74 = .ok (.invokevirtual 195, 3) := by decide +kernel
theorem dX8_wordOf_77 : decode cX8_wordOf 77 = .ok (.bipush 32, 2) := by decide +kernel
theorem dX8_wordOf_79 : decode cX8_wordOf 79 = .ok (.if_icmp .ne 18, 3) := by decide +kernel
theorem dX8_wordOf_82 : decode cX8_wordOf 82 = .ok (.aload_n 0, 1) := by decide +kernel
theorem dX8_wordOf_83 : decode cX8_wordOf 83 = .ok (.getfield 169, 3) := by decide +kernel
theorem dX8_wordOf_86 : decode cX8_wordOf 86 = .ok (.iload_n 3, 1) := by decide +kernel
theorem dX8_wordOf_87 : decode cX8_wordOf 87 = .ok (.iadd, 1) := by decide +kernel
theorem dX8_wordOf_88 : decode cX8_wordOf 88 = .ok (.aload_n 0, 1) := by decide +kernel
theorem dX8_wordOf_89 : decode cX8_wordOf 89 = .ok (.getfield 159, 3) := by decide +kernel
theorem dX8_wordOf_92 : decode cX8_wordOf 92 = .ok (.if_icmp .ne 5, 3) := by decide +kernel
theorem dX8_wordOf_95 : decode cX8_wordOf 95 = .ok (.iload_n 1, 1) := by decide +kernel
theorem dX8_wordOf_96 : decode cX8_wordOf 96 = .ok (.ireturn, 1) := by decide +kernel
theorem dX8_wordOf_97 : decode cX8_wordOf 97 = .ok (.ldc 188, 2) := by decide +kernel
theorem dX8_wordOf_99 : decode cX8_wordOf 99 = .ok (.iload_n 2, 1) := by decide +kernel
theorem dX8_wordOf_100 : decode cX8_wordOf 100 = .ok (.invokevirtual 195, 3) := by decide +kernel
theorem dX8_wordOf_103 : decode cX8_wordOf 103 = .ok (.bipush 32, 2) := by decide +kernel
theorem dX8_wordOf_105 : decode cX8_wordOf 105 = .ok (.if_icmp .eq 9, 3) := by decide +kernel
theorem dX8_wordOf_108 : decode cX8_wordOf 108 = .ok (.iinc 2 1, 3) := by decide +kernel
theorem dX8_wordOf_111 : decode cX8_wordOf 111 = .ok (.goto (-14), 3) := by decide +kernel
theorem dX8_wordOf_114 : decode cX8_wordOf 114 = .ok (.iinc 2 1, 3) := by decide +kernel
theorem dX8_wordOf_117 : decode cX8_wordOf 117 = .ok (.iinc 1 1, 3) := by decide +kernel
theorem dX8_wordOf_120 : decode cX8_wordOf 120 = .ok (.goto (-116), 3) := by decide +kernel
theorem dX8_wordOf_123 : decode cX8_wordOf 123 = .ok (.iconst (-1), 1) := by decide +kernel
theorem dX8_wordOf_124 : decode cX8_wordOf 124 = .ok (.ireturn, 1) := by decide +kernel
theorem dX8_wrong_0 : decode cX8_wrong 0 = .ok (.aload_n 0, 1) := by decide +kernel
theorem dX8_wrong_1 : decode cX8_wrong 1 = .ok (.getfield 199, 3) := by decide +kernel
theorem dX8_wrong_4 : decode cX8_wrong 4 = .ok (.ifCond .eq 4, 3) := by decide +kernel
theorem dX8_wrong_7 : decode cX8_wrong 7 = .ok (.return_, 1) := by decide +kernel
theorem dX8_wrong_8 : decode cX8_wrong 8 = .ok (.aload_n 0, 1) := by decide +kernel
theorem dX8_wrong_9 : decode cX8_wrong 9 = .ok (.iload_n 1, 1) := by decide +kernel
theorem dX8_wrong_10 : decode cX8_wrong 10 = .ok (.putfield 199, 3) := by decide +kernel
theorem dX8_wrong_13 : decode cX8_wrong 13 = .ok (.aload_n 0, 1) := by decide +kernel
theorem dX8_wrong_14 : decode cX8_wrong 14 = .ok (.iload_n 2, 1) := by decide +kernel
theorem dX8_wrong_15 : decode cX8_wrong 15 = .ok (.putfield 202, 3) := by decide +kernel
theorem dX8_wrong_18 : decode cX8_wrong 18 = .ok (.return_, 1) := by decide +kernel
set_option maxRecDepth 20000 in
theorem ggX8_number_X8_wrong : GoodIn wsX8_number wsX8_wrong := goodIn_r _ [9, 1, 10, 81, 82, 83, 84, 85, 86, 87, 88, 89, 90, 91, 92, 93, 94, 95, 96, 97, 98, 99, 100, 101, 102, 103, 104, 105, 106, 107, 108, 109, 110, 111, 112, 113, 114, 115, 116, 117, 118, 119, 120, 121, 122, 123, 124, 125, 126, 127, 128, 129, 130, 131, 132, 133, 134, 135, 136, 137, 138, 139, 140, 141, 142, 143, 144, 145, 146, 147, 148, 149, 150, 151, 152] (by decide +kernel) (by decide +kernel)
set_option maxRecDepth 20000 in
theorem gX8_number_X8_wrong : GoodIn wsX8_number (wsV RX8 205 RX8 yX8_wrong wsX8_wrong) := goodIn_app (goodIn_of _ (by decide +kernel)) ggX8_number_X8_wrong
set_option maxRecDepth 20000 in
theorem ggX8_number_X8_next : GoodIn wsX8_number wsX8_next := goodIn_r _ [14, 15, 3, 2, 4, 16, 17, 18, 8, 19, 20, 21, 22, 23, 24, 25, 26, 27, 28, 29, 30, 31, 32, 33, 34, 35, 36, 37, 38, 39, 40, 41, 42, 43, 44, 45, 46, 47, 48, 49, 50, 51, 52, 53, 54, 55, 56, 57, 58, 59, 60, 61, 62, 63, 64, 65, 66, 67, 68, 69, 70, 71, 72, 73, 74, 75, 76, 77, 78, 79, 80, 81, 82, 83, 84, 85, 86, 87, 88, 89, 90, 91, 92, 93, 94, 95, 96, 97, 98, 99, 100, 101, 102, 103, 104, 105, 106, 107, 108, 109, 110, 111, 112, 113, 114, 115, 116, 117, 118, 119, 120, 121, 122, 123, 124, 125, 126, 127, 128, 129, 130, 131, 132, 133, 134, 135, 136, 137, 138, 139, 140, 141, 142, 143, 144, 145, 146, 147, 148, 149, 150, 151, 152] (by decide +kernel) (by decide +kernel)
set_option maxRecDepth 20000 in
theorem gX8_number_X8_next : GoodIn wsX8_number (wsV RX8 209 RX8 yX8_next wsX8_next) := goodIn_app (goodIn_of _ (by decide +kernel)) ggX8_number_X8_next
theorem dX8_number_0 : decode cX8_number 0 = .ok (.aload_n 0, 1) := by decide +kernel
theorem dX8_number_1 : decode cX8_number 1 = .ok (.getfield 199, 3) := by decide +kernel
theorem dX8_number_4 : decode cX8_number 4 = .ok (.ifCond .eq 5, 3) := by decide +kernel
theorem dX8_number_7 : decode cX8_number 7 = .ok (.iconst 0, 1) := by decide +kernel
theorem dX8_number_8 : decode cX8_number 8 = .ok (.ireturn, 1) := by decide +kernel
theorem dX8_number_9 : decode cX8_number 9 = .ok (.aload_n 0, 1) := by decide +kernel
theorem dX8_number_10 : decode cX8_number 10 = .ok (.getfield 172, 3) := by decide +kernel
theorem dX8_number_13 : decode cX8_number 13 = .ok (.iconst 1, 1) := by decide +kernel
theorem dX8_number_14 : decode cX8_number 14 = .ok (.if_icmp .eq 15, 3) := by decide +kernel
theorem dX8_number_17 : decode cX8_number 17 = .ok (.aload_n 0, 1) := by decide +kernel
theorem dX8_number_18 : decode cX8_number 18 = .ok (.iconst 1, 1) := by decide +kernel
theorem dX8_number_19 : decode cX8_number 19 = .ok (.aload_n 0, 1) := by decide +kernel
theorem dX8_number_20 : decode cX8_number 20 = .ok (.getfield 169, 3) := by decide +kernel
theorem dX8_number_23 : decode cX8_number 23 = .ok (.invokevirtual 205, 3) := by decide +kernel
theorem dX8_number_26 : decode cX8_number 26 = .ok (.goto 20, 3) := by decide +kernel
theorem dX8_number_29 : decode cX8_number 29 = .ok (.aload_n 0, 1) := by decide +kernel
theorem dX8_number_30 : decode cX8_number 30 = .ok (.getfield 182, 3) := by decide +kernel
theorem dX8_number_33 : decode cX8_number 33 = .ok (.iload_n 1, 1) := by decide +kernel
theorem dX8_number_34 : decode cX8_number 34 = .ok (.if_icmp .le 12, 3) := by decide +kernel
theorem dX8_number_37 : decode cX8_number 37 = .ok (.aload_n 0, 1) := by decide +kernel
theorem dX8_number_38 : decode cX8_number 38 = .ok (.iconst 2, 1) := by decide +kernel
theorem dX8_number_39 : decode cX8_number 39 = .ok (.aload_n 0, 1) := by decide +kernel
theorem dX8_number_40 : decode cX8_number 40 = .ok (.getfield 169, 3) := by decide +kernel
theorem dX8_number_43 : decode cX8_number 43 = .ok (.invokevirtual 205, 3) := by decide +kernel
theorem dX8_number_46 : decode cX8_number 46 = .ok (.aload_n 0, 1) := by decide +kernel
theorem dX8_number_47 : decode cX8_number 47 = .ok (.getfield 199, 3) := by decide +kernel
theorem dX8_number_50 : decode cX8_number 50 = .ok (.ifCond .eq 5, 3) := by decide +kernel
theorem dX8_number_53 : decode cX8_number 53 = .ok (.iconst 0, 1) := by decide +kernel
theorem dX8_number_54 : decode cX8_number 54 = .ok (.ireturn, 1) := by decide +kernel
theorem dX8_number_55 : decode cX8_number 55 = .ok (.aload_n 0, 1) := by decide +kernel
theorem dX8_number_56 : decode cX8_number 56 = .ok (.getfield 182, 3) := by decide +kernel
theorem dX8_number_59 : decode cX8_number 59 = .ok (.istore_n 2, 1) := by decide +kernel
theorem dX8_number_60 : decode cX8_number 60 = .ok (.aload_n 0, 1) := by decide +kernel
theorem dX8_number_61 : decode cX8_number 61 = .ok (.invokevirtual 209, 3) := by decide +kernel
theorem dX8_number_64 : decode cX8_number 64 = .ok (.iload_n 2, 1) := by decide +kernel
theorem dX8_number_65 : decode cX8_number 65 = .ok (.ireturn, 1) := by decide +kernel
set_option maxRecDepth 20000 in
theorem ggX8_parses_X8_next : GoodIn wsX8_parses wsX8_next := goodIn_r _ [11, 1, 12, 6, 13, 14, 15, 16, 10, 17, 18, 19, 20, 21, 22, 23, 24, 25, 26, 27, 28, 29, 30, 31, 32, 33, 34, 35, 36, 37, 38, 39, 40, 41, 42, 43, 44, 45, 46, 47, 48, 49, 50, 51, 52, 53, 54, 55, 56, 57, 58, 59, 60, 61, 62, 63, 64, 65, 66, 67, 68, 69, 70, 71, 72, 73, 74, 75, 76, 77, 78, 91, 92, 93, 94, 95, 96, 97, 98, 99, 100, 101, 102, 103, 104, 105, 106, 107, 108, 109, 110, 111, 112, 113, 114, 115, 116, 117, 118, 119, 120, 121, 122, 123, 124, 125, 126, 127, 128, 129, 130, 131, 132, 133, 134, 135, 136, 137, 138, 139, 140, 141, 142, 143, 144, 145, 146, 147, 148, 149, 150, 151, 152, 153, 154, 155, 156, 157, 158, 159, 160, 161, 162] (by decide +kernel) (by decide +kernel)
set_option maxRecDepth 20000 in
theorem gX8_parses_X8_next : GoodIn wsX8_parses (wsV RX8 209 RX8 yX8_next wsX8_next) := goodIn_app (goodIn_of _ (by decide +kernel)) ggX8_parses_X8_next
set_option maxRecDepth 20000 in
theorem ggX8_parses_X8_line : GoodIn wsX8_parses wsX8_line := goodIn_r _ [82, 12, 6, 13, 2, 5, 4, 83, 84, 85, 10, 86, 3, 7, 8, 9, 11, 1, 14, 15, 16, 17, 18, 19, 20, 21, 22, 23, 24, 25, 26, 27, 28, 29, 30, 31, 32, 33, 34, 35, 36, 37, 38, 39, 40, 41, 42, 43, 44, 45, 46, 47, 48, 49, 50, 51, 52, 53, 54, 55, 56, 57, 58, 59, 60, 61, 62, 63, 64, 65, 66, 67, 68, 69, 70, 71, 72, 73, 74, 75, 76, 77, 78, 87, 88, 89, 90, 91, 92, 93, 94, 95, 96, 97, 98, 99, 100, 101, 102, 103, 104, 105, 106, 107, 108, 109, 110, 111, 112, 113, 114, 115, 116, 117, 118, 119, 120, 121, 122, 123, 124, 125, 126, 127, 128, 129, 130, 131, 132, 133, 134, 135, 136, 137, 138, 139, 140, 141, 142, 143, 144, 145, 146, 147, 148, 149, 150, 151, 152, 153, 154, 155, 156, 157, 158, 159, 160, 161, 162] (by decide +kernel) (by decide +kernel)
set_option maxRecDepth 20000 in
theorem gX8_parses_X8_line : GoodIn wsX8_parses (wsV RX8 215 RX8 yX8_line wsX8_line) := goodIn_app (goodIn_of _ (by decide +kernel)) ggX8_parses_X8_line
theorem dX8_parses_0 : decode cX8_parses 0 = .ok (.aload_n 0, 1) := by decide +kernel
theorem dX8_parses_1 : decode cX8_parses 1 = .ok (.iconst 0, 1) := by decide +kernel
theorem dX8_parses_2 : decode cX8_parses 2 = .ok (.putfield 159, 3) := by decide +kernel
theorem dX8_parses_5 : decode cX8_parses 5 = .ok (.aload_n 0, 1) := by decide +kernel
theorem dX8_parses_6 : decode cX8_parses 6 = .ok (.iconst 0, 1) := by decide +kernel
theorem dX8_parses_7 : decode cX8_parses 7 = .ok (.putfield 199, 3) := by decide +kernel
theorem dX8_parses_10 : decode cX8_parses 10 = .ok (.aload_n 0, 1) := by decide +kernel
theorem dX8_parses_11 : decode cX8_parses 11 = .ok (.iconst (-1), 1) := by decide +kernel
theorem dX8_parses_12 : decode cX8_parses 12 = .ok (.putfield 202, 3) := by decide +kernel
theorem dX8_parses_15 : decode cX8_parses 15 = .ok (.aload_n 0, 1) := by decide +kernel
theorem dX8_parses_16 : decode cX8_parses 16 = .ok (.iconst 0, 1) := by decide +kernel
theorem dX8_parses_17 : decode cX8_parses 17 = .ok (.putfield 212, 3) := by decide +kernel
theorem dX8_parses_20 : decode cX8_parses 20 = .ok (.iconst 0, 1) := by decide +kernel
theorem dX8_parses_21 : decode cX8_parses 21 = .ok (.istore_n 1, 1) := by decide +kernel
theorem dX8_parses_22 : decode cX8_parses 22 = .ok (.iload_n 1, 1) := by decide +kernel
theorem dX8_parses_23 : decode cX8_parses 23 = .ok (.bipush 8, 2) := by decide +kernel
theorem dX8_parses_25 : decode cX8_parses 25 = .ok (.if_icmp .ge 19, 3) := by decide +kernel
theorem dX8_parses_28 : decode cX8_parses 28 = .ok (.aload_n 0, 1) := by decide +kernel
theorem dX8_parses_29 : decode cX8_parses 29 = .ok (.getfield 22, 3) := by decide +kernel
theorem dX8_parses_32 : decode cX8_parses 32 = .ok (.bipush 80, 2) := by decide +kernel
theorem dX8_parses_34 : decode cX8_parses 34 = .ok (.iload_n 1, 1) := by decide +kernel
theorem dX8_parses_35 : decode cX8_parses 35 = .ok (.iadd, 1) := by decide +kernel
theorem dX8_parses_36 : decode cX8_parses 36 = .ok (.iconst (-1), 1) := by decide +kernel
theorem dX8_parses_37 : decode cX8_parses 37 = .ok (.iastore, 1) := by decide +kernel
theorem dX8_parses_38 : decode cX8_parses 38 = .ok (.iinc 1 1, 3) := by decide +kernel
theorem dX8_parses_41 : decode cX8_parses 41 = .ok (.goto (-19), 3) := by decide +kernel
theorem dX8_parses_44 : decode cX8_parses 44 = .ok (.aload_n 0, 1) := by decide +kernel
theorem dX8_parses_45 : decode cX8_parses 45 = .ok (.invokevirtual 209, 3) := by decide +kernel
theorem dX8_parses_48 : decode cX8_parses 48 = .ok (.aload_n 0, 1) := by decide +kernel
theorem dX8_parses_49 : decode cX8_parses 49 = .ok (.getfield 199, 3) := by decide +kernel
theorem dX8_parses_52 : decode cX8_parses 52 = .ok (.ifCond .ne 18, 3) := by decide +kernel
theorem dX8_parses_55 : decode cX8_parses 55 = .ok (.aload_n 0, 1) := by decide +kernel
theorem dX8_parses_56 : decode cX8_parses 56 = .ok (.getfield 172, 3) := by decide +kernel
theorem dX8_parses_59 : decode cX8_parses 59 = .ok (.iconst 3, 1) := by decide +kernel
theorem dX8_parses_60 : decode cX8_parses 60 = .ok (.if_icmp .eq 10, 3) := by decide +kernel
theorem dX8_parses_63 : decode cX8_parses 63 = .ok (.aload_n 0, 1) := by decide +kernel
theorem dX8_parses_64 : decode cX8_parses 64 = .ok (.invokevirtual 215, 3) := by decide +kernel
theorem dX8_parses_67 : decode cX8_parses 67 = .ok (.goto (-19), 3) := by decide +kernel
theorem dX8_parses_70 : decode cX8_parses 70 = .ok (.return_, 1) := by decide +kernel
set_option maxRecDepth 20000 in
theorem ggX8_line_X8_wrong : GoodIn wsX8_line wsX8_wrong := goodIn_r _ [11, 4, 12, 87, 88, 89, 90, 91, 92, 93, 94, 95, 96, 97, 98, 99, 100, 101, 102, 103, 104, 105, 106, 107, 108, 109, 110, 111, 112, 113, 114, 115, 116, 117, 118, 119, 120, 121, 122, 123, 124, 125, 126, 127, 128, 129, 130, 131, 132, 133, 134, 135, 136, 137, 138, 139, 140, 141, 142, 143, 144, 145, 146, 147, 148, 149, 150, 151, 152, 153, 154, 155, 156, 157, 158] (by decide +kernel) (by decide +kernel)
set_option maxRecDepth 20000 in
theorem gX8_line_X8_wrong : GoodIn wsX8_line (wsV RX8 205 RX8 yX8_wrong wsX8_wrong) := goodIn_app (goodIn_of _ (by decide +kernel)) ggX8_line_X8_wrong
set_option maxRecDepth 20000 in
theorem ggX8_line_X8_next : GoodIn wsX8_line wsX8_next := goodIn_r _ [16, 17, 1, 2, 3, 18, 19, 20, 10, 21, 22, 23, 24, 25, 26, 27, 28, 29, 30, 31, 32, 33, 34, 35, 36, 37, 38, 39, 40, 41, 42, 43, 44, 45, 46, 47, 48, 49, 50, 51, 52, 53, 54, 55, 56, 57, 58, 59, 60, 61, 62, 63, 64, 65, 66, 67, 68, 69, 70, 71, 72, 73, 74, 75, 76, 77, 78, 79, 80, 81, 82, 87, 88, 89, 90, 91, 92, 93, 94, 95, 96, 97, 98, 99, 100, 101, 102, 103, 104, 105, 106, 107, 108, 109, 110, 111, 112, 113, 114, 115, 116, 117, 118, 119, 120, 121, 122, 123, 124, 125, 126, 127, 128, 129, 130, 131, 132, 133, 134, 135, 136, 137, 138, 139, 140, 141, 142, 143, 144, 145, 146, 147, 148, 149, 150, 151, 152, 153, 154, 155, 156, 157, 158] (by decide +kernel) (by decide +kernel)
set_option maxRecDepth 20000 in
theorem gX8_line_X8_next : GoodIn wsX8_line (wsV RX8 209 RX8 yX8_next wsX8_next) := goodIn_app (goodIn_of _ (by decide +kernel)) ggX8_line_X8_next
set_option maxRecDepth 20000 in
theorem ggX8_line_X8_number : GoodIn wsX8_line wsX8_number := goodIn_r _ [86, 4, 2, 1, 3, 7, 8, 9, 10, 11, 12, 13, 14, 15, 16, 17, 18, 19, 20, 21, 22, 23, 24, 25, 26, 27, 28, 29, 30, 31, 32, 33, 34, 35, 36, 37, 38, 39, 40, 41, 42, 43, 44, 45, 46, 47, 48, 49, 50, 51, 52, 53, 54, 55, 56, 57, 58, 59, 60, 61, 62, 63, 64, 65, 66, 67, 68, 69, 70, 71, 72, 73, 74, 75, 76, 77, 78, 79, 80, 81, 82, 87, 88, 89, 90, 91, 92, 93, 94, 95, 96, 97, 98, 99, 100, 101, 102, 103, 104, 105, 106, 107, 108, 109, 110, 111, 112, 113, 114, 115, 116, 117, 118, 119, 120, 121, 122, 123, 124, 125, 126, 127, 128, 129, 130, 131, 132, 133, 134, 135, 136, 137, 138, 139, 140, 141, 142, 143, 144, 145, 146, 147, 148, 149, 150, 151, 152, 153, 154, 155, 156, 157, 158] (by decide +kernel) (by decide +kernel)
set_option maxRecDepth 20000 in
theorem gX8_line_X8_number : GoodIn wsX8_line (wsV RX8 218 RX8 yX8_number wsX8_number) := goodIn_app (goodIn_of _ (by decide +kernel)) ggX8_line_X8_number
theorem dX8_line_0 : decode cX8_line 0 = .ok (.aload_n 0, 1) := by decide +kernel
theorem dX8_line_1 : decode cX8_line 1 = .ok (.getfield 169, 3) := by decide +kernel
theorem dX8_line_4 : decode cX8_line 4 = .ok (.istore_n 1, 1) := by decide +kernel
theorem dX8_line_5 : decode cX8_line 5 = .ok (.aload_n 0, 1) := by decide +kernel
theorem dX8_line_6 : decode cX8_line 6 = .ok (.getfield 172, 3) := by decide +kernel
theorem dX8_line_9 : decode cX8_line 9 = .ok (.ifCond .eq 10, 3) := by decide +kernel
theorem dX8_line_12 : decode cX8_line 12 = .ok (.aload_n 0, 1) := by decide +kernel
theorem dX8_line_13 : decode cX8_line 13 = .ok (.iconst 1, 1) := by decide +kernel
theorem dX8_line_14 : decode cX8_line 14 = .ok (.iload_n 1, 1) := by decide +kernel
theorem dX8_line_15 : decode cX8_line 15 = .ok (.invokevirtual 205, 3) := by decide +kernel
theorem dX8_line_18 : decode cX8_line 18 = .ok (.return_, 1) := by decide +kernel
theorem dX8_line_19 : decode cX8_line 19 = .ok (.aload_n 0, 1) := by decide +kernel
theorem dX8_line_20 : decode cX8_line 20 = .ok (.getfield 182, 3) := by decide +kernel
theorem dX8_line_23 : decode cX8_line 23 = .ok (.istore_n 2, 1) := by decide +kernel
theorem dX8_line_24 : decode cX8_line 24 = .ok (.aload_n 0, 1) := by decide +kernel
theorem dX8_line_25 : decode cX8_line 25 = .ok (.invokevirtual 209, 3) := by decide +kernel
theorem dX8_line_28 : decode cX8_line 28 = .ok (.iload_n 2, 1) := by decide +kernel
theorem dX8_line_29 : decode cX8_line 29 = .ok (.iconst 5, 1) := by decide +kernel
theorem dX8_line_30 : decode cX8_line 30 = .ok (.if_icmp .ne 11, 3) := by decide +kernel
theorem dX8_line_33 : decode cX8_line 33 = .ok (.iload_n 2, 1) := by decide +kernel
theorem dX8_line_34 : decode cX8_line 34 = .ok (.aload_n 0, 1) := by decide +kernel
theorem dX8_line_35 : decode cX8_line 35 = .ok (.iconst 2, 1) := by decide +kernel
theorem dX8_line_36 : decode cX8_line 36 = .ok (.invokevirtual 218, 3) := by decide +kernel
theorem dX8_line_39 : decode cX8_line 39 = .ok (.iadd, 1) := by decide +kernel
theorem dX8_line_40 : decode cX8_line 40 = .ok (.istore_n 2, 1) := by decide +kernel
theorem dX8_line_41 : decode cX8_line 41 = .ok (.aload_n 0, 1) := by decide +kernel
theorem dX8_line_42 : decode cX8_line 42 = .ok (.iload_n 2, 1) := by decide +kernel
theorem dX8_line_43 : decode cX8_line 43 = .ok (.iconst 3, 1) := by decide +kernel
theorem dX8_line_44 : decode cX8_line 44 = .ok (.if_icmp .eq 8, 3) := by decide +kernel
theorem dX8_line_47 : decode cX8_line 47 = .ok (.iload_n 2, 1) := by decide +kernel
theorem dX8_line_48 : decode cX8_line 48 = .ok (.iconst 4, 1) := by decide +kernel
theorem dX8_line_49 : decode cX8_line 49 = .ok (.if_icmp .ne 7, 3) := by decide +kernel
theorem dX8_line_52 : decode cX8_line 52 = .ok (.iconst 1, 1) := by decide +kernel
theorem dX8_line_53 : decode cX8_line 53 = .ok (.goto 6, 3) := by decide +kernel
theorem dX8_line_56 : decode cX8_line 56 = .ok (.sipush 999, 3) := by decide +kernel
theorem dX8_line_59 : decode cX8_line 59 = .ok (.invokevirtual 218, 3) := by decide +kernel
theorem dX8_line_62 : decode cX8_line 62 = .ok (.istore_n 3, 1) := by decide +kernel
theorem dX8_line_63 : decode cX8_line 63 = .ok (.aload_n 0, 1) := by decide +kernel
theorem dX8_line_64 : decode cX8_line 64 = .ok (.getfield 199, 3) := by decide +kernel
theorem dX8_line_67 : decode cX8_line 67 = .ok (.ifCond .eq 4, 3) := by decide +kernel
theorem dX8_line_70 : decode cX8_line 70 = .ok (.return_, 1) := by decide +kernel
theorem dX8_line_71 : decode cX8_line 71 = .ok (.aload_n 0, 1) := by decide +kernel
theorem dX8_line_72 : decode cX8_line 72 = .ok (.getfield 22, 3) := by decide +kernel
theorem dX8_line_75 : decode cX8_line 75 = .ok (.bipush 80, 2) := by decide +kernel
theorem dX8_line_77 : decode cX8_line 77 = .ok (.iload_n 2, 1) := by decide +kernel
theorem dX8_line_78 : decode cX8_line 78 = .ok (.iadd, 1) := by decide +kernel
theorem dX8_line_79 : decode cX8_line 79 = .ok (.iaload, 1) := by decide +kernel
theorem dX8_line_80 : decode cX8_line 80 = .ok (.iconst (-1), 1) := by decide +kernel
theorem dX8_line_81 : decode cX8_line 81 = .ok (.if_icmp .eq 10, 3) := by decide +kernel
theorem dX8_line_84 : decode cX8_line 84 = .ok (.aload_n 0, 1) := by decide +kernel
theorem dX8_line_85 : decode cX8_line 85 = .ok (.iconst 3, 1) := by decide +kernel
theorem dX8_line_86 : decode cX8_line 86 = .ok (.iload_n 1, 1) := by decide +kernel
theorem dX8_line_87 : decode cX8_line 87 = .ok (.invokevirtual 205, 3) := by decide +kernel
theorem dX8_line_90 : decode cX8_line 90 = .ok (.return_, 1) := by decide +kernel
theorem dX8_line_91 : decode cX8_line 91 = .ok (.aload_n 0, 1) := by decide +kernel
theorem dX8_line_92 : decode cX8_line 92 = .ok (.getfield 22, 3) := by decide +kernel
theorem dX8_line_95 : decode cX8_line 95 = .ok (.bipush 80, 2) := by decide +kernel
theorem dX8_line_97 : decode cX8_line 97 = .ok (.iload_n 2, 1) := by decide +kernel
theorem dX8_line_98 : decode cX8_line 98 = .ok (.iadd, 1) := by decide +kernel
theorem dX8_line_99 : decode cX8_line 99 = .ok (.iload_n 3, 1) := by decide +kernel
theorem dX8_line_100 : decode cX8_line 100 = .ok (.iastore, 1) := by decide +kernel
theorem dX8_line_101 : decode cX8_line 101 = .ok (.aload_n 0, 1) := by decide +kernel
theorem dX8_line_102 : decode cX8_line 102 = .ok (.dup, 1) := by decide +kernel
theorem dX8_line_103 : decode cX8_line 103 = .ok (.getfield 212, 3) := by decide +kernel
theorem dX8_line_106 : decode cX8_line 106 = .ok (.iconst 1, 1) := by decide +kernel
theorem dX8_line_107 : decode cX8_line 107 = .ok (.iadd, 1) := by decide +kernel
theorem dX8_line_108 : decode cX8_line 108 = .ok (.putfield 212, 3) := by decide +kernel
theorem dX8_line_111 : decode cX8_line 111 = .ok (.aload_n 0, 1) := by decide +kernel
theorem dX8_line_112 : decode cX8_line 112 = .ok (.getfield 172, 3) := by decide +kernel
theorem dX8_line_115 : decode cX8_line 115 = .ok (.iconst 2, 1) := by decide +kernel
theorem dX8_line_116 : decode cX8_line 116 = .ok (.if_icmp .eq 15, 3) := by decide +kernel
theorem dX8_line_119 : decode cX8_line 119 = .ok (.aload_n 0, 1) := by decide +kernel
theorem dX8_line_120 : decode cX8_line 120 = .ok (.iconst 1, 1) := by decide +kernel
theorem dX8_line_121 : decode cX8_line 121 = .ok (.aload_n 0, 1) := by decide +kernel
theorem dX8_line_122 : decode cX8_line 122 = .ok (.getfield 169, 3) := by decide +kernel
theorem dX8_line_125 : decode cX8_line 125 = .ok (.invokevirtual 205, 3) := by decide +kernel
theorem dX8_line_128 : decode cX8_line 128 = .ok (.goto 7, 3) := by decide +kernel
theorem dX8_line_131 : decode cX8_line 131 = .ok (.aload_n 0, 1) := by decide +kernel
theorem dX8_line_132 : decode cX8_line 132 = .ok (.invokevirtual 209, 3) := by decide +kernel
theorem dX8_line_135 : decode cX8_line 135 = .ok (.return_, 1) := by decide +kernel
set_option maxRecDepth 20000 in
theorem ggX8_vote_X8_parses : GoodIn wsX8_vote wsX8_parses := goodIn_r _ [20, 21, 5, 7, 15, 13, 22, 23, 24, 25, 19, 26, 27, 28, 29, 30, 31, 32, 4, 33, 34, 35, 36, 37, 38, 39, 40, 41, 42, 43, 44, 45, 46, 47, 48, 49, 50, 51, 52, 53, 54, 55, 56, 57, 58, 59, 60, 61, 62, 63, 64, 65, 66, 67, 68, 69, 70, 71, 72, 73, 74, 75, 76, 77, 78, 79, 80, 81, 82, 83, 84, 85, 86, 87, 88, 89, 90, 91, 92, 93, 94, 95, 96, 97, 98, 99, 100, 101, 102, 103, 104, 105, 106, 107, 108, 109, 110, 111, 112, 113, 114, 115, 116, 117, 118, 119, 120, 121, 122, 123, 124, 125, 126, 127, 128, 129, 130, 131, 132, 133, 134, 135, 136, 137, 138, 139, 140, 141, 142, 143, 144, 145, 146, 147, 148, 149, 150, 151, 152, 153, 154, 155, 156, 157, 158, 159, 160, 161, 162, 163, 164, 165, 166, 167, 168, 169, 170, 171, 172, 173, 174, 175, 176] (by decide +kernel) (by decide +kernel)
set_option maxRecDepth 20000 in
theorem gX8_vote_X8_parses : GoodIn wsX8_vote (wsV RX8 225 RX8 yX8_parses wsX8_parses) := goodIn_app (goodIn_of _ (by decide +kernel)) ggX8_vote_X8_parses
theorem dX8_vote_0 : decode cX8_vote 0 = .ok (.aload_n 0, 1) := by decide +kernel
theorem dX8_vote_1 : decode cX8_vote 1 = .ok (.iconst 0, 1) := by decide +kernel
theorem dX8_vote_2 : decode cX8_vote 2 = .ok (.putfield 153, 3) := by decide +kernel
theorem dX8_vote_5 : decode cX8_vote 5 = .ok (.iload_n 1, 1) := by decide +kernel
theorem dX8_vote_6 : decode cX8_vote 6 = .ok (.ifCond .lt 30, 3) := by decide +kernel
theorem dX8_vote_9 : decode cX8_vote 9 = .ok (.iload_n 1, 1) := by decide +kernel
theorem dX8_vote_10 : decode cX8_vote 10 = .ok (.aload_n 0, 1) := by decide +kernel
theorem dX8_vote_11 : decode cX8_vote 11 = .ok (.getfield 156, 3) := by decide +kernel
theorem dX8_vote_14 : decode cX8_vote 14 = .ok (.if_icmp .gt 22, 3) := by decide +kernel
theorem dX8_vote_17 : decode cX8_vote 17 = .ok (.iload_n 2, 1) := by decide +kernel
theorem dX8_vote_18 : decode cX8_vote 18 = .ok (.ifCond .lt 18, 3) := by decide +kernel
theorem dX8_vote_21 : decode cX8_vote 21 = .ok (.iload_n 2, 1) := by decide +kernel
theorem dX8_vote_22 : decode cX8_vote 22 = .ok (.bipush 99, 2) := by decide +kernel
theorem dX8_vote_24 : decode cX8_vote 24 = .ok (.if_icmp .gt 12, 3) := by decide +kernel
theorem dX8_vote_27 : decode cX8_vote 27 = .ok (.aload_n 0, 1) := by decide +kernel
theorem dX8_vote_28 : decode cX8_vote 28 = .ok (.getfield 222, 3) := by decide +kernel
theorem dX8_vote_31 : decode cX8_vote 31 = .ok (.bipush 10, 2) := by decide +kernel
theorem dX8_vote_33 : decode cX8_vote 33 = .ok (.if_icmp .ne 6, 3) := by decide +kernel
theorem dX8_vote_36 : decode cX8_vote 36 = .ok (.bipush (-2), 2) := by decide +kernel
theorem dX8_vote_38 : decode cX8_vote 38 = .ok (.ireturn, 1) := by decide +kernel
theorem dX8_vote_39 : decode cX8_vote 39 = .ok (.aload_n 0, 1) := by decide +kernel
theorem dX8_vote_40 : decode cX8_vote 40 = .ok (.iload_n 1, 1) := by decide +kernel
theorem dX8_vote_41 : decode cX8_vote 41 = .ok (.putfield 162, 3) := by decide +kernel
theorem dX8_vote_44 : decode cX8_vote 44 = .ok (.aload_n 0, 1) := by decide +kernel
theorem dX8_vote_45 : decode cX8_vote 45 = .ok (.iconst 0, 1) := by decide +kernel
theorem dX8_vote_46 : decode cX8_vote 46 = .ok (.putfield 156, 3) := by decide +kernel
theorem dX8_vote_49 : decode cX8_vote 49 = .ok (.aload_n 0, 1) := by decide +kernel
theorem dX8_vote_50 : decode cX8_vote 50 = .ok (.invokevirtual 225, 3) := by decide +kernel
theorem dX8_vote_53 : decode cX8_vote 53 = .ok (.aload_n 0, 1) := by decide +kernel
theorem dX8_vote_54 : decode cX8_vote 54 = .ok (.aload_n 0, 1) := by decide +kernel
theorem dX8_vote_55 : decode cX8_vote 55 = .ok (.getfield 199, 3) := by decide +kernel
theorem dX8_vote_58 : decode cX8_vote 58 = .ok (.putfield 228, 3) := by decide +kernel
theorem dX8_vote_61 : decode cX8_vote 61 = .ok (.aload_n 0, 1) := by decide +kernel
theorem dX8_vote_62 : decode cX8_vote 62 = .ok (.aload_n 0, 1) := by decide +kernel
theorem dX8_vote_63 : decode cX8_vote 63 = .ok (.getfield 202, 3) := by decide +kernel
theorem dX8_vote_66 : decode cX8_vote 66 = .ok (.putfield 25, 3) := by decide +kernel
theorem dX8_vote_69 : decode cX8_vote 69 = .ok (.aload_n 0, 1) := by decide +kernel
theorem dX8_vote_70 : decode cX8_vote 70 = .ok (.getfield 199, 3) := by decide +kernel
theorem dX8_vote_73 : decode cX8_vote 73 = .ok (.ifCond .eq 5, 3) := by decide +kernel
theorem dX8_vote_76 : decode cX8_vote 76 = .ok (.iconst (-1), 1) := by decide +kernel
theorem dX8_vote_77 : decode cX8_vote 77 = .ok (.ireturn, 1) := by decide +kernel
theorem dX8_vote_78 : decode cX8_vote 78 = .ok (.aload_n 0, 1) := by decide +kernel
theorem dX8_vote_79 : decode cX8_vote 79 = .ok (.getfield 13, 3) := by decide +kernel
theorem dX8_vote_82 : decode cX8_vote 82 = .ok (.aload_n 0, 1) := by decide +kernel
theorem dX8_vote_83 : decode cX8_vote 83 = .ok (.getfield 222, 3) := by decide +kernel
theorem dX8_vote_86 : decode cX8_vote 86 = .ok (.aload_n 0, 1) := by decide +kernel
theorem dX8_vote_87 : decode cX8_vote 87 = .ok (.getfield 231, 3) := by decide +kernel
theorem dX8_vote_90 : decode cX8_vote 90 = .ok (.iastore, 1) := by decide +kernel
theorem dX8_vote_91 : decode cX8_vote 91 = .ok (.aload_n 0, 1) := by decide +kernel
theorem dX8_vote_92 : decode cX8_vote 92 = .ok (.getfield 16, 3) := by decide +kernel
theorem dX8_vote_95 : decode cX8_vote 95 = .ok (.aload_n 0, 1) := by decide +kernel
theorem dX8_vote_96 : decode cX8_vote 96 = .ok (.getfield 222, 3) := by decide +kernel
theorem dX8_vote_99 : decode cX8_vote 99 = .ok (.iload_n 2, 1) := by decide +kernel
theorem dX8_vote_100 : decode cX8_vote 100 = .ok (.iastore, 1) := by decide +kernel
theorem dX8_vote_101 : decode cX8_vote 101 = .ok (.aload_n 0, 1) := by decide +kernel
theorem dX8_vote_102 : decode cX8_vote 102 = .ok (.getfield 19, 3) := by decide +kernel
theorem dX8_vote_105 : decode cX8_vote 105 = .ok (.aload_n 0, 1) := by decide +kernel
theorem dX8_vote_106 : decode cX8_vote 106 = .ok (.getfield 222, 3) := by decide +kernel
theorem dX8_vote_109 : decode cX8_vote 109 = .ok (.sipush 1000, 3) := by decide +kernel
theorem dX8_vote_112 : decode cX8_vote 112 = .ok (.iastore, 1) := by decide +kernel
theorem dX8_vote_113 : decode cX8_vote 113 = .ok (.iconst 0, 1) := by decide +kernel
theorem dX8_vote_114 : decode cX8_vote 114 = .ok (.istore_n 3, 1) := by decide +kernel
theorem dX8_vote_115 : decode cX8_vote 115 = .ok (.iload_n 3, 1) := by decide +kernel
theorem dX8_vote_116 : decode cX8_vote 116 = .ok (.bipush 8, 2) := by decide +kernel
theorem dX8_vote_118 : decode cX8_vote 118 = .ok (.if_icmp .ge 32, 3) := by decide +kernel
theorem dX8_vote_121 : decode cX8_vote 121 = .ok (.aload_n 0, 1) := by decide +kernel
theorem dX8_vote_122 : decode cX8_vote 122 = .ok (.getfield 22, 3) := by decide +kernel
theorem dX8_vote_125 : decode cX8_vote 125 = .ok (.bipush 8, 2) := by decide +kernel
theorem dX8_vote_127 : decode cX8_vote 127 = .ok (.aload_n 0, 1) := by decide +kernel
theorem dX8_vote_128 : decode cX8_vote 128 = .ok (.getfield 222, 3) := by decide +kernel
theorem dX8_vote_131 : decode cX8_vote 131 = .ok (.imul, 1) := by decide +kernel
theorem dX8_vote_132 : decode cX8_vote 132 = .ok (.iload_n 3, 1) := by decide +kernel
theorem dX8_vote_133 : decode cX8_vote 133 = .ok (.iadd, 1) := by decide +kernel
theorem dX8_vote_134 : decode cX8_vote 134 = .ok (.aload_n 0, 1) := by decide +kernel
theorem dX8_vote_135 : decode cX8_vote 135 = .ok (.getfield 22, 3) := by decide +kernel
theorem dX8_vote_138 : decode cX8_vote 138 = .ok (.bipush 80, 2) := by decide +kernel
theorem dX8_vote_140 : decode cX8_vote 140 = .ok (.iload_n 3, 1) := by decide +kernel
theorem dX8_vote_141 : decode cX8_vote 141 = .ok (.iadd, 1) := by decide +kernel
theorem dX8_vote_142 : decode cX8_vote 142 = .ok (.iaload, 1) := by decide +kernel
theorem dX8_vote_143 : decode cX8_vote 143 = .ok (.iastore, 1) := by decide +kernel
theorem dX8_vote_144 : decode cX8_vote 144 = .ok (.iinc 3 1, 3) := by decide +kernel
theorem dX8_vote_147 : decode cX8_vote 147 = .ok (.goto (-32), 3) := by decide +kernel
theorem dX8_vote_150 : decode cX8_vote 150 = .ok (.aload_n 0, 1) := by decide +kernel
theorem dX8_vote_151 : decode cX8_vote 151 = .ok (.dup, 1) := by decide +kernel
theorem dX8_vote_152 : decode cX8_vote 152 = .ok (.getfield 234, 3) := by decide +kernel
theorem dX8_vote_155 : decode cX8_vote 155 = .ok (.aload_n 0, 1) := by decide +kernel
theorem dX8_vote_156 : decode cX8_vote 156 = .ok (.getfield 212, 3) := by decide +kernel
theorem dX8_vote_159 : decode cX8_vote 159 = .ok (.iadd, 1) := by decide +kernel
theorem dX8_vote_160 : decode cX8_vote 160 = .ok (.putfield 234, 3) := by decide +kernel
theorem dX8_vote_163 : decode cX8_vote 163 = .ok (.aload_n 0, 1) := by decide +kernel
theorem dX8_vote_164 : decode cX8_vote 164 = .ok (.dup, 1) := by decide +kernel
theorem dX8_vote_165 : decode cX8_vote 165 = .ok (.getfield 222, 3) := by decide +kernel
theorem dX8_vote_168 : decode cX8_vote 168 = .ok (.iconst 1, 1) := by decide +kernel
theorem dX8_vote_169 : decode cX8_vote 169 = .ok (.iadd, 1) := by decide +kernel
theorem dX8_vote_170 : decode cX8_vote 170 = .ok (.putfield 222, 3) := by decide +kernel
theorem dX8_vote_173 : decode cX8_vote 173 = .ok (.aload_n 0, 1) := by decide +kernel
theorem dX8_vote_174 : decode cX8_vote 174 = .ok (.getfield 222, 3) := by decide +kernel
theorem dX8_vote_177 : decode cX8_vote 177 = .ok (.iconst 1, 1) := by decide +kernel
theorem dX8_vote_178 : decode cX8_vote 178 = .ok (.isub, 1) := by decide +kernel
theorem dX8_vote_179 : decode cX8_vote 179 = .ok (.ireturn, 1) := by decide +kernel
theorem dX8_fault_0 : decode cX8_fault 0 = .ok (.aload_n 0, 1) := by decide +kernel
theorem dX8_fault_1 : decode cX8_fault 1 = .ok (.iconst 0, 1) := by decide +kernel
theorem dX8_fault_2 : decode cX8_fault 2 = .ok (.putfield 153, 3) := by decide +kernel
theorem dX8_fault_5 : decode cX8_fault 5 = .ok (.iload_n 1, 1) := by decide +kernel
theorem dX8_fault_6 : decode cX8_fault 6 = .ok (.ifCond .ne 10, 3) := by decide +kernel
theorem dX8_fault_9 : decode cX8_fault 9 = .ok (.aload_n 0, 1) := by decide +kernel
theorem dX8_fault_10 : decode cX8_fault 10 = .ok (.getfield 228, 3) := by decide +kernel
theorem dX8_fault_13 : decode cX8_fault 13 = .ok (.goto 16, 3) := by decide +kernel
theorem dX8_fault_16 : decode cX8_fault 16 = .ok (.iload_n 1, 1) := by decide +kernel
theorem dX8_fault_17 : decode cX8_fault 17 = .ok (.iconst 1, 1) := by decide +kernel
theorem dX8_fault_18 : decode cX8_fault 18 = .ok (.if_icmp .ne 10, 3) := by decide +kernel
theorem dX8_fault_21 : decode cX8_fault 21 = .ok (.aload_n 0, 1) := by decide +kernel
theorem dX8_fault_22 : decode cX8_fault 22 = .ok (.getfield 25, 3) := by decide +kernel
theorem dX8_fault_25 : decode cX8_fault 25 = .ok (.goto 4, 3) := by decide +kernel
theorem dX8_fault_28 : decode cX8_fault 28 = .ok (.iconst (-1), 1) := by decide +kernel
theorem dX8_fault_29 : decode cX8_fault 29 = .ok (.ireturn, 1) := by decide +kernel
theorem dX8_undo_0 : decode cX8_undo 0 = .ok (.aload_n 0, 1) := by decide +kernel
theorem dX8_undo_1 : decode cX8_undo 1 = .ok (.iconst 0, 1) := by decide +kernel
theorem dX8_undo_2 : decode cX8_undo 2 = .ok (.putfield 153, 3) := by decide +kernel
theorem dX8_undo_5 : decode cX8_undo 5 = .ok (.iload_n 1, 1) := by decide +kernel
theorem dX8_undo_6 : decode cX8_undo 6 = .ok (.ifCond .lt 23, 3) := by decide +kernel
theorem dX8_undo_9 : decode cX8_undo 9 = .ok (.iload_n 1, 1) := by decide +kernel
theorem dX8_undo_10 : decode cX8_undo 10 = .ok (.aload_n 0, 1) := by decide +kernel
theorem dX8_undo_11 : decode cX8_undo 11 = .ok (.getfield 222, 3) := by decide +kernel
theorem dX8_undo_14 : decode cX8_undo 14 = .ok (.if_icmp .ge 15, 3) := by decide +kernel
theorem dX8_undo_17 : decode cX8_undo 17 = .ok (.aload_n 0, 1) := by decide +kernel
theorem dX8_undo_18 : decode cX8_undo 18 = .ok (.getfield 19, 3) := by decide +kernel
theorem dX8_undo_21 : decode cX8_undo 21 = .ok (.iload_n 1, 1) := by decide +kernel
theorem dX8_undo_22 : decode cX8_undo 22 = .ok (.iaload, 1) := by decide +kernel
theorem dX8_undo_23 : decode cX8_undo 23 = .ok (.sipush 1000, 3) := by decide +kernel
theorem dX8_undo_26 : decode cX8_undo 26 = .ok (.if_icmp .eq 5, 3) := by decide +kernel
theorem dX8_undo_29 : decode cX8_undo 29 = .ok (.iconst 0, 1) := by decide +kernel
theorem dX8_undo_30 : decode cX8_undo 30 = .ok (.ireturn, 1) := by decide +kernel
theorem dX8_undo_31 : decode cX8_undo 31 = .ok (.aload_n 0, 1) := by decide +kernel
theorem dX8_undo_32 : decode cX8_undo 32 = .ok (.getfield 19, 3) := by decide +kernel
theorem dX8_undo_35 : decode cX8_undo 35 = .ok (.iload_n 1, 1) := by decide +kernel
theorem dX8_undo_36 : decode cX8_undo 36 = .ok (.aload_n 0, 1) := by decide +kernel
theorem dX8_undo_37 : decode cX8_undo 37 = .ok (.getfield 231, 3) := by decide +kernel
theorem dX8_undo_40 : decode cX8_undo 40 = .ok (.iastore, 1) := by decide +kernel
theorem dX8_undo_41 : decode cX8_undo 41 = .ok (.iconst 1, 1) := by decide +kernel
theorem dX8_undo_42 : decode cX8_undo 42 = .ok (.ireturn, 1) := by decide +kernel
theorem dX8_lawOf_0 : decode cX8_lawOf 0 = .ok (.iconst 0, 1) := by decide +kernel
theorem dX8_lawOf_1 : decode cX8_lawOf 1 = .ok (.istore 4, 2) := by decide +kernel
theorem dX8_lawOf_3 : decode cX8_lawOf 3 = .ok (.iconst (-1), 1) := by decide +kernel
theorem dX8_lawOf_4 : decode cX8_lawOf 4 = .ok (.istore 5, 2) := by decide +kernel
theorem dX8_lawOf_6 : decode cX8_lawOf 6 = .ok (.iconst 0, 1) := by decide +kernel
theorem dX8_lawOf_7 : decode cX8_lawOf 7 = .ok (.istore 6, 2) := by decide +kernel
theorem dX8_lawOf_9 : decode cX8_lawOf 9 = .ok (.iload 6, 2) := by decide +kernel
theorem dX8_lawOf_11 : decode cX8_lawOf 11 = .ok (.aload_n 0, 1) := by decide +kernel
theorem dX8_lawOf_12 : decode cX8_lawOf 12 = .ok (.getfield 222, 3) := by decide +kernel
theorem dX8_lawOf_15 : decode cX8_lawOf 15 = .ok (.if_icmp .ge 108, 3) := by decide +kernel
theorem dX8_lawOf_18 : decode cX8_lawOf 18 = .ok (.aload_n 0, 1) := by decide +kernel
theorem dX8_lawOf_19 : decode cX8_lawOf 19 = .ok (.getfield 13, 3) := by decide +kernel
theorem dX8_lawOf_22 : decode cX8_lawOf 22 = .ok (.iload 6, 2) := by decide +kernel
theorem dX8_lawOf_24 : decode cX8_lawOf 24 = .ok (.iaload, 1) := by decide +kernel
theorem dX8_lawOf_25 : decode cX8_lawOf 25 = .ok (.iload_n 3, 1) := by decide +kernel
theorem dX8_lawOf_26 : decode cX8_lawOf 26 = .ok (.if_icmp .gt 45, 3) := by decide +kernel
theorem dX8_lawOf_29 : decode cX8_lawOf 29 = .ok (.aload_n 0, 1) := by decide +kernel
theorem dX8_lawOf_30 : decode cX8_lawOf 30 = .ok (.getfield 19, 3) := by decide +kernel
theorem dX8_lawOf_33 : decode cX8_lawOf 33 = .ok (.iload 6, 2) := by decide +kernel
theorem dX8_lawOf_35 : decode cX8_lawOf 35 = .ok (.iaload, 1) := by decide +kernel
theorem dX8_lawOf_36 : decode cX8_lawOf 36 = .ok (.iload_n 3, 1) := by decide +kernel
theorem dX8_lawOf_37 : decode cX8_lawOf 37 = .ok (.if_icmp .le 34, 3) := by decide +kernel
theorem dX8_lawOf_40 : decode cX8_lawOf 40 = .ok (.aload_n 0, 1) := by decide +kernel
theorem dX8_lawOf_41 : decode cX8_lawOf 41 = .ok (.getfield 16, 3) := by decide +kernel
theorem dX8_lawOf_44 : decode cX8_lawOf 44 = .ok (.iload 6, 2) := by decide +kernel
theorem dX8_lawOf_46 : decode cX8_lawOf 46 = .ok (.iaload, 1) := by decide +kernel
theorem dX8_lawOf_47 : decode cX8_lawOf 47 = .ok (.iload_n 2, 1) := by decide +kernel
theorem dX8_lawOf_48 : decode cX8_lawOf 48 = .ok (.if_icmp .gt 23, 3) := by decide +kernel
theorem dX8_lawOf_51 : decode cX8_lawOf 51 = .ok (.aload_n 0, 1) := by decide +kernel
theorem dX8_lawOf_52 : decode cX8_lawOf 52 = .ok (.getfield 22, 3) := by decide +kernel
theorem dX8_lawOf_55 : decode cX8_lawOf 55 = .ok (.bipush 8, 2) := by decide +kernel
theorem dX8_lawOf_57 : decode cX8_lawOf 57 = .ok (.iload 6, 2) := by decide +kernel
theorem dX8_lawOf_59 : decode cX8_lawOf 59 = .ok (.imul, 1) := by decide +kernel
theorem dX8_lawOf_60 : decode cX8_lawOf 60 = .ok (.iload_n 1, 1) := by decide +kernel
theorem dX8_lawOf_61 : decode cX8_lawOf 61 = .ok (.iadd, 1) := by decide +kernel
theorem dX8_lawOf_62 : decode cX8_lawOf 62 = .ok (.iaload, 1) := by decide +kernel
theorem dX8_lawOf_63 : decode cX8_lawOf 63 = .ok (.iconst (-1), 1) := by decide +kernel
theorem dX8_lawOf_64 : decode cX8_lawOf 64 = .ok (.if_icmp .eq 7, 3) := by decide +kernel
theorem dX8_lawOf_67 : decode cX8_lawOf 67 = .ok (.iconst 1, 1) := by decide +kernel
theorem dX8_lawOf_68 : decode cX8_lawOf 68 = .ok (.goto 4, 3) := by decide +kernel
theorem dX8_lawOf_71 : decode cX8_lawOf 71 = .ok (.iconst 0, 1) := by decide +kernel
theorem dX8_lawOf_72 : decode cX8_lawOf 72 = .ok (.istore 7, 2) := by decide +kernel
theorem dX8_lawOf_74 : decode cX8_lawOf 74 = .ok (.iload 7, 2) := by decide +kernel
theorem dX8_lawOf_76 : decode cX8_lawOf 76 = .ok (.ifCond .eq 41, 3) := by decide +kernel
theorem dX8_lawOf_79 : decode cX8_lawOf 79 = .ok (.aload_n 0, 1) := by decide +kernel
theorem dX8_lawOf_80 : decode cX8_lawOf 80 = .ok (.getfield 16, 3) := by decide +kernel
theorem dX8_lawOf_83 : decode cX8_lawOf 83 = .ok (.iload 6, 2) := by decide +kernel
theorem dX8_lawOf_85 : decode cX8_lawOf 85 = .ok (.iaload, 1) := by decide +kernel
theorem dX8_lawOf_86 : decode cX8_lawOf 86 = .ok (.iload 5, 2) := by decide +kernel
theorem dX8_lawOf_88 : decode cX8_lawOf 88 = .ok (.if_icmp .ge 6, 3) := by decide +kernel
theorem dX8_lawOf_91 : decode cX8_lawOf 91 = .ok (.goto 26, 3) := by decide +kernel
theorem dX8_lawOf_94 : decode cX8_lawOf 94 = .ok (.aload_n 0, 1) := by decide +kernel
theorem dX8_lawOf_95 : decode cX8_lawOf 95 = .ok (.getfield 16, 3) := by decide +kernel
theorem dX8_lawOf_98 : decode cX8_lawOf 98 = .ok (.iload 6, 2) := by decide +kernel
theorem dX8_lawOf_100 : decode cX8_lawOf 100 = .ok (.iaload, 1) := by decide +kernel
theorem dX8_lawOf_101 : decode cX8_lawOf 101 = .ok (.istore 5, 2) := by decide +kernel
theorem dX8_lawOf_103 : decode cX8_lawOf 103 = .ok (.aload_n 0, 1) := by decide +kernel
theorem dX8_lawOf_104 : decode cX8_lawOf 104 = .ok (.getfield 22, 3) := by decide +kernel
theorem dX8_lawOf_107 : decode cX8_lawOf 107 = .ok (.bipush 8, 2) := by decide +kernel
theorem dX8_lawOf_109 : decode cX8_lawOf 109 = .ok (.iload 6, 2) := by decide +kernel
theorem dX8_lawOf_111 : decode cX8_lawOf 111 = .ok (.imul, 1) := by decide +kernel
theorem dX8_lawOf_112 : decode cX8_lawOf 112 = .ok (.iload_n 1, 1) := by decide +kernel
theorem dX8_lawOf_113 : decode cX8_lawOf 113 = .ok (.iadd, 1) := by decide +kernel
theorem dX8_lawOf_114 : decode cX8_lawOf 114 = .ok (.iaload, 1) := by decide +kernel
theorem dX8_lawOf_115 : decode cX8_lawOf 115 = .ok (.istore 4, 2) := by decide +kernel
theorem dX8_lawOf_117 : decode cX8_lawOf 117 = .ok (.iinc 6 1, 3) := by decide +kernel
theorem dX8_lawOf_120 : decode cX8_lawOf 120 = .ok (.goto (-111), 3) := by decide +kernel
theorem dX8_lawOf_123 : decode cX8_lawOf 123 = .ok (.iload 4, 2) := by decide +kernel
theorem dX8_lawOf_125 : decode cX8_lawOf 125 = .ok (.ireturn, 1) := by decide +kernel
set_option maxRecDepth 20000 in
theorem ggX8_law_X8_lawOf : GoodIn wsX8_law wsX8_lawOf := goodIn_r _ [7, 8, 9, 10, 11, 12, 13, 14, 15, 16, 17, 18, 19, 20, 21, 22, 23, 24, 25, 26, 27, 28, 29, 30, 31, 32, 33, 34, 35, 36, 37, 38, 39, 40, 41, 42, 43, 44, 45, 46, 47, 48, 49, 50, 51, 52, 53, 54, 55, 56, 57, 58, 59, 60, 61, 62, 63, 64, 65, 66, 67, 68, 69, 70, 71, 72, 73, 74, 75, 76, 77, 78, 79, 80, 81, 82, 83, 84] (by decide +kernel) (by decide +kernel)
set_option maxRecDepth 20000 in
theorem gX8_law_X8_lawOf : GoodIn wsX8_law (wsV RX8 237 RX8 yX8_lawOf wsX8_lawOf) := goodIn_app (goodIn_of _ (by decide +kernel)) ggX8_law_X8_lawOf
theorem dX8_law_0 : decode cX8_law 0 = .ok (.aload_n 0, 1) := by decide +kernel
theorem dX8_law_1 : decode cX8_law 1 = .ok (.iconst 0, 1) := by decide +kernel
theorem dX8_law_2 : decode cX8_law 2 = .ok (.putfield 153, 3) := by decide +kernel
theorem dX8_law_5 : decode cX8_law 5 = .ok (.iload_n 1, 1) := by decide +kernel
theorem dX8_law_6 : decode cX8_law 6 = .ok (.ifCond .lt 31, 3) := by decide +kernel
theorem dX8_law_9 : decode cX8_law 9 = .ok (.iload_n 1, 1) := by decide +kernel
theorem dX8_law_10 : decode cX8_law 10 = .ok (.bipush 7, 2) := by decide +kernel
theorem dX8_law_12 : decode cX8_law 12 = .ok (.if_icmp .gt 25, 3) := by decide +kernel
theorem dX8_law_15 : decode cX8_law 15 = .ok (.iload_n 2, 1) := by decide +kernel
theorem dX8_law_16 : decode cX8_law 16 = .ok (.ifCond .lt 21, 3) := by decide +kernel
theorem dX8_law_19 : decode cX8_law 19 = .ok (.iload_n 2, 1) := by decide +kernel
theorem dX8_law_20 : decode cX8_law 20 = .ok (.bipush 99, 2) := by decide +kernel
theorem dX8_law_22 : decode cX8_law 22 = .ok (.if_icmp .gt 15, 3) := by decide +kernel
theorem dX8_law_25 : decode cX8_law 25 = .ok (.iload_n 3, 1) := by decide +kernel
theorem dX8_law_26 : decode cX8_law 26 = .ok (.ifCond .lt 11, 3) := by decide +kernel
theorem dX8_law_29 : decode cX8_law 29 = .ok (.iload_n 3, 1) := by decide +kernel
theorem dX8_law_30 : decode cX8_law 30 = .ok (.aload_n 0, 1) := by decide +kernel
theorem dX8_law_31 : decode cX8_law 31 = .ok (.getfield 231, 3) := by decide +kernel
theorem dX8_law_34 : decode cX8_law 34 = .ok (.if_icmp .le 7, 3) := by decide +kernel
theorem dX8_law_37 : decode cX8_law 37 = .ok (.iconst (-1), 1) := by decide +kernel
theorem dX8_law_38 : decode cX8_law 38 = .ok (.goto 10, 3) := by decide +kernel
theorem dX8_law_41 : decode cX8_law 41 = .ok (.aload_n 0, 1) := by decide +kernel
theorem dX8_law_42 : decode cX8_law 42 = .ok (.iload_n 1, 1) := by decide +kernel
theorem dX8_law_43 : decode cX8_law 43 = .ok (.iload_n 2, 1) := by decide +kernel
theorem dX8_law_44 : decode cX8_law 44 = .ok (.iload_n 3, 1) := by decide +kernel
theorem dX8_law_45 : decode cX8_law 45 = .ok (.invokevirtual 237, 3) := by decide +kernel
theorem dX8_law_48 : decode cX8_law 48 = .ok (.ireturn, 1) := by decide +kernel
theorem dX8_isWorker_0 : decode cX8_isWorker 0 = .ok (.iload_n 1, 1) := by decide +kernel
theorem dX8_isWorker_1 : decode cX8_isWorker 1 = .ok (.ifCond .lt 15, 3) := by decide +kernel
theorem dX8_isWorker_4 : decode cX8_isWorker 4 = .ok (.iload_n 1, 1) := by decide +kernel
theorem dX8_isWorker_5 : decode cX8_isWorker 5 = .ok (.aload_n 0, 1) := by decide +kernel
theorem dX8_isWorker_6 : decode cX8_isWorker 6 = .ok (.getfield 241, 3) := by decide +kernel
theorem dX8_isWorker_9 : decode cX8_isWorker 9 = .ok (.if_icmp .ge 7, 3) := by decide +kernel
theorem dX8_isWorker_12 : decode cX8_isWorker 12 = .ok (.iconst 1, 1) := by decide +kernel
theorem dX8_isWorker_13 : decode cX8_isWorker 13 = .ok (.goto 4, 3) := by decide +kernel
theorem dX8_isWorker_16 : decode cX8_isWorker 16 = .ok (.iconst 0, 1) := by decide +kernel
theorem dX8_isWorker_17 : decode cX8_isWorker 17 = .ok (.ireturn, 1) := by decide +kernel
theorem dX8_worker_0 : decode cX8_worker 0 = .ok (.aload_n 0, 1) := by decide +kernel
theorem dX8_worker_1 : decode cX8_worker 1 = .ok (.iconst 0, 1) := by decide +kernel
theorem dX8_worker_2 : decode cX8_worker 2 = .ok (.putfield 153, 3) := by decide +kernel
theorem dX8_worker_5 : decode cX8_worker 5 = .ok (.iload_n 1, 1) := by decide +kernel
theorem dX8_worker_6 : decode cX8_worker 6 = .ok (.ifCond .lt 17, 3) := by decide +kernel
theorem dX8_worker_9 : decode cX8_worker 9 = .ok (.iload_n 1, 1) := by decide +kernel
theorem dX8_worker_10 : decode cX8_worker 10 = .ok (.iconst 2, 1) := by decide +kernel
theorem dX8_worker_11 : decode cX8_worker 11 = .ok (.if_icmp .gt 12, 3) := by decide +kernel
theorem dX8_worker_14 : decode cX8_worker 14 = .ok (.aload_n 0, 1) := by decide +kernel
theorem dX8_worker_15 : decode cX8_worker 15 = .ok (.getfield 241, 3) := by decide +kernel
theorem dX8_worker_18 : decode cX8_worker 18 = .ok (.bipush 16, 2) := by decide +kernel
theorem dX8_worker_20 : decode cX8_worker 20 = .ok (.if_icmp .ne 5, 3) := by decide +kernel
theorem dX8_worker_23 : decode cX8_worker 23 = .ok (.iconst (-1), 1) := by decide +kernel
theorem dX8_worker_24 : decode cX8_worker 24 = .ok (.ireturn, 1) := by decide +kernel
theorem dX8_worker_25 : decode cX8_worker 25 = .ok (.aload_n 0, 1) := by decide +kernel
theorem dX8_worker_26 : decode cX8_worker 26 = .ok (.getfield 29, 3) := by decide +kernel
theorem dX8_worker_29 : decode cX8_worker 29 = .ok (.aload_n 0, 1) := by decide +kernel
theorem dX8_worker_30 : decode cX8_worker 30 = .ok (.getfield 241, 3) := by decide +kernel
theorem dX8_worker_33 : decode cX8_worker 33 = .ok (.iload_n 1, 1) := by decide +kernel
theorem dX8_worker_34 : decode cX8_worker 34 = .ok (.iastore, 1) := by decide +kernel
theorem dX8_worker_35 : decode cX8_worker 35 = .ok (.aload_n 0, 1) := by decide +kernel
theorem dX8_worker_36 : decode cX8_worker 36 = .ok (.getfield 32, 3) := by decide +kernel
theorem dX8_worker_39 : decode cX8_worker 39 = .ok (.aload_n 0, 1) := by decide +kernel
theorem dX8_worker_40 : decode cX8_worker 40 = .ok (.getfield 241, 3) := by decide +kernel
theorem dX8_worker_43 : decode cX8_worker 43 = .ok (.aload_n 0, 1) := by decide +kernel
theorem dX8_worker_44 : decode cX8_worker 44 = .ok (.getfield 231, 3) := by decide +kernel
theorem dX8_worker_47 : decode cX8_worker 47 = .ok (.iastore, 1) := by decide +kernel
theorem dX8_worker_48 : decode cX8_worker 48 = .ok (.aload_n 0, 1) := by decide +kernel
theorem dX8_worker_49 : decode cX8_worker 49 = .ok (.dup, 1) := by decide +kernel
theorem dX8_worker_50 : decode cX8_worker 50 = .ok (.getfield 241, 3) := by decide +kernel
theorem dX8_worker_53 : decode cX8_worker 53 = .ok (.iconst 1, 1) := by decide +kernel
theorem dX8_worker_54 : decode cX8_worker 54 = .ok (.iadd, 1) := by decide +kernel
theorem dX8_worker_55 : decode cX8_worker 55 = .ok (.putfield 241, 3) := by decide +kernel
theorem dX8_worker_58 : decode cX8_worker 58 = .ok (.aload_n 0, 1) := by decide +kernel
theorem dX8_worker_59 : decode cX8_worker 59 = .ok (.getfield 241, 3) := by decide +kernel
theorem dX8_worker_62 : decode cX8_worker 62 = .ok (.iconst 1, 1) := by decide +kernel
theorem dX8_worker_63 : decode cX8_worker 63 = .ok (.isub, 1) := by decide +kernel
theorem dX8_worker_64 : decode cX8_worker 64 = .ok (.ireturn, 1) := by decide +kernel
set_option maxRecDepth 20000 in
theorem ggX8_paper_X8_isWorker : GoodIn wsX8_paper wsX8_isWorker := goodIn_r _ [12, 13, 14, 15, 16, 17, 18, 19, 20, 21, 22, 23, 24, 25, 26, 27, 28, 29, 30, 31, 32, 33, 34, 35, 36, 37, 38, 39, 40, 41, 42, 43, 44, 45, 46, 47, 48, 49, 50, 51, 52, 53, 54, 55, 56, 57, 58, 59, 60, 61, 62, 63, 64, 65, 66, 67, 68, 69, 70, 71, 72, 73, 74, 75, 76, 77, 78, 79, 80, 81, 82, 83, 84, 85] (by decide +kernel) (by decide +kernel)
set_option maxRecDepth 20000 in
theorem gX8_paper_X8_isWorker : GoodIn wsX8_paper (wsV RX8 244 RX8 yX8_isWorker wsX8_isWorker) := goodIn_app (goodIn_of _ (by decide +kernel)) ggX8_paper_X8_isWorker
theorem dX8_paper_0 : decode cX8_paper 0 = .ok (.aload_n 0, 1) := by decide +kernel
theorem dX8_paper_1 : decode cX8_paper 1 = .ok (.iconst 0, 1) := by decide +kernel
theorem dX8_paper_2 : decode cX8_paper 2 = .ok (.putfield 153, 3) := by decide +kernel
theorem dX8_paper_5 : decode cX8_paper 5 = .ok (.aload_n 0, 1) := by decide +kernel
theorem dX8_paper_6 : decode cX8_paper 6 = .ok (.iload_n 1, 1) := by decide +kernel
theorem dX8_paper_7 : decode cX8_paper 7 = .ok (.invokevirtual 244, 3) := by decide +kernel
theorem dX8_paper_10 : decode cX8_paper 10 = .ok (.ifCond .eq 32, 3) := by decide +kernel
theorem dX8_paper_13 : decode cX8_paper 13 = .ok (.iload_n 2, 1) := by decide +kernel
theorem dX8_paper_14 : decode cX8_paper 14 = .ok (.ifCond .lt 28, 3) := by decide +kernel
theorem dX8_paper_17 : decode cX8_paper 17 = .ok (.iload_n 2, 1) := by decide +kernel
theorem dX8_paper_18 : decode cX8_paper 18 = .ok (.bipush 7, 2) := by decide +kernel
theorem dX8_paper_20 : decode cX8_paper 20 = .ok (.if_icmp .gt 22, 3) := by decide +kernel
theorem dX8_paper_23 : decode cX8_paper 23 = .ok (.iload_n 3, 1) := by decide +kernel
theorem dX8_paper_24 : decode cX8_paper 24 = .ok (.ifCond .lt 18, 3) := by decide +kernel
theorem dX8_paper_27 : decode cX8_paper 27 = .ok (.iload_n 3, 1) := by decide +kernel
theorem dX8_paper_28 : decode cX8_paper 28 = .ok (.bipush 99, 2) := by decide +kernel
theorem dX8_paper_30 : decode cX8_paper 30 = .ok (.if_icmp .gt 12, 3) := by decide +kernel
theorem dX8_paper_33 : decode cX8_paper 33 = .ok (.aload_n 0, 1) := by decide +kernel
theorem dX8_paper_34 : decode cX8_paper 34 = .ok (.getfield 247, 3) := by decide +kernel
theorem dX8_paper_37 : decode cX8_paper 37 = .ok (.bipush 100, 2) := by decide +kernel
theorem dX8_paper_39 : decode cX8_paper 39 = .ok (.if_icmp .ne 5, 3) := by decide +kernel
theorem dX8_paper_42 : decode cX8_paper 42 = .ok (.iconst 0, 1) := by decide +kernel
theorem dX8_paper_43 : decode cX8_paper 43 = .ok (.ireturn, 1) := by decide +kernel
theorem dX8_paper_44 : decode cX8_paper 44 = .ok (.aload_n 0, 1) := by decide +kernel
theorem dX8_paper_45 : decode cX8_paper 45 = .ok (.getfield 35, 3) := by decide +kernel
theorem dX8_paper_48 : decode cX8_paper 48 = .ok (.aload_n 0, 1) := by decide +kernel
theorem dX8_paper_49 : decode cX8_paper 49 = .ok (.getfield 247, 3) := by decide +kernel
theorem dX8_paper_52 : decode cX8_paper 52 = .ok (.iload_n 1, 1) := by decide +kernel
theorem dX8_paper_53 : decode cX8_paper 53 = .ok (.iastore, 1) := by decide +kernel
theorem dX8_paper_54 : decode cX8_paper 54 = .ok (.aload_n 0, 1) := by decide +kernel
theorem dX8_paper_55 : decode cX8_paper 55 = .ok (.getfield 38, 3) := by decide +kernel
theorem dX8_paper_58 : decode cX8_paper 58 = .ok (.aload_n 0, 1) := by decide +kernel
theorem dX8_paper_59 : decode cX8_paper 59 = .ok (.getfield 247, 3) := by decide +kernel
theorem dX8_paper_62 : decode cX8_paper 62 = .ok (.iload_n 2, 1) := by decide +kernel
theorem dX8_paper_63 : decode cX8_paper 63 = .ok (.iastore, 1) := by decide +kernel
theorem dX8_paper_64 : decode cX8_paper 64 = .ok (.aload_n 0, 1) := by decide +kernel
theorem dX8_paper_65 : decode cX8_paper 65 = .ok (.getfield 41, 3) := by decide +kernel
theorem dX8_paper_68 : decode cX8_paper 68 = .ok (.aload_n 0, 1) := by decide +kernel
theorem dX8_paper_69 : decode cX8_paper 69 = .ok (.getfield 247, 3) := by decide +kernel
theorem dX8_paper_72 : decode cX8_paper 72 = .ok (.aload_n 0, 1) := by decide +kernel
theorem dX8_paper_73 : decode cX8_paper 73 = .ok (.getfield 231, 3) := by decide +kernel
theorem dX8_paper_76 : decode cX8_paper 76 = .ok (.iastore, 1) := by decide +kernel
theorem dX8_paper_77 : decode cX8_paper 77 = .ok (.aload_n 0, 1) := by decide +kernel
theorem dX8_paper_78 : decode cX8_paper 78 = .ok (.getfield 44, 3) := by decide +kernel
theorem dX8_paper_81 : decode cX8_paper 81 = .ok (.aload_n 0, 1) := by decide +kernel
theorem dX8_paper_82 : decode cX8_paper 82 = .ok (.getfield 247, 3) := by decide +kernel
theorem dX8_paper_85 : decode cX8_paper 85 = .ok (.iload_n 3, 1) := by decide +kernel
theorem dX8_paper_86 : decode cX8_paper 86 = .ok (.iastore, 1) := by decide +kernel
theorem dX8_paper_87 : decode cX8_paper 87 = .ok (.aload_n 0, 1) := by decide +kernel
theorem dX8_paper_88 : decode cX8_paper 88 = .ok (.dup, 1) := by decide +kernel
theorem dX8_paper_89 : decode cX8_paper 89 = .ok (.getfield 247, 3) := by decide +kernel
theorem dX8_paper_92 : decode cX8_paper 92 = .ok (.iconst 1, 1) := by decide +kernel
theorem dX8_paper_93 : decode cX8_paper 93 = .ok (.iadd, 1) := by decide +kernel
theorem dX8_paper_94 : decode cX8_paper 94 = .ok (.putfield 247, 3) := by decide +kernel
theorem dX8_paper_97 : decode cX8_paper 97 = .ok (.iconst 1, 1) := by decide +kernel
theorem dX8_paper_98 : decode cX8_paper 98 = .ok (.ireturn, 1) := by decide +kernel
theorem dX8_hasPaper_0 : decode cX8_hasPaper 0 = .ok (.iconst 0, 1) := by decide +kernel
theorem dX8_hasPaper_1 : decode cX8_hasPaper 1 = .ok (.istore 4, 2) := by decide +kernel
theorem dX8_hasPaper_3 : decode cX8_hasPaper 3 = .ok (.iconst 0, 1) := by decide +kernel
theorem dX8_hasPaper_4 : decode cX8_hasPaper 4 = .ok (.istore 5, 2) := by decide +kernel
theorem dX8_hasPaper_6 : decode cX8_hasPaper 6 = .ok (.iload 5, 2) := by decide +kernel
theorem dX8_hasPaper_8 : decode cX8_hasPaper 8 = .ok (.aload_n 0, 1) := by decide +kernel
theorem dX8_hasPaper_9 : decode cX8_hasPaper 9 = .ok (.getfield 247, 3) := by decide +kernel
theorem dX8_hasPaper_12 : decode cX8_hasPaper 12 = .ok (.if_icmp .ge 60, 3) := by decide +kernel
theorem dX8_hasPaper_15 : decode cX8_hasPaper 15 = .ok (.aload_n 0, 1) := by decide +kernel
theorem dX8_hasPaper_16 : decode cX8_hasPaper 16 = .ok (.getfield 35, 3) := by decide +kernel
theorem dX8_hasPaper_19 : decode cX8_hasPaper 19 = .ok (.iload 5, 2) := by decide +kernel
theorem dX8_hasPaper_21 : decode cX8_hasPaper 21 = .ok (.iaload, 1) := by decide +kernel
theorem dX8_hasPaper_22 : decode cX8_hasPaper 22 = .ok (.iload_n 1, 1) := by decide +kernel
theorem dX8_hasPaper_23 : decode cX8_hasPaper 23 = .ok (.if_icmp .ne 43, 3) := by decide +kernel
theorem dX8_hasPaper_26 : decode cX8_hasPaper 26 = .ok (.aload_n 0, 1) := by decide +kernel
theorem dX8_hasPaper_27 : decode cX8_hasPaper 27 = .ok (.getfield 38, 3) := by decide +kernel
theorem dX8_hasPaper_30 : decode cX8_hasPaper 30 = .ok (.iload 5, 2) := by decide +kernel
theorem dX8_hasPaper_32 : decode cX8_hasPaper 32 = .ok (.iaload, 1) := by decide +kernel
theorem dX8_hasPaper_33 : decode cX8_hasPaper 33 = .ok (.iload_n 2, 1) := by decide +kernel
theorem dX8_hasPaper_34 : decode cX8_hasPaper 34 = .ok (.if_icmp .ne 32, 3) := by decide +kernel
theorem dX8_hasPaper_37 : decode cX8_hasPaper 37 = .ok (.aload_n 0, 1) := by decide +kernel
theorem dX8_hasPaper_38 : decode cX8_hasPaper 38 = .ok (.getfield 41, 3) := by decide +kernel
theorem dX8_hasPaper_41 : decode cX8_hasPaper 41 = .ok (.iload 5, 2) := by decide +kernel
theorem dX8_hasPaper_43 : decode cX8_hasPaper 43 = .ok (.iaload, 1) := by decide +kernel
theorem dX8_hasPaper_44 : decode cX8_hasPaper 44 = .ok (.iload_n 3, 1) := by decide +kernel
theorem dX8_hasPaper_45 : decode cX8_hasPaper 45 = .ok (.if_icmp .gt 21, 3) := by decide +kernel
theorem dX8_hasPaper_48 : decode cX8_hasPaper 48 = .ok (.aload_n 0, 1) := by decide +kernel
theorem dX8_hasPaper_49 : decode cX8_hasPaper 49 = .ok (.getfield 44, 3) := by decide +kernel
theorem dX8_hasPaper_52 : decode cX8_hasPaper 52 = .ok (.iload 5, 2) := by decide +kernel
theorem dX8_hasPaper_54 : decode cX8_hasPaper 54 = .ok (.iaload, 1) := by decide +kernel
theorem dX8_hasPaper_55 : decode cX8_hasPaper 55 = .ok (.iload_n 3, 1) := by decide +kernel
theorem dX8_hasPaper_56 : decode cX8_hasPaper 56 = .ok (.if_icmp .lt 7, 3) := by decide +kernel
theorem dX8_hasPaper_59 : decode cX8_hasPaper 59 = .ok (.iconst 1, 1) := by decide +kernel
theorem dX8_hasPaper_60 : decode cX8_hasPaper 60 = .ok (.goto 4, 3) := by decide +kernel
theorem dX8_hasPaper_63 : decode cX8_hasPaper 63 = .ok (.iconst 0, 1) := by decide +kernel
theorem dX8_hasPaper_64 : decode cX8_hasPaper 64 = .ok (.istore 4, 2) := by decide +kernel
theorem dX8_hasPaper_66 : decode cX8_hasPaper 66 = .ok (.iinc 5 1, 3) := by decide +kernel
theorem dX8_hasPaper_69 : decode cX8_hasPaper 69 = .ok (.goto (-63), 3) := by decide +kernel
theorem dX8_hasPaper_72 : decode cX8_hasPaper 72 = .ok (.iload 4, 2) := by decide +kernel
theorem dX8_hasPaper_74 : decode cX8_hasPaper 74 = .ok (.ireturn, 1) := by decide +kernel
set_option maxRecDepth 20000 in
theorem ggX8_here_X8_isWorker : GoodIn wsX8_here wsX8_isWorker := goodIn_r _ [12, 13, 14, 15, 16, 17, 18, 19, 20, 21, 22, 23, 24, 25, 26, 27, 28, 29, 30, 31, 32, 33, 34, 35, 36, 37, 38, 39, 40, 41, 42, 43, 44, 45, 46, 47, 48, 49, 50, 51, 52, 53, 54, 55, 56, 57, 58, 59, 60, 61, 62, 63, 64, 65, 66, 67, 68, 69, 70, 71, 72, 73, 74, 75, 76, 77, 78, 79, 80, 81, 82, 83, 84, 85] (by decide +kernel) (by decide +kernel)
set_option maxRecDepth 20000 in
theorem gX8_here_X8_isWorker : GoodIn wsX8_here (wsV RX8 244 RX8 yX8_isWorker wsX8_isWorker) := goodIn_app (goodIn_of _ (by decide +kernel)) ggX8_here_X8_isWorker
theorem dX8_here_0 : decode cX8_here 0 = .ok (.aload_n 0, 1) := by decide +kernel
theorem dX8_here_1 : decode cX8_here 1 = .ok (.iconst 0, 1) := by decide +kernel
theorem dX8_here_2 : decode cX8_here 2 = .ok (.putfield 153, 3) := by decide +kernel
theorem dX8_here_5 : decode cX8_here 5 = .ok (.aload_n 0, 1) := by decide +kernel
theorem dX8_here_6 : decode cX8_here 6 = .ok (.iload_n 1, 1) := by decide +kernel
theorem dX8_here_7 : decode cX8_here 7 = .ok (.invokevirtual 244, 3) := by decide +kernel
theorem dX8_here_10 : decode cX8_here 10 = .ok (.ifCond .eq 45, 3) := by decide +kernel
theorem dX8_here_13 : decode cX8_here 13 = .ok (.iload_n 2, 1) := by decide +kernel
theorem dX8_here_14 : decode cX8_here 14 = .ok (.aload_n 0, 1) := by decide +kernel
theorem dX8_here_15 : decode cX8_here 15 = .ok (.getfield 231, 3) := by decide +kernel
theorem dX8_here_18 : decode cX8_here 18 = .ok (.if_icmp .lt 37, 3) := by decide +kernel
theorem dX8_here_21 : decode cX8_here 21 = .ok (.iload_n 2, 1) := by decide +kernel
theorem dX8_here_22 : decode cX8_here 22 = .ok (.bipush 99, 2) := by decide +kernel
theorem dX8_here_24 : decode cX8_here 24 = .ok (.if_icmp .gt 31, 3) := by decide +kernel
theorem dX8_here_27 : decode cX8_here 27 = .ok (.iload_n 3, 1) := by decide +kernel
theorem dX8_here_28 : decode cX8_here 28 = .ok (.ifCond .lt 27, 3) := by decide +kernel
theorem dX8_here_31 : decode cX8_here 31 = .ok (.iload 4, 2) := by decide +kernel
theorem dX8_here_33 : decode cX8_here 33 = .ok (.sipush 600, 3) := by decide +kernel
theorem dX8_here_36 : decode cX8_here 36 = .ok (.if_icmp .gt 19, 3) := by decide +kernel
theorem dX8_here_39 : decode cX8_here 39 = .ok (.iload_n 3, 1) := by decide +kernel
theorem dX8_here_40 : decode cX8_here 40 = .ok (.iload 4, 2) := by decide +kernel
theorem dX8_here_42 : decode cX8_here 42 = .ok (.if_icmp .ge 13, 3) := by decide +kernel
theorem dX8_here_45 : decode cX8_here 45 = .ok (.aload_n 0, 1) := by decide +kernel
theorem dX8_here_46 : decode cX8_here 46 = .ok (.getfield 250, 3) := by decide +kernel
theorem dX8_here_49 : decode cX8_here 49 = .ok (.sipush 200, 3) := by decide +kernel
theorem dX8_here_52 : decode cX8_here 52 = .ok (.if_icmp .ne 5, 3) := by decide +kernel
theorem dX8_here_55 : decode cX8_here 55 = .ok (.iconst 0, 1) := by decide +kernel
theorem dX8_here_56 : decode cX8_here 56 = .ok (.ireturn, 1) := by decide +kernel
theorem dX8_here_57 : decode cX8_here 57 = .ok (.aload_n 0, 1) := by decide +kernel
theorem dX8_here_58 : decode cX8_here 58 = .ok (.getfield 47, 3) := by decide +kernel
theorem dX8_here_61 : decode cX8_here 61 = .ok (.aload_n 0, 1) := by decide +kernel
theorem dX8_here_62 : decode cX8_here 62 = .ok (.getfield 250, 3) := by decide +kernel
theorem dX8_here_65 : decode cX8_here 65 = .ok (.iload_n 1, 1) := by decide +kernel
theorem dX8_here_66 : decode cX8_here 66 = .ok (.iastore, 1) := by decide +kernel
theorem dX8_here_67 : decode cX8_here 67 = .ok (.aload_n 0, 1) := by decide +kernel
theorem dX8_here_68 : decode cX8_here 68 = .ok (.getfield 50, 3) := by decide +kernel
theorem dX8_here_71 : decode cX8_here 71 = .ok (.aload_n 0, 1) := by decide +kernel
theorem dX8_here_72 : decode cX8_here 72 = .ok (.getfield 250, 3) := by decide +kernel
theorem dX8_here_75 : decode cX8_here 75 = .ok (.iload_n 2, 1) := by decide +kernel
theorem dX8_here_76 : decode cX8_here 76 = .ok (.iastore, 1) := by decide +kernel
theorem dX8_here_77 : decode cX8_here 77 = .ok (.aload_n 0, 1) := by decide +kernel
theorem dX8_here_78 : decode cX8_here 78 = .ok (.getfield 53, 3) := by decide +kernel
theorem dX8_here_81 : decode cX8_here 81 = .ok (.aload_n 0, 1) := by decide +kernel
theorem dX8_here_82 : decode cX8_here 82 = .ok (.getfield 250, 3) := by decide +kernel
theorem dX8_here_85 : decode cX8_here 85 = .ok (.iload_n 3, 1) := by decide +kernel
theorem dX8_here_86 : decode cX8_here 86 = .ok (.iastore, 1) := by decide +kernel
theorem dX8_here_87 : decode cX8_here 87 = .ok (.aload_n 0, 1) := by decide +kernel
theorem dX8_here_88 : decode cX8_here 88 = .ok (.getfield 56, 3) := by decide +kernel
theorem dX8_here_91 : decode cX8_here 91 = .ok (.aload_n 0, 1) := by decide +kernel
theorem dX8_here_92 : decode cX8_here 92 = .ok (.getfield 250, 3) := by decide +kernel
theorem dX8_here_95 : decode cX8_here 95 = .ok (.iload 4, 2) := by decide +kernel
theorem dX8_here_97 : decode cX8_here 97 = .ok (.iastore, 1) := by decide +kernel
theorem dX8_here_98 : decode cX8_here 98 = .ok (.aload_n 0, 1) := by decide +kernel
