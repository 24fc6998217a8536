theorem dX8_looksAt_291 : decode cX8_looksAt 291 = .ok (.goto (-26), 3) := by decide +kernel
theorem dX8_looksAt_294 : decode cX8_looksAt 294 = .ok (.iload 7, 2) := by decide +kernel
theorem dX8_looksAt_296 : decode cX8_looksAt 296 = .ok (.aload_n 0, 1) := by decide +kernel
theorem dX8_looksAt_297 : decode cX8_looksAt 297 = .ok (.getfield 130, 3) := by decide +kernel
theorem dX8_looksAt_300 : decode cX8_looksAt 300 = .ok (.if_icmp .ge 13, 3) := by decide +kernel
theorem dX8_looksAt_303 : decode cX8_looksAt 303 = .ok (.aload_n 0, 1) := by decide +kernel
theorem dX8_looksAt_304 : decode cX8_looksAt 304 = .ok (.getfield 34, 3) := by decide +kernel
theorem dX8_looksAt_307 : decode cX8_looksAt 307 = .ok (.iload 7, 2) := by decide +kernel
theorem dX8_looksAt_309 : decode cX8_looksAt 309 = .ok (.iaload, 1) := by decide +kernel
theorem dX8_looksAt_310 : decode cX8_looksAt 310 = .ok (.goto 7, 3) := by decide +kernel
theorem dX8_looksAt_313 : decode cX8_looksAt 313 = .ok (.aload_n 0, 1) := by decide +kernel
theorem dX8_looksAt_314 : decode cX8_looksAt 314 = .ok (.getfield 137, 3) := by decide +kernel
theorem dX8_looksAt_317 : decode cX8_looksAt 317 = .ok (.istore 8, 2) := by decide +kernel
theorem dX8_looksAt_319 : decode cX8_looksAt 319 = .ok (.iload 7, 2) := by decide +kernel
theorem dX8_looksAt_321 : decode cX8_looksAt 321 = .ok (.aload_n 0, 1) := by decide +kernel
theorem dX8_looksAt_322 : decode cX8_looksAt 322 = .ok (.getfield 130, 3) := by decide +kernel
theorem dX8_looksAt_325 : decode cX8_looksAt 325 = .ok (.if_icmp .ge 13, 3) := by decide +kernel
theorem dX8_looksAt_328 : decode cX8_looksAt 328 = .ok (.aload_n 0, 1) := by decide +kernel
theorem dX8_looksAt_329 : decode cX8_looksAt 329 = .ok (.getfield 37, 3) := by decide +kernel
theorem dX8_looksAt_332 : decode cX8_looksAt 332 = .ok (.iload 7, 2) := by decide +kernel
theorem dX8_looksAt_334 : decode cX8_looksAt 334 = .ok (.iaload, 1) := by decide +kernel
theorem dX8_looksAt_335 : decode cX8_looksAt 335 = .ok (.goto 9, 3) := by decide +kernel
theorem dX8_looksAt_338 : decode cX8_looksAt 338 = .ok (.aload_n 0, 1) := by decide +kernel
theorem dX8_looksAt_339 : decode cX8_looksAt 339 = .ok (.getfield 137, 3) := by decide +kernel
theorem dX8_looksAt_342 : decode cX8_looksAt 342 = .ok (.iconst 1, 1) := by decide +kernel
theorem dX8_looksAt_343 : decode cX8_looksAt 343 = .ok (.iadd, 1) := by decide +kernel
theorem dX8_looksAt_344 : decode cX8_looksAt 344 = .ok (.istore 9, 2) := by decide +kernel
theorem dX8_looksAt_346 : decode cX8_looksAt 346 = .ok (.aload_n 0, 1) := by decide +kernel
theorem dX8_looksAt_347 : decode cX8_looksAt 347 = .ok (.aload_n 0, 1) := by decide +kernel
theorem dX8_looksAt_348 : decode cX8_looksAt 348 = .ok (.bipush 48, 2) := by decide +kernel
theorem dX8_looksAt_350 : decode cX8_looksAt 350 = .ok (.aload_n 0, 1) := by decide +kernel
theorem dX8_looksAt_351 : decode cX8_looksAt 351 = .ok (.getfield 140, 3) := by decide +kernel
theorem dX8_looksAt_354 : decode cX8_looksAt 354 = .ok (.invokevirtual 94, 3) := by decide +kernel
theorem dX8_looksAt_357 : decode cX8_looksAt 357 = .ok (.ifCond .ne 8, 3) := by decide +kernel
theorem dX8_looksAt_360 : decode cX8_looksAt 360 = .ok (.iload 8, 2) := by decide +kernel
theorem dX8_looksAt_362 : decode cX8_looksAt 362 = .ok (.goto 5, 3) := by decide +kernel
theorem dX8_looksAt_365 : decode cX8_looksAt 365 = .ok (.iload 9, 2) := by decide +kernel
theorem dX8_looksAt_367 : decode cX8_looksAt 367 = .ok (.putfield 146, 3) := by decide +kernel
theorem dX8_looksAt_370 : decode cX8_looksAt 370 = .ok (.return_, 1) := by decide +kernel
set_option maxRecDepth 20000 in
theorem ggX8_goes_X8_topLevel : GoodIn wsX8_goes wsX8_topLevel := goodIn_r _ [17, 18, 65, 66, 67, 68, 69, 70, 71, 72, 73, 74, 75, 76, 77, 78, 79, 80, 81, 82, 83, 84, 85, 86, 87, 88, 89, 90, 91, 92, 93, 94, 95, 96, 97, 98] rfl (by decide +kernel)
set_option maxRecDepth 20000 in
theorem gX8_goes_X8_topLevel : GoodIn wsX8_goes (wsV RX8 110 RX8 yX8_topLevel wsX8_topLevel) := goodIn_app (goodIn_of _ (by decide +kernel)) ggX8_goes_X8_topLevel
set_option maxRecDepth 20000 in
theorem ggX8_goes_X8_looksAt : GoodIn wsX8_goes wsX8_looksAt := goodIn_r _ [22, 23, 24, 11, 25, 26, 27, 4, 6, 8, 10, 28, 29, 30, 16, 31, 32, 33, 34, 35, 18, 36, 37, 38, 39, 40, 41, 42, 43, 44, 45, 46, 47, 48, 49, 50, 51, 52, 53, 54, 55, 12, 56, 57, 58, 59, 60, 61, 62, 63, 64, 65, 66, 67, 68, 69, 70, 71, 72, 73, 74, 75, 76, 77, 78, 79, 80, 81, 82, 83, 84, 85, 86, 87, 88, 89, 90, 91, 92, 93, 94, 95, 96, 97, 98] rfl (by decide +kernel)
set_option maxRecDepth 20000 in
theorem gX8_goes_X8_looksAt : GoodIn wsX8_goes (wsV RX8 149 RX8 yX8_looksAt wsX8_looksAt) := goodIn_app (goodIn_of _ (by decide +kernel)) ggX8_goes_X8_looksAt
set_option maxRecDepth 20000 in
theorem ggX8_goes_X8_differ : GoodIn wsX8_goes wsX8_differ := goodIn_r _ [47, 48, 49, 50, 16, 51, 52, 53, 54, 55, 12, 18, 56, 57, 58, 59, 60, 65, 66, 67, 68, 69, 70, 71, 72, 73, 74, 75, 76, 77, 78, 79, 80, 81, 82, 83, 84, 85, 86, 87, 88, 89, 90, 91, 92, 93, 94, 95, 96, 97, 98] rfl (by decide +kernel)
set_option maxRecDepth 20000 in
theorem gX8_goes_X8_differ : GoodIn wsX8_goes (wsV RX8 97 RX8 yX8_differ wsX8_differ) := goodIn_app (goodIn_of _ (by decide +kernel)) ggX8_goes_X8_differ
set_option maxRecDepth 20000 in
theorem ggX8_goes_X8_entriesAhead : GoodIn wsX8_goes wsX8_entriesAhead := goodIn_r _ [39, 32, 33, 34, 16, 35, 18, 65, 66, 67, 68, 69, 70, 71, 72, 73, 74, 75, 76, 77, 78, 79, 80, 81, 82, 83, 84, 85, 86, 87, 88, 89, 90, 91, 92, 93, 94, 95, 96, 97, 98] rfl (by decide +kernel)
set_option maxRecDepth 20000 in
theorem gX8_goes_X8_entriesAhead : GoodIn wsX8_goes (wsV RX8 107 RX8 yX8_entriesAhead wsX8_entriesAhead) := goodIn_app (goodIn_of _ (by decide +kernel)) ggX8_goes_X8_entriesAhead
theorem dX8_goes_0 : decode cX8_goes 0 = .ok (.iconst 0, 1) := by decide +kernel
theorem dX8_goes_1 : decode cX8_goes 1 = .ok (.istore_n 1, 1) := by decide +kernel
theorem dX8_goes_2 : decode cX8_goes 2 = .ok (.iconst 0, 1) := by decide +kernel
theorem dX8_goes_3 : decode cX8_goes 3 = .ok (.istore_n 2, 1) := by decide +kernel
theorem dX8_goes_4 : decode cX8_goes 4 = .ok (.aload_n 0, 1) := by decide +kernel
theorem dX8_goes_5 : decode cX8_goes 5 = .ok (.invokevirtual 110, 3) := by decide +kernel
theorem dX8_goes_8 : decode cX8_goes 8 = .ok (.istore_n 3, 1) := by decide +kernel
theorem dX8_goes_9 : decode cX8_goes 9 = .ok (.iload_n 3, 1) := by decide +kernel
theorem dX8_goes_10 : decode cX8_goes 10 = .ok (.ifCond .lt 133, 3) := by decide +kernel
theorem dX8_goes_13 : decode cX8_goes 13 = .ok (.aload_n 0, 1) := by decide +kernel
theorem dX8_goes_14 : decode cX8_goes 14 = .ok (.iload_n 3, 1) := by decide +kernel
theorem dX8_goes_15 : decode cX8_goes 15 = .ok (.iload_n 1, 1) := by decide +kernel
theorem dX8_goes_16 : decode cX8_goes 16 = .ok (.iload_n 2, 1) := by decide +kernel
theorem dX8_goes_17 : decode cX8_goes 17 = .ok (.invokevirtual 149, 3) := by decide +kernel
theorem dX8_goes_20 : decode cX8_goes 20 = .ok (.aload_n 0, 1) := by decide +kernel
theorem dX8_goes_21 : decode cX8_goes 21 = .ok (.getfield 40, 3) := by decide +kernel
theorem dX8_goes_24 : decode cX8_goes 24 = .ok (.iload_n 3, 1) := by decide +kernel
theorem dX8_goes_25 : decode cX8_goes 25 = .ok (.iload_n 1, 1) := by decide +kernel
theorem dX8_goes_26 : decode cX8_goes 26 = .ok (.iastore, 1) := by decide +kernel
theorem dX8_goes_27 : decode cX8_goes 27 = .ok (.aload_n 0, 1) := by decide +kernel
theorem dX8_goes_28 : decode cX8_goes 28 = .ok (.getfield 43, 3) := by decide +kernel
theorem dX8_goes_31 : decode cX8_goes 31 = .ok (.iload_n 3, 1) := by decide +kernel
theorem dX8_goes_32 : decode cX8_goes 32 = .ok (.iload_n 2, 1) := by decide +kernel
theorem dX8_goes_33 : decode cX8_goes 33 = .ok (.iastore, 1) := by decide +kernel
theorem dX8_goes_34 : decode cX8_goes 34 = .ok (.aload_n 0, 1) := by decide +kernel
theorem dX8_goes_35 : decode cX8_goes 35 = .ok (.getfield 46, 3) := by decide +kernel
theorem dX8_goes_38 : decode cX8_goes 38 = .ok (.iload_n 3, 1) := by decide +kernel
theorem dX8_goes_39 : decode cX8_goes 39 = .ok (.aload_n 0, 1) := by decide +kernel
theorem dX8_goes_40 : decode cX8_goes 40 = .ok (.getfield 137, 3) := by decide +kernel
theorem dX8_goes_43 : decode cX8_goes 43 = .ok (.iastore, 1) := by decide +kernel
theorem dX8_goes_44 : decode cX8_goes 44 = .ok (.aload_n 0, 1) := by decide +kernel
theorem dX8_goes_45 : decode cX8_goes 45 = .ok (.getfield 49, 3) := by decide +kernel
theorem dX8_goes_48 : decode cX8_goes 48 = .ok (.iload_n 3, 1) := by decide +kernel
theorem dX8_goes_49 : decode cX8_goes 49 = .ok (.aload_n 0, 1) := by decide +kernel
theorem dX8_goes_50 : decode cX8_goes 50 = .ok (.getfield 140, 3) := by decide +kernel
theorem dX8_goes_53 : decode cX8_goes 53 = .ok (.iastore, 1) := by decide +kernel
theorem dX8_goes_54 : decode cX8_goes 54 = .ok (.aload_n 0, 1) := by decide +kernel
theorem dX8_goes_55 : decode cX8_goes 55 = .ok (.getfield 52, 3) := by decide +kernel
theorem dX8_goes_58 : decode cX8_goes 58 = .ok (.iload_n 3, 1) := by decide +kernel
theorem dX8_goes_59 : decode cX8_goes 59 = .ok (.aload_n 0, 1) := by decide +kernel
theorem dX8_goes_60 : decode cX8_goes 60 = .ok (.getfield 143, 3) := by decide +kernel
theorem dX8_goes_63 : decode cX8_goes 63 = .ok (.iastore, 1) := by decide +kernel
theorem dX8_goes_64 : decode cX8_goes 64 = .ok (.aload_n 0, 1) := by decide +kernel
theorem dX8_goes_65 : decode cX8_goes 65 = .ok (.getfield 55, 3) := by decide +kernel
theorem dX8_goes_68 : decode cX8_goes 68 = .ok (.iload_n 3, 1) := by decide +kernel
theorem dX8_goes_69 : decode cX8_goes 69 = .ok (.aload_n 0, 1) := by decide +kernel
theorem dX8_goes_70 : decode cX8_goes 70 = .ok (.getfield 146, 3) := by decide +kernel
theorem dX8_goes_73 : decode cX8_goes 73 = .ok (.iastore, 1) := by decide +kernel
theorem dX8_goes_74 : decode cX8_goes 74 = .ok (.aload_n 0, 1) := by decide +kernel
theorem dX8_goes_75 : decode cX8_goes 75 = .ok (.getfield 146, 3) := by decide +kernel
theorem dX8_goes_78 : decode cX8_goes 78 = .ok (.ifCond .ne 7, 3) := by decide +kernel
theorem dX8_goes_81 : decode cX8_goes 81 = .ok (.iconst 0, 1) := by decide +kernel
theorem dX8_goes_82 : decode cX8_goes 82 = .ok (.goto 9, 3) := by decide +kernel
theorem dX8_goes_85 : decode cX8_goes 85 = .ok (.aload_n 0, 1) := by decide +kernel
theorem dX8_goes_86 : decode cX8_goes 86 = .ok (.getfield 146, 3) := by decide +kernel
theorem dX8_goes_89 : decode cX8_goes 89 = .ok (.iconst 1, 1) := by decide +kernel
theorem dX8_goes_90 : decode cX8_goes 90 = .ok (.isub, 1) := by decide +kernel
theorem dX8_goes_91 : decode cX8_goes 91 = .ok (.istore 4, 2) := by decide +kernel
theorem dX8_goes_93 : decode cX8_goes 93 = .ok (.aload_n 0, 1) := by decide +kernel
theorem dX8_goes_94 : decode cX8_goes 94 = .ok (.bipush 48, 2) := by decide +kernel
theorem dX8_goes_96 : decode cX8_goes 96 = .ok (.aload_n 0, 1) := by decide +kernel
theorem dX8_goes_97 : decode cX8_goes 97 = .ok (.getfield 28, 3) := by decide +kernel
theorem dX8_goes_100 : decode cX8_goes 100 = .ok (.iload 4, 2) := by decide +kernel
theorem dX8_goes_102 : decode cX8_goes 102 = .ok (.iaload, 1) := by decide +kernel
theorem dX8_goes_103 : decode cX8_goes 103 = .ok (.invokevirtual 97, 3) := by decide +kernel
theorem dX8_goes_106 : decode cX8_goes 106 = .ok (.istore 5, 2) := by decide +kernel
theorem dX8_goes_108 : decode cX8_goes 108 = .ok (.iload 5, 2) := by decide +kernel
theorem dX8_goes_110 : decode cX8_goes 110 = .ok (.iconst (-1), 1) := by decide +kernel
theorem dX8_goes_111 : decode cX8_goes 111 = .ok (.if_icmp .ne 13, 3) := by decide +kernel
theorem dX8_goes_114 : decode cX8_goes 114 = .ok (.bipush 8, 2) := by decide +kernel
theorem dX8_goes_116 : decode cX8_goes 116 = .ok (.aload_n 0, 1) := by decide +kernel
theorem dX8_goes_117 : decode cX8_goes 117 = .ok (.getfield 83, 3) := by decide +kernel
theorem dX8_goes_120 : decode cX8_goes 120 = .ok (.imul, 1) := by decide +kernel
theorem dX8_goes_121 : decode cX8_goes 121 = .ok (.goto 5, 3) := by decide +kernel
theorem dX8_goes_124 : decode cX8_goes 124 = .ok (.iload 5, 2) := by decide +kernel
theorem dX8_goes_126 : decode cX8_goes 126 = .ok (.istore_n 2, 1) := by decide +kernel
theorem dX8_goes_127 : decode cX8_goes 127 = .ok (.aload_n 0, 1) := by decide +kernel
theorem dX8_goes_128 : decode cX8_goes 128 = .ok (.iload_n 3, 1) := by decide +kernel
theorem dX8_goes_129 : decode cX8_goes 129 = .ok (.iload_n 1, 1) := by decide +kernel
theorem dX8_goes_130 : decode cX8_goes 130 = .ok (.invokevirtual 107, 3) := by decide +kernel
theorem dX8_goes_133 : decode cX8_goes 133 = .ok (.iload 4, 2) := by decide +kernel
theorem dX8_goes_135 : decode cX8_goes 135 = .ok (.iadd, 1) := by decide +kernel
theorem dX8_goes_136 : decode cX8_goes 136 = .ok (.istore_n 1, 1) := by decide +kernel
theorem dX8_goes_137 : decode cX8_goes 137 = .ok (.iinc 3 (-1), 3) := by decide +kernel
theorem dX8_goes_140 : decode cX8_goes 140 = .ok (.goto (-131), 3) := by decide +kernel
theorem dX8_goes_143 : decode cX8_goes 143 = .ok (.return_, 1) := by decide +kernel
set_option maxRecDepth 20000 in
theorem ggX8_cost_X8_goes : GoodIn wsX8_cost wsX8_goes := goodIn_r _ [7, 8, 9, 10, 11, 12, 13, 2, 14, 15, 16, 17, 18, 19, 20, 21, 6, 22, 1, 23, 24, 25, 26, 27, 28, 29, 30, 31, 32, 33, 34, 35, 36, 37, 38, 39, 40, 41, 42, 43, 44, 45, 46, 47, 48, 49, 50, 51, 52, 53, 54, 55, 56, 57, 58, 59, 60, 61, 62, 63, 64, 65, 66, 67, 68, 69, 70, 71, 72, 73, 74, 75, 76, 77, 78, 79, 80, 81, 82, 83, 84, 85, 86, 87, 88, 89, 90, 91, 92, 93, 94, 95, 96, 97, 98, 99, 100, 101, 102] rfl (by decide +kernel)
set_option maxRecDepth 20000 in
theorem gX8_cost_X8_goes : GoodIn wsX8_cost (wsV RX8 153 RX8 yX8_goes wsX8_goes) := goodIn_app (goodIn_of _ (by decide +kernel)) ggX8_cost_X8_goes
theorem dX8_cost_0 : decode cX8_cost 0 = .ok (.aload_n 0, 1) := by decide +kernel
theorem dX8_cost_1 : decode cX8_cost 1 = .ok (.invokevirtual 153, 3) := by decide +kernel
theorem dX8_cost_4 : decode cX8_cost 4 = .ok (.iconst 0, 1) := by decide +kernel
theorem dX8_cost_5 : decode cX8_cost 5 = .ok (.istore_n 1, 1) := by decide +kernel
theorem dX8_cost_6 : decode cX8_cost 6 = .ok (.iconst 0, 1) := by decide +kernel
theorem dX8_cost_7 : decode cX8_cost 7 = .ok (.istore_n 2, 1) := by decide +kernel
theorem dX8_cost_8 : decode cX8_cost 8 = .ok (.iload_n 2, 1) := by decide +kernel
theorem dX8_cost_9 : decode cX8_cost 9 = .ok (.aload_n 0, 1) := by decide +kernel
theorem dX8_cost_10 : decode cX8_cost 10 = .ok (.getfield 7, 3) := by decide +kernel
theorem dX8_cost_13 : decode cX8_cost 13 = .ok (.iconst 2, 1) := by decide +kernel
theorem dX8_cost_14 : decode cX8_cost 14 = .ok (.iaload, 1) := by decide +kernel
theorem dX8_cost_15 : decode cX8_cost 15 = .ok (.if_icmp .ge 18, 3) := by decide +kernel
theorem dX8_cost_18 : decode cX8_cost 18 = .ok (.iload_n 1, 1) := by decide +kernel
theorem dX8_cost_19 : decode cX8_cost 19 = .ok (.aload_n 0, 1) := by decide +kernel
theorem dX8_cost_20 : decode cX8_cost 20 = .ok (.getfield 52, 3) := by decide +kernel
theorem dX8_cost_23 : decode cX8_cost 23 = .ok (.iload_n 2, 1) := by decide +kernel
theorem dX8_cost_24 : decode cX8_cost 24 = .ok (.iaload, 1) := by decide +kernel
theorem dX8_cost_25 : decode cX8_cost 25 = .ok (.iadd, 1) := by decide +kernel
theorem dX8_cost_26 : decode cX8_cost 26 = .ok (.istore_n 1, 1) := by decide +kernel
theorem dX8_cost_27 : decode cX8_cost 27 = .ok (.iinc 2 1, 3) := by decide +kernel
theorem dX8_cost_30 : decode cX8_cost 30 = .ok (.goto (-22), 3) := by decide +kernel
theorem dX8_cost_33 : decode cX8_cost 33 = .ok (.iload_n 1, 1) := by decide +kernel
theorem dX8_cost_34 : decode cX8_cost 34 = .ok (.ireturn, 1) := by decide +kernel
set_option maxRecDepth 20000 in
theorem ggX8_opensPage_X8_sizeOf : GoodIn wsX8_opensPage wsX8_sizeOf := goodIn_r _ [6, 1, 11, 12, 13, 14, 15, 16, 17, 18, 19, 20, 21, 22, 23, 24, 25, 26, 27, 28, 29, 30, 31, 32, 33, 34, 35, 36, 37, 38, 39, 40, 41, 42, 43, 44] rfl (by decide +kernel)
set_option maxRecDepth 20000 in
theorem gX8_opensPage_X8_sizeOf : GoodIn wsX8_opensPage (wsV RX8 104 RX8 yX8_sizeOf wsX8_sizeOf) := goodIn_app (goodIn_of _ (by decide +kernel)) ggX8_opensPage_X8_sizeOf
set_option maxRecDepth 20000 in
theorem ggX8_opensPage_X8_setSize : GoodIn wsX8_opensPage wsX8_setSize := goodIn_r _ [10, 1, 11, 12, 13, 14, 15, 16, 17, 18, 19, 20, 21, 22, 23, 24, 25, 26, 27, 28, 29, 30, 31, 32, 33, 34, 35, 36, 37, 38, 39, 40, 41, 42, 43, 44] rfl (by decide +kernel)
set_option maxRecDepth 20000 in
theorem gX8_opensPage_X8_setSize : GoodIn wsX8_opensPage (wsV RX8 156 RX8 yX8_setSize wsX8_setSize) := goodIn_app (goodIn_of _ (by decide +kernel)) ggX8_opensPage_X8_setSize
theorem dX8_opensPage_0 : decode cX8_opensPage 0 = .ok (.aload_n 0, 1) := by decide +kernel
theorem dX8_opensPage_1 : decode cX8_opensPage 1 = .ok (.getfield 7, 3) := by decide +kernel
theorem dX8_opensPage_4 : decode cX8_opensPage 4 = .ok (.iconst 3, 1) := by decide +kernel
theorem dX8_opensPage_5 : decode cX8_opensPage 5 = .ok (.iload_n 1, 1) := by decide +kernel
theorem dX8_opensPage_6 : decode cX8_opensPage 6 = .ok (.iadd, 1) := by decide +kernel
theorem dX8_opensPage_7 : decode cX8_opensPage 7 = .ok (.iaload, 1) := by decide +kernel
theorem dX8_opensPage_8 : decode cX8_opensPage 8 = .ok (.istore_n 3, 1) := by decide +kernel
theorem dX8_opensPage_9 : decode cX8_opensPage 9 = .ok (.iload_n 3, 1) := by decide +kernel
theorem dX8_opensPage_10 : decode cX8_opensPage 10 = .ok (.iload_n 2, 1) := by decide +kernel
theorem dX8_opensPage_11 : decode cX8_opensPage 11 = .ok (.if_icmp .le 23, 3) := by decide +kernel
theorem dX8_opensPage_14 : decode cX8_opensPage 14 = .ok (.aload_n 0, 1) := by decide +kernel
theorem dX8_opensPage_15 : decode cX8_opensPage 15 = .ok (.iload_n 1, 1) := by decide +kernel
theorem dX8_opensPage_16 : decode cX8_opensPage 16 = .ok (.iload_n 3, 1) := by decide +kernel
theorem dX8_opensPage_17 : decode cX8_opensPage 17 = .ok (.aload_n 0, 1) := by decide +kernel
theorem dX8_opensPage_18 : decode cX8_opensPage 18 = .ok (.iload_n 1, 1) := by decide +kernel
theorem dX8_opensPage_19 : decode cX8_opensPage 19 = .ok (.iload_n 3, 1) := by decide +kernel
theorem dX8_opensPage_20 : decode cX8_opensPage 20 = .ok (.iconst 1, 1) := by decide +kernel
theorem dX8_opensPage_21 : decode cX8_opensPage 21 = .ok (.isub, 1) := by decide +kernel
theorem dX8_opensPage_22 : decode cX8_opensPage 22 = .ok (.invokevirtual 104, 3) := by decide +kernel
theorem dX8_opensPage_25 : decode cX8_opensPage 25 = .ok (.invokevirtual 156, 3) := by decide +kernel
theorem dX8_opensPage_28 : decode cX8_opensPage 28 = .ok (.iinc 3 (-1), 3) := by decide +kernel
theorem dX8_opensPage_31 : decode cX8_opensPage 31 = .ok (.goto (-22), 3) := by decide +kernel
theorem dX8_opensPage_34 : decode cX8_opensPage 34 = .ok (.aload_n 0, 1) := by decide +kernel
theorem dX8_opensPage_35 : decode cX8_opensPage 35 = .ok (.getfield 7, 3) := by decide +kernel
theorem dX8_opensPage_38 : decode cX8_opensPage 38 = .ok (.iconst 3, 1) := by decide +kernel
theorem dX8_opensPage_39 : decode cX8_opensPage 39 = .ok (.iload_n 1, 1) := by decide +kernel
theorem dX8_opensPage_40 : decode cX8_opensPage 40 = .ok (.iadd, 1) := by decide +kernel
theorem dX8_opensPage_41 : decode cX8_opensPage 41 = .ok (.dup2, 1) := by decide +kernel
theorem dX8_opensPage_42 : decode cX8_opensPage 42 = .ok (.iaload, 1) := by decide +kernel
theorem dX8_opensPage_43 : decode cX8_opensPage 43 = .ok (.iconst 1, 1) := by decide +kernel
theorem dX8_opensPage_44 : decode cX8_opensPage 44 = .ok (.iadd, 1) := by decide +kernel
theorem dX8_opensPage_45 : decode cX8_opensPage 45 = .ok (.iastore, 1) := by decide +kernel
theorem dX8_opensPage_46 : decode cX8_opensPage 46 = .ok (.return_, 1) := by decide +kernel
set_option maxRecDepth 20000 in
theorem ggX8_shutsPage_X8_sizeOf : GoodIn wsX8_shutsPage wsX8_sizeOf := goodIn_r _ [6, 1, 11, 12, 13, 14, 15, 16, 17, 18, 19, 20, 21, 22, 23, 24, 25, 26, 27, 28, 29, 30, 31, 32, 33, 34, 35, 36, 37, 38, 39, 40, 41, 42, 43, 44] rfl (by decide +kernel)
set_option maxRecDepth 20000 in
theorem gX8_shutsPage_X8_sizeOf : GoodIn wsX8_shutsPage (wsV RX8 104 RX8 yX8_sizeOf wsX8_sizeOf) := goodIn_app (goodIn_of _ (by decide +kernel)) ggX8_shutsPage_X8_sizeOf
set_option maxRecDepth 20000 in
theorem ggX8_shutsPage_X8_setSize : GoodIn wsX8_shutsPage wsX8_setSize := goodIn_r _ [10, 1, 11, 12, 13, 14, 15, 16, 17, 18, 19, 20, 21, 22, 23, 24, 25, 26, 27, 28, 29, 30, 31, 32, 33, 34, 35, 36, 37, 38, 39, 40, 41, 42, 43, 44] rfl (by decide +kernel)
set_option maxRecDepth 20000 in
theorem gX8_shutsPage_X8_setSize : GoodIn wsX8_shutsPage (wsV RX8 156 RX8 yX8_setSize wsX8_setSize) := goodIn_app (goodIn_of _ (by decide +kernel)) ggX8_shutsPage_X8_setSize
theorem dX8_shutsPage_0 : decode cX8_shutsPage 0 = .ok (.aload_n 0, 1) := by decide +kernel
theorem dX8_shutsPage_1 : decode cX8_shutsPage 1 = .ok (.getfield 7, 3) := by decide +kernel
theorem dX8_shutsPage_4 : decode cX8_shutsPage 4 = .ok (.iconst 3, 1) := by decide +kernel
theorem dX8_shutsPage_5 : decode cX8_shutsPage 5 = .ok (.iload_n 1, 1) := by decide +kernel
theorem dX8_shutsPage_6 : decode cX8_shutsPage 6 = .ok (.iadd, 1) := by decide +kernel
theorem dX8_shutsPage_7 : decode cX8_shutsPage 7 = .ok (.dup2, 1) := by decide +kernel
theorem dX8_shutsPage_8 : decode cX8_shutsPage 8 = .ok (.iaload, 1) := by decide +kernel
theorem dX8_shutsPage_9 : decode cX8_shutsPage 9 = .ok (.iconst 1, 1) := by decide +kernel
theorem dX8_shutsPage_10 : decode cX8_shutsPage 10 = .ok (.isub, 1) := by decide +kernel
theorem dX8_shutsPage_11 : decode cX8_shutsPage 11 = .ok (.iastore, 1) := by decide +kernel
theorem dX8_shutsPage_12 : decode cX8_shutsPage 12 = .ok (.iload_n 2, 1) := by decide +kernel
theorem dX8_shutsPage_13 : decode cX8_shutsPage 13 = .ok (.istore_n 3, 1) := by decide +kernel
theorem dX8_shutsPage_14 : decode cX8_shutsPage 14 = .ok (.iload_n 3, 1) := by decide +kernel
theorem dX8_shutsPage_15 : decode cX8_shutsPage 15 = .ok (.aload_n 0, 1) := by decide +kernel
theorem dX8_shutsPage_16 : decode cX8_shutsPage 16 = .ok (.getfield 7, 3) := by decide +kernel
theorem dX8_shutsPage_19 : decode cX8_shutsPage 19 = .ok (.iconst 3, 1) := by decide +kernel
theorem dX8_shutsPage_20 : decode cX8_shutsPage 20 = .ok (.iload_n 1, 1) := by decide +kernel
theorem dX8_shutsPage_21 : decode cX8_shutsPage 21 = .ok (.iadd, 1) := by decide +kernel
theorem dX8_shutsPage_22 : decode cX8_shutsPage 22 = .ok (.iaload, 1) := by decide +kernel
theorem dX8_shutsPage_23 : decode cX8_shutsPage 23 = .ok (.if_icmp .ge 23, 3) := by decide +kernel
theorem dX8_shutsPage_26 : decode cX8_shutsPage 26 = .ok (.aload_n 0, 1) := by decide +kernel
theorem dX8_shutsPage_27 : decode cX8_shutsPage 27 = .ok (.iload_n 1, 1) := by decide +kernel
theorem dX8_shutsPage_28 : decode cX8_shutsPage 28 = .ok (.iload_n 3, 1) := by decide +kernel
theorem dX8_shutsPage_29 : decode cX8_shutsPage 29 = .ok (.aload_n 0, 1) := by decide +kernel
theorem dX8_shutsPage_30 : decode cX8_shutsPage 30 = .ok (.iload_n 1, 1) := by decide +kernel
theorem dX8_shutsPage_31 : decode cX8_shutsPage 31 = .ok (.iload_n 3, 1) := by decide +kernel
theorem dX8_shutsPage_32 : decode cX8_shutsPage 32 = .ok (.iconst 1, 1) := by decide +kernel
theorem dX8_shutsPage_33 : decode cX8_shutsPage 33 = .ok (.iadd, 1) := by decide +kernel
theorem dX8_shutsPage_34 : decode cX8_shutsPage 34 = .ok (.invokevirtual 104, 3) := by decide +kernel
theorem dX8_shutsPage_37 : decode cX8_shutsPage 37 = .ok (.invokevirtual 156, 3) := by decide +kernel
theorem dX8_shutsPage_40 : decode cX8_shutsPage 40 = .ok (.iinc 3 1, 3) := by decide +kernel
theorem dX8_shutsPage_43 : decode cX8_shutsPage 43 = .ok (.goto (-29), 3) := by decide +kernel
theorem dX8_shutsPage_46 : decode cX8_shutsPage 46 = .ok (.return_, 1) := by decide +kernel
set_option maxRecDepth 20000 in
theorem ggX8_opensLevel_X8_setSize : GoodIn wsX8_opensLevel wsX8_setSize := goodIn_r _ [6, 1, 7, 8, 9, 10, 11, 12, 13, 14, 15, 16, 17, 18, 19, 20, 21, 22, 23, 24, 25, 26, 27, 28, 29, 30, 31, 32, 33, 34, 35, 36, 37, 38, 39, 40] rfl (by decide +kernel)
set_option maxRecDepth 20000 in
theorem gX8_opensLevel_X8_setSize : GoodIn wsX8_opensLevel (wsV RX8 156 RX8 yX8_setSize wsX8_setSize) := goodIn_app (goodIn_of _ (by decide +kernel)) ggX8_opensLevel_X8_setSize
theorem dX8_opensLevel_0 : decode cX8_opensLevel 0 = .ok (.aload_n 0, 1) := by decide +kernel
theorem dX8_opensLevel_1 : decode cX8_opensLevel 1 = .ok (.getfield 7, 3) := by decide +kernel
theorem dX8_opensLevel_4 : decode cX8_opensLevel 4 = .ok (.iconst 3, 1) := by decide +kernel
theorem dX8_opensLevel_5 : decode cX8_opensLevel 5 = .ok (.aload_n 0, 1) := by decide +kernel
theorem dX8_opensLevel_6 : decode cX8_opensLevel 6 = .ok (.getfield 7, 3) := by decide +kernel
theorem dX8_opensLevel_9 : decode cX8_opensLevel 9 = .ok (.iconst 2, 1) := by decide +kernel
theorem dX8_opensLevel_10 : decode cX8_opensLevel 10 = .ok (.iaload, 1) := by decide +kernel
theorem dX8_opensLevel_11 : decode cX8_opensLevel 11 = .ok (.iadd, 1) := by decide +kernel
theorem dX8_opensLevel_12 : decode cX8_opensLevel 12 = .ok (.iconst 1, 1) := by decide +kernel
theorem dX8_opensLevel_13 : decode cX8_opensLevel 13 = .ok (.iastore, 1) := by decide +kernel
theorem dX8_opensLevel_14 : decode cX8_opensLevel 14 = .ok (.aload_n 0, 1) := by decide +kernel
theorem dX8_opensLevel_15 : decode cX8_opensLevel 15 = .ok (.aload_n 0, 1) := by decide +kernel
theorem dX8_opensLevel_16 : decode cX8_opensLevel 16 = .ok (.getfield 7, 3) := by decide +kernel
theorem dX8_opensLevel_19 : decode cX8_opensLevel 19 = .ok (.iconst 2, 1) := by decide +kernel
theorem dX8_opensLevel_20 : decode cX8_opensLevel 20 = .ok (.iaload, 1) := by decide +kernel
theorem dX8_opensLevel_21 : decode cX8_opensLevel 21 = .ok (.iconst 0, 1) := by decide +kernel
theorem dX8_opensLevel_22 : decode cX8_opensLevel 22 = .ok (.iload_n 1, 1) := by decide +kernel
theorem dX8_opensLevel_23 : decode cX8_opensLevel 23 = .ok (.invokevirtual 156, 3) := by decide +kernel
theorem dX8_opensLevel_26 : decode cX8_opensLevel 26 = .ok (.aload_n 0, 1) := by decide +kernel
theorem dX8_opensLevel_27 : decode cX8_opensLevel 27 = .ok (.getfield 7, 3) := by decide +kernel
theorem dX8_opensLevel_30 : decode cX8_opensLevel 30 = .ok (.iconst 2, 1) := by decide +kernel
theorem dX8_opensLevel_31 : decode cX8_opensLevel 31 = .ok (.dup2, 1) := by decide +kernel
theorem dX8_opensLevel_32 : decode cX8_opensLevel 32 = .ok (.iaload, 1) := by decide +kernel
theorem dX8_opensLevel_33 : decode cX8_opensLevel 33 = .ok (.iconst 1, 1) := by decide +kernel
theorem dX8_opensLevel_34 : decode cX8_opensLevel 34 = .ok (.iadd, 1) := by decide +kernel
theorem dX8_opensLevel_35 : decode cX8_opensLevel 35 = .ok (.iastore, 1) := by decide +kernel
theorem dX8_opensLevel_36 : decode cX8_opensLevel 36 = .ok (.return_, 1) := by decide +kernel
theorem dX8_puts_0 : decode cX8_puts 0 = .ok (.aload_n 0, 1) := by decide +kernel
theorem dX8_puts_1 : decode cX8_puts 1 = .ok (.getfield 7, 3) := by decide +kernel
theorem dX8_puts_4 : decode cX8_puts 4 = .ok (.iconst 0, 1) := by decide +kernel
theorem dX8_puts_5 : decode cX8_puts 5 = .ok (.iaload, 1) := by decide +kernel
theorem dX8_puts_6 : decode cX8_puts 6 = .ok (.istore_n 2, 1) := by decide +kernel
theorem dX8_puts_7 : decode cX8_puts 7 = .ok (.iload_n 2, 1) := by decide +kernel
theorem dX8_puts_8 : decode cX8_puts 8 = .ok (.iload_n 1, 1) := by decide +kernel
theorem dX8_puts_9 : decode cX8_puts 9 = .ok (.if_icmp .le 78, 3) := by decide +kernel
theorem dX8_puts_12 : decode cX8_puts 12 = .ok (.aload_n 0, 1) := by decide +kernel
theorem dX8_puts_13 : decode cX8_puts 13 = .ok (.getfield 7, 3) := by decide +kernel
theorem dX8_puts_16 : decode cX8_puts 16 = .ok (.sipush 350, 3) := by decide +kernel
theorem dX8_puts_19 : decode cX8_puts 19 = .ok (.iload_n 2, 1) := by decide +kernel
theorem dX8_puts_20 : decode cX8_puts 20 = .ok (.iadd, 1) := by decide +kernel
theorem dX8_puts_21 : decode cX8_puts 21 = .ok (.aload_n 0, 1) := by decide +kernel
theorem dX8_puts_22 : decode cX8_puts 22 = .ok (.getfield 7, 3) := by decide +kernel
theorem dX8_puts_25 : decode cX8_puts 25 = .ok (.sipush 350, 3) := by decide +kernel
theorem dX8_puts_28 : decode cX8_puts 28 = .ok (.iload_n 2, 1) := by decide +kernel
theorem dX8_puts_29 : decode cX8_puts 29 = .ok (.iadd, 1) := by decide +kernel
theorem dX8_puts_30 : decode cX8_puts 30 = .ok (.iconst 1, 1) := by decide +kernel
theorem dX8_puts_31 : decode cX8_puts 31 = .ok (.isub, 1) := by decide +kernel
theorem dX8_puts_32 : decode cX8_puts 32 = .ok (.iaload, 1) := by decide +kernel
theorem dX8_puts_33 : decode cX8_puts 33 = .ok (.iastore, 1) := by decide +kernel
theorem dX8_puts_34 : decode cX8_puts 34 = .ok (.iconst 0, 1) := by decide +kernel
theorem dX8_puts_35 : decode cX8_puts 35 = .ok (.istore_n 3, 1) := by decide +kernel
theorem dX8_puts_36 : decode cX8_puts 36 = .ok (.iload_n 3, 1) := by decide +kernel
theorem dX8_puts_37 : decode cX8_puts 37 = .ok (.bipush 24, 2) := by decide +kernel
theorem dX8_puts_39 : decode cX8_puts 39 = .ok (.if_icmp .ge 42, 3) := by decide +kernel
theorem dX8_puts_42 : decode cX8_puts 42 = .ok (.aload_n 0, 1) := by decide +kernel
theorem dX8_puts_43 : decode cX8_puts 43 = .ok (.getfield 7, 3) := by decide +kernel
theorem dX8_puts_46 : decode cX8_puts 46 = .ok (.sipush 400, 3) := by decide +kernel
theorem dX8_puts_49 : decode cX8_puts 49 = .ok (.bipush 24, 2) := by decide +kernel
theorem dX8_puts_51 : decode cX8_puts 51 = .ok (.iload_n 2, 1) := by decide +kernel
theorem dX8_puts_52 : decode cX8_puts 52 = .ok (.imul, 1) := by decide +kernel
theorem dX8_puts_53 : decode cX8_puts 53 = .ok (.iadd, 1) := by decide +kernel
theorem dX8_puts_54 : decode cX8_puts 54 = .ok (.iload_n 3, 1) := by decide +kernel
theorem dX8_puts_55 : decode cX8_puts 55 = .ok (.iadd, 1) := by decide +kernel
theorem dX8_puts_56 : decode cX8_puts 56 = .ok (.aload_n 0, 1) := by decide +kernel
theorem dX8_puts_57 : decode cX8_puts 57 = .ok (.getfield 7, 3) := by decide +kernel
theorem dX8_puts_60 : decode cX8_puts 60 = .ok (.sipush 400, 3) := by decide +kernel
theorem dX8_puts_63 : decode cX8_puts 63 = .ok (.bipush 24, 2) := by decide +kernel
theorem dX8_puts_65 : decode cX8_puts 65 = .ok (.iload_n 2, 1) := by decide +kernel
theorem dX8_puts_66 : decode cX8_puts 66 = .ok (.imul, 1) := by decide +kernel
theorem dX8_puts_67 : decode cX8_puts 67 = .ok (.iadd, 1) := by decide +kernel
theorem dX8_puts_68 : decode cX8_puts 68 = .ok (.bipush 24, 2) := by decide +kernel
theorem dX8_puts_70 : decode cX8_puts 70 = .ok (.isub, 1) := by decide +kernel
theorem dX8_puts_71 : decode cX8_puts 71 = .ok (.iload_n 3, 1) := by decide +kernel
theorem dX8_puts_72 : decode cX8_puts 72 = .ok (.iadd, 1) := by decide +kernel
theorem dX8_puts_73 : decode cX8_puts 73 = .ok (.iaload, 1) := by decide +kernel
theorem dX8_puts_74 : decode cX8_puts 74 = .ok (.iastore, 1) := by decide +kernel
theorem dX8_puts_75 : decode cX8_puts 75 = .ok (.iinc 3 1, 3) := by decide +kernel
theorem dX8_puts_78 : decode cX8_puts 78 = .ok (.goto (-42), 3) := by decide +kernel
theorem dX8_puts_81 : decode cX8_puts 81 = .ok (.iinc 2 (-1), 3) := by decide +kernel
theorem dX8_puts_84 : decode cX8_puts 84 = .ok (.goto (-77), 3) := by decide +kernel
theorem dX8_puts_87 : decode cX8_puts 87 = .ok (.aload_n 0, 1) := by decide +kernel
theorem dX8_puts_88 : decode cX8_puts 88 = .ok (.getfield 7, 3) := by decide +kernel
theorem dX8_puts_91 : decode cX8_puts 91 = .ok (.sipush 350, 3) := by decide +kernel
theorem dX8_puts_94 : decode cX8_puts 94 = .ok (.iload_n 1, 1) := by decide +kernel
theorem dX8_puts_95 : decode cX8_puts 95 = .ok (.iadd, 1) := by decide +kernel
theorem dX8_puts_96 : decode cX8_puts 96 = .ok (.aload_n 0, 1) := by decide +kernel
theorem dX8_puts_97 : decode cX8_puts 97 = .ok (.getfield 83, 3) := by decide +kernel
theorem dX8_puts_100 : decode cX8_puts 100 = .ok (.iastore, 1) := by decide +kernel
theorem dX8_puts_101 : decode cX8_puts 101 = .ok (.iconst 0, 1) := by decide +kernel
theorem dX8_puts_102 : decode cX8_puts 102 = .ok (.istore_n 2, 1) := by decide +kernel
theorem dX8_puts_103 : decode cX8_puts 103 = .ok (.iload_n 2, 1) := by decide +kernel
theorem dX8_puts_104 : decode cX8_puts 104 = .ok (.aload_n 0, 1) := by decide +kernel
theorem dX8_puts_105 : decode cX8_puts 105 = .ok (.getfield 83, 3) := by decide +kernel
theorem dX8_puts_108 : decode cX8_puts 108 = .ok (.if_icmp .ge 30, 3) := by decide +kernel
theorem dX8_puts_111 : decode cX8_puts 111 = .ok (.aload_n 0, 1) := by decide +kernel
theorem dX8_puts_112 : decode cX8_puts 112 = .ok (.getfield 7, 3) := by decide +kernel
theorem dX8_puts_115 : decode cX8_puts 115 = .ok (.sipush 400, 3) := by decide +kernel
theorem dX8_puts_118 : decode cX8_puts 118 = .ok (.bipush 24, 2) := by decide +kernel
theorem dX8_puts_120 : decode cX8_puts 120 = .ok (.iload_n 1, 1) := by decide +kernel
theorem dX8_puts_121 : decode cX8_puts 121 = .ok (.imul, 1) := by decide +kernel
theorem dX8_puts_122 : decode cX8_puts 122 = .ok (.iadd, 1) := by decide +kernel
theorem dX8_puts_123 : decode cX8_puts 123 = .ok (.iload_n 2, 1) := by decide +kernel
theorem dX8_puts_124 : decode cX8_puts 124 = .ok (.iadd, 1) := by decide +kernel
theorem dX8_puts_125 : decode cX8_puts 125 = .ok (.aload_n 0, 1) := by decide +kernel
theorem dX8_puts_126 : decode cX8_puts 126 = .ok (.getfield 25, 3) := by decide +kernel
theorem dX8_puts_129 : decode cX8_puts 129 = .ok (.iload_n 2, 1) := by decide +kernel
theorem dX8_puts_130 : decode cX8_puts 130 = .ok (.iaload, 1) := by decide +kernel
theorem dX8_puts_131 : decode cX8_puts 131 = .ok (.iastore, 1) := by decide +kernel
theorem dX8_puts_132 : decode cX8_puts 132 = .ok (.iinc 2 1, 3) := by decide +kernel
theorem dX8_puts_135 : decode cX8_puts 135 = .ok (.goto (-32), 3) := by decide +kernel
theorem dX8_puts_138 : decode cX8_puts 138 = .ok (.aload_n 0, 1) := by decide +kernel
theorem dX8_puts_139 : decode cX8_puts 139 = .ok (.getfield 7, 3) := by decide +kernel
theorem dX8_puts_142 : decode cX8_puts 142 = .ok (.iconst 0, 1) := by decide +kernel
theorem dX8_puts_143 : decode cX8_puts 143 = .ok (.dup2, 1) := by decide +kernel
theorem dX8_puts_144 : decode cX8_puts 144 = .ok (.iaload, 1) := by decide +kernel
theorem dX8_puts_145 : decode cX8_puts 145 = .ok (.iconst 1, 1) := by decide +kernel
theorem dX8_puts_146 : decode cX8_puts 146 = .ok (.iadd, 1) := by decide +kernel
theorem dX8_puts_147 : decode cX8_puts 147 = .ok (.iastore, 1) := by decide +kernel
theorem dX8_puts_148 : decode cX8_puts 148 = .ok (.return_, 1) := by decide +kernel
set_option maxRecDepth 20000 in
theorem ggX8_adds_X8_puts : GoodIn wsX8_adds wsX8_puts := goodIn_r _ [8, 1, 9, 10, 89, 90, 91, 92, 93, 94, 95, 96, 97, 98, 99, 100, 101, 102, 103, 104, 105, 106, 107, 108, 109, 110, 111, 112, 113, 114, 115, 116, 117, 118, 119, 120, 121, 122] rfl (by decide +kernel)
set_option maxRecDepth 20000 in
theorem gX8_adds_X8_puts : GoodIn wsX8_adds (wsV RX8 159 RX8 yX8_puts wsX8_puts) := goodIn_app (goodIn_of _ (by decide +kernel)) ggX8_adds_X8_puts
set_option maxRecDepth 20000 in
theorem ggX8_adds_X8_opensLevel : GoodIn wsX8_adds wsX8_opensLevel := goodIn_r _ [14, 1, 15, 16, 17, 7, 18, 89, 90, 91, 92, 93, 94, 95, 96, 97, 98, 99, 100, 101, 102, 103, 104, 105, 106, 107, 108, 109, 110, 111, 112, 113, 114, 115, 116, 117, 118, 119, 120, 121, 122] rfl (by decide +kernel)
set_option maxRecDepth 20000 in
theorem gX8_adds_X8_opensLevel : GoodIn wsX8_adds (wsV RX8 163 RX8 yX8_opensLevel wsX8_opensLevel) := goodIn_app (goodIn_of _ (by decide +kernel)) ggX8_adds_X8_opensLevel
set_option maxRecDepth 20000 in
theorem ggX8_adds_X8_goes : GoodIn wsX8_adds wsX8_goes := goodIn_r _ [22, 2, 23, 24, 25, 26, 27, 28, 29, 3, 30, 31, 9, 32, 33, 34, 7, 35, 1, 36, 37, 38, 39, 40, 41, 42, 43, 44, 45, 46, 47, 48, 49, 50, 51, 52, 53, 54, 55, 56, 57, 58, 59, 60, 61, 62, 63, 64, 65, 66, 67, 68, 69, 70, 71, 72, 73, 74, 75, 76, 10, 77, 78, 79, 80, 89, 90, 91, 92, 93, 94, 95, 96, 97, 98, 99, 100, 101, 102, 103, 104, 105, 106, 107, 108, 109, 110, 111, 112, 113, 114, 115, 116, 117, 118, 119, 120, 121, 122] rfl (by decide +kernel)
set_option maxRecDepth 20000 in
theorem gX8_adds_X8_goes : GoodIn wsX8_adds (wsV RX8 153 RX8 yX8_goes wsX8_goes) := goodIn_app (goodIn_of _ (by decide +kernel)) ggX8_adds_X8_goes
set_option maxRecDepth 20000 in
theorem ggX8_adds_X8_entriesAhead : GoodIn wsX8_adds wsX8_entriesAhead := goodIn_r _ [56, 49, 50, 51, 7, 52, 1, 89, 90, 91, 92, 93, 94, 95, 96, 97, 98, 99, 100, 101, 102, 103, 104, 105, 106, 107, 108, 109, 110, 111, 112, 113, 114, 115, 116, 117, 118, 119, 120, 121, 122] rfl (by decide +kernel)
set_option maxRecDepth 20000 in
theorem gX8_adds_X8_entriesAhead : GoodIn wsX8_adds (wsV RX8 107 RX8 yX8_entriesAhead wsX8_entriesAhead) := goodIn_app (goodIn_of _ (by decide +kernel)) ggX8_adds_X8_entriesAhead
set_option maxRecDepth 20000 in
theorem ggX8_adds_X8_sizeOf : GoodIn wsX8_adds wsX8_sizeOf := goodIn_r _ [52, 1, 89, 90, 91, 92, 93, 94, 95, 96, 97, 98, 99, 100, 101, 102, 103, 104, 105, 106, 107, 108, 109, 110, 111, 112, 113, 114, 115, 116, 117, 118, 119, 120, 121, 122] rfl (by decide +kernel)
set_option maxRecDepth 20000 in
theorem gX8_adds_X8_sizeOf : GoodIn wsX8_adds (wsV RX8 104 RX8 yX8_sizeOf wsX8_sizeOf) := goodIn_app (goodIn_of _ (by decide +kernel)) ggX8_adds_X8_sizeOf
set_option maxRecDepth 20000 in
theorem ggX8_adds_X8_setSize : GoodIn wsX8_adds wsX8_setSize := goodIn_r _ [18, 1, 89, 90, 91, 92, 93, 94, 95, 96, 97, 98, 99, 100, 101, 102, 103, 104, 105, 106, 107, 108, 109, 110, 111, 112, 113, 114, 115, 116, 117, 118, 119, 120, 121, 122] rfl (by decide +kernel)
set_option maxRecDepth 20000 in
theorem gX8_adds_X8_setSize : GoodIn wsX8_adds (wsV RX8 156 RX8 yX8_setSize wsX8_setSize) := goodIn_app (goodIn_of _ (by decide +kernel)) ggX8_adds_X8_setSize
set_option maxRecDepth 20000 in
theorem ggX8_adds_X8_topLevel : GoodIn wsX8_adds wsX8_topLevel := goodIn_r _ [35, 1, 89, 90, 91, 92, 93, 94, 95, 96, 97, 98, 99, 100, 101, 102, 103, 104, 105, 106, 107, 108, 109, 110, 111, 112, 113, 114, 115, 116, 117, 118, 119, 120, 121, 122] rfl (by decide +kernel)
set_option maxRecDepth 20000 in
theorem gX8_adds_X8_topLevel : GoodIn wsX8_adds (wsV RX8 110 RX8 yX8_topLevel wsX8_topLevel) := goodIn_app (goodIn_of _ (by decide +kernel)) ggX8_adds_X8_topLevel
set_option maxRecDepth 20000 in
theorem ggX8_adds_X8_over : GoodIn wsX8_adds wsX8_over := goodIn_r _ [84, 53, 54, 55, 7, 56, 49, 50, 51, 52, 1, 89, 90, 91, 92, 93, 94, 95, 96, 97, 98, 99, 100, 101, 102, 103, 104, 105, 106, 107, 108, 109, 110, 111, 112, 113, 114, 115, 116, 117, 118, 119, 120, 121, 122] rfl (by decide +kernel)
set_option maxRecDepth 20000 in
theorem gX8_adds_X8_over : GoodIn wsX8_adds (wsV RX8 166 RX8 yX8_over wsX8_over) := goodIn_app (goodIn_of _ (by decide +kernel)) ggX8_adds_X8_over
set_option maxRecDepth 20000 in
theorem ggX8_adds_X8_opensPage : GoodIn wsX8_adds wsX8_opensPage := goodIn_r _ [88, 1, 49, 50, 51, 7, 52, 15, 16, 17, 18, 89, 90, 91, 92, 93, 94, 95, 96, 97, 98, 99, 100, 101, 102, 103, 104, 105, 106, 107, 108, 109, 110, 111, 112, 113, 114, 115, 116, 117, 118, 119, 120, 121, 122] rfl (by decide +kernel)
set_option maxRecDepth 20000 in
theorem gX8_adds_X8_opensPage : GoodIn wsX8_adds (wsV RX8 169 RX8 yX8_opensPage wsX8_opensPage) := goodIn_app (goodIn_of _ (by decide +kernel)) ggX8_adds_X8_opensPage
theorem dX8_adds_0 : decode cX8_adds 0 = .ok (.aload_n 0, 1) := by decide +kernel
theorem dX8_adds_1 : decode cX8_adds 1 = .ok (.getfield 7, 3) := by decide +kernel
theorem dX8_adds_4 : decode cX8_adds 4 = .ok (.iconst 2, 1) := by decide +kernel
theorem dX8_adds_5 : decode cX8_adds 5 = .ok (.iaload, 1) := by decide +kernel
theorem dX8_adds_6 : decode cX8_adds 6 = .ok (.ifCond .ne 14, 3) := by decide +kernel
theorem dX8_adds_9 : decode cX8_adds 9 = .ok (.aload_n 0, 1) := by decide +kernel
theorem dX8_adds_10 : decode cX8_adds 10 = .ok (.iconst 0, 1) := by decide +kernel
theorem dX8_adds_11 : decode cX8_adds 11 = .ok (.invokevirtual 159, 3) := by decide +kernel
theorem dX8_adds_14 : decode cX8_adds 14 = .ok (.aload_n 0, 1) := by decide +kernel
theorem dX8_adds_15 : decode cX8_adds 15 = .ok (.iconst 1, 1) := by decide +kernel
theorem dX8_adds_16 : decode cX8_adds 16 = .ok (.invokevirtual 163, 3) := by decide +kernel
theorem dX8_adds_19 : decode cX8_adds 19 = .ok (.return_, 1) := by decide +kernel
theorem dX8_adds_20 : decode cX8_adds 20 = .ok (.aload_n 0, 1) := by decide +kernel
theorem dX8_adds_21 : decode cX8_adds 21 = .ok (.invokevirtual 153, 3) := by decide +kernel
theorem dX8_adds_24 : decode cX8_adds 24 = .ok (.aload_n 0, 1) := by decide +kernel
theorem dX8_adds_25 : decode cX8_adds 25 = .ok (.getfield 40, 3) := by decide +kernel
theorem dX8_adds_28 : decode cX8_adds 28 = .ok (.iconst 0, 1) := by decide +kernel
theorem dX8_adds_29 : decode cX8_adds 29 = .ok (.iaload, 1) := by decide +kernel
theorem dX8_adds_30 : decode cX8_adds 30 = .ok (.istore_n 1, 1) := by decide +kernel
theorem dX8_adds_31 : decode cX8_adds 31 = .ok (.aload_n 0, 1) := by decide +kernel
theorem dX8_adds_32 : decode cX8_adds 32 = .ok (.aload_n 0, 1) := by decide +kernel
theorem dX8_adds_33 : decode cX8_adds 33 = .ok (.iconst 0, 1) := by decide +kernel
theorem dX8_adds_34 : decode cX8_adds 34 = .ok (.iload_n 1, 1) := by decide +kernel
theorem dX8_adds_35 : decode cX8_adds 35 = .ok (.invokevirtual 107, 3) := by decide +kernel
theorem dX8_adds_38 : decode cX8_adds 38 = .ok (.aload_n 0, 1) := by decide +kernel
theorem dX8_adds_39 : decode cX8_adds 39 = .ok (.getfield 55, 3) := by decide +kernel
theorem dX8_adds_42 : decode cX8_adds 42 = .ok (.iconst 0, 1) := by decide +kernel
theorem dX8_adds_43 : decode cX8_adds 43 = .ok (.iaload, 1) := by decide +kernel
theorem dX8_adds_44 : decode cX8_adds 44 = .ok (.iadd, 1) := by decide +kernel
theorem dX8_adds_45 : decode cX8_adds 45 = .ok (.invokevirtual 159, 3) := by decide +kernel
theorem dX8_adds_48 : decode cX8_adds 48 = .ok (.aload_n 0, 1) := by decide +kernel
theorem dX8_adds_49 : decode cX8_adds 49 = .ok (.iconst 0, 1) := by decide +kernel
theorem dX8_adds_50 : decode cX8_adds 50 = .ok (.iload_n 1, 1) := by decide +kernel
theorem dX8_adds_51 : decode cX8_adds 51 = .ok (.aload_n 0, 1) := by decide +kernel
theorem dX8_adds_52 : decode cX8_adds 52 = .ok (.iconst 0, 1) := by decide +kernel
theorem dX8_adds_53 : decode cX8_adds 53 = .ok (.iload_n 1, 1) := by decide +kernel
theorem dX8_adds_54 : decode cX8_adds 54 = .ok (.invokevirtual 104, 3) := by decide +kernel
theorem dX8_adds_57 : decode cX8_adds 57 = .ok (.iconst 1, 1) := by decide +kernel
theorem dX8_adds_58 : decode cX8_adds 58 = .ok (.iadd, 1) := by decide +kernel
theorem dX8_adds_59 : decode cX8_adds 59 = .ok (.invokevirtual 156, 3) := by decide +kernel
theorem dX8_adds_62 : decode cX8_adds 62 = .ok (.iconst 0, 1) := by decide +kernel
theorem dX8_adds_63 : decode cX8_adds 63 = .ok (.istore_n 2, 1) := by decide +kernel
theorem dX8_adds_64 : decode cX8_adds 64 = .ok (.aload_n 0, 1) := by decide +kernel
theorem dX8_adds_65 : decode cX8_adds 65 = .ok (.iload_n 2, 1) := by decide +kernel
theorem dX8_adds_66 : decode cX8_adds 66 = .ok (.iload_n 1, 1) := by decide +kernel
theorem dX8_adds_67 : decode cX8_adds 67 = .ok (.invokevirtual 104, 3) := by decide +kernel
theorem dX8_adds_70 : decode cX8_adds 70 = .ok (.aload_n 0, 1) := by decide +kernel
theorem dX8_adds_71 : decode cX8_adds 71 = .ok (.getfield 7, 3) := by decide +kernel
theorem dX8_adds_74 : decode cX8_adds 74 = .ok (.iconst 1, 1) := by decide +kernel
theorem dX8_adds_75 : decode cX8_adds 75 = .ok (.iaload, 1) := by decide +kernel
theorem dX8_adds_76 : decode cX8_adds 76 = .ok (.if_icmp .le 104, 3) := by decide +kernel
theorem dX8_adds_79 : decode cX8_adds 79 = .ok (.iload_n 2, 1) := by decide +kernel
theorem dX8_adds_80 : decode cX8_adds 80 = .ok (.aload_n 0, 1) := by decide +kernel
theorem dX8_adds_81 : decode cX8_adds 81 = .ok (.invokevirtual 110, 3) := by decide +kernel
theorem dX8_adds_84 : decode cX8_adds 84 = .ok (.if_icmp .ne 7, 3) := by decide +kernel
theorem dX8_adds_87 : decode cX8_adds 87 = .ok (.iconst 0, 1) := by decide +kernel
theorem dX8_adds_88 : decode cX8_adds 88 = .ok (.goto 9, 3) := by decide +kernel
theorem dX8_adds_91 : decode cX8_adds 91 = .ok (.aload_n 0, 1) := by decide +kernel
theorem dX8_adds_92 : decode cX8_adds 92 = .ok (.iload_n 2, 1) := by decide +kernel
theorem dX8_adds_93 : decode cX8_adds 93 = .ok (.iload_n 1, 1) := by decide +kernel
theorem dX8_adds_94 : decode cX8_adds 94 = .ok (.invokevirtual 166, 3) := by decide +kernel
theorem dX8_adds_97 : decode cX8_adds 97 = .ok (.istore_n 3, 1) := by decide +kernel
theorem dX8_adds_98 : decode cX8_adds 98 = .ok (.aload_n 0, 1) := by decide +kernel
theorem dX8_adds_99 : decode cX8_adds 99 = .ok (.iload_n 2, 1) := by decide +kernel
theorem dX8_adds_100 : decode cX8_adds 100 = .ok (.iload_n 1, 1) := by decide +kernel
theorem dX8_adds_101 : decode cX8_adds 101 = .ok (.invokevirtual 104, 3) := by decide +kernel
theorem dX8_adds_104 : decode cX8_adds 104 = .ok (.istore 4, 2) := by decide +kernel
theorem dX8_adds_106 : decode cX8_adds 106 = .ok (.aload_n 0, 1) := by decide +kernel
theorem dX8_adds_107 : decode cX8_adds 107 = .ok (.iload_n 2, 1) := by decide +kernel
theorem dX8_adds_108 : decode cX8_adds 108 = .ok (.iload_n 1, 1) := by decide +kernel
theorem dX8_adds_109 : decode cX8_adds 109 = .ok (.iconst 1, 1) := by decide +kernel
theorem dX8_adds_110 : decode cX8_adds 110 = .ok (.iadd, 1) := by decide +kernel
theorem dX8_adds_111 : decode cX8_adds 111 = .ok (.invokevirtual 169, 3) := by decide +kernel
theorem dX8_adds_114 : decode cX8_adds 114 = .ok (.aload_n 0, 1) := by decide +kernel
theorem dX8_adds_115 : decode cX8_adds 115 = .ok (.iload_n 2, 1) := by decide +kernel
theorem dX8_adds_116 : decode cX8_adds 116 = .ok (.iload_n 1, 1) := by decide +kernel
theorem dX8_adds_117 : decode cX8_adds 117 = .ok (.iload 4, 2) := by decide +kernel
theorem dX8_adds_119 : decode cX8_adds 119 = .ok (.iconst 1, 1) := by decide +kernel
theorem dX8_adds_120 : decode cX8_adds 120 = .ok (.iadd, 1) := by decide +kernel
theorem dX8_adds_121 : decode cX8_adds 121 = .ok (.iconst 2, 1) := by decide +kernel
theorem dX8_adds_122 : decode cX8_adds 122 = .ok (.idiv, 1) := by decide +kernel
theorem dX8_adds_123 : decode cX8_adds 123 = .ok (.invokevirtual 156, 3) := by decide +kernel
theorem dX8_adds_126 : decode cX8_adds 126 = .ok (.aload_n 0, 1) := by decide +kernel
theorem dX8_adds_127 : decode cX8_adds 127 = .ok (.iload_n 2, 1) := by decide +kernel
theorem dX8_adds_128 : decode cX8_adds 128 = .ok (.iload_n 1, 1) := by decide +kernel
theorem dX8_adds_129 : decode cX8_adds 129 = .ok (.iconst 1, 1) := by decide +kernel
theorem dX8_adds_130 : decode cX8_adds 130 = .ok (.iadd, 1) := by decide +kernel
theorem dX8_adds_131 : decode cX8_adds 131 = .ok (.iload 4, 2) := by decide +kernel
theorem dX8_adds_133 : decode cX8_adds 133 = .ok (.iconst 2, 1) := by decide +kernel
theorem dX8_adds_134 : decode cX8_adds 134 = .ok (.idiv, 1) := by decide +kernel
theorem dX8_adds_135 : decode cX8_adds 135 = .ok (.invokevirtual 156, 3) := by decide +kernel
theorem dX8_adds_138 : decode cX8_adds 138 = .ok (.iload_n 2, 1) := by decide +kernel
theorem dX8_adds_139 : decode cX8_adds 139 = .ok (.aload_n 0, 1) := by decide +kernel
theorem dX8_adds_140 : decode cX8_adds 140 = .ok (.invokevirtual 110, 3) := by decide +kernel
theorem dX8_adds_143 : decode cX8_adds 143 = .ok (.if_icmp .ne 11, 3) := by decide +kernel
theorem dX8_adds_146 : decode cX8_adds 146 = .ok (.aload_n 0, 1) := by decide +kernel
theorem dX8_adds_147 : decode cX8_adds 147 = .ok (.iconst 2, 1) := by decide +kernel
theorem dX8_adds_148 : decode cX8_adds 148 = .ok (.invokevirtual 163, 3) := by decide +kernel
theorem dX8_adds_151 : decode cX8_adds 151 = .ok (.goto 21, 3) := by decide +kernel
theorem dX8_adds_154 : decode cX8_adds 154 = .ok (.aload_n 0, 1) := by decide +kernel
theorem dX8_adds_155 : decode cX8_adds 155 = .ok (.iload_n 2, 1) := by decide +kernel
theorem dX8_adds_156 : decode cX8_adds 156 = .ok (.iconst 1, 1) := by decide +kernel
theorem dX8_adds_157 : decode cX8_adds 157 = .ok (.iadd, 1) := by decide +kernel
theorem dX8_adds_158 : decode cX8_adds 158 = .ok (.iload_n 3, 1) := by decide +kernel
theorem dX8_adds_159 : decode cX8_adds 159 = .ok (.aload_n 0, 1) := by decide +kernel
theorem dX8_adds_160 : decode cX8_adds 160 = .ok (.iload_n 2, 1) := by decide +kernel
theorem dX8_adds_161 : decode cX8_adds 161 = .ok (.iconst 1, 1) := by decide +kernel
theorem dX8_adds_162 : decode cX8_adds 162 = .ok (.iadd, 1) := by decide +kernel
theorem dX8_adds_163 : decode cX8_adds 163 = .ok (.iload_n 3, 1) := by decide +kernel
theorem dX8_adds_164 : decode cX8_adds 164 = .ok (.invokevirtual 104, 3) := by decide +kernel
theorem dX8_adds_167 : decode cX8_adds 167 = .ok (.iconst 1, 1) := by decide +kernel
theorem dX8_adds_168 : decode cX8_adds 168 = .ok (.iadd, 1) := by decide +kernel
theorem dX8_adds_169 : decode cX8_adds 169 = .ok (.invokevirtual 156, 3) := by decide +kernel
theorem dX8_adds_172 : decode cX8_adds 172 = .ok (.iinc 2 1, 3) := by decide +kernel
theorem dX8_adds_175 : decode cX8_adds 175 = .ok (.iload_n 3, 1) := by decide +kernel
theorem dX8_adds_176 : decode cX8_adds 176 = .ok (.istore_n 1, 1) := by decide +kernel
theorem dX8_adds_177 : decode cX8_adds 177 = .ok (.goto (-113), 3) := by decide +kernel
theorem dX8_adds_180 : decode cX8_adds 180 = .ok (.return_, 1) := by decide +kernel
set_option maxRecDepth 20000 in
theorem ggX8_takes_X8_goes : GoodIn wsX8_takes wsX8_goes := goodIn_r _ [8, 1, 9, 10, 11, 12, 13, 14, 15, 2, 16, 17, 18, 19, 20, 21, 7, 22, 3, 23, 24, 25, 26, 27, 28, 29, 30, 31, 32, 33, 34, 35, 36, 37, 38, 39, 40, 41, 42, 43, 44, 45, 46, 47, 48, 49, 50, 51, 52, 53, 54, 55, 56, 57, 58, 59, 60, 61, 62, 63, 64, 65, 66, 67, 68, 81, 82, 83, 84, 85, 86, 87, 88, 89, 90, 91, 92, 93, 94, 95, 96, 97, 98, 99, 100, 101, 102, 103, 104, 105, 106, 107, 108, 109, 110, 111, 112, 113, 114] rfl (by decide +kernel)
set_option maxRecDepth 20000 in
theorem gX8_takes_X8_goes : GoodIn wsX8_takes (wsV RX8 153 RX8 yX8_goes wsX8_goes) := goodIn_app (goodIn_of _ (by decide +kernel)) ggX8_takes_X8_goes
set_option maxRecDepth 20000 in
theorem ggX8_takes_X8_entriesAhead : GoodIn wsX8_takes wsX8_entriesAhead := goodIn_r _ [43, 36, 37, 38, 7, 39, 3, 81, 82, 83, 84, 85, 86, 87, 88, 89, 90, 91, 92, 93, 94, 95, 96, 97, 98, 99, 100, 101, 102, 103, 104, 105, 106, 107, 108, 109, 110, 111, 112, 113, 114] rfl (by decide +kernel)
set_option maxRecDepth 20000 in
theorem gX8_takes_X8_entriesAhead : GoodIn wsX8_takes (wsV RX8 107 RX8 yX8_entriesAhead wsX8_entriesAhead) := goodIn_app (goodIn_of _ (by decide +kernel)) ggX8_takes_X8_entriesAhead
set_option maxRecDepth 20000 in
theorem ggX8_takes_X8_sizeOf : GoodIn wsX8_takes wsX8_sizeOf := goodIn_r _ [39, 3, 81, 82, 83, 84, 85, 86, 87, 88, 89, 90, 91, 92, 93, 94, 95, 96, 97, 98, 99, 100, 101, 102, 103, 104, 105, 106, 107, 108, 109, 110, 111, 112, 113, 114] rfl (by decide +kernel)
set_option maxRecDepth 20000 in
theorem gX8_takes_X8_sizeOf : GoodIn wsX8_takes (wsV RX8 104 RX8 yX8_sizeOf wsX8_sizeOf) := goodIn_app (goodIn_of _ (by decide +kernel)) ggX8_takes_X8_sizeOf
set_option maxRecDepth 20000 in
theorem ggX8_takes_X8_setSize : GoodIn wsX8_takes wsX8_setSize := goodIn_r _ [72, 3, 81, 82, 83, 84, 85, 86, 87, 88, 89, 90, 91, 92, 93, 94, 95, 96, 97, 98, 99, 100, 101, 102, 103, 104, 105, 106, 107, 108, 109, 110, 111, 112, 113, 114] rfl (by decide +kernel)
set_option maxRecDepth 20000 in
theorem gX8_takes_X8_setSize : GoodIn wsX8_takes (wsV RX8 156 RX8 yX8_setSize wsX8_setSize) := goodIn_app (goodIn_of _ (by decide +kernel)) ggX8_takes_X8_setSize
set_option maxRecDepth 20000 in
theorem ggX8_takes_X8_topLevel : GoodIn wsX8_takes wsX8_topLevel := goodIn_r _ [22, 3, 81, 82, 83, 84, 85, 86, 87, 88, 89, 90, 91, 92, 93, 94, 95, 96, 97, 98, 99, 100, 101, 102, 103, 104, 105, 106, 107, 108, 109, 110, 111, 112, 113, 114] rfl (by decide +kernel)
set_option maxRecDepth 20000 in
theorem gX8_takes_X8_topLevel : GoodIn wsX8_takes (wsV RX8 110 RX8 yX8_topLevel wsX8_topLevel) := goodIn_app (goodIn_of _ (by decide +kernel)) ggX8_takes_X8_topLevel
set_option maxRecDepth 20000 in
theorem ggX8_takes_X8_over : GoodIn wsX8_takes wsX8_over := goodIn_r _ [76, 40, 41, 42, 7, 43, 36, 37, 38, 39, 3, 81, 82, 83, 84, 85, 86, 87, 88, 89, 90, 91, 92, 93, 94, 95, 96, 97, 98, 99, 100, 101, 102, 103, 104, 105, 106, 107, 108, 109, 110, 111, 112, 113, 114] rfl (by decide +kernel)
set_option maxRecDepth 20000 in
theorem gX8_takes_X8_over : GoodIn wsX8_takes (wsV RX8 166 RX8 yX8_over wsX8_over) := goodIn_app (goodIn_of _ (by decide +kernel)) ggX8_takes_X8_over
set_option maxRecDepth 20000 in
theorem ggX8_takes_X8_shutsPage : GoodIn wsX8_takes wsX8_shutsPage := goodIn_r _ [80, 3, 36, 37, 38, 7, 39, 69, 70, 71, 72, 81, 82, 83, 84, 85, 86, 87, 88, 89, 90, 91, 92, 93, 94, 95, 96, 97, 98, 99, 100, 101, 102, 103, 104, 105, 106, 107, 108, 109, 110, 111, 112, 113, 114] rfl (by decide +kernel)
set_option maxRecDepth 20000 in
theorem gX8_takes_X8_shutsPage : GoodIn wsX8_takes (wsV RX8 172 RX8 yX8_shutsPage wsX8_shutsPage) := goodIn_app (goodIn_of _ (by decide +kernel)) ggX8_takes_X8_shutsPage
theorem dX8_takes_0 : decode cX8_takes 0 = .ok (.aload_n 0, 1) := by decide +kernel
theorem dX8_takes_1 : decode cX8_takes 1 = .ok (.invokevirtual 153, 3) := by decide +kernel
theorem dX8_takes_4 : decode cX8_takes 4 = .ok (.aload_n 0, 1) := by decide +kernel
theorem dX8_takes_5 : decode cX8_takes 5 = .ok (.getfield 40, 3) := by decide +kernel
theorem dX8_takes_8 : decode cX8_takes 8 = .ok (.iconst 0, 1) := by decide +kernel
theorem dX8_takes_9 : decode cX8_takes 9 = .ok (.iaload, 1) := by decide +kernel
theorem dX8_takes_10 : decode cX8_takes 10 = .ok (.istore_n 1, 1) := by decide +kernel
theorem dX8_takes_11 : decode cX8_takes 11 = .ok (.aload_n 0, 1) := by decide +kernel
theorem dX8_takes_12 : decode cX8_takes 12 = .ok (.iconst 0, 1) := by decide +kernel
theorem dX8_takes_13 : decode cX8_takes 13 = .ok (.iload_n 1, 1) := by decide +kernel
theorem dX8_takes_14 : decode cX8_takes 14 = .ok (.invokevirtual 107, 3) := by decide +kernel
theorem dX8_takes_17 : decode cX8_takes 17 = .ok (.aload_n 0, 1) := by decide +kernel
theorem dX8_takes_18 : decode cX8_takes 18 = .ok (.getfield 55, 3) := by decide +kernel
theorem dX8_takes_21 : decode cX8_takes 21 = .ok (.iconst 0, 1) := by decide +kernel
theorem dX8_takes_22 : decode cX8_takes 22 = .ok (.iaload, 1) := by decide +kernel
theorem dX8_takes_23 : decode cX8_takes 23 = .ok (.iadd, 1) := by decide +kernel
theorem dX8_takes_24 : decode cX8_takes 24 = .ok (.iconst 1, 1) := by decide +kernel
theorem dX8_takes_25 : decode cX8_takes 25 = .ok (.isub, 1) := by decide +kernel
theorem dX8_takes_26 : decode cX8_takes 26 = .ok (.istore_n 2, 1) := by decide +kernel
theorem dX8_takes_27 : decode cX8_takes 27 = .ok (.aload_n 0, 1) := by decide +kernel
theorem dX8_takes_28 : decode cX8_takes 28 = .ok (.getfield 7, 3) := by decide +kernel
theorem dX8_takes_31 : decode cX8_takes 31 = .ok (.iconst 0, 1) := by decide +kernel
theorem dX8_takes_32 : decode cX8_takes 32 = .ok (.dup2, 1) := by decide +kernel
theorem dX8_takes_33 : decode cX8_takes 33 = .ok (.iaload, 1) := by decide +kernel
theorem dX8_takes_34 : decode cX8_takes 34 = .ok (.iconst 1, 1) := by decide +kernel
theorem dX8_takes_35 : decode cX8_takes 35 = .ok (.isub, 1) := by decide +kernel
theorem dX8_takes_36 : decode cX8_takes 36 = .ok (.iastore, 1) := by decide +kernel
theorem dX8_takes_37 : decode cX8_takes 37 = .ok (.iload_n 2, 1) := by decide +kernel
theorem dX8_takes_38 : decode cX8_takes 38 = .ok (.istore_n 3, 1) := by decide +kernel
theorem dX8_takes_39 : decode cX8_takes 39 = .ok (.iload_n 3, 1) := by decide +kernel
theorem dX8_takes_40 : decode cX8_takes 40 = .ok (.aload_n 0, 1) := by decide +kernel
theorem dX8_takes_41 : decode cX8_takes 41 = .ok (.getfield 7, 3) := by decide +kernel
theorem dX8_takes_44 : decode cX8_takes 44 = .ok (.iconst 0, 1) := by decide +kernel
theorem dX8_takes_45 : decode cX8_takes 45 = .ok (.iaload, 1) := by decide +kernel
theorem dX8_takes_46 : decode cX8_takes 46 = .ok (.if_icmp .ge 82, 3) := by decide +kernel
theorem dX8_takes_49 : decode cX8_takes 49 = .ok (.aload_n 0, 1) := by decide +kernel
theorem dX8_takes_50 : decode cX8_takes 50 = .ok (.getfield 7, 3) := by decide +kernel
theorem dX8_takes_53 : decode cX8_takes 53 = .ok (.sipush 350, 3) := by decide +kernel
theorem dX8_takes_56 : decode cX8_takes 56 = .ok (.iload_n 3, 1) := by decide +kernel
theorem dX8_takes_57 : decode cX8_takes 57 = .ok (.iadd, 1) := by decide +kernel
theorem dX8_takes_58 : decode cX8_takes 58 = .ok (.aload_n 0, 1) := by decide +kernel
theorem dX8_takes_59 : decode cX8_takes 59 = .ok (.getfield 7, 3) := by decide +kernel
theorem dX8_takes_62 : decode cX8_takes 62 = .ok (.sipush 350, 3) := by decide +kernel
theorem dX8_takes_65 : decode cX8_takes 65 = .ok (.iload_n 3, 1) := by decide +kernel
theorem dX8_takes_66 : decode cX8_takes 66 = .ok (.iadd, 1) := by decide +kernel
theorem dX8_takes_67 : decode cX8_takes 67 = .ok (.iconst 1, 1) := by decide +kernel
theorem dX8_takes_68 : decode cX8_takes 68 = .ok (.iadd, 1) := by decide +kernel
theorem dX8_takes_69 : decode cX8_takes 69 = .ok (.iaload, 1) := by decide +kernel
theorem dX8_takes_70 : decode cX8_takes 70 = .ok (.iastore, 1) := by decide +kernel
theorem dX8_takes_71 : decode cX8_takes 71 = .ok (.iconst 0, 1) := by decide +kernel
theorem dX8_takes_72 : decode cX8_takes 72 = .ok (.istore 4, 2) := by decide +kernel
theorem dX8_takes_74 : decode cX8_takes 74 = .ok (.iload 4, 2) := by decide +kernel
theorem dX8_takes_76 : decode cX8_takes 76 = .ok (.bipush 24, 2) := by decide +kernel
theorem dX8_takes_78 : decode cX8_takes 78 = .ok (.if_icmp .ge 44, 3) := by decide +kernel
theorem dX8_takes_81 : decode cX8_takes 81 = .ok (.aload_n 0, 1) := by decide +kernel
theorem dX8_takes_82 : decode cX8_takes 82 = .ok (.getfield 7, 3) := by decide +kernel
theorem dX8_takes_85 : decode cX8_takes 85 = .ok (.sipush 400, 3) := by decide +kernel
theorem dX8_takes_88 : decode cX8_takes 88 = .ok (.bipush 24, 2) := by decide +kernel
theorem dX8_takes_90 : decode cX8_takes 90 = .ok (.iload_n 3, 1) := by decide +kernel
theorem dX8_takes_91 : decode cX8_takes 91 = .ok (.imul, 1) := by decide +kernel
theorem dX8_takes_92 : decode cX8_takes 92 = .ok (.iadd, 1) := by decide +kernel
theorem dX8_takes_93 : decode cX8_takes 93 = .ok (.iload 4, 2) := by decide +kernel
theorem dX8_takes_95 : decode cX8_takes 95 = .ok (.iadd, 1) := by decide +kernel
theorem dX8_takes_96 : decode cX8_takes 96 = .ok (.aload_n 0, 1) := by decide +kernel
theorem dX8_takes_97 : decode cX8_takes 97 = .ok (.getfield 7, 3) := by decide +kernel
theorem dX8_takes_100 : decode cX8_takes 100 = .ok (.sipush 400, 3) := by decide +kernel
theorem dX8_takes_103 : decode cX8_takes 103 = .ok (.bipush 24, 2) := by decide +kernel
theorem dX8_takes_105 : decode cX8_takes 105 = .ok (.iload_n 3, 1) := by decide +kernel
theorem dX8_takes_106 : decode cX8_takes 106 = .ok (.imul, 1) := by decide +kernel
theorem dX8_takes_107 : decode cX8_takes 107 = .ok (.iadd, 1) := by decide +kernel
theorem dX8_takes_108 : decode cX8_takes 108 = .ok (.bipush 24, 2) := by decide +kernel
theorem dX8_takes_110 : decode cX8_takes 110 = .ok (.iadd, 1) := by decide +kernel
theorem dX8_takes_111 : decode cX8_takes 111 = .ok (.iload 4, 2) := by decide +kernel
theorem dX8_takes_113 : decode cX8_takes 113 = .ok (.iadd, 1) := by decide +kernel
theorem dX8_takes_114 : decode cX8_takes 114 = .ok (.iaload, 1) := by decide +kernel
theorem dX8_takes_115 : decode cX8_takes 115 = .ok (.iastore, 1) := by decide +kernel
theorem dX8_takes_116 : decode cX8_takes 116 = .ok (.iinc 4 1, 3) := by decide +kernel
theorem dX8_takes_119 : decode cX8_takes 119 = .ok (.goto (-45), 3) := by decide +kernel
theorem dX8_takes_122 : decode cX8_takes 122 = .ok (.iinc 3 1, 3) := by decide +kernel
theorem dX8_takes_125 : decode cX8_takes 125 = .ok (.goto (-86), 3) := by decide +kernel
theorem dX8_takes_128 : decode cX8_takes 128 = .ok (.aload_n 0, 1) := by decide +kernel
theorem dX8_takes_129 : decode cX8_takes 129 = .ok (.iconst 0, 1) := by decide +kernel
theorem dX8_takes_130 : decode cX8_takes 130 = .ok (.iload_n 1, 1) := by decide +kernel
theorem dX8_takes_131 : decode cX8_takes 131 = .ok (.aload_n 0, 1) := by decide +kernel
theorem dX8_takes_132 : decode cX8_takes 132 = .ok (.iconst 0, 1) := by decide +kernel
theorem dX8_takes_133 : decode cX8_takes 133 = .ok (.iload_n 1, 1) := by decide +kernel
theorem dX8_takes_134 : decode cX8_takes 134 = .ok (.invokevirtual 104, 3) := by decide +kernel
theorem dX8_takes_137 : decode cX8_takes 137 = .ok (.iconst 1, 1) := by decide +kernel
theorem dX8_takes_138 : decode cX8_takes 138 = .ok (.isub, 1) := by decide +kernel
theorem dX8_takes_139 : decode cX8_takes 139 = .ok (.invokevirtual 156, 3) := by decide +kernel
theorem dX8_takes_142 : decode cX8_takes 142 = .ok (.iconst 0, 1) := by decide +kernel
theorem dX8_takes_143 : decode cX8_takes 143 = .ok (.istore_n 3, 1) := by decide +kernel
theorem dX8_takes_144 : decode cX8_takes 144 = .ok (.iconst 1, 1) := by decide +kernel
theorem dX8_takes_145 : decode cX8_takes 145 = .ok (.istore 4, 2) := by decide +kernel
theorem dX8_takes_147 : decode cX8_takes 147 = .ok (.iload 4, 2) := by decide +kernel
theorem dX8_takes_149 : decode cX8_takes 149 = .ok (.ifCond .eq 190, 3) := by decide +kernel
theorem dX8_takes_152 : decode cX8_takes 152 = .ok (.iload_n 3, 1) := by decide +kernel
theorem dX8_takes_153 : decode cX8_takes 153 = .ok (.aload_n 0, 1) := by decide +kernel
theorem dX8_takes_154 : decode cX8_takes 154 = .ok (.invokevirtual 110, 3) := by decide +kernel
theorem dX8_takes_157 : decode cX8_takes 157 = .ok (.if_icmp .ge 182, 3) := by decide +kernel
theorem dX8_takes_160 : decode cX8_takes 160 = .ok (.aload_n 0, 1) := by decide +kernel
theorem dX8_takes_161 : decode cX8_takes 161 = .ok (.iload_n 3, 1) := by decide +kernel
theorem dX8_takes_162 : decode cX8_takes 162 = .ok (.iload_n 1, 1) := by decide +kernel
theorem dX8_takes_163 : decode cX8_takes 163 = .ok (.invokevirtual 104, 3) := by decide +kernel
theorem dX8_takes_166 : decode cX8_takes 166 = .ok (.aload_n 0, 1) := by decide +kernel
theorem dX8_takes_167 : decode cX8_takes 167 = .ok (.getfield 7, 3) := by decide +kernel
theorem dX8_takes_170 : decode cX8_takes 170 = .ok (.iconst 1, 1) := by decide +kernel
theorem dX8_takes_171 : decode cX8_takes 171 = .ok (.iaload, 1) := by decide +kernel
theorem dX8_takes_172 : decode cX8_takes 172 = .ok (.iconst 2, 1) := by decide +kernel
theorem dX8_takes_173 : decode cX8_takes 173 = .ok (.idiv, 1) := by decide +kernel
theorem dX8_takes_174 : decode cX8_takes 174 = .ok (.if_icmp .ge 165, 3) := by decide +kernel
theorem dX8_takes_177 : decode cX8_takes 177 = .ok (.aload_n 0, 1) := by decide +kernel
theorem dX8_takes_178 : decode cX8_takes 178 = .ok (.iload_n 3, 1) := by decide +kernel
theorem dX8_takes_179 : decode cX8_takes 179 = .ok (.iload_n 1, 1) := by decide +kernel
theorem dX8_takes_180 : decode cX8_takes 180 = .ok (.invokevirtual 166, 3) := by decide +kernel
theorem dX8_takes_183 : decode cX8_takes 183 = .ok (.istore 5, 2) := by decide +kernel
theorem dX8_takes_185 : decode cX8_takes 185 = .ok (.iload_n 1, 1) := by decide +kernel
theorem dX8_takes_186 : decode cX8_takes 186 = .ok (.iconst 1, 1) := by decide +kernel
theorem dX8_takes_187 : decode cX8_takes 187 = .ok (.iadd, 1) := by decide +kernel
theorem dX8_takes_188 : decode cX8_takes 188 = .ok (.aload_n 0, 1) := by decide +kernel
theorem dX8_takes_189 : decode cX8_takes 189 = .ok (.iload_n 3, 1) := by decide +kernel
theorem dX8_takes_190 : decode cX8_takes 190 = .ok (.iconst 1, 1) := by decide +kernel
theorem dX8_takes_191 : decode cX8_takes 191 = .ok (.iadd, 1) := by decide +kernel
theorem dX8_takes_192 : decode cX8_takes 192 = .ok (.iload 5, 2) := by decide +kernel
theorem dX8_takes_194 : decode cX8_takes 194 = .ok (.iconst 1, 1) := by decide +kernel
theorem dX8_takes_195 : decode cX8_takes 195 = .ok (.iadd, 1) := by decide +kernel
theorem dX8_takes_196 : decode cX8_takes 196 = .ok (.invokevirtual 107, 3) := by decide +kernel
theorem dX8_takes_199 : decode cX8_takes 199 = .ok (.if_icmp .ne 7, 3) := by decide +kernel
theorem dX8_takes_202 : decode cX8_takes 202 = .ok (.iconst 1, 1) := by decide +kernel
theorem dX8_takes_203 : decode cX8_takes 203 = .ok (.goto 4, 3) := by decide +kernel
theorem dX8_takes_206 : decode cX8_takes 206 = .ok (.iconst 0, 1) := by decide +kernel
theorem dX8_takes_207 : decode cX8_takes 207 = .ok (.istore 6, 2) := by decide +kernel
theorem dX8_takes_209 : decode cX8_takes 209 = .ok (.iload 6, 2) := by decide +kernel
theorem dX8_takes_211 : decode cX8_takes 211 = .ok (.ifCond .eq 9, 3) := by decide +kernel
theorem dX8_takes_214 : decode cX8_takes 214 = .ok (.iload_n 1, 1) := by decide +kernel
theorem dX8_takes_215 : decode cX8_takes 215 = .ok (.iconst 1, 1) := by decide +kernel
theorem dX8_takes_216 : decode cX8_takes 216 = .ok (.isub, 1) := by decide +kernel
theorem dX8_takes_217 : decode cX8_takes 217 = .ok (.goto 4, 3) := by decide +kernel
theorem dX8_takes_220 : decode cX8_takes 220 = .ok (.iload_n 1, 1) := by decide +kernel
theorem dX8_takes_221 : decode cX8_takes 221 = .ok (.istore 7, 2) := by decide +kernel
theorem dX8_takes_223 : decode cX8_takes 223 = .ok (.aload_n 0, 1) := by decide +kernel
theorem dX8_takes_224 : decode cX8_takes 224 = .ok (.iload_n 3, 1) := by decide +kernel
theorem dX8_takes_225 : decode cX8_takes 225 = .ok (.iload 7, 2) := by decide +kernel
theorem dX8_takes_227 : decode cX8_takes 227 = .ok (.invokevirtual 104, 3) := by decide +kernel
theorem dX8_takes_230 : decode cX8_takes 230 = .ok (.aload_n 0, 1) := by decide +kernel
theorem dX8_takes_231 : decode cX8_takes 231 = .ok (.iload_n 3, 1) := by decide +kernel
theorem dX8_takes_232 : decode cX8_takes 232 = .ok (.iload 7, 2) := by decide +kernel
theorem dX8_takes_234 : decode cX8_takes 234 = .ok (.iconst 1, 1) := by decide +kernel
theorem dX8_takes_235 : decode cX8_takes 235 = .ok (.iadd, 1) := by decide +kernel
theorem dX8_takes_236 : decode cX8_takes 236 = .ok (.invokevirtual 104, 3) := by decide +kernel
theorem dX8_takes_239 : decode cX8_takes 239 = .ok (.iadd, 1) := by decide +kernel
theorem dX8_takes_240 : decode cX8_takes 240 = .ok (.istore 8, 2) := by decide +kernel
theorem dX8_takes_242 : decode cX8_takes 242 = .ok (.iload 8, 2) := by decide +kernel
theorem dX8_takes_244 : decode cX8_takes 244 = .ok (.aload_n 0, 1) := by decide +kernel
theorem dX8_takes_245 : decode cX8_takes 245 = .ok (.getfield 7, 3) := by decide +kernel
theorem dX8_takes_248 : decode cX8_takes 248 = .ok (.iconst 1, 1) := by decide +kernel
theorem dX8_takes_249 : decode cX8_takes 249 = .ok (.iaload, 1) := by decide +kernel
theorem dX8_takes_250 : decode cX8_takes 250 = .ok (.if_icmp .gt 7, 3) := by decide +kernel
theorem dX8_takes_253 : decode cX8_takes 253 = .ok (.iconst 1, 1) := by decide +kernel
theorem dX8_takes_254 : decode cX8_takes 254 = .ok (.goto 4, 3) := by decide +kernel
theorem dX8_takes_257 : decode cX8_takes 257 = .ok (.iconst 0, 1) := by decide +kernel
theorem dX8_takes_258 : decode cX8_takes 258 = .ok (.istore 4, 2) := by decide +kernel
theorem dX8_takes_260 : decode cX8_takes 260 = .ok (.aload_n 0, 1) := by decide +kernel
theorem dX8_takes_261 : decode cX8_takes 261 = .ok (.iload_n 3, 1) := by decide +kernel
theorem dX8_takes_262 : decode cX8_takes 262 = .ok (.iload 7, 2) := by decide +kernel
theorem dX8_takes_264 : decode cX8_takes 264 = .ok (.iload 4, 2) := by decide +kernel
theorem dX8_takes_266 : decode cX8_takes 266 = .ok (.ifCond .eq 8, 3) := by decide +kernel
theorem dX8_takes_269 : decode cX8_takes 269 = .ok (.iload 8, 2) := by decide +kernel
theorem dX8_takes_271 : decode cX8_takes 271 = .ok (.goto 9, 3) := by decide +kernel
theorem dX8_takes_274 : decode cX8_takes 274 = .ok (.iload 8, 2) := by decide +kernel
theorem dX8_takes_276 : decode cX8_takes 276 = .ok (.iconst 1, 1) := by decide +kernel
theorem dX8_takes_277 : decode cX8_takes 277 = .ok (.iadd, 1) := by decide +kernel
theorem dX8_takes_278 : decode cX8_takes 278 = .ok (.iconst 2, 1) := by decide +kernel
theorem dX8_takes_279 : decode cX8_takes 279 = .ok (.idiv, 1) := by decide +kernel
theorem dX8_takes_280 : decode cX8_takes 280 = .ok (.invokevirtual 156, 3) := by decide +kernel
theorem dX8_takes_283 : decode cX8_takes 283 = .ok (.aload_n 0, 1) := by decide +kernel
theorem dX8_takes_284 : decode cX8_takes 284 = .ok (.iload_n 3, 1) := by decide +kernel
theorem dX8_takes_285 : decode cX8_takes 285 = .ok (.iload 7, 2) := by decide +kernel
theorem dX8_takes_287 : decode cX8_takes 287 = .ok (.iconst 1, 1) := by decide +kernel
theorem dX8_takes_288 : decode cX8_takes 288 = .ok (.iadd, 1) := by decide +kernel
theorem dX8_takes_289 : decode cX8_takes 289 = .ok (.iload 8, 2) := by decide +kernel
theorem dX8_takes_291 : decode cX8_takes 291 = .ok (.iconst 2, 1) := by decide +kernel
theorem dX8_takes_292 : decode cX8_takes 292 = .ok (.idiv, 1) := by decide +kernel
theorem dX8_takes_293 : decode cX8_takes 293 = .ok (.invokevirtual 156, 3) := by decide +kernel
theorem dX8_takes_296 : decode cX8_takes 296 = .ok (.iload 4, 2) := by decide +kernel
theorem dX8_takes_298 : decode cX8_takes 298 = .ok (.ifCond .eq 32, 3) := by decide +kernel
theorem dX8_takes_301 : decode cX8_takes 301 = .ok (.aload_n 0, 1) := by decide +kernel
theorem dX8_takes_302 : decode cX8_takes 302 = .ok (.iload_n 3, 1) := by decide +kernel
theorem dX8_takes_303 : decode cX8_takes 303 = .ok (.iload 7, 2) := by decide +kernel
theorem dX8_takes_305 : decode cX8_takes 305 = .ok (.iconst 1, 1) := by decide +kernel
theorem dX8_takes_306 : decode cX8_takes 306 = .ok (.iadd, 1) := by decide +kernel
theorem dX8_takes_307 : decode cX8_takes 307 = .ok (.invokevirtual 172, 3) := by decide +kernel
theorem dX8_takes_310 : decode cX8_takes 310 = .ok (.aload_n 0, 1) := by decide +kernel
theorem dX8_takes_311 : decode cX8_takes 311 = .ok (.iload_n 3, 1) := by decide +kernel
theorem dX8_takes_312 : decode cX8_takes 312 = .ok (.iconst 1, 1) := by decide +kernel
theorem dX8_takes_313 : decode cX8_takes 313 = .ok (.iadd, 1) := by decide +kernel
theorem dX8_takes_314 : decode cX8_takes 314 = .ok (.iload 5, 2) := by decide +kernel
theorem dX8_takes_316 : decode cX8_takes 316 = .ok (.aload_n 0, 1) := by decide +kernel
theorem dX8_takes_317 : decode cX8_takes 317 = .ok (.iload_n 3, 1) := by decide +kernel
theorem dX8_takes_318 : decode cX8_takes 318 = .ok (.iconst 1, 1) := by decide +kernel
theorem dX8_takes_319 : decode cX8_takes 319 = .ok (.iadd, 1) := by decide +kernel
theorem dX8_takes_320 : decode cX8_takes 320 = .ok (.iload 5, 2) := by decide +kernel
theorem dX8_takes_322 : decode cX8_takes 322 = .ok (.invokevirtual 104, 3) := by decide +kernel
theorem dX8_takes_325 : decode cX8_takes 325 = .ok (.iconst 1, 1) := by decide +kernel
theorem dX8_takes_326 : decode cX8_takes 326 = .ok (.isub, 1) := by decide +kernel
theorem dX8_takes_327 : decode cX8_takes 327 = .ok (.invokevirtual 156, 3) := by decide +kernel
theorem dX8_takes_330 : decode cX8_takes 330 = .ok (.iinc 3 1, 3) := by decide +kernel
theorem dX8_takes_333 : decode cX8_takes 333 = .ok (.iload 5, 2) := by decide +kernel
theorem dX8_takes_335 : decode cX8_takes 335 = .ok (.istore_n 1, 1) := by decide +kernel
theorem dX8_takes_336 : decode cX8_takes 336 = .ok (.goto (-189), 3) := by decide +kernel
theorem dX8_takes_339 : decode cX8_takes 339 = .ok (.aload_n 0, 1) := by decide +kernel
theorem dX8_takes_340 : decode cX8_takes 340 = .ok (.getfield 7, 3) := by decide +kernel
theorem dX8_takes_343 : decode cX8_takes 343 = .ok (.iconst 2, 1) := by decide +kernel
theorem dX8_takes_344 : decode cX8_takes 344 = .ok (.iaload, 1) := by decide +kernel
theorem dX8_takes_345 : decode cX8_takes 345 = .ok (.iconst 1, 1) := by decide +kernel
theorem dX8_takes_346 : decode cX8_takes 346 = .ok (.if_icmp .le 29, 3) := by decide +kernel
theorem dX8_takes_349 : decode cX8_takes 349 = .ok (.aload_n 0, 1) := by decide +kernel
theorem dX8_takes_350 : decode cX8_takes 350 = .ok (.aload_n 0, 1) := by decide +kernel
theorem dX8_takes_351 : decode cX8_takes 351 = .ok (.invokevirtual 110, 3) := by decide +kernel
theorem dX8_takes_354 : decode cX8_takes 354 = .ok (.iconst 0, 1) := by decide +kernel
theorem dX8_takes_355 : decode cX8_takes 355 = .ok (.invokevirtual 104, 3) := by decide +kernel
theorem dX8_takes_358 : decode cX8_takes 358 = .ok (.iconst 1, 1) := by decide +kernel
theorem dX8_takes_359 : decode cX8_takes 359 = .ok (.if_icmp .ne 16, 3) := by decide +kernel
theorem dX8_takes_362 : decode cX8_takes 362 = .ok (.aload_n 0, 1) := by decide +kernel
theorem dX8_takes_363 : decode cX8_takes 363 = .ok (.getfield 7, 3) := by decide +kernel
theorem dX8_takes_366 : decode cX8_takes 366 = .ok (.iconst 2, 1) := by decide +kernel
theorem dX8_takes_367 : decode cX8_takes 367 = .ok (.dup2, 1) := by decide +kernel
theorem dX8_takes_368 : decode cX8_takes 368 = .ok (.iaload, 1) := by decide +kernel
theorem dX8_takes_369 : decode cX8_takes 369 = .ok (.iconst 1, 1) := by decide +kernel
theorem dX8_takes_370 : decode cX8_takes 370 = .ok (.isub, 1) := by decide +kernel
theorem dX8_takes_371 : decode cX8_takes 371 = .ok (.iastore, 1) := by decide +kernel
theorem dX8_takes_372 : decode cX8_takes 372 = .ok (.goto (-33), 3) := by decide +kernel
theorem dX8_takes_375 : decode cX8_takes 375 = .ok (.aload_n 0, 1) := by decide +kernel
theorem dX8_takes_376 : decode cX8_takes 376 = .ok (.getfield 7, 3) := by decide +kernel
theorem dX8_takes_379 : decode cX8_takes 379 = .ok (.iconst 0, 1) := by decide +kernel
theorem dX8_takes_380 : decode cX8_takes 380 = .ok (.iaload, 1) := by decide +kernel
theorem dX8_takes_381 : decode cX8_takes 381 = .ok (.ifCond .ne 10, 3) := by decide +kernel
theorem dX8_takes_384 : decode cX8_takes 384 = .ok (.aload_n 0, 1) := by decide +kernel
theorem dX8_takes_385 : decode cX8_takes 385 = .ok (.getfield 7, 3) := by decide +kernel
theorem dX8_takes_388 : decode cX8_takes 388 = .ok (.iconst 2, 1) := by decide +kernel
theorem dX8_takes_389 : decode cX8_takes 389 = .ok (.iconst 0, 1) := by decide +kernel
theorem dX8_takes_390 : decode cX8_takes 390 = .ok (.iastore, 1) := by decide +kernel
theorem dX8_takes_391 : decode cX8_takes 391 = .ok (.return_, 1) := by decide +kernel
set_option maxRecDepth 20000 in
theorem ggX8_type_X8_in : GoodIn wsX8_type wsX8_in := goodIn_r _ [6] rfl (by decide +kernel)
set_option maxRecDepth 20000 in
theorem gX8_type_X8_in : GoodIn wsX8_type (va_wsS RX8 175 yX8_in wsX8_in) := goodIn_app (goodIn_of _ (by decide +kernel)) ggX8_type_X8_in
set_option maxRecDepth 20000 in
theorem ggX8_type_X8_refuses : GoodIn wsX8_type wsX8_refuses := goodIn_r _ [10, 11, 12, 13, 14, 15, 16, 17, 18, 19, 20, 21, 22, 23, 24, 25, 26, 27, 28, 29, 30, 31, 32, 33, 34, 35, 36, 37, 38, 39, 40, 41, 42, 43, 44, 45] rfl (by decide +kernel)
set_option maxRecDepth 20000 in
theorem gX8_type_X8_refuses : GoodIn wsX8_type (wsV RX8 179 RX8 yX8_refuses wsX8_refuses) := goodIn_app (goodIn_of _ (by decide +kernel)) ggX8_type_X8_refuses
theorem dX8_type_0 : decode cX8_type 0 = .ok (.iload_n 1, 1) := by decide +kernel
theorem dX8_type_1 : decode cX8_type 1 = .ok (.iconst 0, 1) := by decide +kernel
theorem dX8_type_2 : decode cX8_type 2 = .ok (.bipush 127, 2) := by decide +kernel
theorem dX8_type_4 : decode cX8_type 4 = .ok (.invokestatic 175, 3) := by decide +kernel
theorem dX8_type_7 : decode cX8_type 7 = .ok (.ifCond .ne 10, 3) := by decide +kernel
theorem dX8_type_10 : decode cX8_type 10 = .ok (.aload_n 0, 1) := by decide +kernel
theorem dX8_type_11 : decode cX8_type 11 = .ok (.bipush (-2), 2) := by decide +kernel
theorem dX8_type_13 : decode cX8_type 13 = .ok (.invokevirtual 179, 3) := by decide +kernel
theorem dX8_type_16 : decode cX8_type 16 = .ok (.ireturn, 1) := by decide +kernel
theorem dX8_type_17 : decode cX8_type 17 = .ok (.aload_n 0, 1) := by decide +kernel
theorem dX8_type_18 : decode cX8_type 18 = .ok (.getfield 182, 3) := by decide +kernel
theorem dX8_type_21 : decode cX8_type 21 = .ok (.bipush 120, 2) := by decide +kernel
theorem dX8_type_23 : decode cX8_type 23 = .ok (.if_icmp .ne 10, 3) := by decide +kernel
theorem dX8_type_26 : decode cX8_type 26 = .ok (.aload_n 0, 1) := by decide +kernel
theorem dX8_type_27 : decode cX8_type 27 = .ok (.bipush (-4), 2) := by decide +kernel
theorem dX8_type_29 : decode cX8_type 29 = .ok (.invokevirtual 179, 3) := by decide +kernel
theorem dX8_type_32 : decode cX8_type 32 = .ok (.ireturn, 1) := by decide +kernel
theorem dX8_type_33 : decode cX8_type 33 = .ok (.aload_n 0, 1) := by decide +kernel
theorem dX8_type_34 : decode cX8_type 34 = .ok (.getfield 22, 3) := by decide +kernel
theorem dX8_type_37 : decode cX8_type 37 = .ok (.aload_n 0, 1) := by decide +kernel
theorem dX8_type_38 : decode cX8_type 38 = .ok (.getfield 182, 3) := by decide +kernel
theorem dX8_type_41 : decode cX8_type 41 = .ok (.iload_n 1, 1) := by decide +kernel
theorem dX8_type_42 : decode cX8_type 42 = .ok (.iastore, 1) := by decide +kernel
theorem dX8_type_43 : decode cX8_type 43 = .ok (.aload_n 0, 1) := by decide +kernel
theorem dX8_type_44 : decode cX8_type 44 = .ok (.dup, 1) := by decide +kernel
theorem dX8_type_45 : decode cX8_type 45 = .ok (.getfield 182, 3) := by decide +kernel
theorem dX8_type_48 : decode cX8_type 48 = .ok (.iconst 1, 1) := by decide +kernel
theorem dX8_type_49 : decode cX8_type 49 = .ok (.iadd, 1) := by decide +kernel
theorem dX8_type_50 : decode cX8_type 50 = .ok (.putfield 182, 3) := by decide +kernel
theorem dX8_type_53 : decode cX8_type 53 = .ok (.aload_n 0, 1) := by decide +kernel
theorem dX8_type_54 : decode cX8_type 54 = .ok (.getfield 182, 3) := by decide +kernel
theorem dX8_type_57 : decode cX8_type 57 = .ok (.ireturn, 1) := by decide +kernel
theorem dX8_clear_0 : decode cX8_clear 0 = .ok (.aload_n 0, 1) := by decide +kernel
theorem dX8_clear_1 : decode cX8_clear 1 = .ok (.getfield 182, 3) := by decide +kernel
theorem dX8_clear_4 : decode cX8_clear 4 = .ok (.istore_n 1, 1) := by decide +kernel
theorem dX8_clear_5 : decode cX8_clear 5 = .ok (.aload_n 0, 1) := by decide +kernel
theorem dX8_clear_6 : decode cX8_clear 6 = .ok (.iconst 0, 1) := by decide +kernel
theorem dX8_clear_7 : decode cX8_clear 7 = .ok (.putfield 182, 3) := by decide +kernel
theorem dX8_clear_10 : decode cX8_clear 10 = .ok (.iload_n 1, 1) := by decide +kernel
theorem dX8_clear_11 : decode cX8_clear 11 = .ok (.ireturn, 1) := by decide +kernel
set_option maxRecDepth 20000 in
theorem ggX8_isSign_X8_in : GoodIn wsX8_isSign wsX8_in := goodIn_r _ [4] rfl (by decide +kernel)
set_option maxRecDepth 20000 in
theorem gX8_isSign_X8_in : GoodIn wsX8_isSign (va_wsS RX8 175 yX8_in wsX8_in) := goodIn_app (goodIn_of _ (by decide +kernel)) ggX8_isSign_X8_in
