set_option maxRecDepth 20000 in
theorem gX8_costs_X8_lengthOf : GoodIn wsX8_costs (wsV RX8 86 RX8 yX8_lengthOf wsX8_lengthOf) := goodIn_app (goodIn_of _ (by decide +kernel)) ggX8_costs_X8_lengthOf
set_option maxRecDepth 20000 in
theorem ggX8_costs_X8_signOf : GoodIn wsX8_costs wsX8_signOf := goodIn_r _ [12, 3, 1, 73, 74, 75, 76, 77, 78, 79, 80, 81, 82, 83, 84, 85, 86, 87, 88, 89, 90, 91, 92, 93, 94, 95, 96, 97, 98, 99, 100, 101, 102, 103, 104, 105, 106] rfl (by decide +kernel)
set_option maxRecDepth 20000 in
theorem gX8_costs_X8_signOf : GoodIn wsX8_costs (wsV RX8 90 RX8 yX8_signOf wsX8_signOf) := goodIn_app (goodIn_of _ (by decide +kernel)) ggX8_costs_X8_signOf
set_option maxRecDepth 20000 in
theorem ggX8_costs_X8_cost : GoodIn wsX8_costs wsX8_cost := goodIn_r _ [16, 1, 17, 18, 19, 20, 7, 21, 22, 23, 24, 25, 26, 27, 28, 29, 30, 31, 2, 32, 33, 34, 35, 36, 37, 38, 39, 40, 41, 42, 43, 44, 45, 46, 47, 48, 49, 50, 51, 52, 53, 54, 55, 56, 57, 58, 59, 60, 61, 62, 63, 64, 65, 66, 67, 68, 4, 5, 6, 8, 9, 10, 11, 12, 3, 69, 70, 71, 72, 73, 74, 75, 76, 77, 78, 79, 80, 81, 82, 83, 84, 85, 86, 87, 88, 89, 90, 91, 92, 93, 94, 95, 96, 97, 98, 99, 100, 101, 102, 103, 104, 105, 106] rfl (by decide +kernel)
set_option maxRecDepth 20000 in
theorem gX8_costs_X8_cost : GoodIn wsX8_costs (wsV RX8 236 RX8 yX8_cost wsX8_cost) := goodIn_app (goodIn_of _ (by decide +kernel)) ggX8_costs_X8_cost
theorem dX8_costs_0 : decode cX8_costs 0 = .ok (.iconst 0, 1) := by decide +kernel
theorem dX8_costs_1 : decode cX8_costs 1 = .ok (.istore_n 2, 1) := by decide +kernel
theorem dX8_costs_2 : decode cX8_costs 2 = .ok (.iconst 0, 1) := by decide +kernel
theorem dX8_costs_3 : decode cX8_costs 3 = .ok (.istore_n 3, 1) := by decide +kernel
theorem dX8_costs_4 : decode cX8_costs 4 = .ok (.iconst 0, 1) := by decide +kernel
theorem dX8_costs_5 : decode cX8_costs 5 = .ok (.istore 4, 2) := by decide +kernel
theorem dX8_costs_7 : decode cX8_costs 7 = .ok (.iload 4, 2) := by decide +kernel
theorem dX8_costs_9 : decode cX8_costs 9 = .ok (.aload_n 0, 1) := by decide +kernel
theorem dX8_costs_10 : decode cX8_costs 10 = .ok (.getfield 7, 3) := by decide +kernel
theorem dX8_costs_13 : decode cX8_costs 13 = .ok (.iconst 0, 1) := by decide +kernel
theorem dX8_costs_14 : decode cX8_costs 14 = .ok (.iaload, 1) := by decide +kernel
theorem dX8_costs_15 : decode cX8_costs 15 = .ok (.if_icmp .ge 76, 3) := by decide +kernel
theorem dX8_costs_18 : decode cX8_costs 18 = .ok (.aload_n 0, 1) := by decide +kernel
theorem dX8_costs_19 : decode cX8_costs 19 = .ok (.aload_n 0, 1) := by decide +kernel
theorem dX8_costs_20 : decode cX8_costs 20 = .ok (.iload 4, 2) := by decide +kernel
theorem dX8_costs_22 : decode cX8_costs 22 = .ok (.invokevirtual 86, 3) := by decide +kernel
theorem dX8_costs_25 : decode cX8_costs 25 = .ok (.putfield 83, 3) := by decide +kernel
theorem dX8_costs_28 : decode cX8_costs 28 = .ok (.iconst 0, 1) := by decide +kernel
theorem dX8_costs_29 : decode cX8_costs 29 = .ok (.istore 5, 2) := by decide +kernel
theorem dX8_costs_31 : decode cX8_costs 31 = .ok (.iload 5, 2) := by decide +kernel
theorem dX8_costs_33 : decode cX8_costs 33 = .ok (.aload_n 0, 1) := by decide +kernel
theorem dX8_costs_34 : decode cX8_costs 34 = .ok (.getfield 83, 3) := by decide +kernel
theorem dX8_costs_37 : decode cX8_costs 37 = .ok (.if_icmp .ge 24, 3) := by decide +kernel
theorem dX8_costs_40 : decode cX8_costs 40 = .ok (.aload_n 0, 1) := by decide +kernel
theorem dX8_costs_41 : decode cX8_costs 41 = .ok (.getfield 25, 3) := by decide +kernel
theorem dX8_costs_44 : decode cX8_costs 44 = .ok (.iload 5, 2) := by decide +kernel
theorem dX8_costs_46 : decode cX8_costs 46 = .ok (.aload_n 0, 1) := by decide +kernel
theorem dX8_costs_47 : decode cX8_costs 47 = .ok (.iload 4, 2) := by decide +kernel
theorem dX8_costs_49 : decode cX8_costs 49 = .ok (.iload 5, 2) := by decide +kernel
theorem dX8_costs_51 : decode cX8_costs 51 = .ok (.invokevirtual 90, 3) := by decide +kernel
theorem dX8_costs_54 : decode cX8_costs 54 = .ok (.iastore, 1) := by decide +kernel
theorem dX8_costs_55 : decode cX8_costs 55 = .ok (.iinc 5 1, 3) := by decide +kernel
theorem dX8_costs_58 : decode cX8_costs 58 = .ok (.goto (-27), 3) := by decide +kernel
theorem dX8_costs_61 : decode cX8_costs 61 = .ok (.aload_n 0, 1) := by decide +kernel
theorem dX8_costs_62 : decode cX8_costs 62 = .ok (.invokevirtual 236, 3) := by decide +kernel
theorem dX8_costs_65 : decode cX8_costs 65 = .ok (.istore 5, 2) := by decide +kernel
theorem dX8_costs_67 : decode cX8_costs 67 = .ok (.iload 5, 2) := by decide +kernel
theorem dX8_costs_69 : decode cX8_costs 69 = .ok (.iload_n 2, 1) := by decide +kernel
theorem dX8_costs_70 : decode cX8_costs 70 = .ok (.if_icmp .le 8, 3) := by decide +kernel
theorem dX8_costs_73 : decode cX8_costs 73 = .ok (.iload 5, 2) := by decide +kernel
theorem dX8_costs_75 : decode cX8_costs 75 = .ok (.goto 4, 3) := by decide +kernel
theorem dX8_costs_78 : decode cX8_costs 78 = .ok (.iload_n 2, 1) := by decide +kernel
theorem dX8_costs_79 : decode cX8_costs 79 = .ok (.istore_n 2, 1) := by decide +kernel
theorem dX8_costs_80 : decode cX8_costs 80 = .ok (.iload_n 3, 1) := by decide +kernel
theorem dX8_costs_81 : decode cX8_costs 81 = .ok (.iload 5, 2) := by decide +kernel
theorem dX8_costs_83 : decode cX8_costs 83 = .ok (.iadd, 1) := by decide +kernel
theorem dX8_costs_84 : decode cX8_costs 84 = .ok (.istore_n 3, 1) := by decide +kernel
theorem dX8_costs_85 : decode cX8_costs 85 = .ok (.iinc 4 1, 3) := by decide +kernel
theorem dX8_costs_88 : decode cX8_costs 88 = .ok (.goto (-81), 3) := by decide +kernel
theorem dX8_costs_91 : decode cX8_costs 91 = .ok (.iload_n 1, 1) := by decide +kernel
theorem dX8_costs_92 : decode cX8_costs 92 = .ok (.ifCond .eq 7, 3) := by decide +kernel
theorem dX8_costs_95 : decode cX8_costs 95 = .ok (.iload_n 3, 1) := by decide +kernel
theorem dX8_costs_96 : decode cX8_costs 96 = .ok (.goto 4, 3) := by decide +kernel
theorem dX8_costs_99 : decode cX8_costs 99 = .ok (.iload_n 2, 1) := by decide +kernel
theorem dX8_costs_100 : decode cX8_costs 100 = .ok (.ireturn, 1) := by decide +kernel
set_option maxRecDepth 20000 in
theorem ggX8_fewest_X8_topLevel : GoodIn wsX8_fewest wsX8_topLevel := goodIn_r _ [6, 1, 11, 12, 13, 14, 15, 16, 17, 18, 19, 20, 21, 22, 23, 24, 25, 26, 27, 28, 29, 30, 31, 32, 33, 34, 35, 36, 37, 38, 39, 40, 41, 42, 43, 44] rfl (by decide +kernel)
set_option maxRecDepth 20000 in
theorem gX8_fewest_X8_topLevel : GoodIn wsX8_fewest (wsV RX8 110 RX8 yX8_topLevel wsX8_topLevel) := goodIn_app (goodIn_of _ (by decide +kernel)) ggX8_fewest_X8_topLevel
set_option maxRecDepth 20000 in
theorem ggX8_fewest_X8_sizeOf : GoodIn wsX8_fewest wsX8_sizeOf := goodIn_r _ [10, 1, 11, 12, 13, 14, 15, 16, 17, 18, 19, 20, 21, 22, 23, 24, 25, 26, 27, 28, 29, 30, 31, 32, 33, 34, 35, 36, 37, 38, 39, 40, 41, 42, 43, 44] rfl (by decide +kernel)
set_option maxRecDepth 20000 in
theorem gX8_fewest_X8_sizeOf : GoodIn wsX8_fewest (wsV RX8 104 RX8 yX8_sizeOf wsX8_sizeOf) := goodIn_app (goodIn_of _ (by decide +kernel)) ggX8_fewest_X8_sizeOf
theorem dX8_fewest_0 : decode cX8_fewest 0 = .ok (.iconst (-1), 1) := by decide +kernel
theorem dX8_fewest_1 : decode cX8_fewest 1 = .ok (.istore_n 1, 1) := by decide +kernel
theorem dX8_fewest_2 : decode cX8_fewest 2 = .ok (.iconst 0, 1) := by decide +kernel
theorem dX8_fewest_3 : decode cX8_fewest 3 = .ok (.istore_n 2, 1) := by decide +kernel
theorem dX8_fewest_4 : decode cX8_fewest 4 = .ok (.iload_n 2, 1) := by decide +kernel
theorem dX8_fewest_5 : decode cX8_fewest 5 = .ok (.aload_n 0, 1) := by decide +kernel
theorem dX8_fewest_6 : decode cX8_fewest 6 = .ok (.invokevirtual 110, 3) := by decide +kernel
theorem dX8_fewest_9 : decode cX8_fewest 9 = .ok (.if_icmp .ge 55, 3) := by decide +kernel
theorem dX8_fewest_12 : decode cX8_fewest 12 = .ok (.iconst 0, 1) := by decide +kernel
theorem dX8_fewest_13 : decode cX8_fewest 13 = .ok (.istore_n 3, 1) := by decide +kernel
theorem dX8_fewest_14 : decode cX8_fewest 14 = .ok (.iload_n 3, 1) := by decide +kernel
theorem dX8_fewest_15 : decode cX8_fewest 15 = .ok (.aload_n 0, 1) := by decide +kernel
theorem dX8_fewest_16 : decode cX8_fewest 16 = .ok (.getfield 7, 3) := by decide +kernel
theorem dX8_fewest_19 : decode cX8_fewest 19 = .ok (.iconst 3, 1) := by decide +kernel
theorem dX8_fewest_20 : decode cX8_fewest 20 = .ok (.iload_n 2, 1) := by decide +kernel
theorem dX8_fewest_21 : decode cX8_fewest 21 = .ok (.iadd, 1) := by decide +kernel
theorem dX8_fewest_22 : decode cX8_fewest 22 = .ok (.iaload, 1) := by decide +kernel
theorem dX8_fewest_23 : decode cX8_fewest 23 = .ok (.if_icmp .ge 35, 3) := by decide +kernel
theorem dX8_fewest_26 : decode cX8_fewest 26 = .ok (.iload_n 1, 1) := by decide +kernel
theorem dX8_fewest_27 : decode cX8_fewest 27 = .ok (.iconst (-1), 1) := by decide +kernel
theorem dX8_fewest_28 : decode cX8_fewest 28 = .ok (.if_icmp .eq 13, 3) := by decide +kernel
theorem dX8_fewest_31 : decode cX8_fewest 31 = .ok (.aload_n 0, 1) := by decide +kernel
theorem dX8_fewest_32 : decode cX8_fewest 32 = .ok (.iload_n 2, 1) := by decide +kernel
theorem dX8_fewest_33 : decode cX8_fewest 33 = .ok (.iload_n 3, 1) := by decide +kernel
theorem dX8_fewest_34 : decode cX8_fewest 34 = .ok (.invokevirtual 104, 3) := by decide +kernel
theorem dX8_fewest_37 : decode cX8_fewest 37 = .ok (.iload_n 1, 1) := by decide +kernel
theorem dX8_fewest_38 : decode cX8_fewest 38 = .ok (.if_icmp .ge 12, 3) := by decide +kernel
theorem dX8_fewest_41 : decode cX8_fewest 41 = .ok (.aload_n 0, 1) := by decide +kernel
theorem dX8_fewest_42 : decode cX8_fewest 42 = .ok (.iload_n 2, 1) := by decide +kernel
theorem dX8_fewest_43 : decode cX8_fewest 43 = .ok (.iload_n 3, 1) := by decide +kernel
theorem dX8_fewest_44 : decode cX8_fewest 44 = .ok (.invokevirtual 104, 3) := by decide +kernel
theorem dX8_fewest_47 : decode cX8_fewest 47 = .ok (.goto 4, 3) := by decide +kernel
theorem dX8_fewest_50 : decode cX8_fewest 50 = .ok (.iload_n 1, 1) := by decide +kernel
theorem dX8_fewest_51 : decode cX8_fewest 51 = .ok (.istore_n 1, 1) := by decide +kernel
theorem dX8_fewest_52 : decode cX8_fewest 52 = .ok (.iinc 3 1, 3) := by decide +kernel
theorem dX8_fewest_55 : decode cX8_fewest 55 = .ok (.goto (-41), 3) := by decide +kernel
theorem dX8_fewest_58 : decode cX8_fewest 58 = .ok (.iinc 2 1, 3) := by decide +kernel
theorem dX8_fewest_61 : decode cX8_fewest 61 = .ok (.goto (-57), 3) := by decide +kernel
theorem dX8_fewest_64 : decode cX8_fewest 64 = .ok (.iload_n 1, 1) := by decide +kernel
theorem dX8_fewest_65 : decode cX8_fewest 65 = .ok (.ireturn, 1) := by decide +kernel
set_option maxRecDepth 20000 in
theorem ggX8_allOf_X8_manyPages : GoodIn wsX8_allOf wsX8_manyPages := goodIn_r _ [6, 1, 85, 86, 87, 88, 89, 90, 91, 92, 93, 94, 95, 96, 97, 98, 99, 100, 101, 102, 103, 104, 105, 106, 107, 108, 109, 110, 111, 112, 113, 114, 115, 116, 117, 118] rfl (by decide +kernel)
set_option maxRecDepth 20000 in
theorem gX8_allOf_X8_manyPages : GoodIn wsX8_allOf (wsV RX8 233 RX8 yX8_manyPages wsX8_manyPages) := goodIn_app (goodIn_of _ (by decide +kernel)) ggX8_allOf_X8_manyPages
set_option maxRecDepth 20000 in
theorem ggX8_allOf_X8_costs : GoodIn wsX8_allOf wsX8_costs := goodIn_r _ [10, 1, 11, 12, 13, 14, 15, 5, 16, 17, 18, 19, 20, 21, 22, 23, 24, 25, 26, 27, 28, 29, 30, 31, 32, 33, 34, 35, 36, 37, 38, 39, 40, 41, 42, 43, 44, 45, 46, 47, 48, 49, 50, 51, 52, 53, 54, 55, 56, 57, 58, 59, 60, 61, 62, 63, 64, 65, 66, 67, 68, 69, 70, 71, 72, 73, 74, 75, 76, 77, 78, 79, 80, 85, 86, 87, 88, 89, 90, 91, 92, 93, 94, 95, 96, 97, 98, 99, 100, 101, 102, 103, 104, 105, 106, 107, 108, 109, 110, 111, 112, 113, 114, 115, 116, 117, 118] rfl (by decide +kernel)
set_option maxRecDepth 20000 in
theorem gX8_allOf_X8_costs : GoodIn wsX8_allOf (wsV RX8 276 RX8 yX8_costs wsX8_costs) := goodIn_app (goodIn_of _ (by decide +kernel)) ggX8_allOf_X8_costs
set_option maxRecDepth 20000 in
theorem ggX8_allOf_X8_fewest : GoodIn wsX8_allOf wsX8_fewest := goodIn_r _ [84, 1, 40, 41, 42, 5, 43, 57, 58, 59, 60, 85, 86, 87, 88, 89, 90, 91, 92, 93, 94, 95, 96, 97, 98, 99, 100, 101, 102, 103, 104, 105, 106, 107, 108, 109, 110, 111, 112, 113, 114, 115, 116, 117, 118] rfl (by decide +kernel)
set_option maxRecDepth 20000 in
theorem gX8_allOf_X8_fewest : GoodIn wsX8_allOf (wsV RX8 280 RX8 yX8_fewest wsX8_fewest) := goodIn_app (goodIn_of _ (by decide +kernel)) ggX8_allOf_X8_fewest
theorem dX8_allOf_0 : decode cX8_allOf 0 = .ok (.iload_n 1, 1) := by decide +kernel
theorem dX8_allOf_1 : decode cX8_allOf 1 = .ok (.tableswitch 77 0 5 #[39, 46, 51, 58, 65, 71], 39) := by decide +kernel
theorem dX8_allOf_40 : decode cX8_allOf 40 = .ok (.aload_n 0, 1) := by decide +kernel
theorem dX8_allOf_41 : decode cX8_allOf 41 = .ok (.getfield 7, 3) := by decide +kernel
theorem dX8_allOf_44 : decode cX8_allOf 44 = .ok (.iconst 0, 1) := by decide +kernel
theorem dX8_allOf_45 : decode cX8_allOf 45 = .ok (.iaload, 1) := by decide +kernel
theorem dX8_allOf_46 : decode cX8_allOf 46 = .ok (.ireturn, 1) := by decide +kernel
theorem dX8_allOf_47 : decode cX8_allOf 47 = .ok (.aload_n 0, 1) := by decide +kernel
theorem dX8_allOf_48 : decode cX8_allOf 48 = .ok (.invokevirtual 233, 3) := by decide +kernel
theorem dX8_allOf_51 : decode cX8_allOf 51 = .ok (.ireturn, 1) := by decide +kernel
theorem dX8_allOf_52 : decode cX8_allOf 52 = .ok (.aload_n 0, 1) := by decide +kernel
theorem dX8_allOf_53 : decode cX8_allOf 53 = .ok (.getfield 7, 3) := by decide +kernel
theorem dX8_allOf_56 : decode cX8_allOf 56 = .ok (.iconst 2, 1) := by decide +kernel
theorem dX8_allOf_57 : decode cX8_allOf 57 = .ok (.iaload, 1) := by decide +kernel
theorem dX8_allOf_58 : decode cX8_allOf 58 = .ok (.ireturn, 1) := by decide +kernel
theorem dX8_allOf_59 : decode cX8_allOf 59 = .ok (.aload_n 0, 1) := by decide +kernel
theorem dX8_allOf_60 : decode cX8_allOf 60 = .ok (.getfield 7, 3) := by decide +kernel
theorem dX8_allOf_63 : decode cX8_allOf 63 = .ok (.iconst 1, 1) := by decide +kernel
theorem dX8_allOf_64 : decode cX8_allOf 64 = .ok (.iaload, 1) := by decide +kernel
theorem dX8_allOf_65 : decode cX8_allOf 65 = .ok (.ireturn, 1) := by decide +kernel
theorem dX8_allOf_66 : decode cX8_allOf 66 = .ok (.aload_n 0, 1) := by decide +kernel
theorem dX8_allOf_67 : decode cX8_allOf 67 = .ok (.iconst 0, 1) := by decide +kernel
theorem dX8_allOf_68 : decode cX8_allOf 68 = .ok (.invokevirtual 276, 3) := by decide +kernel
theorem dX8_allOf_71 : decode cX8_allOf 71 = .ok (.ireturn, 1) := by decide +kernel
theorem dX8_allOf_72 : decode cX8_allOf 72 = .ok (.aload_n 0, 1) := by decide +kernel
theorem dX8_allOf_73 : decode cX8_allOf 73 = .ok (.iconst 1, 1) := by decide +kernel
theorem dX8_allOf_74 : decode cX8_allOf 74 = .ok (.invokevirtual 276, 3) := by decide +kernel
theorem dX8_allOf_77 : decode cX8_allOf 77 = .ok (.ireturn, 1) := by decide +kernel
theorem dX8_allOf_78 : decode cX8_allOf 78 = .ok (.aload_n 0, 1) := by decide +kernel
theorem dX8_allOf_79 : decode cX8_allOf 79 = .ok (.invokevirtual 280, 3) := by decide +kernel
theorem dX8_allOf_82 : decode cX8_allOf 82 = .ok (.ireturn, 1) := by decide +kernel
set_option maxRecDepth 20000 in
theorem ggX8_all_X8_in : GoodIn wsX8_all wsX8_in := goodIn_r _ [4] rfl (by decide +kernel)
set_option maxRecDepth 20000 in
theorem gX8_all_X8_in : GoodIn wsX8_all (va_wsS RX8 175 yX8_in wsX8_in) := goodIn_app (goodIn_of _ (by decide +kernel)) ggX8_all_X8_in
set_option maxRecDepth 20000 in
theorem ggX8_all_X8_allOf : GoodIn wsX8_all wsX8_allOf := goodIn_r _ [8, 9, 10, 11, 12, 3, 13, 14, 15, 16, 17, 18, 19, 20, 21, 22, 23, 24, 25, 26, 27, 28, 29, 30, 31, 32, 33, 34, 35, 36, 37, 38, 39, 40, 41, 42, 43, 44, 45, 46, 47, 48, 49, 50, 51, 52, 53, 54, 55, 56, 57, 58, 59, 60, 61, 62, 63, 64, 65, 66, 67, 68, 69, 70, 71, 72, 73, 74, 75, 76, 77, 78, 79, 80, 81, 82, 83, 84, 85, 86, 87, 88, 89, 90, 91, 97, 98, 99, 100, 101, 102, 103, 104, 105, 106, 107, 108, 109, 110, 111, 112, 113, 114, 115, 116, 117, 118, 119, 120, 121, 122, 123, 124, 125, 126, 127, 128, 129, 130] rfl (by decide +kernel)
set_option maxRecDepth 20000 in
theorem gX8_all_X8_allOf : GoodIn wsX8_all (wsV RX8 283 RX8 yX8_allOf wsX8_allOf) := goodIn_app (goodIn_of _ (by decide +kernel)) ggX8_all_X8_allOf
set_option maxRecDepth 20000 in
theorem ggX8_all_X8_refuses : GoodIn wsX8_all wsX8_refuses := goodIn_r _ [95, 96, 97, 98, 99, 100, 101, 102, 103, 104, 105, 106, 107, 108, 109, 110, 111, 112, 113, 114, 115, 116, 117, 118, 119, 120, 121, 122, 123, 124, 125, 126, 127, 128, 129, 130] rfl (by decide +kernel)
set_option maxRecDepth 20000 in
theorem gX8_all_X8_refuses : GoodIn wsX8_all (wsV RX8 179 RX8 yX8_refuses wsX8_refuses) := goodIn_app (goodIn_of _ (by decide +kernel)) ggX8_all_X8_refuses
theorem dX8_all_0 : decode cX8_all 0 = .ok (.iload_n 1, 1) := by decide +kernel
theorem dX8_all_1 : decode cX8_all 1 = .ok (.iconst 0, 1) := by decide +kernel
theorem dX8_all_2 : decode cX8_all 2 = .ok (.bipush 6, 2) := by decide +kernel
theorem dX8_all_4 : decode cX8_all 4 = .ok (.invokestatic 175, 3) := by decide +kernel
theorem dX8_all_7 : decode cX8_all 7 = .ok (.ifCond .eq 11, 3) := by decide +kernel
theorem dX8_all_10 : decode cX8_all 10 = .ok (.aload_n 0, 1) := by decide +kernel
theorem dX8_all_11 : decode cX8_all 11 = .ok (.iload_n 1, 1) := by decide +kernel
theorem dX8_all_12 : decode cX8_all 12 = .ok (.invokevirtual 283, 3) := by decide +kernel
theorem dX8_all_15 : decode cX8_all 15 = .ok (.goto 9, 3) := by decide +kernel
theorem dX8_all_18 : decode cX8_all 18 = .ok (.aload_n 0, 1) := by decide +kernel
theorem dX8_all_19 : decode cX8_all 19 = .ok (.bipush (-2), 2) := by decide +kernel
theorem dX8_all_21 : decode cX8_all 21 = .ok (.invokevirtual 179, 3) := by decide +kernel
theorem dX8_all_24 : decode cX8_all 24 = .ok (.ireturn, 1) := by decide +kernel
set_option maxRecDepth 20000 in
theorem ggX8_back_X8_refuses : GoodIn wsX8_back wsX8_refuses := goodIn_r _ [8, 9, 10, 11, 12, 13, 14, 15, 16, 17, 18, 19, 20, 21, 22, 23, 24, 25, 26, 27, 28, 29, 30, 31, 32, 33, 34, 35, 36, 37, 38, 39, 40, 41, 42, 43] rfl (by decide +kernel)
set_option maxRecDepth 20000 in
theorem gX8_back_X8_refuses : GoodIn wsX8_back (wsV RX8 179 RX8 yX8_refuses wsX8_refuses) := goodIn_app (goodIn_of _ (by decide +kernel)) ggX8_back_X8_refuses
theorem dX8_back_0 : decode cX8_back 0 = .ok (.aload_n 0, 1) := by decide +kernel
theorem dX8_back_1 : decode cX8_back 1 = .ok (.getfield 79, 3) := by decide +kernel
theorem dX8_back_4 : decode cX8_back 4 = .ok (.ifCond .ne 10, 3) := by decide +kernel
theorem dX8_back_7 : decode cX8_back 7 = .ok (.aload_n 0, 1) := by decide +kernel
theorem dX8_back_8 : decode cX8_back 8 = .ok (.bipush (-3), 2) := by decide +kernel
theorem dX8_back_10 : decode cX8_back 10 = .ok (.invokevirtual 179, 3) := by decide +kernel
theorem dX8_back_13 : decode cX8_back 13 = .ok (.ireturn, 1) := by decide +kernel
theorem dX8_back_14 : decode cX8_back 14 = .ok (.aload_n 0, 1) := by decide +kernel
theorem dX8_back_15 : decode cX8_back 15 = .ok (.dup, 1) := by decide +kernel
theorem dX8_back_16 : decode cX8_back 16 = .ok (.getfield 79, 3) := by decide +kernel
theorem dX8_back_19 : decode cX8_back 19 = .ok (.iconst 1, 1) := by decide +kernel
theorem dX8_back_20 : decode cX8_back 20 = .ok (.isub, 1) := by decide +kernel
theorem dX8_back_21 : decode cX8_back 21 = .ok (.putfield 79, 3) := by decide +kernel
theorem dX8_back_24 : decode cX8_back 24 = .ok (.iconst 0, 1) := by decide +kernel
theorem dX8_back_25 : decode cX8_back 25 = .ok (.istore_n 1, 1) := by decide +kernel
theorem dX8_back_26 : decode cX8_back 26 = .ok (.iload_n 1, 1) := by decide +kernel
theorem dX8_back_27 : decode cX8_back 27 = .ok (.sipush 1552, 3) := by decide +kernel
theorem dX8_back_30 : decode cX8_back 30 = .ok (.if_icmp .ge 30, 3) := by decide +kernel
theorem dX8_back_33 : decode cX8_back 33 = .ok (.aload_n 0, 1) := by decide +kernel
theorem dX8_back_34 : decode cX8_back 34 = .ok (.getfield 7, 3) := by decide +kernel
theorem dX8_back_37 : decode cX8_back 37 = .ok (.iload_n 1, 1) := by decide +kernel
theorem dX8_back_38 : decode cX8_back 38 = .ok (.aload_n 0, 1) := by decide +kernel
theorem dX8_back_39 : decode cX8_back 39 = .ok (.getfield 13, 3) := by decide +kernel
theorem dX8_back_42 : decode cX8_back 42 = .ok (.sipush 1552, 3) := by decide +kernel
theorem dX8_back_45 : decode cX8_back 45 = .ok (.aload_n 0, 1) := by decide +kernel
theorem dX8_back_46 : decode cX8_back 46 = .ok (.getfield 79, 3) := by decide +kernel
theorem dX8_back_49 : decode cX8_back 49 = .ok (.imul, 1) := by decide +kernel
theorem dX8_back_50 : decode cX8_back 50 = .ok (.iload_n 1, 1) := by decide +kernel
theorem dX8_back_51 : decode cX8_back 51 = .ok (.iadd, 1) := by decide +kernel
theorem dX8_back_52 : decode cX8_back 52 = .ok (.iaload, 1) := by decide +kernel
theorem dX8_back_53 : decode cX8_back 53 = .ok (.iastore, 1) := by decide +kernel
theorem dX8_back_54 : decode cX8_back 54 = .ok (.iinc 1 1, 3) := by decide +kernel
theorem dX8_back_57 : decode cX8_back 57 = .ok (.goto (-31), 3) := by decide +kernel
theorem dX8_back_60 : decode cX8_back 60 = .ok (.aload_n 0, 1) := by decide +kernel
theorem dX8_back_61 : decode cX8_back 61 = .ok (.getfield 79, 3) := by decide +kernel
theorem dX8_back_64 : decode cX8_back 64 = .ok (.ireturn, 1) := by decide +kernel
theorem dX8_toldOf_0 : decode cX8_toldOf 0 = .ok (.iload_n 1, 1) := by decide +kernel
theorem dX8_toldOf_1 : decode cX8_toldOf 1 = .ok (.iconst 3, 1) := by decide +kernel
theorem dX8_toldOf_2 : decode cX8_toldOf 2 = .ok (.if_icmp .ge 12, 3) := by decide +kernel
theorem dX8_toldOf_5 : decode cX8_toldOf 5 = .ok (.aload_n 0, 1) := by decide +kernel
theorem dX8_toldOf_6 : decode cX8_toldOf 6 = .ok (.getfield 19, 3) := by decide +kernel
theorem dX8_toldOf_9 : decode cX8_toldOf 9 = .ok (.iload_n 1, 1) := by decide +kernel
theorem dX8_toldOf_10 : decode cX8_toldOf 10 = .ok (.iaload, 1) := by decide +kernel
theorem dX8_toldOf_11 : decode cX8_toldOf 11 = .ok (.goto 19, 3) := by decide +kernel
theorem dX8_toldOf_14 : decode cX8_toldOf 14 = .ok (.iload_n 1, 1) := by decide +kernel
theorem dX8_toldOf_15 : decode cX8_toldOf 15 = .ok (.iconst 3, 1) := by decide +kernel
theorem dX8_toldOf_16 : decode cX8_toldOf 16 = .ok (.if_icmp .ne 10, 3) := by decide +kernel
theorem dX8_toldOf_19 : decode cX8_toldOf 19 = .ok (.aload_n 0, 1) := by decide +kernel
theorem dX8_toldOf_20 : decode cX8_toldOf 20 = .ok (.getfield 182, 3) := by decide +kernel
theorem dX8_toldOf_23 : decode cX8_toldOf 23 = .ok (.goto 7, 3) := by decide +kernel
theorem dX8_toldOf_26 : decode cX8_toldOf 26 = .ok (.aload_n 0, 1) := by decide +kernel
theorem dX8_toldOf_27 : decode cX8_toldOf 27 = .ok (.getfield 79, 3) := by decide +kernel
theorem dX8_toldOf_30 : decode cX8_toldOf 30 = .ok (.ireturn, 1) := by decide +kernel
set_option maxRecDepth 20000 in
theorem ggX8_told_X8_in : GoodIn wsX8_told wsX8_in := goodIn_r _ [4] rfl (by decide +kernel)
set_option maxRecDepth 20000 in
theorem gX8_told_X8_in : GoodIn wsX8_told (va_wsS RX8 175 yX8_in wsX8_in) := goodIn_app (goodIn_of _ (by decide +kernel)) ggX8_told_X8_in
set_option maxRecDepth 20000 in
theorem ggX8_told_X8_toldOf : GoodIn wsX8_told wsX8_toldOf := goodIn_r _ [8, 9, 10, 11, 16, 17, 18, 19, 20, 21, 22, 23, 24, 25, 26, 27, 28, 29, 30, 31, 32, 33, 34, 35, 36, 37, 38, 39, 40, 41, 42, 43, 44, 45, 46, 47, 48, 49] rfl (by decide +kernel)
set_option maxRecDepth 20000 in
theorem gX8_told_X8_toldOf : GoodIn wsX8_told (wsV RX8 286 RX8 yX8_toldOf wsX8_toldOf) := goodIn_app (goodIn_of _ (by decide +kernel)) ggX8_told_X8_toldOf
set_option maxRecDepth 20000 in
theorem ggX8_told_X8_refuses : GoodIn wsX8_told wsX8_refuses := goodIn_r _ [15, 9, 16, 17, 18, 19, 20, 21, 22, 23, 24, 25, 26, 27, 28, 29, 30, 31, 32, 33, 34, 35, 36, 37, 38, 39, 40, 41, 42, 43, 44, 45, 46, 47, 48, 49] rfl (by decide +kernel)
set_option maxRecDepth 20000 in
theorem gX8_told_X8_refuses : GoodIn wsX8_told (wsV RX8 179 RX8 yX8_refuses wsX8_refuses) := goodIn_app (goodIn_of _ (by decide +kernel)) ggX8_told_X8_refuses
theorem dX8_told_0 : decode cX8_told 0 = .ok (.iload_n 1, 1) := by decide +kernel
theorem dX8_told_1 : decode cX8_told 1 = .ok (.iconst 0, 1) := by decide +kernel
theorem dX8_told_2 : decode cX8_told 2 = .ok (.iconst 4, 1) := by decide +kernel
theorem dX8_told_3 : decode cX8_told 3 = .ok (.invokestatic 175, 3) := by decide +kernel
theorem dX8_told_6 : decode cX8_told 6 = .ok (.ifCond .eq 11, 3) := by decide +kernel
theorem dX8_told_9 : decode cX8_told 9 = .ok (.aload_n 0, 1) := by decide +kernel
theorem dX8_told_10 : decode cX8_told 10 = .ok (.iload_n 1, 1) := by decide +kernel
theorem dX8_told_11 : decode cX8_told 11 = .ok (.invokevirtual 286, 3) := by decide +kernel
theorem dX8_told_14 : decode cX8_told 14 = .ok (.goto 9, 3) := by decide +kernel
theorem dX8_told_17 : decode cX8_told 17 = .ok (.aload_n 0, 1) := by decide +kernel
theorem dX8_told_18 : decode cX8_told 18 = .ok (.bipush (-2), 2) := by decide +kernel
theorem dX8_told_20 : decode cX8_told 20 = .ok (.invokevirtual 179, 3) := by decide +kernel
theorem dX8_told_23 : decode cX8_told 23 = .ok (.ireturn, 1) := by decide +kernel
set_option maxRecDepth 20000 in
theorem ggX8_digest_X8_toldOf : GoodIn wsX8_digest wsX8_toldOf := goodIn_r _ [9, 10, 11, 12, 147, 148, 149, 150, 151, 152, 153, 154, 155, 156, 157, 158, 159, 160, 161, 162, 163, 164, 165, 166, 167, 168, 169, 170, 171, 172, 173, 174, 175, 176, 177, 178, 179, 180] rfl (by decide +kernel)
set_option maxRecDepth 20000 in
theorem gX8_digest_X8_toldOf : GoodIn wsX8_digest (wsV RX8 286 RX8 yX8_toldOf wsX8_toldOf) := goodIn_app (goodIn_of _ (by decide +kernel)) ggX8_digest_X8_toldOf
set_option maxRecDepth 20000 in
theorem ggX8_digest_X8_allOf : GoodIn wsX8_digest wsX8_allOf := goodIn_r _ [16, 4, 17, 18, 19, 8, 20, 21, 22, 23, 24, 25, 26, 27, 28, 29, 30, 31, 32, 33, 34, 35, 36, 37, 38, 39, 40, 41, 42, 43, 44, 45, 46, 47, 48, 49, 50, 51, 52, 53, 54, 55, 56, 57, 58, 59, 60, 61, 62, 63, 64, 65, 66, 67, 68, 69, 70, 71, 72, 73, 74, 75, 76, 77, 78, 79, 80, 81, 82, 83, 84, 85, 86, 87, 88, 89, 90, 91, 92, 93, 94, 95, 96, 97, 98, 147, 148, 149, 150, 151, 152, 153, 154, 155, 156, 157, 158, 159, 160, 161, 162, 163, 164, 165, 166, 167, 168, 169, 170, 171, 172, 173, 174, 175, 176, 177, 178, 179, 180] rfl (by decide +kernel)
set_option maxRecDepth 20000 in
theorem gX8_digest_X8_allOf : GoodIn wsX8_digest (wsV RX8 283 RX8 yX8_allOf wsX8_allOf) := goodIn_app (goodIn_of _ (by decide +kernel)) ggX8_digest_X8_allOf
set_option maxRecDepth 20000 in
theorem ggX8_digest_X8_manyPages : GoodIn wsX8_digest wsX8_manyPages := goodIn_r _ [20, 4, 147, 148, 149, 150, 151, 152, 153, 154, 155, 156, 157, 158, 159, 160, 161, 162, 163, 164, 165, 166, 167, 168, 169, 170, 171, 172, 173, 174, 175, 176, 177, 178, 179, 180] rfl (by decide +kernel)
set_option maxRecDepth 20000 in
theorem gX8_digest_X8_manyPages : GoodIn wsX8_digest (wsV RX8 233 RX8 yX8_manyPages wsX8_manyPages) := goodIn_app (goodIn_of _ (by decide +kernel)) ggX8_digest_X8_manyPages
set_option maxRecDepth 20000 in
theorem ggX8_digest_X8_levelOf : GoodIn wsX8_digest wsX8_levelOf := goodIn_r _ [102, 4, 54, 55, 56, 8, 57, 147, 148, 149, 150, 151, 152, 153, 154, 155, 156, 157, 158, 159, 160, 161, 162, 163, 164, 165, 166, 167, 168, 169, 170, 171, 172, 173, 174, 175, 176, 177, 178, 179, 180] rfl (by decide +kernel)
set_option maxRecDepth 20000 in
theorem gX8_digest_X8_levelOf : GoodIn wsX8_digest (wsV RX8 114 RX8 yX8_levelOf wsX8_levelOf) := goodIn_app (goodIn_of _ (by decide +kernel)) ggX8_digest_X8_levelOf
set_option maxRecDepth 20000 in
theorem ggX8_digest_X8_pageOf : GoodIn wsX8_digest wsX8_pageOf := goodIn_r _ [106, 99, 100, 101, 8, 102, 4, 54, 55, 56, 57, 107, 108, 109, 110, 147, 148, 149, 150, 151, 152, 153, 154, 155, 156, 157, 158, 159, 160, 161, 162, 163, 164, 165, 166, 167, 168, 169, 170, 171, 172, 173, 174, 175, 176, 177, 178, 179, 180] rfl (by decide +kernel)
set_option maxRecDepth 20000 in
theorem gX8_digest_X8_pageOf : GoodIn wsX8_digest (wsV RX8 242 RX8 yX8_pageOf wsX8_pageOf) := goodIn_app (goodIn_of _ (by decide +kernel)) ggX8_digest_X8_pageOf
set_option maxRecDepth 20000 in
theorem ggX8_digest_X8_pageFact : GoodIn wsX8_digest wsX8_pageFact := goodIn_r _ [114, 115, 71, 72, 73, 8, 74, 4, 116, 117, 118, 119, 79, 80, 81, 82, 75, 76, 77, 78, 54, 55, 56, 57, 120, 121, 122, 123, 107, 108, 109, 110, 124, 125, 126, 127, 3, 63, 128, 129, 130, 53, 131, 132, 133, 134, 67, 68, 69, 70, 135, 136, 137, 138, 83, 84, 85, 86, 87, 88, 89, 90, 27, 28, 29, 30, 25, 31, 32, 33, 34, 26, 91, 92, 93, 94, 139, 140, 141, 142, 147, 148, 149, 150, 151, 152, 153, 154, 155, 156, 157, 158, 159, 160, 161, 162, 163, 164, 165, 166, 167, 168, 169, 170, 171, 172, 173, 174, 175, 176, 177, 178, 179, 180] rfl (by decide +kernel)
set_option maxRecDepth 20000 in
theorem gX8_digest_X8_pageFact : GoodIn wsX8_digest (wsV RX8 270 RX8 yX8_pageFact wsX8_pageFact) := goodIn_app (goodIn_of _ (by decide +kernel)) ggX8_digest_X8_pageFact
set_option maxRecDepth 20000 in
theorem ggX8_digest_X8_laysTree : GoodIn wsX8_digest wsX8_laysTree := goodIn_r _ [127, 3, 115, 63, 128, 129, 130, 53, 131, 132, 133, 134, 67, 68, 69, 8, 70, 71, 72, 73, 74, 4, 75, 76, 77, 78, 79, 80, 81, 82, 135, 136, 137, 138, 83, 84, 85, 86, 87, 88, 89, 90, 27, 28, 29, 30, 25, 31, 32, 33, 34, 26, 91, 92, 93, 94, 147, 148, 149, 150, 151, 152, 153, 154, 155, 156, 157, 158, 159, 160, 161, 162, 163, 164, 165, 166, 167, 168, 169, 170, 171, 172, 173, 174, 175, 176, 177, 178, 179, 180] rfl (by decide +kernel)
set_option maxRecDepth 20000 in
theorem gX8_digest_X8_laysTree : GoodIn wsX8_digest (wsV RX8 264 RX8 yX8_laysTree wsX8_laysTree) := goodIn_app (goodIn_of _ (by decide +kernel)) ggX8_digest_X8_laysTree
set_option maxRecDepth 20000 in
theorem ggX8_digest_X8_forkFact : GoodIn wsX8_digest wsX8_forkFact := goodIn_r _ [146, 131, 132, 133, 134, 147, 148, 149, 150, 151, 152, 153, 154, 155, 156, 157, 158, 159, 160, 161, 162, 163, 164, 165, 166, 167, 168, 169, 170, 171, 172, 173, 174, 175, 176, 177, 178, 179, 180] rfl (by decide +kernel)
set_option maxRecDepth 20000 in
theorem gX8_digest_X8_forkFact : GoodIn wsX8_digest (wsV RX8 273 RX8 yX8_forkFact wsX8_forkFact) := goodIn_app (goodIn_of _ (by decide +kernel)) ggX8_digest_X8_forkFact
set_option maxRecDepth 20000 in
theorem ggX8_digest_X8_lengthOf : GoodIn wsX8_digest wsX8_lengthOf := goodIn_r _ [30, 25, 4, 147, 148, 149, 150, 151, 152, 153, 154, 155, 156, 157, 158, 159, 160, 161, 162, 163, 164, 165, 166, 167, 168, 169, 170, 171, 172, 173, 174, 175, 176, 177, 178, 179, 180] rfl (by decide +kernel)
set_option maxRecDepth 20000 in
theorem gX8_digest_X8_lengthOf : GoodIn wsX8_digest (wsV RX8 86 RX8 yX8_lengthOf wsX8_lengthOf) := goodIn_app (goodIn_of _ (by decide +kernel)) ggX8_digest_X8_lengthOf
set_option maxRecDepth 20000 in
theorem ggX8_digest_X8_signOf : GoodIn wsX8_digest wsX8_signOf := goodIn_r _ [34, 26, 4, 147, 148, 149, 150, 151, 152, 153, 154, 155, 156, 157, 158, 159, 160, 161, 162, 163, 164, 165, 166, 167, 168, 169, 170, 171, 172, 173, 174, 175, 176, 177, 178, 179, 180] rfl (by decide +kernel)
set_option maxRecDepth 20000 in
theorem gX8_digest_X8_signOf : GoodIn wsX8_digest (wsV RX8 90 RX8 yX8_signOf wsX8_signOf) := goodIn_app (goodIn_of _ (by decide +kernel)) ggX8_digest_X8_signOf
theorem dX8_digest_0 : decode cX8_digest 0 = .ok (.ldc2_w 289, 3) := by decide +kernel
theorem dX8_digest_3 : decode cX8_digest 3 = .ok (.lstore_n 1, 1) := by decide +kernel
theorem dX8_digest_4 : decode cX8_digest 4 = .ok (.iconst 0, 1) := by decide +kernel
theorem dX8_digest_5 : decode cX8_digest 5 = .ok (.istore_n 3, 1) := by decide +kernel
theorem dX8_digest_6 : decode cX8_digest 6 = .ok (.iload_n 3, 1) := by decide +kernel
theorem dX8_digest_7 : decode cX8_digest 7 = .ok (.iconst 5, 1) := by decide +kernel
theorem dX8_digest_8 : decode cX8_digest 8 = .ok (.if_icmp .ge 22, 3) := by decide +kernel
theorem dX8_digest_11 : decode cX8_digest 11 = .ok (.ldc2_w 291, 3) := by decide +kernel
theorem dX8_digest_14 : decode cX8_digest 14 = .ok (.lload_n 1, 1) := by decide +kernel
theorem dX8_digest_15 : decode cX8_digest 15 = .ok (.lmul, 1) := by decide +kernel
theorem dX8_digest_16 : decode cX8_digest 16 = .ok (.aload_n 0, 1) := by decide +kernel
theorem dX8_digest_17 : decode cX8_digest 17 = .ok (.iload_n 3, 1) := by decide +kernel
theorem dX8_digest_18 : decode cX8_digest 18 = .ok (.invokevirtual 286, 3) := by decide +kernel
theorem dX8_digest_21 : decode cX8_digest 21 = .ok (.i2l, 1) := by decide +kernel
theorem dX8_digest_22 : decode cX8_digest 22 = .ok (.ladd, 1) := by decide +kernel
theorem dX8_digest_23 : decode cX8_digest 23 = .ok (.lstore_n 1, 1) := by decide +kernel
theorem dX8_digest_24 : decode cX8_digest 24 = .ok (.iinc 3 1, 3) := by decide +kernel
theorem dX8_digest_27 : decode cX8_digest 27 = .ok (.goto (-21), 3) := by decide +kernel
theorem dX8_digest_30 : decode cX8_digest 30 = .ok (.iconst 0, 1) := by decide +kernel
theorem dX8_digest_31 : decode cX8_digest 31 = .ok (.istore_n 3, 1) := by decide +kernel
theorem dX8_digest_32 : decode cX8_digest 32 = .ok (.iload_n 3, 1) := by decide +kernel
theorem dX8_digest_33 : decode cX8_digest 33 = .ok (.bipush 7, 2) := by decide +kernel
theorem dX8_digest_35 : decode cX8_digest 35 = .ok (.if_icmp .ge 22, 3) := by decide +kernel
theorem dX8_digest_38 : decode cX8_digest 38 = .ok (.ldc2_w 291, 3) := by decide +kernel
theorem dX8_digest_41 : decode cX8_digest 41 = .ok (.lload_n 1, 1) := by decide +kernel
theorem dX8_digest_42 : decode cX8_digest 42 = .ok (.lmul, 1) := by decide +kernel
theorem dX8_digest_43 : decode cX8_digest 43 = .ok (.aload_n 0, 1) := by decide +kernel
theorem dX8_digest_44 : decode cX8_digest 44 = .ok (.iload_n 3, 1) := by decide +kernel
theorem dX8_digest_45 : decode cX8_digest 45 = .ok (.invokevirtual 283, 3) := by decide +kernel
theorem dX8_digest_48 : decode cX8_digest 48 = .ok (.i2l, 1) := by decide +kernel
theorem dX8_digest_49 : decode cX8_digest 49 = .ok (.ladd, 1) := by decide +kernel
theorem dX8_digest_50 : decode cX8_digest 50 = .ok (.lstore_n 1, 1) := by decide +kernel
theorem dX8_digest_51 : decode cX8_digest 51 = .ok (.iinc 3 1, 3) := by decide +kernel
theorem dX8_digest_54 : decode cX8_digest 54 = .ok (.goto (-22), 3) := by decide +kernel
theorem dX8_digest_57 : decode cX8_digest 57 = .ok (.iconst 0, 1) := by decide +kernel
theorem dX8_digest_58 : decode cX8_digest 58 = .ok (.istore_n 3, 1) := by decide +kernel
theorem dX8_digest_59 : decode cX8_digest 59 = .ok (.iload_n 3, 1) := by decide +kernel
theorem dX8_digest_60 : decode cX8_digest 60 = .ok (.aload_n 0, 1) := by decide +kernel
theorem dX8_digest_61 : decode cX8_digest 61 = .ok (.invokevirtual 233, 3) := by decide +kernel
theorem dX8_digest_64 : decode cX8_digest 64 = .ok (.if_icmp .ge 103, 3) := by decide +kernel
theorem dX8_digest_67 : decode cX8_digest 67 = .ok (.iconst 0, 1) := by decide +kernel
theorem dX8_digest_68 : decode cX8_digest 68 = .ok (.istore 4, 2) := by decide +kernel
theorem dX8_digest_70 : decode cX8_digest 70 = .ok (.iload 4, 2) := by decide +kernel
theorem dX8_digest_72 : decode cX8_digest 72 = .ok (.bipush 7, 2) := by decide +kernel
theorem dX8_digest_74 : decode cX8_digest 74 = .ok (.if_icmp .ge 33, 3) := by decide +kernel
theorem dX8_digest_77 : decode cX8_digest 77 = .ok (.ldc2_w 291, 3) := by decide +kernel
theorem dX8_digest_80 : decode cX8_digest 80 = .ok (.lload_n 1, 1) := by decide +kernel
theorem dX8_digest_81 : decode cX8_digest 81 = .ok (.lmul, 1) := by decide +kernel
theorem dX8_digest_82 : decode cX8_digest 82 = .ok (.aload_n 0, 1) := by decide +kernel
theorem dX8_digest_83 : decode cX8_digest 83 = .ok (.aload_n 0, 1) := by decide +kernel
theorem dX8_digest_84 : decode cX8_digest 84 = .ok (.iload_n 3, 1) := by decide +kernel
theorem dX8_digest_85 : decode cX8_digest 85 = .ok (.invokevirtual 114, 3) := by decide +kernel
theorem dX8_digest_88 : decode cX8_digest 88 = .ok (.aload_n 0, 1) := by decide +kernel
theorem dX8_digest_89 : decode cX8_digest 89 = .ok (.iload_n 3, 1) := by decide +kernel
theorem dX8_digest_90 : decode cX8_digest 90 = .ok (.invokevirtual 242, 3) := by decide +kernel
theorem dX8_digest_93 : decode cX8_digest 93 = .ok (.iload 4, 2) := by decide +kernel
theorem dX8_digest_95 : decode cX8_digest 95 = .ok (.invokevirtual 270, 3) := by decide +kernel
theorem dX8_digest_98 : decode cX8_digest 98 = .ok (.i2l, 1) := by decide +kernel
theorem dX8_digest_99 : decode cX8_digest 99 = .ok (.ladd, 1) := by decide +kernel
theorem dX8_digest_100 : decode cX8_digest 100 = .ok (.lstore_n 1, 1) := by decide +kernel
theorem dX8_digest_101 : decode cX8_digest 101 = .ok (.iinc 4 1, 3) := by decide +kernel
theorem dX8_digest_104 : decode cX8_digest 104 = .ok (.goto (-34), 3) := by decide +kernel
theorem dX8_digest_107 : decode cX8_digest 107 = .ok (.aload_n 0, 1) := by decide +kernel
theorem dX8_digest_108 : decode cX8_digest 108 = .ok (.aload_n 0, 1) := by decide +kernel
theorem dX8_digest_109 : decode cX8_digest 109 = .ok (.iload_n 3, 1) := by decide +kernel
theorem dX8_digest_110 : decode cX8_digest 110 = .ok (.invokevirtual 114, 3) := by decide +kernel
theorem dX8_digest_113 : decode cX8_digest 113 = .ok (.aload_n 0, 1) := by decide +kernel
theorem dX8_digest_114 : decode cX8_digest 114 = .ok (.iload_n 3, 1) := by decide +kernel
theorem dX8_digest_115 : decode cX8_digest 115 = .ok (.invokevirtual 242, 3) := by decide +kernel
theorem dX8_digest_118 : decode cX8_digest 118 = .ok (.invokevirtual 264, 3) := by decide +kernel
theorem dX8_digest_121 : decode cX8_digest 121 = .ok (.iconst 0, 1) := by decide +kernel
theorem dX8_digest_122 : decode cX8_digest 122 = .ok (.istore 4, 2) := by decide +kernel
theorem dX8_digest_124 : decode cX8_digest 124 = .ok (.iload 4, 2) := by decide +kernel
theorem dX8_digest_126 : decode cX8_digest 126 = .ok (.iconst 3, 1) := by decide +kernel
theorem dX8_digest_127 : decode cX8_digest 127 = .ok (.aload_n 0, 1) := by decide +kernel
theorem dX8_digest_128 : decode cX8_digest 128 = .ok (.getfield 251, 3) := by decide +kernel
theorem dX8_digest_131 : decode cX8_digest 131 = .ok (.imul, 1) := by decide +kernel
theorem dX8_digest_132 : decode cX8_digest 132 = .ok (.if_icmp .ge 29, 3) := by decide +kernel
theorem dX8_digest_135 : decode cX8_digest 135 = .ok (.ldc2_w 291, 3) := by decide +kernel
theorem dX8_digest_138 : decode cX8_digest 138 = .ok (.lload_n 1, 1) := by decide +kernel
theorem dX8_digest_139 : decode cX8_digest 139 = .ok (.lmul, 1) := by decide +kernel
theorem dX8_digest_140 : decode cX8_digest 140 = .ok (.aload_n 0, 1) := by decide +kernel
theorem dX8_digest_141 : decode cX8_digest 141 = .ok (.iload 4, 2) := by decide +kernel
theorem dX8_digest_143 : decode cX8_digest 143 = .ok (.iconst 3, 1) := by decide +kernel
theorem dX8_digest_144 : decode cX8_digest 144 = .ok (.idiv, 1) := by decide +kernel
theorem dX8_digest_145 : decode cX8_digest 145 = .ok (.iload 4, 2) := by decide +kernel
theorem dX8_digest_147 : decode cX8_digest 147 = .ok (.iconst 3, 1) := by decide +kernel
theorem dX8_digest_148 : decode cX8_digest 148 = .ok (.irem, 1) := by decide +kernel
theorem dX8_digest_149 : decode cX8_digest 149 = .ok (.invokevirtual 273, 3) := by decide +kernel
theorem dX8_digest_152 : decode cX8_digest 152 = .ok (.i2l, 1) := by decide +kernel
theorem dX8_digest_153 : decode cX8_digest 153 = .ok (.ladd, 1) := by decide +kernel
theorem dX8_digest_154 : decode cX8_digest 154 = .ok (.lstore_n 1, 1) := by decide +kernel
theorem dX8_digest_155 : decode cX8_digest 155 = .ok (.iinc 4 1, 3) := by decide +kernel
theorem dX8_digest_158 : decode cX8_digest 158 = .ok (.goto (-34), 3) := by decide +kernel
theorem dX8_digest_161 : decode cX8_digest 161 = .ok (.iinc 3 1, 3) := by decide +kernel
theorem dX8_digest_164 : decode cX8_digest 164 = .ok (.goto (-105), 3) := by decide +kernel
theorem dX8_digest_167 : decode cX8_digest 167 = .ok (.iconst 0, 1) := by decide +kernel
theorem dX8_digest_168 : decode cX8_digest 168 = .ok (.istore_n 3, 1) := by decide +kernel
theorem dX8_digest_169 : decode cX8_digest 169 = .ok (.iload_n 3, 1) := by decide +kernel
theorem dX8_digest_170 : decode cX8_digest 170 = .ok (.aload_n 0, 1) := by decide +kernel
theorem dX8_digest_171 : decode cX8_digest 171 = .ok (.getfield 7, 3) := by decide +kernel
theorem dX8_digest_174 : decode cX8_digest 174 = .ok (.iconst 0, 1) := by decide +kernel
theorem dX8_digest_175 : decode cX8_digest 175 = .ok (.iaload, 1) := by decide +kernel
theorem dX8_digest_176 : decode cX8_digest 176 = .ok (.if_icmp .ge 43, 3) := by decide +kernel
theorem dX8_digest_179 : decode cX8_digest 179 = .ok (.iconst 0, 1) := by decide +kernel
theorem dX8_digest_180 : decode cX8_digest 180 = .ok (.istore 4, 2) := by decide +kernel
theorem dX8_digest_182 : decode cX8_digest 182 = .ok (.iload 4, 2) := by decide +kernel
theorem dX8_digest_184 : decode cX8_digest 184 = .ok (.aload_n 0, 1) := by decide +kernel
theorem dX8_digest_185 : decode cX8_digest 185 = .ok (.iload_n 3, 1) := by decide +kernel
theorem dX8_digest_186 : decode cX8_digest 186 = .ok (.invokevirtual 86, 3) := by decide +kernel
theorem dX8_digest_189 : decode cX8_digest 189 = .ok (.if_icmp .ge 24, 3) := by decide +kernel
theorem dX8_digest_192 : decode cX8_digest 192 = .ok (.ldc2_w 291, 3) := by decide +kernel
theorem dX8_digest_195 : decode cX8_digest 195 = .ok (.lload_n 1, 1) := by decide +kernel
theorem dX8_digest_196 : decode cX8_digest 196 = .ok (.lmul, 1) := by decide +kernel
theorem dX8_digest_197 : decode cX8_digest 197 = .ok (.aload_n 0, 1) := by decide +kernel
theorem dX8_digest_198 : decode cX8_digest 198 = .ok (.iload_n 3, 1) := by decide +kernel
theorem dX8_digest_199 : decode cX8_digest 199 = .ok (.iload 4, 2) := by decide +kernel
theorem dX8_digest_201 : decode cX8_digest 201 = .ok (.invokevirtual 90, 3) := by decide +kernel
theorem dX8_digest_204 : decode cX8_digest 204 = .ok (.i2l, 1) := by decide +kernel
theorem dX8_digest_205 : decode cX8_digest 205 = .ok (.ladd, 1) := by decide +kernel
theorem dX8_digest_206 : decode cX8_digest 206 = .ok (.lstore_n 1, 1) := by decide +kernel
theorem dX8_digest_207 : decode cX8_digest 207 = .ok (.iinc 4 1, 3) := by decide +kernel
theorem dX8_digest_210 : decode cX8_digest 210 = .ok (.goto (-28), 3) := by decide +kernel
theorem dX8_digest_213 : decode cX8_digest 213 = .ok (.iinc 3 1, 3) := by decide +kernel
theorem dX8_digest_216 : decode cX8_digest 216 = .ok (.goto (-47), 3) := by decide +kernel
theorem dX8_digest_219 : decode cX8_digest 219 = .ok (.lload_n 1, 1) := by decide +kernel
theorem dX8_digest_220 : decode cX8_digest 220 = .ok (.lreturn, 1) := by decide +kernel
theorem dJ6_numberOfLeadingZeros_0f7a4_0 : decode cJ6_numberOfLeadingZeros_0f7a4 0 = .ok (.iload_n 0, 1) := by decide +kernel
theorem dJ6_numberOfLeadingZeros_0f7a4_1 : decode cJ6_numberOfLeadingZeros_0f7a4 1 = .ok (.ifCond .gt 14, 3) := by decide +kernel
theorem dJ6_numberOfLeadingZeros_0f7a4_4 : decode cJ6_numberOfLeadingZeros_0f7a4 4 = .ok (.iload_n 0, 1) := by decide +kernel
theorem dJ6_numberOfLeadingZeros_0f7a4_5 : decode cJ6_numberOfLeadingZeros_0f7a4 5 = .ok (.ifCond .ne 8, 3) := by decide +kernel
theorem dJ6_numberOfLeadingZeros_0f7a4_8 : decode cJ6_numberOfLeadingZeros_0f7a4 8 = .ok (.bipush 32, 2) := by decide +kernel
theorem dJ6_numberOfLeadingZeros_0f7a4_10 : decode cJ6_numberOfLeadingZeros_0f7a4 10 = .ok (.goto 4, 3) := by decide +kernel
theorem dJ6_numberOfLeadingZeros_0f7a4_13 : decode cJ6_numberOfLeadingZeros_0f7a4 13 = .ok (.iconst 0, 1) := by decide +kernel
theorem dJ6_numberOfLeadingZeros_0f7a4_14 : decode cJ6_numberOfLeadingZeros_0f7a4 14 = .ok (.ireturn, 1) := by decide +kernel
theorem dJ6_numberOfLeadingZeros_0f7a4_15 : decode cJ6_numberOfLeadingZeros_0f7a4 15 = .ok (.bipush 31, 2) := by decide +kernel
theorem dJ6_numberOfLeadingZeros_0f7a4_17 : decode cJ6_numberOfLeadingZeros_0f7a4 17 = .ok (.istore_n 1, 1) := by decide +kernel
theorem dJ6_numberOfLeadingZeros_0f7a4_18 : decode cJ6_numberOfLeadingZeros_0f7a4 18 = .ok (.iload_n 0, 1) := by decide +kernel
theorem dJ6_numberOfLeadingZeros_0f7a4_19 : decode cJ6_numberOfLeadingZeros_0f7a4 19 = .ok (.ldc_w 264, 3) := by decide +kernel
theorem dJ6_numberOfLeadingZeros_0f7a4_22 : decode cJ6_numberOfLeadingZeros_0f7a4 22 = .ok (.if_icmp .lt 11, 3) := by decide +kernel
theorem dJ6_numberOfLeadingZeros_0f7a4_25 : decode cJ6_numberOfLeadingZeros_0f7a4 25 = .ok (.iinc 1 (-16), 3) := by decide +kernel
theorem dJ6_numberOfLeadingZeros_0f7a4_28 : decode cJ6_numberOfLeadingZeros_0f7a4 28 = .ok (.iload_n 0, 1) := by decide +kernel
theorem dJ6_numberOfLeadingZeros_0f7a4_29 : decode cJ6_numberOfLeadingZeros_0f7a4 29 = .ok (.bipush 16, 2) := by decide +kernel
theorem dJ6_numberOfLeadingZeros_0f7a4_31 : decode cJ6_numberOfLeadingZeros_0f7a4 31 = .ok (.iushr, 1) := by decide +kernel
theorem dJ6_numberOfLeadingZeros_0f7a4_32 : decode cJ6_numberOfLeadingZeros_0f7a4 32 = .ok (.istore_n 0, 1) := by decide +kernel
theorem dJ6_numberOfLeadingZeros_0f7a4_33 : decode cJ6_numberOfLeadingZeros_0f7a4 33 = .ok (.iload_n 0, 1) := by decide +kernel
theorem dJ6_numberOfLeadingZeros_0f7a4_34 : decode cJ6_numberOfLeadingZeros_0f7a4 34 = .ok (.sipush 256, 3) := by decide +kernel
theorem dJ6_numberOfLeadingZeros_0f7a4_37 : decode cJ6_numberOfLeadingZeros_0f7a4 37 = .ok (.if_icmp .lt 11, 3) := by decide +kernel
theorem dJ6_numberOfLeadingZeros_0f7a4_40 : decode cJ6_numberOfLeadingZeros_0f7a4 40 = .ok (.iinc 1 (-8), 3) := by decide +kernel
theorem dJ6_numberOfLeadingZeros_0f7a4_43 : decode cJ6_numberOfLeadingZeros_0f7a4 43 = .ok (.iload_n 0, 1) := by decide +kernel
theorem dJ6_numberOfLeadingZeros_0f7a4_44 : decode cJ6_numberOfLeadingZeros_0f7a4 44 = .ok (.bipush 8, 2) := by decide +kernel
theorem dJ6_numberOfLeadingZeros_0f7a4_46 : decode cJ6_numberOfLeadingZeros_0f7a4 46 = .ok (.iushr, 1) := by decide +kernel
theorem dJ6_numberOfLeadingZeros_0f7a4_47 : decode cJ6_numberOfLeadingZeros_0f7a4 47 = .ok (.istore_n 0, 1) := by decide +kernel
theorem dJ6_numberOfLeadingZeros_0f7a4_48 : decode cJ6_numberOfLeadingZeros_0f7a4 48 = .ok (.iload_n 0, 1) := by decide +kernel
theorem dJ6_numberOfLeadingZeros_0f7a4_49 : decode cJ6_numberOfLeadingZeros_0f7a4 49 = .ok (.bipush 16, 2) := by decide +kernel
theorem dJ6_numberOfLeadingZeros_0f7a4_51 : decode cJ6_numberOfLeadingZeros_0f7a4 51 = .ok (.if_icmp .lt 10, 3) := by decide +kernel
theorem dJ6_numberOfLeadingZeros_0f7a4_54 : decode cJ6_numberOfLeadingZeros_0f7a4 54 = .ok (.iinc 1 (-4), 3) := by decide +kernel
theorem dJ6_numberOfLeadingZeros_0f7a4_57 : decode cJ6_numberOfLeadingZeros_0f7a4 57 = .ok (.iload_n 0, 1) := by decide +kernel
theorem dJ6_numberOfLeadingZeros_0f7a4_58 : decode cJ6_numberOfLeadingZeros_0f7a4 58 = .ok (.iconst 4, 1) := by decide +kernel
theorem dJ6_numberOfLeadingZeros_0f7a4_59 : decode cJ6_numberOfLeadingZeros_0f7a4 59 = .ok (.iushr, 1) := by decide +kernel
theorem dJ6_numberOfLeadingZeros_0f7a4_60 : decode cJ6_numberOfLeadingZeros_0f7a4 60 = .ok (.istore_n 0, 1) := by decide +kernel
theorem dJ6_numberOfLeadingZeros_0f7a4_61 : decode cJ6_numberOfLeadingZeros_0f7a4 61 = .ok (.iload_n 0, 1) := by decide +kernel
theorem dJ6_numberOfLeadingZeros_0f7a4_62 : decode cJ6_numberOfLeadingZeros_0f7a4 62 = .ok (.iconst 4, 1) := by decide +kernel
theorem dJ6_numberOfLeadingZeros_0f7a4_63 : decode cJ6_numberOfLeadingZeros_0f7a4 63 = .ok (.if_icmp .lt 10, 3) := by decide +kernel
theorem dJ6_numberOfLeadingZeros_0f7a4_66 : decode cJ6_numberOfLeadingZeros_0f7a4 66 = .ok (.iinc 1 (-2), 3) := by decide +kernel
theorem dJ6_numberOfLeadingZeros_0f7a4_69 : decode cJ6_numberOfLeadingZeros_0f7a4 69 = .ok (.iload_n 0, 1) := by decide +kernel
theorem dJ6_numberOfLeadingZeros_0f7a4_70 : decode cJ6_numberOfLeadingZeros_0f7a4 70 = .ok (.iconst 2, 1) := by decide +kernel
theorem dJ6_numberOfLeadingZeros_0f7a4_71 : decode cJ6_numberOfLeadingZeros_0f7a4 71 = .ok (.iushr, 1) := by decide +kernel
theorem dJ6_numberOfLeadingZeros_0f7a4_72 : decode cJ6_numberOfLeadingZeros_0f7a4 72 = .ok (.istore_n 0, 1) := by decide +kernel
theorem dJ6_numberOfLeadingZeros_0f7a4_73 : decode cJ6_numberOfLeadingZeros_0f7a4 73 = .ok (.iload_n 1, 1) := by decide +kernel
theorem dJ6_numberOfLeadingZeros_0f7a4_74 : decode cJ6_numberOfLeadingZeros_0f7a4 74 = .ok (.iload_n 0, 1) := by decide +kernel
theorem dJ6_numberOfLeadingZeros_0f7a4_75 : decode cJ6_numberOfLeadingZeros_0f7a4 75 = .ok (.iconst 1, 1) := by decide +kernel
theorem dJ6_numberOfLeadingZeros_0f7a4_76 : decode cJ6_numberOfLeadingZeros_0f7a4 76 = .ok (.iushr, 1) := by decide +kernel
theorem dJ6_numberOfLeadingZeros_0f7a4_77 : decode cJ6_numberOfLeadingZeros_0f7a4 77 = .ok (.isub, 1) := by decide +kernel
theorem dJ6_numberOfLeadingZeros_0f7a4_78 : decode cJ6_numberOfLeadingZeros_0f7a4 78 = .ok (.ireturn, 1) := by decide +kernel
set_option maxRecDepth 20000 in
theorem ggJ13_numberOfLeadingZeros_95d88_J6_numberOfLeadingZeros_0f7a4 : GoodIn wsJ13_numberOfLeadingZeros_95d88 wsJ6_numberOfLeadingZeros_0f7a4 := goodIn_r _ [4, 5] rfl (by decide +kernel)
set_option maxRecDepth 20000 in
theorem gJ13_numberOfLeadingZeros_95d88_J6_numberOfLeadingZeros_0f7a4 : GoodIn wsJ13_numberOfLeadingZeros_95d88 (va_wsS RJ13 308 yJ6_numberOfLeadingZeros_0f7a4 wsJ6_numberOfLeadingZeros_0f7a4) := goodIn_app (goodIn_of _ (by decide +kernel)) ggJ13_numberOfLeadingZeros_95d88_J6_numberOfLeadingZeros_0f7a4
theorem dJ13_numberOfLeadingZeros_95d88_0 : decode cJ13_numberOfLeadingZeros_95d88 0 = .ok (.lload_n 0, 1) := by decide +kernel
theorem dJ13_numberOfLeadingZeros_95d88_1 : decode cJ13_numberOfLeadingZeros_95d88 1 = .ok (.bipush 32, 2) := by decide +kernel
theorem dJ13_numberOfLeadingZeros_95d88_3 : decode cJ13_numberOfLeadingZeros_95d88 3 = .ok (.lushr, 1) := by decide +kernel
theorem dJ13_numberOfLeadingZeros_95d88_4 : decode cJ13_numberOfLeadingZeros_95d88 4 = .ok (.l2i, 1) := by decide +kernel
theorem dJ13_numberOfLeadingZeros_95d88_5 : decode cJ13_numberOfLeadingZeros_95d88 5 = .ok (.istore_n 2, 1) := by decide +kernel
theorem dJ13_numberOfLeadingZeros_95d88_6 : decode cJ13_numberOfLeadingZeros_95d88 6 = .ok (.iload_n 2, 1) := by decide +kernel
theorem dJ13_numberOfLeadingZeros_95d88_7 : decode cJ13_numberOfLeadingZeros_95d88 7 = .ok (.ifCond .ne 14, 3) := by decide +kernel
theorem dJ13_numberOfLeadingZeros_95d88_10 : decode cJ13_numberOfLeadingZeros_95d88 10 = .ok (.bipush 32, 2) := by decide +kernel
theorem dJ13_numberOfLeadingZeros_95d88_12 : decode cJ13_numberOfLeadingZeros_95d88 12 = .ok (.lload_n 0, 1) := by decide +kernel
theorem dJ13_numberOfLeadingZeros_95d88_13 : decode cJ13_numberOfLeadingZeros_95d88 13 = .ok (.l2i, 1) := by decide +kernel
theorem dJ13_numberOfLeadingZeros_95d88_14 : decode cJ13_numberOfLeadingZeros_95d88 14 = .ok (.invokestatic 308, 3) := by decide +kernel
theorem dJ13_numberOfLeadingZeros_95d88_17 : decode cJ13_numberOfLeadingZeros_95d88 17 = .ok (.iadd, 1) := by decide +kernel
theorem dJ13_numberOfLeadingZeros_95d88_18 : decode cJ13_numberOfLeadingZeros_95d88 18 = .ok (.goto 7, 3) := by decide +kernel
theorem dJ13_numberOfLeadingZeros_95d88_21 : decode cJ13_numberOfLeadingZeros_95d88 21 = .ok (.iload_n 2, 1) := by decide +kernel
theorem dJ13_numberOfLeadingZeros_95d88_22 : decode cJ13_numberOfLeadingZeros_95d88 22 = .ok (.invokestatic 308, 3) := by decide +kernel
theorem dJ13_numberOfLeadingZeros_95d88_25 : decode cJ13_numberOfLeadingZeros_95d88 25 = .ok (.ireturn, 1) := by decide +kernel
theorem dJ9_max_7cf53_0 : decode cJ9_max_7cf53 0 = .ok (.iload_n 0, 1) := by decide +kernel
theorem dJ9_max_7cf53_1 : decode cJ9_max_7cf53 1 = .ok (.iload_n 1, 1) := by decide +kernel
theorem dJ9_max_7cf53_2 : decode cJ9_max_7cf53 2 = .ok (.if_icmp .lt 7, 3) := by decide +kernel
theorem dJ9_max_7cf53_5 : decode cJ9_max_7cf53 5 = .ok (.iload_n 0, 1) := by decide +kernel
theorem dJ9_max_7cf53_6 : decode cJ9_max_7cf53 6 = .ok (.goto 4, 3) := by decide +kernel
theorem dJ9_max_7cf53_9 : decode cJ9_max_7cf53 9 = .ok (.iload_n 1, 1) := by decide +kernel
theorem dJ9_max_7cf53_10 : decode cJ9_max_7cf53 10 = .ok (.ireturn, 1) := by decide +kernel
theorem dJ9_min_7cf53_0 : decode cJ9_min_7cf53 0 = .ok (.iload_n 0, 1) := by decide +kernel
theorem dJ9_min_7cf53_1 : decode cJ9_min_7cf53 1 = .ok (.iload_n 1, 1) := by decide +kernel
theorem dJ9_min_7cf53_2 : decode cJ9_min_7cf53 2 = .ok (.if_icmp .gt 7, 3) := by decide +kernel
theorem dJ9_min_7cf53_5 : decode cJ9_min_7cf53 5 = .ok (.iload_n 0, 1) := by decide +kernel
theorem dJ9_min_7cf53_6 : decode cJ9_min_7cf53 6 = .ok (.goto 4, 3) := by decide +kernel
theorem dJ9_min_7cf53_9 : decode cJ9_min_7cf53 9 = .ok (.iload_n 1, 1) := by decide +kernel
theorem dJ9_min_7cf53_10 : decode cJ9_min_7cf53 10 = .ok (.ireturn, 1) := by decide +kernel
