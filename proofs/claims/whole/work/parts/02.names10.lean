set_option maxRecDepth 20000 in
theorem gX8_costs_X8_lengthOf : GoodIn wsX8_costs (wsV RX8 86 RX8 yX8_lengthOf wsX8_lengthOf) := goodIn_app (goodIn_of _ (by decide +kernel)) ggX8_costs_X8_lengthOf
set_option maxRecDepth 20000 in
theorem ggX8_costs_X8_signOf : GoodIn wsX8_costs wsX8_signOf := goodIn_r _ [12, 3, 1, 73, 74, 75, 76, 77, 78, 79, 80, 81, 82, 83, 84, 85, 86, 87, 88, 89, 90, 91, 92, 93, 94, 95, 96, 97, 98, 99, 100, 101, 102, 103, 104, 105, 106] (by decide +kernel) (by decide +kernel)
set_option maxRecDepth 20000 in
theorem gX8_costs_X8_signOf : GoodIn wsX8_costs (wsV RX8 90 RX8 yX8_signOf wsX8_signOf) := goodIn_app (goodIn_of _ (by decide +kernel)) ggX8_costs_X8_signOf
set_option maxRecDepth 20000 in
theorem ggX8_costs_X8_cost : GoodIn wsX8_costs wsX8_cost := goodIn_r _ [16, 1, 17, 18, 19, 20, 7, 21, 22, 23, 24, 25, 26, 27, 28, 29, 30, 31, 2, 32, 33, 34, 35, 36, 37, 38, 39, 40, 41, 42, 43, 44, 45, 46, 47, 48, 49, 50, 51, 52, 53, 54, 55, 56, 57, 58, 59, 60, 61, 62, 63, 64, 65, 66, 67, 68, 4, 5, 6, 8, 9, 10, 11, 12, 3, 69, 70, 71, 72, 73, 74, 75, 76, 77, 78, 79, 80, 81, 82, 83, 84, 85, 86, 87, 88, 89, 90, 91, 92, 93, 94, 95, 96, 97, 98, 99, 100, 101, 102, 103, 104, 105, 106] (by decide +kernel) (by decide +kernel)
set_option maxRecDepth 20000 in
theorem gX8_costs_X8_cost : GoodIn wsX8_costs (wsV RX8 236 RX8 yX8_cost wsX8_cost) := goodIn_app (goodIn_of _ (by decide +kernel)) ggX8_costs_X8_cost
theorem dX8_costs_0 : decode cX8_costs 0 = .ok (.iconst 0, 1) := by decide +kernel
theorem dX8_costs_1 : decode cX8_costs 1 = .ok (.istore_n 2, 1) := by decide +kernel
theorem dX8_costs_2 : decode cX8_costs 2 = .ok (.iconst 0, 1) := by decide +kernel
theorem dX8_costs_3 : decode cX8_costs 3 = .ok (.istore_n 3, 1) := by decide +kernel
theorem dX8_costs_4 : decode cX8_costs 4 = .ok (.iconst 0, 1) := by decide +kernel
theorem dX8_costs_5 : decode cX8_costs 5 = .ok (.istore 4, 2) := by decide +kernel
theorem dX8_costs_7 : decode cX8_costs 7 = .ok (.iload 4, 2) := by decide +kernel
theorem dX8_costs_9 : decode cX8_costs 9 = .ok (.aload_n 0, 1) := by decide +kernel
theorem dX8_costs_10 : decode cX8_costs 10 = .ok (.getfield 7, 3) := by decide +kernel
theorem dX8_costs_13 : decode cX8_costs 13 = .ok (.iconst 0, 1) := by decide +kernel
theorem dX8_costs_14 : decode cX8_costs 14 = .ok (.iaload, 1) := by decide +kernel
theorem dX8_costs_15 : decode cX8_costs 15 = .ok (.if_icmp .ge 76, 3) := by decide +kernel
theorem dX8_costs_18 : decode cX8_costs 18 = .ok (.aload_n 0, 1) := by decide +kernel
theorem dX8_costs_19 : decode cX8_costs 19 = .ok (.aload_n 0, 1) := by decide +kernel
theorem dX8_costs_20 : decode cX8_costs 20 = .ok (.iload 4, 2) := by decide +kernel
theorem dX8_costs_22 : decode cX8_costs 22 = .ok (.invokevirtual 86, 3) := by decide +kernel
theorem dX8_costs_25 : decode cX8_costs 25 = .ok (.putfield 83, 3) := by decide +kernel
theorem dX8_costs_28 : decode cX8_costs 28 = .ok (.iconst 0, 1) := by decide +kernel
theorem dX8_costs_29 : decode cX8_costs 29 = .ok (.istore 5, 2) := by decide +kernel
theorem dX8_costs_31 : decode cX8_costs 31 = .ok (.iload 5, 2) := by decide +kernel
theorem dX8_costs_33 : decode cX8_costs 33 = .ok (.aload_n 0, 1) := by decide +kernel
theorem dX8_costs_34 : decode cX8_costs 34 = .ok (.getfield 83, 3) := by decide +kernel
theorem dX8_costs_37 : decode cX8_costs 37 = .ok (.if_icmp .ge 24, 3) := by decide +kernel
theorem dX8_costs_40 : decode cX8_costs 40 = .ok (.aload_n 0, 1) := by decide +kernel
theorem dX8_costs_41 : decode cX8_costs 41 = .ok (.getfield 25, 3) := by decide +kernel
theorem dX8_costs_44 : decode cX8_costs 44 = .ok (.iload 5, 2) := by decide +kernel
theorem dX8_costs_46 : decode cX8_costs 46 = .ok (.aload_n 0, 1) := by decide +kernel
theorem dX8_costs_47 : decode cX8_costs 47 = .ok (.iload 4, 2) := by decide +kernel
theorem dX8_costs_49 : decode cX8_costs 49 = .ok (.iload 5, 2) := by decide +kernel
theorem dX8_costs_51 : decode cX8_costs 51 = .ok (.invokevirtual 90, 3) := by decide +kernel
theorem dX8_costs_54 : decode cX8_costs 54 = .ok (.iastore, 1) := by decide +kernel
theorem dX8_costs_55 : decode cX8_costs 55 = .ok (.iinc 5 1, 3) := by decide +kernel
theorem dX8_costs_58 : decode cX8_costs 58 = .ok (.goto (-27), 3) := by decide +kernel
theorem dX8_costs_61 : decode cX8_costs 61 = .ok (.aload_n 0, 1) := by decide +kernel
theorem dX8_costs_62 : decode cX8_costs 62 = .ok (.invokevirtual 236, 3) := by decide +kernel
theorem dX8_costs_65 : decode cX8_costs 65 = .ok (.istore 5, 2) := by decide +kernel
theorem dX8_costs_67 : decode cX8_costs 67 = .ok (.iload 5, 2) := by decide +kernel
theorem dX8_costs_69 : decode cX8_costs 69 = .ok (.iload_n 2, 1) := by decide +kernel
theorem dX8_costs_70 : decode cX8_costs 70 = .ok (.if_icmp .le 8, 3) := by decide +kernel
theorem dX8_costs_73 : decode cX8_costs 73 = .ok (.iload 5, 2) := by decide +kernel
theorem dX8_costs_75 : decode cX8_costs 75 = .ok (.goto 4, 3) := by decide +kernel
theorem dX8_costs_78 : decode cX8_costs 78 = .ok (.iload_n 2, 1) := by decide +kernel
theorem dX8_costs_79 : decode cX8_costs 79 = .ok (.istore_n 2, 1) := by decide +kernel
theorem dX8_costs_80 : decode cX8_costs 80 = .ok (.iload_n 3, 1) := by decide +kernel
theorem dX8_costs_81 : decode cX8_costs 81 = .ok (.iload 5, 2) := by decide +kernel
theorem dX8_costs_83 : decode cX8_costs 83 = .ok (.iadd, 1) := by decide +kernel
theorem dX8_costs_84 : decode cX8_costs 84 = .ok (.istore_n 3, 1) := by decide +kernel
theorem dX8_costs_85 : decode cX8_costs 85 = .ok (.iinc 4 1, 3) := by decide +kernel
theorem dX8_costs_88 : decode cX8_costs 88 = .ok (.goto (-81), 3) := by decide +kernel
theorem dX8_costs_91 : decode cX8_costs 91 = .ok (.iload_n 1, 1) := by decide +kernel
theorem dX8_costs_92 : decode cX8_costs 92 = .ok (.ifCond .eq 7, 3) := by decide +kernel
theorem dX8_costs_95 : decode cX8_costs 95 = .ok (.iload_n 3, 1) := by decide +kernel
theorem dX8_costs_96 : decode cX8_costs 96 = .ok (.goto 4, 3) := by decide +kernel
theorem dX8_costs_99 : decode cX8_costs 99 = .ok (.iload_n 2, 1) := by decide +kernel
theorem dX8_costs_100 : decode cX8_costs 100 = .ok (.ireturn, 1) := by decide +kernel
set_option maxRecDepth 20000 in
theorem ggX8_fewest_X8_topLevel : GoodIn wsX8_fewest wsX8_topLevel := goodIn_r _ [6, 1, 11, 12, 13, 14, 15, 16, 17, 18, 19, 20, 21, 22, 23, 24, 25, 26, 27, 28, 29, 30, 31, 32, 33, 34, 35, 36, 37, 38, 39, 40, 41, 42, 43, 44] (by decide +kernel) (by decide +kernel)
set_option maxRecDepth 20000 in
theorem gX8_fewest_X8_topLevel : GoodIn wsX8_fewest (wsV RX8 110 RX8 yX8_topLevel wsX8_topLevel) := goodIn_app (goodIn_of _ (by decide +kernel)) ggX8_fewest_X8_topLevel
set_option maxRecDepth 20000 in
theorem ggX8_fewest_X8_sizeOf : GoodIn wsX8_fewest wsX8_sizeOf := goodIn_r _ [10, 1, 11, 12, 13, 14, 15, 16, 17, 18, 19, 20, 21, 22, 23, 24, 25, 26, 27, 28, 29, 30, 31, 32, 33, 34, 35, 36, 37, 38, 39, 40, 41, 42, 43, 44] (by decide +kernel) (by decide +kernel)
set_option maxRecDepth 20000 in
theorem gX8_fewest_X8_sizeOf : GoodIn wsX8_fewest (wsV RX8 104 RX8 yX8_sizeOf wsX8_sizeOf) := goodIn_app (goodIn_of _ (by decide +kernel)) ggX8_fewest_X8_sizeOf
theorem dX8_fewest_0 : decode cX8_fewest 0 = .ok (.iconst (-1), 1) := by decide +kernel
theorem dX8_fewest_1 : decode cX8_fewest 1 = .ok (.istore_n 1, 1) := by decide +kernel
theorem dX8_fewest_2 : decode cX8_fewest 2 = .ok (.iconst 0, 1) := by decide +kernel
theorem dX8_fewest_3 : decode cX8_fewest 3 = .ok (.istore_n 2, 1) := by decide +kernel
theorem dX8_fewest_4 : decode cX8_fewest 4 = .ok (.iload_n 2, 1) := by decide +kernel
theorem dX8_fewest_5 : decode cX8_fewest 5 = .ok (.aload_n 0, 1) := by decide +kernel
theorem dX8_fewest_6 : decode cX8_fewest 6 = .ok (.invokevirtual 110, 3) := by decide +kernel
theorem dX8_fewest_9 : decode cX8_fewest 9 = .ok (.if_icmp .ge 55, 3) := by decide +kernel
theorem dX8_fewest_12 : decode cX8_fewest 12 = .ok (.iconst 0, 1) := by decide +kernel
theorem dX8_fewest_13 : decode cX8_fewest 13 = .ok (.istore_n 3, 1) := by decide +kernel
theorem dX8_fewest_14 : decode cX8_fewest 14 = .ok (.iload_n 3, 1) := by decide +kernel
theorem dX8_fewest_15 : decode cX8_fewest 15 = .ok (.aload_n 0, 1) := by decide +kernel
theorem dX8_fewest_16 : decode cX8_fewest 16 = .ok (.getfield 7, 3) := by decide +kernel
theorem dX8_fewest_19 : decode cX8_fewest 19 = .ok (.iconst 3, 1) := by decide +kernel
theorem dX8_fewest_20 : decode cX8_fewest 20 = .ok (.iload_n 2, 1) := by decide +kernel
theorem dX8_fewest_21 : decode cX8_fewest 21 = .ok (.iadd, 1) := by decide +kernel
theorem dX8_fewest_22 : decode cX8_fewest 22 = .ok (.iaload, 1) := by decide +kernel
theorem dX8_fewest_23 : decode cX8_fewest 23 = .ok (.if_icmp .ge 35, 3) := by decide +kernel
theorem dX8_fewest_26 : decode cX8_fewest 26 = .ok (.iload_n 1, 1) := by decide +kernel
theorem dX8_fewest_27 : decode cX8_fewest 27 = .ok (.iconst (-1), 1) := by decide +kernel
theorem dX8_fewest_28 : decode cX8_fewest 28 = .ok (.if_icmp .eq 13, 3) := by decide +kernel
theorem dX8_fewest_31 : decode cX8_fewest 31 = .ok (.aload_n 0, 1) := by decide +kernel
theorem dX8_fewest_32 : decode cX8_fewest 32 = .ok (.iload_n 2, 1) := by decide +kernel
theorem dX8_fewest_33 : decode cX8_fewest 33 = .ok (.iload_n 3, 1) := by decide +kernel
theorem dX8_fewest_34 : decode cX8_fewest 34 = .ok (.invokevirtual 104, 3) := by decide +kernel
theorem dX8_fewest_37 : decode cX8_fewest 37 = .ok (.iload_n 1, 1) := by decide +kernel
theorem dX8_fewest_38 : decode cX8_fewest 38 = .ok (.if_icmp .ge 12, 3) := by decide +kernel
theorem dX8_fewest_41 : decode cX8_fewest 41 = .ok (.aload_n 0, 1) := by decide +kernel
theorem dX8_fewest_42 : decode cX8_fewest 42 = .ok (.iload_n 2, 1) := by decide +kernel
theorem dX8_fewest_43 : decode cX8_fewest 43 = .ok (.iload_n 3, 1) := by decide +kernel
theorem dX8_fewest_44 : decode cX8_fewest 44 = .ok (.invokevirtual 104, 3) := by decide +kernel
theorem dX8_fewest_47 : decode cX8_fewest 47 = .ok (.goto 4, 3) := by decide +kernel
theorem dX8_fewest_50 : decode cX8_fewest 50 = .ok (.iload_n 1, 1) := by decide +kernel
theorem dX8_fewest_51 : decode cX8_fewest 51 = .ok (.istore_n 1, 1) := by decide +kernel
theorem dX8_fewest_52 : decode cX8_fewest 52 = .ok (.iinc 3 1, 3) := by decide +kernel
theorem dX8_fewest_55 : decode cX8_fewest 55 = .ok (.goto (-41), 3) := by decide +kernel
theorem dX8_fewest_58 : decode cX8_fewest 58 = .ok (.iinc 2 1, 3) := by decide +kernel
theorem dX8_fewest_61 : decode cX8_fewest 61 = .ok (.goto (-57), 3) := by decide +kernel
theorem dX8_fewest_64 : decode cX8_fewest 64 = .ok (.iload_n 1, 1) := by decide +kernel
theorem dX8_fewest_65 : decode cX8_fewest 65 = .ok (.ireturn, 1) := by decide +kernel
set_option maxRecDepth 20000 in
theorem ggX8_allOf_X8_manyPages : GoodIn wsX8_allOf wsX8_manyPages := goodIn_r _ [6, 1, 85, 86, 87, 88, 89, 90, 91, 92, 93, 94, 95, 96, 97, 98, 99, 100, 101, 102, 103, 104, 105, 106, 107, 108, 109, 110, 111, 112, 113, 114, 115, 116, 117, 118] (by decide +kernel) (by decide +kernel)
set_option maxRecDepth 20000 in
theorem gX8_allOf_X8_manyPages : GoodIn wsX8_allOf (wsV RX8 233 RX8 yX8_manyPages wsX8_manyPages) := goodIn_app (goodIn_of _ (by decide +kernel)) ggX8_allOf_X8_manyPages
set_option maxRecDepth 20000 in
theorem ggX8_allOf_X8_costs : GoodIn wsX8_allOf wsX8_costs := goodIn_r _ [10, 1, 11, 12, 13, 14, 15, 5, 16, 17, 18, 19, 20, 21, 22, 23, 24, 25, 26, 27, 28, 29, 30, 31, 32, 33, 34, 35, 36, 37, 38, 39, 40, 41, 42, 43, 44, 45, 46, 47, 48, 49, 50, 51, 52, 53, 54, 55, 56, 57, 58, 59, 60, 61, 62, 63, 64, 65, 66, 67, 68, 69, 70, 71, 72, 73, 74, 75, 76, 77, 78, 79, 80, 85, 86, 87, 88, 89, 90, 91, 92, 93, 94, 95, 96, 97, 98, 99, 100, 101, 102, 103, 104, 105, 106, 107, 108, 109, 110, 111, 112, 113, 114, 115, 116, 117, 118] (by decide +kernel) (by decide +kernel)
set_option maxRecDepth 20000 in
theorem gX8_allOf_X8_costs : GoodIn wsX8_allOf (wsV RX8 276 RX8 yX8_costs wsX8_costs) := goodIn_app (goodIn_of _ (by decide +kernel)) ggX8_allOf_X8_costs
set_option maxRecDepth 20000 in
theorem ggX8_allOf_X8_fewest : GoodIn wsX8_allOf wsX8_fewest := goodIn_r _ [84, 1, 40, 41, 42, 5, 43, 57, 58, 59, 60, 85, 86, 87, 88, 89, 90, 91, 92, 93, 94, 95, 96, 97, 98, 99, 100, 101, 102, 103, 104, 105, 106, 107, 108, 109, 110, 111, 112, 113, 114, 115, 116, 117, 118] (by decide +kernel) (by decide +kernel)
set_option maxRecDepth 20000 in
theorem gX8_allOf_X8_fewest : GoodIn wsX8_allOf (wsV RX8 280 RX8 yX8_fewest wsX8_fewest) := goodIn_app (goodIn_of _ (by decide +kernel)) ggX8_allOf_X8_fewest
theorem dX8_allOf_0 : decode cX8_allOf 0 = .ok (.iload_n 1, 1) := by decide +kernel
theorem dX8_allOf_1 : decode cX8_allOf 1 = .ok (.tableswitch 77 0 5 #[39, 46, 51, 58, 65, 71], 39) := by decide +kernel
theorem dX8_allOf_40 : decode cX8_allOf 40 = .ok (.aload_n 0, 1) := by decide +kernel
theorem dX8_allOf_41 : decode cX8_allOf 41 = .ok (.getfield 7, 3) := by decide +kernel
theorem dX8_allOf_44 : decode cX8_allOf 44 = .ok (.iconst 0, 1) := by decide +kernel
theorem dX8_allOf_45 : decode cX8_allOf 45 = .ok (.iaload, 1) := by decide +kernel
theorem dX8_allOf_46 : decode cX8_allOf 46 = .ok (.ireturn, 1) := by decide +kernel
theorem dX8_allOf_47 : decode cX8_allOf 47 = .ok (.aload_n 0, 1) := by decide +kernel
theorem dX8_allOf_48 : decode cX8_allOf 48 = .ok (.invokevirtual 233, 3) := by decide +kernel
theorem dX8_allOf_51 : decode cX8_allOf 51 = .ok (.ireturn, 1) := by decide +kernel
theorem dX8_allOf_52 : decode cX8_allOf 52 = .ok (.aload_n 0, 1) := by decide +kernel
theorem dX8_allOf_53 : decode cX8_allOf 53 = .ok (.getfield 7, 3) := by decide +kernel
theorem dX8_allOf_56 : decode cX8_allOf 56 = .ok (.iconst 2, 1) := by decide +kernel
theorem dX8_allOf_57 : decode cX8_allOf 57 = .ok (.iaload, 1) := by decide +kernel
theorem dX8_allOf_58 : decode cX8_allOf 58 = .ok (.ireturn, 1) := by decide +kernel
theorem dX8_allOf_59 : decode cX8_allOf 59 = .ok (.aload_n 0, 1) := by decide +kernel
theorem dX8_allOf_60 : decode cX8_allOf 60 = .ok (.getfield 7, 3) := by decide +kernel
theorem dX8_allOf_63 : decode cX8_allOf 63 = .ok (.iconst 1, 1) := by decide +kernel
theorem dX8_allOf_64 : decode cX8_allOf 64 = .ok (.iaload, 1) := by decide +kernel
theorem dX8_allOf_65 : decode cX8_allOf 65 = .ok (.ireturn, 1) := by decide +kernel
theorem dX8_allOf_66 : decode cX8_allOf 66 = .ok (.aload_n 0, 1) := by decide +kernel
theorem dX8_allOf_67 : decode cX8_allOf 67 = .ok (.iconst 0, 1) := by decide +kernel
theorem dX8_allOf_68 : decode cX8_allOf 68 = .ok (.invokevirtual 276, 3) := by decide +kernel
theorem dX8_allOf_71 : decode cX8_allOf 71 = .ok (.ireturn, 1) := by decide +kernel
theorem dX8_allOf_72 : decode cX8_allOf 72 = .ok (.aload_n 0, 1) := by decide +kernel
theorem dX8_allOf_73 : decode cX8_allOf 73 = .ok (.iconst 1, 1) := by decide +kernel
theorem dX8_allOf_74 : decode cX8_allOf 74 = .ok (.invokevirtual 276, 3) := by decide +kernel
theorem dX8_allOf_77 : decode cX8_allOf 77 = .ok (.ireturn, 1) := by decide +kernel
theorem dX8_allOf_78 : decode cX8_allOf 78 = .ok (.aload_n 0, 1) := by decide +kernel
theorem dX8_allOf_79 : decode cX8_allOf 79 = .ok (.invokevirtual 280, 3) := by decide +kernel
theorem dX8_allOf_82 : decode cX8_allOf 82 = .ok (.ireturn, 1) := by decide +kernel
set_option maxRecDepth 20000 in
theorem ggX8_all_X8_in : GoodIn wsX8_all wsX8_in := goodIn_r _ [4] (by decide +kernel) (by decide +kernel)
set_option maxRecDepth 20000 in
theorem gX8_all_X8_in : GoodIn wsX8_all (va_wsS RX8 175 yX8_in wsX8_in) := goodIn_app (goodIn_of _ (by decide +kernel)) ggX8_all_X8_in
set_option maxRecDepth 20000 in
theorem ggX8_all_X8_allOf : GoodIn wsX8_all wsX8_allOf := goodIn_r _ [8, 9, 10, 11, 12, 3, 13, 14, 15, 16, 17, 18, 19, 20, 21, 22, 23, 24, 25, 26, 27, 28, 29, 30, 31, 32, 33, 34, 35, 36, 37, 38, 39, 40, 41, 42, 43, 44, 45, 46, 47, 48, 49, 50, 51, 52, 53, 54, 55, 56, 57, 58, 59, 60, 61, 62, 63, 64, 65, 66, 67, 68, 69, 70, 71, 72, 73, 74, 75, 76, 77, 78, 79, 80, 81, 82, 83, 84, 85, 86, 87, 88, 89, 90, 91, 97, 98, 99, 100, 101, 102, 103, 104, 105, 106, 107, 108, 109, 110, 111, 112, 113, 114, 115, 116, 117, 118, 119, 120, 121, 122, 123, 124, 125, 126, 127, 128, 129, 130] (by decide +kernel) (by decide +kernel)
set_option maxRecDepth 20000 in
theorem gX8_all_X8_allOf : GoodIn wsX8_all (wsV RX8 283 RX8 yX8_allOf wsX8_allOf) := goodIn_app (goodIn_of _ (by decide +kernel)) ggX8_all_X8_allOf
set_option maxRecDepth 20000 in
theorem ggX8_all_X8_refuses : GoodIn wsX8_all wsX8_refuses := goodIn_r _ [95, 96, 97, 98, 99, 100, 101, 102, 103, 104, 105, 106, 107, 108, 109, 110, 111, 112, 113, 114, 115, 116, 117, 118, 119, 120, 121, 122, 123, 124, 125, 126, 127, 128, 129, 130] (by decide +kernel) (by decide +kernel)
set_option maxRecDepth 20000 in
theorem gX8_all_X8_refuses : GoodIn wsX8_all (wsV RX8 179 RX8 yX8_refuses wsX8_refuses) := goodIn_app (goodIn_of _ (by decide +kernel)) ggX8_all_X8_refuses
theorem dX8_all_0 : decode cX8_all 0 = .ok (.iload_n 1, 1) := by decide +kernel
theorem dX8_all_1 : decode cX8_all 1 = .ok (.iconst 0, 1) := by decide +kernel
theorem dX8_all_2 : decode cX8_all 2 = .ok (.bipush 6, 2) := by decide +kernel
theorem dX8_all_4 : decode cX8_all 4 = .ok (.invokestatic 175, 3) := by decide +kernel
theorem dX8_all_7 : decode cX8_all 7 = .ok (.ifCond .eq 11, 3) := by decide +kernel
theorem dX8_all_10 : decode cX8_all 10 = .ok (.aload_n 0, 1) := by decide +kernel
theorem dX8_all_11 : decode cX8_all 11 = .ok (.iload_n 1, 1) := by decide +kernel
theorem dX8_all_12 : decode cX8_all 12 = .ok (.invokevirtual 283, 3) := by decide +kernel
theorem dX8_all_15 : decode cX8_all 15 = .ok (.goto 9, 3) := by decide +kernel
theorem dX8_all_18 : decode cX8_all 18 = .ok (.aload_n 0, 1) := by decide +kernel
theorem dX8_all_19 : decode cX8_all 19 = .ok (.bipush (-2), 2) := by decide +kernel
theorem dX8_all_21 : decode cX8_all 21 = .ok (.invokevirtual 179, 3) := by decide +kernel
theorem dX8_all_24 : decode cX8_all 24 = .ok (.ireturn, 1) := by decide +kernel
set_option maxRecDepth 20000 in
theorem ggX8_back_X8_refuses : GoodIn wsX8_back wsX8_refuses := goodIn_r _ [8, 9, 10, 11, 12, 13, 14, 15, 16, 17, 18, 19, 20, 21, 22, 23, 24, 25, 26, 27, 28, 29, 30, 31, 32, 33, 34, 35, 36, 37, 38, 39, 40, 41, 42, 43] (by decide +kernel) (by decide +kernel)
set_option maxRecDepth 20000 in
theorem gX8_back_X8_refuses : GoodIn wsX8_back (wsV RX8 179 RX8 yX8_refuses wsX8_refuses) := goodIn_app (goodIn_of _ (by decide +kernel)) ggX8_back_X8_refuses
theorem dX8_back_0 : decode cX8_back 0 = .ok (.aload_n 0, 1) := by decide +kernel
theorem dX8_back_1 : decode cX8_back 1 = .ok (.getfield 79, 3) := by decide +kernel
theorem dX8_back_4 : decode cX8_back 4 = .ok (.ifCond .ne 10, 3) := by decide +kernel
theorem dX8_back_7 : decode cX8_back 7 = .ok (.aload_n 0, 1) := by decide +kernel
theorem dX8_back_8 : decode cX8_back 8 = .ok (.bipush (-3), 2) := by decide +kernel
theorem dX8_back_10 : decode cX8_back 10 = .ok (.invokevirtual 179, 3) := by decide +kernel
theorem dX8_back_13 : decode cX8_back 13 = .ok (.ireturn, 1) := by decide +kernel
theorem dX8_back_14 : decode cX8_back 14 = .ok (.aload_n 0, 1) := by decide +kernel
theorem dX8_back_15 : decode cX8_back 15 = .ok (.dup, 1) := by decide +kernel
theorem dX8_back_16 : decode cX8_back 16 = .ok (.getfield 79, 3) := by decide +kernel
theorem dX8_back_19 : decode cX8_back 19 = .ok (.iconst 1, 1) := by decide +kernel
theorem dX8_back_20 : decode cX8_back 20 = .ok (.isub, 1) := by decide +kernel
theorem dX8_back_21 : decode cX8_back 21 = .ok (.putfield 79, 3) := by decide +kernel
theorem dX8_back_24 : decode cX8_back 24 = .ok (.iconst 0, 1) := by decide +kernel
theorem dX8_back_25 : decode cX8_back 25 = .ok (.istore_n 1, 1) := by decide +kernel
theorem dX8_back_26 : decode cX8_back 26 = .ok (.iload_n 1, 1) := by decide +kernel
theorem dX8_back_27 : decode cX8_back 27 = .ok (.sipush 1552, 3) := by decide +kernel
theorem dX8_back_30 : decode cX8_back 30 = .ok (.if_icmp .ge 30, 3) := by decide +kernel
theorem dX8_back_33 : decode cX8_back 33 = .ok (.aload_n 0, 1) := by decide +kernel
theorem dX8_back_34 : decode cX8_back 34 = .ok (.getfield 7, 3) := by decide +kernel
theorem dX8_back_37 : decode cX8_back 37 = .ok (.iload_n 1, 1) := by decide +kernel
theorem dX8_back_38 : decode cX8_back 38 = .ok (.aload_n 0, 1) := by decide +kernel
theorem dX8_back_39 : decode cX8_back 39 = .ok (.getfield 13, 3) := by decide +kernel
theorem dX8_back_42 : decode cX8_back 42 = .ok (.sipush 1552, 3) := by decide +kernel
theorem dX8_back_45 : decode cX8_back 45 = .ok (.aload_n 0, 1) := by decide +kernel
theorem dX8_back_46 : decode cX8_back 46 = .ok (.getfield 79, 3) := by decide +kernel
theorem dX8_back_49 : decode cX8_back 49 = .ok (.imul, 1) := by decide +kernel
theorem dX8_back_50 : decode cX8_back 50 = .ok (.iload_n 1, 1) := by decide +kernel
theorem dX8_back_51 : decode cX8_back 51 = .ok (.iadd, 1) := by decide +kernel
theorem dX8_back_52 : decode cX8_back 52 = .ok (.iaload, 1) := by decide +kernel
theorem dX8_back_53 : decode cX8_back 53 = .ok (.iastore, 1) := by decide +kernel
theorem dX8_back_54 : decode cX8_back 54 = .ok (.iinc 1 1, 3) := by decide +kernel
theorem dX8_back_57 : decode cX8_back 57 = .ok (.goto (-31), 3) := by decide +kernel
theorem dX8_back_60 : decode cX8_back 60 = .ok (.aload_n 0, 1) := by decide +kernel
theorem dX8_back_61 : decode cX8_back 61 = .ok (.getfield 79, 3) := by decide +kernel
theorem dX8_back_64 : decode cX8_back 64 = .ok (.ireturn, 1) := by decide +kernel
theorem dX8_toldOf_0 : decode cX8_toldOf 0 = .ok (.iload_n 1, 1) := by decide +kernel
theorem dX8_toldOf_1 : decode cX8_toldOf 1 = .ok (.iconst 3, 1) := by decide +kernel
theorem dX8_toldOf_2 : decode cX8_toldOf 2 = .ok (.if_icmp .ge 12, 3) := by decide +kernel
theorem dX8_toldOf_5 : decode cX8_toldOf 5 = .ok (.aload_n 0, 1) := by decide +kernel
theorem dX8_toldOf_6 : decode cX8_toldOf 6 = .ok (.getfield 19, 3) := by decide +kernel
theorem dX8_toldOf_9 : decode cX8_toldOf 9 = .ok (.iload_n 1, 1) := by decide +kernel
theorem dX8_toldOf_10 : decode cX8_toldOf 10 = .ok (.iaload, 1) := by decide +kernel
theorem dX8_toldOf_11 : decode cX8_toldOf 11 = .ok (.goto 19, 3) := by decide +kernel
theorem dX8_toldOf_14 : decode cX8_toldOf 14 = .ok (.iload_n 1, 1) := by decide +kernel
theorem dX8_toldOf_15 : decode cX8_toldOf 15 = .ok (.iconst 3, 1) := by decide +kernel
theorem dX8_toldOf_16 : decode cX8_toldOf 16 = .ok (.if_icmp .ne 10, 3) := by decide +kernel
theorem dX8_toldOf_19 : decode cX8_toldOf 19 = .ok (.aload_n 0, 1) := by decide +kernel
theorem dX8_toldOf_20 : decode cX8_toldOf 20 = .ok (.getfield 182, 3) := by decide +kernel
theorem dX8_toldOf_23 : decode cX8_toldOf 23 = .ok (.goto 7, 3) := by decide +kernel
theorem dX8_toldOf_26 : decode cX8_toldOf 26 = .ok (.aload_n 0, 1) := by decide +kernel
theorem dX8_toldOf_27 : decode cX8_toldOf 27 = .ok (.getfield 79, 3) := by decide +kernel
theorem dX8_toldOf_30 : decode cX8_toldOf 30 = .ok (.ireturn, 1) := by decide +kernel
set_option maxRecDepth 20000 in
theorem ggX8_told_X8_in : GoodIn wsX8_told wsX8_in := goodIn_r _ [4] (by decide +kernel) (by decide +kernel)
set_option maxRecDepth 20000 in
theorem gX8_told_X8_in : GoodIn wsX8_told (va_wsS RX8 175 yX8_in wsX8_in) := goodIn_app (goodIn_of _ (by decide +kernel)) ggX8_told_X8_in
set_option maxRecDepth 20000 in
theorem ggX8_told_X8_toldOf : GoodIn wsX8_told wsX8_toldOf := goodIn_r _ [8, 9, 10, 11, 16, 17, 18, 19, 20, 21, 22, 23, 24, 25, 26, 27, 28, 29, 30, 31, 32, 33, 34, 35, 36, 37, 38, 39, 40, 41, 42, 43, 44, 45, 46, 47, 48, 49] (by decide +kernel) (by decide +kernel)
set_option maxRecDepth 20000 in
theorem gX8_told_X8_toldOf : GoodIn wsX8_told (wsV RX8 286 RX8 yX8_toldOf wsX8_toldOf) := goodIn_app (goodIn_of _ (by decide +kernel)) ggX8_told_X8_toldOf
set_option maxRecDepth 20000 in
theorem ggX8_told_X8_refuses : GoodIn wsX8_told wsX8_refuses := goodIn_r _ [15, 9, 16, 17, 18, 19, 20, 21, 22, 23, 24, 25, 26, 27, 28, 29, 30, 31, 32, 33, 34, 35, 36, 37, 38, 39, 40, 41, 42, 43, 44, 45, 46, 47, 48, 49] (by decide +kernel) (by decide +kernel)
set_option maxRecDepth 20000 in
theorem gX8_told_X8_refuses : GoodIn wsX8_told (wsV RX8 179 RX8 yX8_refuses wsX8_refuses) := goodIn_app (goodIn_of _ (by decide +kernel)) ggX8_told_X8_refuses
theorem dX8_told_0 : decode cX8_told 0 = .ok (.iload_n 1, 1) := by decide +kernel
theorem dX8_told_1 : decode cX8_told 1 = .ok (.iconst 0, 1) := by decide +kernel
theorem dX8_told_2 : decode cX8_told 2 = .ok (.iconst 4, 1) := by decide +kernel
theorem dX8_told_3 : decode cX8_told 3 = .ok (.invokestatic 175, 3) := by decide +kernel
theorem dX8_told_6 : decode cX8_told 6 = .ok (.ifCond .eq 11, 3) := by decide +kernel
theorem dX8_told_9 : decode cX8_told 9 = .ok (.aload_n 0, 1) := by decide +kernel
theorem dX8_told_10 : decode cX8_told 10 = .ok (.iload_n 1, 1) := by decide +kernel
theorem dX8_told_11 : decode cX8_told 11 = .ok (.invokevirtual 286, 3) := by decide +kernel
theorem dX8_told_14 : decode cX8_told 14 = .ok (.goto 9, 3) := by decide +kernel
theorem dX8_told_17 : decode cX8_told 17 = .ok (.aload_n 0, 1) := by decide +kernel
theorem dX8_told_18 : decode cX8_told 18 = .ok (.bipush (-2), 2) := by decide +kernel
theorem dX8_told_20 : decode cX8_told 20 = .ok (.invokevirtual 179, 3) := by decide +kernel
theorem dX8_told_23 : decode cX8_told 23 = .ok (.ireturn, 1) := by decide +kernel
set_option maxRecDepth 20000 in
theorem ggX8_digest_X8_toldOf : GoodIn wsX8_digest wsX8_toldOf := goodIn_r _ [9, 10, 11, 12, 147, 148, 149, 150, 151, 152, 153, 154, 155, 156, 157, 158, 159, 160, 161, 162, 163, 164, 165, 166, 167, 168, 169, 170, 171, 172, 173, 174, 175, 176, 177, 178, 179, 180] (by decide +kernel) (by decide +kernel)
set_option maxRecDepth 20000 in
theorem gX8_digest_X8_toldOf : GoodIn wsX8_digest (wsV RX8 286 RX8 yX8_toldOf wsX8_toldOf) := goodIn_app (goodIn_of _ (by decide +kernel)) ggX8_digest_X8_toldOf
set_option maxRecDepth 20000 in
theorem ggX8_digest_X8_allOf : GoodIn wsX8_digest wsX8_allOf := goodIn_r _ [16, 4, 17, 18, 19, 8, 20, 21, 22, 23, 24, 25, 26, 27, 28, 29, 30, 31, 32, 33, 34, 35, 36, 37, 38, 39, 40, 41, 42, 43, 44, 45, 46, 47, 48, 49, 50, 51, 52, 53, 54, 55, 56, 57, 58, 59, 60, 61, 62, 63, 64, 65, 66, 67, 68, 69, 70, 71, 72, 73, 74, 75, 76, 77, 78, 79, 80, 81, 82, 83, 84, 85, 86, 87, 88, 89, 90, 91, 92, 93, 94, 95, 96, 97, 98, 147, 148, 149, 150, 151, 152, 153, 154, 155, 156, 157, 158, 159, 160, 161, 162, 163, 164, 165, 166, 167, 168, 169, 170, 171, 172, 173, 174, 175, 176, 177, 178, 179, 180] (by decide +kernel) (by decide +kernel)
set_option maxRecDepth 20000 in
theorem gX8_digest_X8_allOf : GoodIn wsX8_digest (wsV RX8 283 RX8 yX8_allOf wsX8_allOf) := goodIn_app (goodIn_of _ (by decide +kernel)) ggX8_digest_X8_allOf
set_option maxRecDepth 20000 in
theorem ggX8_digest_X8_manyPages : GoodIn wsX8_digest wsX8_manyPages := goodIn_r _ [20, 4, 147, 148, 149, 150, 151, 152, 153, 154, 155, 156, 157, 158, 159, 160, 161, 162, 163, 164, 165, 166, 167, 168, 169, 170, 171, 172, 173, 174, 175, 176, 177, 178, 179, 180] (by decide +kernel) (by decide +kernel)
set_option maxRecDepth 20000 in
theorem gX8_digest_X8_manyPages : GoodIn wsX8_digest (wsV RX8 233 RX8 yX8_manyPages wsX8_manyPages) := goodIn_app (goodIn_of _ (by decide +kernel)) ggX8_digest_X8_manyPages
set_option maxRecDepth 20000 in
theorem ggX8_digest_X8_levelOf : GoodIn wsX8_digest wsX8_levelOf := goodIn_r _ [102, 4, 54, 55, 56, 8, 57, 147, 148, 149, 150, 151, 152, 153, 154, 155, 156, 157, 158, 159, 160, 161, 162, 163, 164, 165, 166, 167, 168, 169, 170, 171, 172, 173, 174, 175, 176, 177, 178, 179, 180] (by decide +kernel) (by decide +kernel)
set_option maxRecDepth 20000 in
theorem gX8_digest_X8_levelOf : GoodIn wsX8_digest (wsV RX8 114 RX8 yX8_levelOf wsX8_levelOf) := goodIn_app (goodIn_of _ (by decide +kernel)) ggX8_digest_X8_levelOf
set_option maxRecDepth 20000 in
theorem ggX8_digest_X8_pageOf : GoodIn wsX8_digest wsX8_pageOf := goodIn_r _ [106, 99, 100, 101, 8, 102, 4, 54, 55, 56, 57, 107, 108, 109, 110, 147, 148, 149, 150, 151, 152, 153, 154, 155, 156, 157, 158, 159, 160, 161, 162, 163, 164, 165, 166, 167, 168, 169, 170, 171, 172, 173, 174, 175, 176, 177, 178, 179, 180] (by decide +kernel) (by decide +kernel)
set_option maxRecDepth 20000 in
theorem gX8_digest_X8_pageOf : GoodIn wsX8_digest (wsV RX8 242 RX8 yX8_pageOf wsX8_pageOf) := goodIn_app (goodIn_of _ (by decide +kernel)) ggX8_digest_X8_pageOf
set_option maxRecDepth 20000 in
theorem ggX8_digest_X8_pageFact : GoodIn wsX8_digest wsX8_pageFact := goodIn_r _ [114, 115, 71, 72, 73, 8, 74, 4, 116, 117, 118, 119, 79, 80, 81, 82, 75, 76, 77, 78, 54, 55, 56, 57, 120, 121, 122, 123, 107, 108, 109, 110, 124, 125, 126, 127, 3, 63, 128, 129, 130, 53, 131, 132, 133, 134, 67, 68, 69, 70, 135, 136, 137, 138, 83, 84, 85, 86, 87, 88, 89, 90, 27, 28, 29, 30, 25, 31, 32, 33, 34, 26, 91, 92, 93, 94, 139, 140, 141, 142, 147, 148, 149, 150, 151, 152, 153, 154, 155, 156, 157, 158, 159, 160, 161, 162, 163, 164, 165, 166, 167, 168, 169, 170, 171, 172, 173, 174, 175, 176, 177, 178, 179, 180] (by decide +kernel) (by decide +kernel)
set_option maxRecDepth 20000 in
theorem gX8_digest_X8_pageFact : GoodIn wsX8_digest (wsV RX8 270 RX8 yX8_pageFact wsX8_pageFact) := goodIn_app (goodIn_of _ (by decide +kernel)) ggX8_digest_X8_pageFact
set_option maxRecDepth 20000 in
theorem ggX8_digest_X8_laysTree : GoodIn wsX8_digest wsX8_laysTree := goodIn_r _ [127, 3, 115, 63, 128, 129, 130, 53, 131, 132, 133, 134, 67, 68, 69, 8, 70, 71, 72, 73, 74, 4, 75, 76, 77, 78, 79, 80, 81, 82, 135, 136, 137, 138, 83, 84, 85, 86, 87, 88, 89, 90, 27, 28, 29, 30, 25, 31, 32, 33, 34, 26, 91, 92, 93, 94, 147, 148, 149, 150, 151, 152, 153, 154, 155, 156, 157, 158, 159, 160, 161, 162, 163, 164, 165, 166, 167, 168, 169, 170, 171, 172, 173, 174, 175, 176, 177, 178, 179, 180] (by decide +kernel) (by decide +kernel)
set_option maxRecDepth 20000 in
theorem gX8_digest_X8_laysTree : GoodIn wsX8_digest (wsV RX8 264 RX8 yX8_laysTree wsX8_laysTree) := goodIn_app (goodIn_of _ (by decide +kernel)) ggX8_digest_X8_laysTree
set_option maxRecDepth 20000 in
theorem ggX8_digest_X8_forkFact : GoodIn wsX8_digest wsX8_forkFact := goodIn_r _ [146, 131, 132, 133, 134, 147, 148, 149, 150, 151, 152, 153, 154, 155, 156, 157, 158, 159, 160, 161, 162, 163, 164, 165, 166, 167, 168, 169, 170, 171, 172, 173, 174, 175, 176, 177, 178, 179, 180] (by decide +kernel) (by decide +kernel)
set_option maxRecDepth 20000 in
theorem gX8_digest_X8_forkFact : GoodIn wsX8_digest (wsV RX8 273 RX8 yX8_forkFact wsX8_forkFact) := goodIn_app (goodIn_of _ (by decide +kernel)) ggX8_digest_X8_forkFact
set_option maxRecDepth 20000 in
theorem ggX8_digest_X8_lengthOf : GoodIn wsX8_digest wsX8_lengthOf := goodIn_r _ [30, 25, 4, 147, 148, 149, 150, 151, 152, 153, 154, 155, 156, 157, 158, 159, 160, 161, 162, 163, 164, 165, 166, 167, 168, 169, 170, 171, 172, 173, 174, 175, 176, 177, 178, 179, 180] (by decide +kernel) (by decide +kernel)
set_option maxRecDepth 20000 in
theorem gX8_digest_X8_lengthOf : GoodIn wsX8_digest (wsV RX8 86 RX8 yX8_lengthOf wsX8_lengthOf) := goodIn_app (goodIn_of _ (by decide +kernel)) ggX8_digest_X8_lengthOf
set_option maxRecDepth 20000 in
theorem ggX8_digest_X8_signOf : GoodIn wsX8_digest wsX8_signOf := goodIn_r _ [34, 26, 4, 147, 148, 149, 150, 151, 152, 153, 154, 155, 156, 157, 158, 159, 160, 161, 162, 163, 164, 165, 166, 167, 168, 169, 170, 171, 172, 173, 174, 175, 176, 177, 178, 179, 180] (by decide +kernel) (by decide +kernel)
set_option maxRecDepth 20000 in
theorem gX8_digest_X8_signOf : GoodIn wsX8_digest (wsV RX8 90 RX8 yX8_signOf wsX8_signOf) := goodIn_app (goodIn_of _ (by decide +kernel)) ggX8_digest_X8_signOf
theorem dX8_digest_0 : decode cX8_digest 0 = .ok (.ldc2_w 289, 3) := by decide +kernel
theorem dX8_digest_3 : decode cX8_digest 3 = .ok (.lstore_n 1, 1) := by decide +kernel
theorem dX8_digest_4 : decode cX8_digest 4 = .ok (.iconst 0, 1) := by decide +kernel
theorem dX8_digest_5 : decode cX8_digest 5 = .ok (.istore_n 3, 1) := by decide +kernel
theorem dX8_digest_6 : decode cX8_digest 6 = .ok (.iload_n 3, 1) := by decide +kernel
theorem dX8_digest_7 : decode cX8_digest 7 = .ok (.iconst 5, 1) := by decide +kernel
theorem dX8_digest_8 : decode cX8_digest 8 = .ok (.if_icmp .ge 22, 3) := by decide +kernel
theorem dX8_digest_11 : decode cX8_digest 11 = .ok (.ldc2_w 291, 3) := by decide +kernel
theorem dX8_digest_14 : decode cX8_digest 14 = .ok (.lload_n 1, 1) := by decide +kernel
theorem dX8_digest_15 : decode cX8_digest 15 = .ok (.lmul, 1) := by decide +kernel
theorem dX8_digest_16 : decode cX8_digest 16 = .ok (.aload_n 0, 1) := by decide +kernel
theorem dX8_digest_17 : decode cX8_digest 17 = .ok (.iload_n 3, 1) := by decide +kernel
theorem dX8_digest_18 : decode cX8_digest 18 = .ok (.invokevirtual 286, 3) := by decide +kernel
theorem dX8_digest_21 : decode cX8_digest 21 = .ok (.i2l, 1) := by decide +kernel
theorem dX8_digest_22 : decode cX8_digest 22 = .ok (.ladd, 1) := by decide +kernel
theorem dX8_digest_23 : decode cX8_digest 23 = .ok (.lstore_n 1, 1) := by decide +kernel
theorem dX8_digest_24 : decode cX8_digest 24 = .ok (.iinc 3 1, 3) := by decide +kernel
theorem dX8_digest_27 : decode cX8_digest 27 = .ok (.goto (-21), 3) := by decide +kernel
theorem dX8_digest_30 : decode cX8_digest 30 = .ok (.iconst 0, 1) := by decide +kernel
theorem dX8_digest_31 : decode cX8_digest 31 = .ok (.istore_n 3, 1) := by decide +kernel
theorem dX8_digest_32 : decode cX8_digest 32 = .ok (.iload_n 3, 1) := by decide +kernel
theorem dX8_digest_33 : decode cX8_digest 33 = .ok (.bipush 7, 2) := by decide +kernel
theorem dX8_digest_35 : decode cX8_digest 35 = .ok (.if_icmp .ge 22, 3) := by decide +kernel
theorem dX8_digest_38 : decode cX8_digest 38 = .ok (.ldc2_w 291, 3) := by decide +kernel
theorem dX8_digest_41 : decode cX8_digest 41 = .ok (.lload_n 1, 1) := by decide +kernel
theorem dX8_digest_42 : decode cX8_digest 42 = .ok (.lmul, 1) := by decide +kernel
theorem dX8_digest_43 : decode cX8_digest 43 = .ok (.aload_n 0, 1) := by decide +kernel
theorem dX8_digest_44 : decode cX8_digest 44 = .ok (.iload_n 3, 1) := by decide +kernel
theorem dX8_digest_45 : decode cX8_digest 45 = .ok (.invokevirtual 283, 3) := by decide +kernel
theorem dX8_digest_48 : decode cX8_digest 48 = .ok (.i2l, 1) := by decide +kernel
theorem dX8_digest_49 : decode cX8_digest 49 = .ok (.ladd, 1) := by decide +kernel
theorem dX8_digest_50 : decode cX8_digest 50 = .ok (.lstore_n 1, 1) := by decide +kernel
theorem dX8_digest_51 : decode cX8_digest 51 = .ok (.iinc 3 1, 3) := by decide +kernel
theorem dX8_digest_54 : decode cX8_digest 54 = .ok (.goto (-22), 3) := by decide +kernel
theorem dX8_digest_57 : decode cX8_digest 57 = .ok (.iconst 0, 1) := by decide +kernel
theorem dX8_digest_58 : decode cX8_digest 58 = .ok (.istore_n 3, 1) := by decide +kernel
theorem dX8_digest_59 : decode cX8_digest 59 = .ok (.iload_n 3, 1) := by decide +kernel
theorem dX8_digest_60 : decode cX8_digest 60 = .ok (.aload_n 0, 1) := by decide +kernel
theorem dX8_digest_61 : decode cX8_digest 61 = .ok (.invokevirtual 233, 3) := by decide +kernel
theorem dX8_digest_64 : decode cX8_digest 64 = .ok (.if_icmp .ge 103, 3) := by decide +kernel
theorem dX8_digest_67 : decode cX8_digest 67 = .ok (.iconst 0, 1) := by decide +kernel
theorem dX8_digest_68 : decode cX8_digest 68 = .ok (.istore 4, 2) := by decide +kernel
theorem dX8_digest_70 : decode cX8_digest 70 = .ok (.iload 4, 2) := by decide +kernel
theorem dX8_digest_72 : decode cX8_digest 72 = .ok (.bipush 7, 2) := by decide +kernel
theorem dX8_digest_74 : decode cX8_digest 74 = .ok (.if_icmp .ge 33, 3) := by decide +kernel
theorem dX8_digest_77 : decode cX8_digest 77 = .ok (.ldc2_w 291, 3) := by decide +kernel
theorem dX8_digest_80 : decode cX8_digest 80 = .ok (.lload_n 1, 1) := by decide +kernel
theorem dX8_digest_81 : decode cX8_digest 81 = .ok (.lmul, 1) := by decide +kernel
theorem dX8_digest_82 : decode cX8_digest 82 = .ok (.aload_n 0, 1) := by decide +kernel
theorem dX8_digest_83 : decode cX8_digest 83 = .ok (.aload_n 0, 1) := by decide +kernel
theorem dX8_digest_84 : decode cX8_digest 84 = .ok (.iload_n 3, 1) := by decide +kernel
theorem dX8_digest_85 : decode cX8_digest 85 = .ok (.invokevirtual 114, 3) := by decide +kernel
theorem dX8_digest_88 : decode cX8_digest 88 = .ok (.aload_n 0, 1) := by decide +kernel
theorem dX8_digest_89 : decode cX8_digest 89 = .ok (.iload_n 3, 1) := by decide +kernel
theorem dX8_digest_90 : decode cX8_digest 90 = .ok (.invokevirtual 242, 3) := by decide +kernel
theorem dX8_digest_93 : decode cX8_digest 93 = .ok (.iload 4, 2) := by decide +kernel
theorem dX8_digest_95 : decode cX8_digest 95 = .ok (.invokevirtual 270, 3) := by decide +kernel
theorem dX8_digest_98 : decode cX8_digest 98 = .ok (.i2l, 1) := by decide +kernel
theorem dX8_digest_99 : decode cX8_digest 99 = .ok (.ladd, 1) := by decide +kernel
theorem dX8_digest_100 : decode cX8_digest 100 = .ok (.lstore_n 1, 1) := by decide +kernel
theorem dX8_digest_101 : decode cX8_digest 101 = .ok (.iinc 4 1, 3) := by decide +kernel
theorem dX8_digest_104 : decode cX8_digest 104 = .ok (.goto (-34), 3) := by decide +kernel
theorem dX8_digest_107 : decode cX8_digest 107 = .ok (.aload_n 0, 1) := by decide +kernel
theorem dX8_digest_108 : decode cX8_digest 108 = .ok (.aload_n 0, 1) := by decide +kernel
theorem dX8_digest_109 : decode cX8_digest 109 = .ok (.iload_n 3, 1) := by decide +kernel
theorem dX8_digest_110 : decode cX8_digest 110 = .ok (.invokevirtual 114, 3) := by decide +kernel
theorem dX8_digest_113 : decode cX8_digest 113 = .ok (.aload_n 0, 1) := by decide +kernel
theorem dX8_digest_114 : decode cX8_digest 114 = .ok (.iload_n 3, 1) := by decide +kernel
theorem dX8_digest_115 : decode cX8_digest 115 = .ok (.invokevirtual 242, 3) := by decide +kernel
theorem dX8_digest_118 : decode cX8_digest 118 = .ok (.invokevirtual 264, 3) := by decide +kernel
theorem dX8_digest_121 : decode cX8_digest 121 = .ok (.iconst 0, 1) := by decide +kernel
theorem dX8_digest_122 : decode cX8_digest 122 = .ok (.istore 4, 2) := by decide +kernel
theorem dX8_digest_124 : decode cX8_digest 124 = .ok (.iload 4, 2) := by decide +kernel
theorem dX8_digest_126 : decode cX8_digest 126 = .ok (.iconst 3, 1) := by decide +kernel
theorem dX8_digest_127 : decode cX8_digest 127 = .ok (.aload_n 0, 1) := by decide +kernel
theorem dX8_digest_128 : decode cX8_digest 128 = .ok (.getfield 251, 3) := by decide +kernel
theorem dX8_digest_131 : decode cX8_digest 131 = .ok (.imul, 1) := by decide +kernel
theorem dX8_digest_132 : decode cX8_digest 132 = .ok (.if_icmp .ge 29, 3) := by decide +kernel
theorem dX8_digest_135 : decode cX8_digest 135 = .ok (.ldc2_w 291, 3) := by decide +kernel
theorem dX8_digest_138 : decode cX8_digest 138 = .ok (.lload_n 1, 1) := by decide +kernel
theorem dX8_digest_139 : decode cX8_digest 139 = .ok (.lmul, 1) := by decide +kernel
theorem dX8_digest_140 : decode cX8_digest 140 = .ok (.aload_n 0, 1) := by decide +kernel
theorem dX8_digest_141 : decode cX8_digest 141 = .ok (.iload 4, 2) := by decide +kernel
theorem dX8_digest_143 : decode cX8_digest 143 = .ok (.iconst 3, 1) := by decide +kernel
theorem dX8_digest_144 : decode cX8_digest 144 = .ok (.idiv, 1) := by decide +kernel
theorem dX8_digest_145 : decode cX8_digest 145 = .ok (.iload 4, 2) := by decide +kernel
theorem dX8_digest_147 : decode cX8_digest 147 = .ok (.iconst 3, 1) := by decide +kernel
theorem dX8_digest_148 : decode cX8_digest 148 = .ok (.irem, 1) := by decide +kernel
theorem dX8_digest_149 : decode cX8_digest 149 = .ok (.invokevirtual 273, 3) := by decide +kernel
theorem dX8_digest_152 : decode cX8_digest 152 = .ok (.i2l, 1) := by decide +kernel
theorem dX8_digest_153 : decode cX8_digest 153 = .ok (.ladd, 1) := by decide +kernel
theorem dX8_digest_154 : decode cX8_digest 154 = .ok (.lstore_n 1, 1) := by decide +kernel
theorem dX8_digest_155 : decode cX8_digest 155 = .ok (.iinc 4 1, 3) := by decide +kernel
theorem dX8_digest_158 : decode cX8_digest 158 = .ok (.goto (-34), 3) := by decide +kernel
theorem dX8_digest_161 : decode cX8_digest 161 = .ok (.iinc 3 1, 3) := by decide +kernel
theorem dX8_digest_164 : decode cX8_digest 164 = .ok (.goto (-105), 3) := by decide +kernel
theorem dX8_digest_167 : decode cX8_digest 167 = .ok (.iconst 0, 1) := by decide +kernel
theorem dX8_digest_168 : decode cX8_digest 168 = .ok (.istore_n 3, 1) := by decide +kernel
theorem dX8_digest_169 : decode cX8_digest 169 = .ok (.iload_n 3, 1) := by decide +kernel
theorem dX8_digest_170 : decode cX8_digest 170 = .ok (.aload_n 0, 1) := by decide +kernel
theorem dX8_digest_171 : decode cX8_digest 171 = .ok (.getfield 7, 3) := by decide +kernel
theorem dX8_digest_174 : decode cX8_digest 174 = .ok (.iconst 0, 1) := by decide +kernel
theorem dX8_digest_175 : decode cX8_digest 175 = .ok (.iaload, 1) := by decide +kernel
theorem dX8_digest_176 : decode cX8_digest 176 = .ok (.if_icmp .ge 43, 3) := by decide +kernel
theorem dX8_digest_179 : decode cX8_digest 179 = .ok (.iconst 0, 1) := by decide +kernel
theorem dX8_digest_180 : decode cX8_digest 180 = .ok (.istore 4, 2) := by decide +kernel
theorem dX8_digest_182 : decode cX8_digest 182 = .ok (.iload 4, 2) := by decide +kernel
theorem dX8_digest_184 : decode cX8_digest 184 = .ok (.aload_n 0, 1) := by decide +kernel
theorem dX8_digest_185 : decode cX8_digest 185 = .ok (.iload_n 3, 1) := by decide +kernel
theorem dX8_digest_186 : decode cX8_digest 186 = .ok (.invokevirtual 86, 3) := by decide +kernel
theorem dX8_digest_189 : decode cX8_digest 189 = .ok (.if_icmp .ge 24, 3) := by decide +kernel
theorem dX8_digest_192 : decode cX8_digest 192 = .ok (.ldc2_w 291, 3) := by decide +kernel
theorem dX8_digest_195 : decode cX8_digest 195 = .ok (.lload_n 1, 1) := by decide +kernel
theorem dX8_digest_196 : decode cX8_digest 196 = .ok (.lmul, 1) := by decide +kernel
theorem dX8_digest_197 : decode cX8_digest 197 = .ok (.aload_n 0, 1) := by decide +kernel
theorem dX8_digest_198 : decode cX8_digest 198 = .ok (.iload_n 3, 1) := by decide +kernel
theorem dX8_digest_199 : decode cX8_digest 199 = .ok (.iload 4, 2) := by decide +kernel
theorem dX8_digest_201 : decode cX8_digest 201 = .ok (.invokevirtual 90, 3) := by decide +kernel
theorem dX8_digest_204 : decode cX8_digest 204 = .ok (.i2l, 1) := by decide +kernel
theorem dX8_digest_205 : decode cX8_digest 205 = .ok (.ladd, 1) := by decide +kernel
theorem dX8_digest_206 : decode cX8_digest 206 = .ok (.lstore_n 1, 1) := by decide +kernel
theorem dX8_digest_207 : decode cX8_digest 207 = .ok (.iinc 4 1, 3) := by decide +kernel
theorem dX8_digest_210 : decode cX8_digest 210 = .ok (.goto (-28), 3) := by decide +kernel
theorem dX8_digest_213 : decode cX8_digest 213 = .ok (.iinc 3 1, 3) := by decide +kernel
theorem dX8_digest_216 : decode cX8_digest 216 = .ok (.goto (-47), 3) := by decide +kernel
theorem dX8_digest_219 : decode cX8_digest 219 = .ok (.lload_n 1, 1) := by decide +kernel
theorem dX8_digest_220 : decode cX8_digest 220 = .ok (.lreturn, 1) := by decide +kernel
theorem dJ6_numberOfLeadingZeros_0f7a4_0 : decode cJ6_numberOfLeadingZeros_0f7a4 0 = .ok (.iload_n 0, 1) := by decide +kernel
theorem dJ6_numberOfLeadingZeros_0f7a4_1 : decode cJ6_numberOfLeadingZeros_0f7a4 1 = .ok (.ifCond .gt 14, 3) := by decide +kernel
theorem dJ6_numberOfLeadingZeros_0f7a4_4 : decode cJ6_numberOfLeadingZeros_0f7a4 4 = .ok (.iload_n 0, 1) := by decide +kernel
theorem dJ6_numberOfLeadingZeros_0f7a4_5 : decode cJ6_numberOfLeadingZeros_0f7a4 5 = .ok (.ifCond .ne 8, 3) := by decide +kernel
theorem dJ6_numberOfLeadingZeros_0f7a4_8 : decode cJ6_numberOfLeadingZeros_0f7a4 8 = .ok (.bipush 32, 2) := by decide +kernel
theorem dJ6_numberOfLeadingZeros_0f7a4_10 : decode cJ6_numberOfLeadingZeros_0f7a4 10 = .ok (.goto 4, 3) := by decide +kernel
theorem dJ6_numberOfLeadingZeros_0f7a4_13 : decode cJ6_numberOfLeadingZeros_0f7a4 13 = .ok (.iconst 0, 1) := by decide +kernel
theorem dJ6_numberOfLeadingZeros_0f7a4_14 : decode cJ6_numberOfLeadingZeros_0f7a4 14 = .ok (.ireturn, 1) := by decide +kernel
theorem dJ6_numberOfLeadingZeros_0f7a4_15 : decode cJ6_numberOfLeadingZeros_0f7a4 15 = .ok (.bipush 31, 2) := by decide +kernel
theorem dJ6_numberOfLeadingZeros_0f7a4_17 : decode cJ6_numberOfLeadingZeros_0f7a4 17 = .ok (.istore_n 1, 1) := by decide +kernel
theorem dJ6_numberOfLeadingZeros_0f7a4_18 : decode cJ6_numberOfLeadingZeros_0f7a4 18 = .ok (.iload_n 0, 1) := by decide +kernel
theorem dJ6_numberOfLeadingZeros_0f7a4_19 : decode cJ6_numberOfLeadingZeros_0f7a4 19 = .ok (.ldc_w 264, 3) := by decide +kernel
theorem dJ6_numberOfLeadingZeros_0f7a4_22 : decode cJ6_numberOfLeadingZeros_0f7a4 22 = .ok (.if_icmp .lt 11, 3) := by decide +kernel
theorem dJ6_numberOfLeadingZeros_0f7a4_25 : decode cJ6_numberOfLeadingZeros_0f7a4 25 = .ok (.iinc 1 (-16), 3) := by decide +kernel
theorem dJ6_numberOfLeadingZeros_0f7a4_28 : decode cJ6_numberOfLeadingZeros_0f7a4 28 = .ok (.iload_n 0, 1) := by decide +kernel
theorem dJ6_numberOfLeadingZeros_0f7a4_29 : decode cJ6_numberOfLeadingZeros_0f7a4 29 = .ok (.bipush 16, 2) := by decide +kernel
theorem dJ6_numberOfLeadingZeros_0f7a4_31 : decode cJ6_numberOfLeadingZeros_0f7a4 31 = .ok (.iushr, 1) := by decide +kernel
theorem dJ6_numberOfLeadingZeros_0f7a4_32 : decode cJ6_numberOfLeadingZeros_0f7a4 32 = .ok (.istore_n 0, 1) := by decide +kernel
theorem dJ6_numberOfLeadingZeros_0f7a4_33 : decode cJ6_numberOfLeadingZeros_0f7a4 33 = .ok (.iload_n 0, 1) := by decide +kernel
theorem dJ6_numberOfLeadingZeros_0f7a4_34 : decode cJ6_numberOfLeadingZeros_0f7a4 34 = .ok (.sipush 256, 3) := by decide +kernel
theorem dJ6_numberOfLeadingZeros_0f7a4_37 : decode cJ6_numberOfLeadingZeros_0f7a4 37 = .ok (.if_icmp .lt 11, 3) := by decide +kernel
theorem dJ6_numberOfLeadingZeros_0f7a4_40 : decode cJ6_numberOfLeadingZeros_0f7a4 40 = .ok (.iinc 1 (-8), 3) := by decide +kernel
theorem dJ6_numberOfLeadingZeros_0f7a4_43 : decode cJ6_numberOfLeadingZeros_0f7a4 43 = .ok (.iload_n 0, 1) := by decide +kernel
theorem dJ6_numberOfLeadingZeros_0f7a4_44 : decode cJ6_numberOfLeadingZeros_0f7a4 44 = .ok (.bipush 8, 2) := by decide +kernel
theorem dJ6_numberOfLeadingZeros_0f7a4_46 : decode cJ6_numberOfLeadingZeros_0f7a4 46 = .ok (.iushr, 1) := by decide +kernel
theorem dJ6_numberOfLeadingZeros_0f7a4_47 : decode cJ6_numberOfLeadingZeros_0f7a4 47 = .ok (.istore_n 0, 1) := by decide +kernel
theorem dJ6_numberOfLeadingZeros_0f7a4_48 : decode cJ6_numberOfLeadingZeros_0f7a4 48 = .ok (.iload_n 0, 1) := by decide +kernel
theorem dJ6_numberOfLeadingZeros_0f7a4_49 : decode cJ6_numberOfLeadingZeros_0f7a4 49 = .ok (.bipush 16, 2) := by decide +kernel
theorem dJ6_numberOfLeadingZeros_0f7a4_51 : decode cJ6_numberOfLeadingZeros_0f7a4 51 = .ok (.if_icmp .lt 10, 3) := by decide +kernel
theorem dJ6_numberOfLeadingZeros_0f7a4_54 : decode cJ6_numberOfLeadingZeros_0f7a4 54 = .ok (.iinc 1 (-4), 3) := by decide +kernel
theorem dJ6_numberOfLeadingZeros_0f7a4_57 : decode cJ6_numberOfLeadingZeros_0f7a4 57 = .ok (.iload_n 0, 1) := by decide +kernel
theorem dJ6_numberOfLeadingZeros_0f7a4_58 : decode cJ6_numberOfLeadingZeros_0f7a4 58 = .ok (.iconst 4, 1) := by decide +kernel
theorem dJ6_numberOfLeadingZeros_0f7a4_59 : decode cJ6_numberOfLeadingZeros_0f7a4 59 = .ok (.iushr, 1) := by decide +kernel
theorem dJ6_numberOfLeadingZeros_0f7a4_60 : decode cJ6_numberOfLeadingZeros_0f7a4 60 = .ok (.istore_n 0, 1) := by decide +kernel
theorem dJ6_numberOfLeadingZeros_0f7a4_61 : decode cJ6_numberOfLeadingZeros_0f7a4 61 = .ok (.iload_n 0, 1) := by decide +kernel
theorem dJ6_numberOfLeadingZeros_0f7a4_62 : decode cJ6_numberOfLeadingZeros_0f7a4 62 = .ok (.iconst 4, 1) := by decide +kernel
theorem dJ6_numberOfLeadingZeros_0f7a4_63 : decode cJ6_numberOfLeadingZeros_0f7a4 63 = .ok (.if_icmp .lt 10, 3) := by decide +kernel
theorem dJ6_numberOfLeadingZeros_0f7a4_66 : decode cJ6_numberOfLeadingZeros_0f7a4 66 = .ok (.iinc 1 (-2), 3) := by decide +kernel
theorem dJ6_numberOfLeadingZeros_0f7a4_69 : decode cJ6_numberOfLeadingZeros_0f7a4 69 = .ok (.iload_n 0, 1) := by decide +kernel
theorem dJ6_numberOfLeadingZeros_0f7a4_70 : decode cJ6_numberOfLeadingZeros_0f7a4 70 = .ok (.iconst 2, 1) := by decide +kernel
theorem dJ6_numberOfLeadingZeros_0f7a4_71 : decode cJ6_numberOfLeadingZeros_0f7a4 71 = .ok (.iushr, 1) := by decide +kernel
theorem dJ6_numberOfLeadingZeros_0f7a4_72 : decode cJ6_numberOfLeadingZeros_0f7a4 72 = .ok (.istore_n 0, 1) := by decide +kernel
theorem dJ6_numberOfLeadingZeros_0f7a4_73 : decode cJ6_numberOfLeadingZeros_0f7a4 73 = .ok (.iload_n 1, 1) := by decide +kernel
theorem dJ6_numberOfLeadingZeros_0f7a4_74 : decode cJ6_numberOfLeadingZeros_0f7a4 74 = .ok (.iload_n 0, 1) := by decide +kernel
theorem dJ6_numberOfLeadingZeros_0f7a4_75 : decode cJ6_numberOfLeadingZeros_0f7a4 75 = .ok (.iconst 1, 1) := by decide +kernel
theorem dJ6_numberOfLeadingZeros_0f7a4_76 : decode cJ6_numberOfLeadingZeros_0f7a4 76 = .ok (.iushr, 1) := by decide +kernel
theorem dJ6_numberOfLeadingZeros_0f7a4_77 : decode cJ6_numberOfLeadingZeros_0f7a4 77 = .ok (.isub, 1) := by decide +kernel
theorem dJ6_numberOfLeadingZeros_0f7a4_78 : decode cJ6_numberOfLeadingZeros_0f7a4 78 = .ok (.ireturn, 1) := by decide +kernel
set_option maxRecDepth 20000 in
theorem ggJ13_numberOfLeadingZeros_95d88_J6_numberOfLeadingZeros_0f7a4 : GoodIn wsJ13_numberOfLeadingZeros_95d88 wsJ6_numberOfLeadingZeros_0f7a4 := goodIn_r _ [4, 5] (by decide +kernel) (by decide +kernel)
set_option maxRecDepth 20000 in
theorem gJ13_numberOfLeadingZeros_95d88_J6_numberOfLeadingZeros_0f7a4 : GoodIn wsJ13_numberOfLeadingZeros_95d88 (va_wsS RJ13 308 yJ6_numberOfLeadingZeros_0f7a4 wsJ6_numberOfLeadingZeros_0f7a4) := goodIn_app (goodIn_of _ (by decide +kernel)) ggJ13_numberOfLeadingZeros_95d88_J6_numberOfLeadingZeros_0f7a4
theorem dJ13_numberOfLeadingZeros_95d88_0 : decode cJ13_numberOfLeadingZeros_95d88 0 = .ok (.lload_n 0, 1) := by decide +kernel
theorem dJ13_numberOfLeadingZeros_95d88_1 : decode cJ13_numberOfLeadingZeros_95d88 1 = .ok (.bipush 32, 2) := by decide +kernel
theorem dJ13_numberOfLeadingZeros_95d88_3 : decode cJ13_numberOfLeadingZeros_95d88 3 = .ok (.lushr, 1) := by decide +kernel
theorem dJ13_numberOfLeadingZeros_95d88_4 : decode cJ13_numberOfLeadingZeros_95d88 4 = .ok (.l2i, 1) := by decide +kernel
theorem dJ13_numberOfLeadingZeros_95d88_5 : decode cJ13_numberOfLeadingZeros_95d88 5 = .ok (.istore_n 2, 1) := by decide +kernel
theorem dJ13_numberOfLeadingZeros_95d88_6 : decode cJ13_numberOfLeadingZeros_95d88 6 = .ok (.iload_n 2, 1) := by decide +kernel
theorem dJ13_numberOfLeadingZeros_95d88_7 : decode cJ13_numberOfLeadingZeros_95d88 7 = .ok (.ifCond .ne 14, 3) := by decide +kernel
theorem dJ13_numberOfLeadingZeros_95d88_10 : decode cJ13_numberOfLeadingZeros_95d88 10 = .ok (.bipush 32, 2) := by decide +kernel
theorem dJ13_numberOfLeadingZeros_95d88_12 : decode cJ13_numberOfLeadingZeros_95d88 12 = .ok (.lload_n 0, 1) := by decide +kernel
theorem dJ13_numberOfLeadingZeros_95d88_13 : decode cJ13_numberOfLeadingZeros_95d88 13 = .ok (.l2i, 1) := by decide +kernel
theorem dJ13_numberOfLeadingZeros_95d88_14 : decode cJ13_numberOfLeadingZeros_95d88 14 = .ok (.invokestatic 308, 3) := by decide +kernel
theorem dJ13_numberOfLeadingZeros_95d88_17 : decode cJ13_numberOfLeadingZeros_95d88 17 = .ok (.iadd, 1) := by decide +kernel
theorem dJ13_numberOfLeadingZeros_95d88_18 : decode cJ13_numberOfLeadingZeros_95d88 18 = .ok (.goto 7, 3) := by decide +kernel
theorem dJ13_numberOfLeadingZeros_95d88_21 : decode cJ13_numberOfLeadingZeros_95d88 21 = .ok (.iload_n 2, 1) := by decide +kernel
theorem dJ13_numberOfLeadingZeros_95d88_22 : decode cJ13_numberOfLeadingZeros_95d88 22 = .ok (.invokestatic 308, 3) := by decide +kernel
theorem dJ13_numberOfLeadingZeros_95d88_25 : decode cJ13_numberOfLeadingZeros_95d88 25 = .ok (.ireturn, 1) := by decide +kernel
theorem dJ9_max_7cf53_0 : decode cJ9_max_7cf53 0 = .ok (.iload_n 0, 1) := by decide +kernel
theorem dJ9_max_7cf53_1 : decode cJ9_max_7cf53 1 = .ok (.iload_n 1, 1) := by decide +kernel
theorem dJ9_max_7cf53_2 : decode cJ9_max_7cf53 2 = .ok (.if_icmp .lt 7, 3) := by decide +kernel
theorem dJ9_max_7cf53_5 : decode cJ9_max_7cf53 5 = .ok (.iload_n 0, 1) := by decide +kernel
theorem dJ9_max_7cf53_6 : decode cJ9_max_7cf53 6 = .ok (.goto 4, 3) := by decide +kernel
theorem dJ9_max_7cf53_9 : decode cJ9_max_7cf53 9 = .ok (.iload_n 1, 1) := by decide +kernel
theorem dJ9_max_7cf53_10 : decode cJ9_max_7cf53 10 = .ok (.ireturn, 1) := by decide +kernel
theorem dJ9_min_7cf53_0 : decode cJ9_min_7cf53 0 = .ok (.iload_n 0, 1) := by decide +kernel
theorem dJ9_min_7cf53_1 : decode cJ9_min_7cf53 1 = .ok (.iload_n 1, 1) := by decide +kernel
theorem dJ9_min_7cf53_2 : decode cJ9_min_7cf53 2 = .ok (.if_icmp .gt 7, 3) := by decide +kernel
theorem dJ9_min_7cf53_5 : decode cJ9_min_7cf53 5 = .ok (.iload_n 0, 1) := by decide +kernel
theorem dJ9_min_7cf53_6 : decode cJ9_min_7cf53 6 = .ok (.goto 4, 3) := by decide +kernel
theorem dJ9_min_7cf53_9 : decode cJ9_min_7cf53 9 = .ok (.iload_n 1, 1) := by decide +kernel
theorem dJ9_min_7cf53_10 : decode cJ9_min_7cf53 10 = .ok (.ireturn, 1) := by decide +kernel
set_option maxRecDepth 20000 in
theorem ggL_law_X7_init : GoodIn wsL_law wsX7_init := goodIn_r _ [8, 9, 10, 11, 12, 13, 14, 15, 16, 17, 18, 19, 20, 21, 22, 23, 24, 25, 26, 27, 28, 29, 30, 31, 32, 33, 34, 35, 36, 37, 38, 39, 40, 41, 42, 43, 44, 45, 46, 47, 48, 49, 50, 51, 52, 53, 54, 55, 56, 57, 58, 59, 60, 61, 62, 63, 64, 65, 66, 67, 68, 69, 70, 71, 72, 73, 74, 75, 76, 77, 78, 79, 80, 81, 82, 904, 905, 862, 863, 864, 865, 866, 867, 868, 869, 906, 907, 908, 909, 910, 911, 912, 913, 914, 915, 916, 917, 918, 919, 920, 921, 922, 923, 924, 925, 926, 927, 928, 929, 930, 931, 932, 933, 934, 935, 936] (by decide +kernel) (by decide +kernel)
set_option maxRecDepth 20000 in
theorem gL_law_X7_init : GoodIn wsL_law (wsX7_init) := ggL_law_X7_init
set_option maxRecDepth 20000 in
theorem ggL_law_X8_init : GoodIn wsL_law wsX8_init := goodIn_r _ [85, 86, 10, 11, 50, 87, 88, 89, 90, 91, 92, 93, 94, 95, 96, 97, 98, 99, 100, 101, 102, 103, 104, 105, 106, 107, 108, 109, 870, 871, 872, 873, 874, 875, 876, 877, 878, 879, 880, 881, 882, 883, 884, 885, 886, 887, 888, 889, 890, 891, 892, 893, 894, 895, 896, 897, 898, 899, 900, 901, 902, 903] (by decide +kernel) (by decide +kernel)
set_option maxRecDepth 20000 in
theorem gL_law_X8_init : GoodIn wsL_law (wsX8_init) := ggL_law_X8_init
set_option maxRecDepth 20000 in
theorem ggL_law_X7_type : GoodIn wsL_law wsX7_type := goodIn_r _ [113, 15, 114, 115, 116, 117, 2, 118, 119, 120, 121, 122, 123, 124, 14, 125, 126, 36, 862, 863, 864, 865, 866, 867, 868, 869, 904, 905] (by decide +kernel) (by decide +kernel)
set_option maxRecDepth 20000 in
theorem gL_law_X7_type : GoodIn wsL_law (wsV RL 13 RX7 yX7_type wsX7_type) := goodIn_app (goodIn_of _ (by decide +kernel)) ggL_law_X7_type
set_option maxRecDepth 20000 in
theorem ggL_law_X8_type : GoodIn wsL_law wsX8_type := goodIn_r _ [130, 131, 91, 132, 133, 5, 134, 135, 136, 137, 138, 90, 870, 871, 872, 873, 874, 875, 876, 877, 878, 879, 880, 881, 882, 883, 884, 885, 886, 887, 888, 889, 890, 891, 892, 893, 894, 895, 896, 897, 898, 899, 900, 901, 902, 903] (by decide +kernel) (by decide +kernel)
set_option maxRecDepth 20000 in
theorem gL_law_X8_type : GoodIn wsL_law (wsV RL 17 RX8 yX8_type wsX8_type) := goodIn_app (goodIn_of _ (by decide +kernel)) ggL_law_X8_type
set_option maxRecDepth 20000 in
theorem ggL_law_X7_clear : GoodIn wsL_law wsX7_clear := goodIn_r _ [142, 15, 114, 862, 863, 864, 865, 866, 867, 868, 869, 904, 905] (by decide +kernel) (by decide +kernel)
set_option maxRecDepth 20000 in
theorem gL_law_X7_clear : GoodIn wsL_law (wsV RL 18 RX7 yX7_clear wsX7_clear) := goodIn_app (goodIn_of _ (by decide +kernel)) ggL_law_X7_clear
set_option maxRecDepth 20000 in
theorem ggL_law_X8_clear : GoodIn wsL_law wsX8_clear := goodIn_r _ [146, 131, 870, 871, 872, 873, 874, 875, 876, 877, 878, 879, 880, 881, 882, 883, 884, 885, 886, 887, 888, 889, 890, 891, 892, 893, 894, 895, 896, 897, 898, 899, 900, 901, 902, 903] (by decide +kernel) (by decide +kernel)
set_option maxRecDepth 20000 in
theorem gL_law_X8_clear : GoodIn wsL_law (wsV RL 22 RX8 yX8_clear wsX8_clear) := goodIn_app (goodIn_of _ (by decide +kernel)) ggL_law_X8_clear
set_option maxRecDepth 20000 in
theorem ggL_law_X7_add : GoodIn wsL_law wsX7_add := goodIn_r _ [150, 15, 19, 23, 151, 152, 27, 153, 154, 155, 14, 156, 126, 157, 158, 159, 160, 161, 162, 163, 18, 164, 41, 165, 166, 167, 168, 169, 36, 170, 2, 171, 172, 173, 174, 175, 115, 116, 117, 118, 119, 120, 121, 176, 177, 178, 22, 179, 49, 180, 181, 182, 183, 184, 185, 186, 187, 188, 189, 190, 191, 192, 60, 193, 194, 195, 196, 58, 197, 198, 199, 200, 201, 202, 203, 204, 205, 206, 207, 208, 52, 209, 210, 211, 48, 212, 213, 67, 214, 215, 216, 57, 217, 218, 219, 220, 221, 222, 223, 224, 225, 226, 227, 72, 228, 229, 230, 231, 232, 233, 234, 235, 236, 237, 238, 239, 240, 241, 242, 243, 244, 245, 246, 247, 51, 248, 249, 250, 251, 66, 252, 253, 254, 255, 256, 257, 258, 259, 260, 261, 262, 263, 264, 265, 266, 267, 268, 269, 270, 271, 272, 273, 274, 275, 276, 277, 278, 279, 280, 281, 282, 26, 283, 284, 81, 285, 286, 287, 288, 289, 290, 291, 292, 68, 293, 294, 295, 296, 297, 298, 299, 300, 301, 302, 303, 304, 305, 306, 307, 308, 309, 310, 311, 312, 313, 314, 315, 316, 317, 318, 319, 320, 321, 322, 323, 324, 325, 326, 327, 328, 329, 54, 330, 331, 332, 333, 53, 334, 335, 336, 337, 338, 339, 340, 341, 862, 863, 864, 865, 866, 867, 868, 869, 908, 909, 910, 911, 912, 913, 914, 924, 925, 926, 927, 928, 929, 904, 905, 906, 907, 918, 919, 920, 921, 922, 923, 930, 931, 932, 933, 934, 935, 936, 915, 916, 917] (by decide +kernel) (by decide +kernel)
set_option maxRecDepth 20000 in
theorem gL_law_X7_add : GoodIn wsL_law (wsV RL 23 RX7 yX7_add wsX7_add) := goodIn_app (goodIn_of _ (by decide +kernel)) ggL_law_X7_add
set_option maxRecDepth 20000 in
theorem ggL_law_X8_add : GoodIn wsL_law wsX8_add := goodIn_r _ [345, 87, 346, 347, 348, 5, 349, 131, 91, 92, 350, 132, 133, 134, 351, 352, 353, 354, 355, 356, 357, 358, 359, 360, 361, 362, 363, 364, 365, 366, 367, 368, 369, 370, 371, 372, 373, 135, 136, 137, 138, 90, 374, 375, 376, 377, 378, 379, 380, 381, 382, 383, 384, 385, 89, 386, 387, 388, 389, 97, 102, 390, 391, 392, 393, 394, 395, 396, 397, 398, 399, 400, 401, 402, 403, 404, 405, 98, 99, 406, 100, 407, 101, 408, 409, 93, 410, 411, 412, 413, 414, 415, 416, 417, 418, 419, 94, 95, 96, 420, 421, 422, 423, 424, 425, 426, 427, 428, 429, 430, 431, 432, 433, 434, 435, 436, 437, 438, 439, 440, 441, 442, 443, 444, 445, 446, 447, 448, 449, 450, 451, 452, 88, 870, 871, 872, 873, 874, 875, 876, 877, 878, 879, 880, 881, 882, 883, 884, 885, 886, 887, 888, 889, 890, 891, 892, 893, 894, 895, 896, 897, 898, 899, 900, 901, 902, 903] (by decide +kernel) (by decide +kernel)
set_option maxRecDepth 20000 in
theorem gL_law_X8_add : GoodIn wsL_law (wsV RL 26 RX8 yX8_add wsX8_add) := goodIn_app (goodIn_of _ (by decide +kernel)) ggL_law_X8_add
set_option maxRecDepth 20000 in
theorem ggL_law_X7_takeOut : GoodIn wsL_law wsX7_takeOut := goodIn_r _ [456, 15, 19, 23, 27, 151, 152, 153, 154, 155, 14, 156, 126, 157, 158, 159, 160, 161, 162, 163, 18, 164, 41, 165, 166, 167, 168, 169, 36, 170, 2, 171, 172, 173, 174, 175, 115, 116, 117, 118, 119, 120, 121, 176, 177, 178, 22, 179, 49, 180, 181, 182, 183, 184, 185, 186, 187, 188, 189, 190, 191, 192, 60, 193, 194, 195, 196, 58, 197, 198, 199, 200, 201, 202, 203, 204, 205, 206, 207, 208, 52, 209, 210, 211, 48, 212, 213, 67, 214, 215, 216, 57, 217, 218, 219, 220, 221, 222, 223, 224, 225, 226, 227, 72, 228, 229, 230, 231, 232, 233, 234, 235, 236, 237, 238, 239, 240, 241, 242, 243, 244, 245, 246, 247, 51, 248, 249, 250, 251, 66, 252, 253, 254, 255, 256, 257, 258, 259, 260, 261, 262, 263, 264, 265, 266, 267, 268, 269, 270, 271, 272, 273, 274, 275, 280, 281, 282, 26, 283, 284, 81, 285, 286, 287, 288, 289, 290, 291, 292, 68, 293, 294, 295, 296, 297, 298, 457, 458, 459, 460, 303, 277, 278, 279, 461, 462, 463, 464, 465, 466, 467, 468, 316, 317, 318, 319, 320, 469, 470, 471, 472, 473, 474, 475, 476, 477, 478, 479, 480, 325, 321, 322, 323, 324, 326, 327, 328, 329, 54, 330, 331, 332, 333, 53, 334, 335, 336, 337, 338, 339, 340, 341, 862, 863, 864, 865, 866, 867, 868, 869, 908, 909, 910, 911, 912, 913, 914, 924, 925, 926, 927, 928, 929, 904, 905, 906, 907, 918, 919, 920, 921, 922, 923, 930, 931, 932, 933, 934, 935, 936, 915, 916, 917] (by decide +kernel) (by decide +kernel)
set_option maxRecDepth 20000 in
theorem gL_law_X7_takeOut : GoodIn wsL_law (wsV RL 27 RX7 yX7_takeOut wsX7_takeOut) := goodIn_app (goodIn_of _ (by decide +kernel)) ggL_law_X7_takeOut
set_option maxRecDepth 20000 in
theorem ggL_law_X8_takeOut : GoodIn wsL_law wsX8_takeOut := goodIn_r _ [484, 87, 346, 347, 348, 5, 349, 131, 91, 92, 350, 132, 133, 134, 351, 352, 353, 354, 355, 356, 357, 358, 359, 360, 361, 362, 363, 364, 365, 366, 367, 368, 369, 370, 371, 372, 373, 135, 136, 137, 138, 90, 382, 383, 384, 385, 89, 485, 486, 487, 488, 97, 102, 402, 403, 404, 405, 98, 99, 406, 100, 407, 101, 408, 409, 93, 410, 411, 412, 413, 414, 415, 416, 417, 418, 419, 94, 95, 96, 420, 421, 422, 423, 424, 425, 426, 427, 428, 429, 430, 431, 432, 433, 434, 435, 436, 437, 438, 439, 398, 399, 400, 401, 440, 441, 442, 443, 489, 490, 491, 492, 448, 449, 450, 451, 452, 88, 870, 871, 872, 873, 874, 875, 876, 877, 878, 879, 880, 881, 882, 883, 884, 885, 886, 887, 888, 889, 890, 891, 892, 893, 894, 895, 896, 897, 898, 899, 900, 901, 902, 903] (by decide +kernel) (by decide +kernel)
set_option maxRecDepth 20000 in
theorem gL_law_X8_takeOut : GoodIn wsL_law (wsV RL 30 RX8 yX8_takeOut wsX8_takeOut) := goodIn_app (goodIn_of _ (by decide +kernel)) ggL_law_X8_takeOut
set_option maxRecDepth 20000 in
theorem ggL_law_X7_does : GoodIn wsL_law wsX7_does := goodIn_r _ [496, 15, 27, 23, 151, 114, 19, 497, 498, 499, 14, 500, 126, 166, 167, 168, 169, 36, 170, 2, 171, 280, 281, 282, 26, 283, 284, 81, 285, 286, 182, 183, 184, 287, 288, 289, 48, 290, 291, 66, 213, 67, 292, 68, 293, 249, 250, 251, 294, 295, 296, 18, 297, 41, 165, 298, 210, 211, 212, 501, 502, 158, 159, 160, 161, 162, 163, 164, 172, 173, 174, 175, 503, 504, 505, 22, 506, 49, 325, 507, 177, 178, 179, 180, 181, 185, 186, 187, 188, 189, 190, 191, 192, 60, 193, 194, 195, 196, 58, 197, 198, 199, 200, 201, 202, 203, 204, 205, 206, 207, 208, 52, 209, 214, 215, 216, 57, 217, 218, 219, 220, 221, 222, 223, 224, 225, 226, 227, 72, 228, 229, 230, 231, 232, 233, 234, 235, 236, 237, 238, 239, 240, 241, 242, 243, 244, 245, 246, 247, 51, 248, 252, 253, 254, 255, 256, 257, 258, 259, 260, 261, 262, 263, 264, 265, 266, 267, 268, 269, 270, 508, 272, 273, 274, 275, 509, 300, 301, 302, 303, 277, 278, 279, 304, 305, 306, 307, 308, 309, 310, 311, 312, 313, 314, 315, 316, 317, 318, 319, 320, 321, 322, 323, 324, 326, 327, 328, 329, 54, 330, 331, 332, 333, 53, 334, 335, 336, 337, 338, 339, 340, 341, 510, 511, 512, 513, 514, 458, 459, 460, 461, 462, 463, 464, 465, 466, 467, 468, 469, 470, 471, 472, 473, 474, 475, 476, 477, 478, 479, 480, 862, 863, 864, 865, 866, 867, 868, 869, 908, 909, 910, 911, 912, 913, 914, 904, 905, 915, 916, 917, 924, 925, 926, 927, 928, 929, 906, 907, 918, 919, 920, 921, 922, 923, 930, 931, 932, 933, 934, 935, 936] (by decide +kernel) (by decide +kernel)
set_option maxRecDepth 20000 in
theorem gL_law_X7_does : GoodIn wsL_law (wsV RL 31 RX7 yX7_does wsX7_does) := goodIn_app (goodIn_of _ (by decide +kernel)) ggL_law_X7_does
set_option maxRecDepth 20000 in
theorem ggL_law_X8_does : GoodIn wsL_law wsX8_does := goodIn_r _ [518, 131, 91, 519, 520, 521, 5, 522, 351, 352, 353, 132, 133, 134, 382, 383, 384, 385, 89, 87, 523, 524, 525, 526, 350, 92, 354, 355, 356, 357, 358, 359, 360, 361, 362, 363, 364, 365, 366, 367, 368, 369, 370, 371, 372, 373, 386, 387, 388, 389, 97, 102, 390, 391, 392, 393, 394, 395, 396, 397, 398, 399, 400, 401, 402, 403, 404, 405, 98, 99, 406, 100, 407, 101, 408, 409, 93, 410, 411, 412, 413, 414, 415, 416, 417, 418, 419, 94, 95, 96, 420, 421, 422, 423, 424, 425, 426, 427, 428, 429, 430, 431, 432, 433, 434, 435, 436, 437, 438, 439, 440, 441, 442, 443, 444, 445, 446, 447, 485, 486, 487, 488, 489, 490, 491, 492, 448, 449, 450, 451, 452, 88, 870, 871, 872, 873, 874, 875, 876, 877, 878, 879, 880, 881, 882, 883, 884, 885, 886, 887, 888, 889, 890, 891, 892, 893, 894, 895, 896, 897, 898, 899, 900, 901, 902, 903] (by decide +kernel) (by decide +kernel)
set_option maxRecDepth 20000 in
theorem gL_law_X8_does : GoodIn wsL_law (wsV RL 34 RX8 yX8_does wsX8_does) := goodIn_app (goodIn_of _ (by decide +kernel)) ggL_law_X8_does
set_option maxRecDepth 20000 in
theorem ggL_law_X7_draw : GoodIn wsL_law wsX7_draw := goodIn_r _ [530, 531, 27, 23, 151, 19, 115, 116, 117, 2, 118, 119, 120, 121, 280, 281, 282, 26, 283, 284, 81, 285, 286, 182, 183, 184, 287, 288, 289, 48, 290, 291, 66, 213, 67, 292, 68, 293, 249, 250, 251, 294, 295, 296, 18, 297, 41, 165, 298, 210, 211, 212, 532, 533, 534, 535, 536, 537, 162, 163, 164, 538, 539, 540, 541, 542, 543, 544, 173, 174, 175, 503, 504, 505, 22, 506, 49, 325, 507, 177, 178, 179, 180, 181, 185, 186, 187, 188, 189, 190, 191, 192, 60, 193, 194, 195, 196, 58, 197, 198, 199, 200, 201, 202, 203, 204, 205, 206, 207, 208, 52, 209, 214, 215, 216, 57, 217, 218, 219, 220, 221, 222, 223, 224, 225, 226, 227, 72, 228, 229, 230, 231, 232, 233, 234, 235, 236, 237, 238, 239, 240, 241, 242, 243, 244, 245, 246, 247, 51, 248, 252, 253, 254, 255, 256, 257, 258, 259, 260, 261, 262, 263, 264, 265, 266, 267, 268, 269, 270, 508, 272, 273, 274, 275, 509, 300, 301, 302, 303, 277, 278, 279, 304, 305, 306, 307, 308, 309, 310, 311, 312, 313, 314, 315, 316, 317, 318, 319, 320, 321, 322, 323, 324, 326, 327, 328, 329, 54, 330, 331, 332, 333, 53, 334, 335, 336, 337, 338, 339, 340, 341, 862, 863, 864, 865, 866, 867, 868, 869, 908, 909, 910, 911, 912, 913, 914, 915, 916, 917, 924, 925, 926, 927, 928, 929, 906, 907, 918, 919, 920, 921, 922, 923, 930, 931, 932, 933, 934, 935, 936] (by decide +kernel) (by decide +kernel)
set_option maxRecDepth 20000 in
theorem gL_law_X7_draw : GoodIn wsL_law (wsV RL 35 RX7 yX7_draw wsX7_draw) := goodIn_app (goodIn_of _ (by decide +kernel)) ggL_law_X7_draw
set_option maxRecDepth 20000 in
theorem ggL_law_X8_draw : GoodIn wsL_law wsX8_draw := goodIn_r _ [548, 549, 550, 350, 92, 87, 132, 133, 5, 134, 135, 136, 137, 138, 90, 382, 383, 384, 385, 89, 551, 552, 553, 554, 555, 556, 354, 355, 356, 357, 358, 359, 360, 361, 362, 363, 364, 365, 366, 367, 368, 369, 370, 371, 372, 373, 386, 387, 388, 389, 97, 102, 390, 391, 392, 393, 394, 395, 396, 397, 398, 399, 400, 401, 402, 403, 404, 405, 98, 99, 406, 100, 407, 101, 408, 409, 93, 410, 411, 412, 413, 414, 415, 416, 417, 418, 419, 94, 95, 96, 420, 421, 422, 423, 424, 425, 426, 427, 428, 429, 430, 431, 432, 433, 434, 435, 436, 437, 438, 439, 440, 441, 442, 443, 444, 445, 446, 447, 448, 449, 450, 451, 452, 88, 870, 871, 872, 873, 874, 875, 876, 877, 878, 879, 880, 881, 882, 883, 884, 885, 886, 887, 888, 889, 890, 891, 892, 893, 894, 895, 896, 897, 898, 899, 900, 901, 902, 903] (by decide +kernel) (by decide +kernel)
set_option maxRecDepth 20000 in
theorem gL_law_X8_draw : GoodIn wsL_law (wsV RL 39 RX8 yX8_draw wsX8_draw) := goodIn_app (goodIn_of _ (by decide +kernel)) ggL_law_X8_draw
set_option maxRecDepth 20000 in
theorem ggL_law_X7_deals : GoodIn wsL_law wsX7_deals := goodIn_r _ [560, 27, 23, 151, 561, 115, 116, 117, 2, 118, 119, 120, 121, 280, 281, 282, 26, 283, 284, 81, 285, 286, 182, 183, 184, 287, 288, 289, 48, 290, 291, 66, 213, 67, 292, 68, 293, 249, 250, 251, 294, 295, 296, 18, 297, 41, 165, 298, 210, 211, 212, 562, 563, 564, 565, 566, 567, 568, 569, 570, 309, 310, 311, 571, 322, 323, 22, 324, 49, 275, 325, 58, 326, 327, 328, 329, 54, 52, 209, 330, 331, 332, 333, 51, 181, 53, 205, 206, 207, 208, 244, 245, 246, 247, 334, 335, 336, 337, 240, 241, 242, 243, 248, 252, 253, 254, 255, 256, 257, 258, 259, 260, 261, 262, 263, 264, 338, 339, 340, 57, 341, 72, 862, 863, 864, 865, 866, 867, 868, 869, 908, 909, 910, 911, 912, 913, 914, 924, 925, 926, 927, 928, 929, 915, 916, 917, 906, 907, 930, 931, 932, 933, 934, 935, 936] (by decide +kernel) (by decide +kernel)
set_option maxRecDepth 20000 in
theorem gL_law_X7_deals : GoodIn wsL_law (wsV RL 40 RX7 yX7_deals wsX7_deals) := goodIn_app (goodIn_of _ (by decide +kernel)) ggL_law_X7_deals
set_option maxRecDepth 20000 in
theorem ggL_law_X8_deals : GoodIn wsL_law wsX8_deals := goodIn_r _ [575, 87, 132, 133, 5, 134, 135, 136, 137, 138, 90, 382, 383, 384, 385, 89, 576, 577, 578, 579, 398, 399, 400, 401, 448, 449, 450, 451, 452, 88, 580, 581, 582, 583, 870, 871, 872, 873, 874, 875, 876, 877, 878, 879, 880, 881, 882, 883, 884, 885, 886, 887, 888, 889, 890, 891, 892, 893, 894, 895, 896, 897, 898, 899, 900, 901, 902, 903] (by decide +kernel) (by decide +kernel)
set_option maxRecDepth 20000 in
theorem gL_law_X8_deals : GoodIn wsL_law (wsV RL 43 RX8 yX8_deals wsX8_deals) := goodIn_app (goodIn_of _ (by decide +kernel)) ggL_law_X8_deals
set_option maxRecDepth 20000 in
theorem ggL_law_X7_anew : GoodIn wsL_law wsX7_anew := goodIn_r _ [587, 23, 151, 152, 27, 280, 281, 282, 26, 283, 284, 81, 285, 286, 182, 183, 184, 287, 288, 289, 48, 290, 291, 66, 213, 67, 292, 68, 293, 249, 250, 251, 294, 295, 296, 18, 297, 41, 165, 298, 210, 211, 212, 588, 589, 590, 591, 571, 322, 323, 22, 324, 49, 275, 325, 58, 326, 327, 328, 329, 54, 52, 209, 330, 331, 332, 333, 51, 181, 53, 205, 206, 207, 208, 244, 245, 246, 247, 334, 335, 336, 337, 240, 241, 242, 243, 248, 252, 253, 254, 255, 256, 257, 258, 259, 260, 261, 262, 263, 264, 338, 339, 340, 57, 341, 72, 862, 863, 864, 865, 866, 867, 868, 869, 908, 909, 910, 911, 912, 913, 914, 924, 925, 926, 927, 928, 929, 915, 916, 917, 906, 907, 930, 931, 932, 933, 934, 935, 936] (by decide +kernel) (by decide +kernel)
set_option maxRecDepth 20000 in
theorem gL_law_X7_anew : GoodIn wsL_law (wsV RL 44 RX7 yX7_anew wsX7_anew) := goodIn_app (goodIn_of _ (by decide +kernel)) ggL_law_X7_anew
set_option maxRecDepth 20000 in
theorem ggL_law_X8_anew : GoodIn wsL_law wsX8_anew := goodIn_r _ [595, 87, 382, 383, 384, 5, 385, 89, 448, 449, 450, 451, 452, 88, 870, 871, 872, 873, 874, 875, 876, 877, 878, 879, 880, 881, 882, 883, 884, 885, 886, 887, 888, 889, 890, 891, 892, 893, 894, 895, 896, 897, 898, 899, 900, 901, 902, 903] (by decide +kernel) (by decide +kernel)
set_option maxRecDepth 20000 in
theorem gL_law_X8_anew : GoodIn wsL_law (wsV RL 47 RX8 yX8_anew wsX8_anew) := goodIn_app (goodIn_of _ (by decide +kernel)) ggL_law_X8_anew
set_option maxRecDepth 20000 in
theorem ggL_law_X7_finds : GoodIn wsL_law wsX7_finds := goodIn_r _ [599, 15, 19, 23, 115, 116, 117, 2, 118, 119, 120, 121, 153, 154, 155, 14, 156, 126, 157, 158, 159, 160, 161, 162, 163, 18, 164, 41, 165, 166, 167, 168, 169, 36, 170, 171, 172, 173, 174, 175, 176, 177, 178, 22, 179, 49, 180, 181, 182, 183, 184, 185, 186, 187, 188, 189, 190, 191, 192, 60, 193, 194, 195, 196, 58, 197, 198, 199, 200, 201, 202, 203, 204, 205, 206, 207, 208, 52, 209, 210, 211, 48, 212, 213, 67, 214, 215, 216, 57, 217, 218, 219, 220, 221, 222, 223, 224, 225, 226, 227, 72, 228, 229, 230, 231, 232, 233, 234, 235, 236, 237, 238, 239, 240, 241, 242, 243, 244, 245, 246, 247, 51, 248, 249, 250, 251, 66, 252, 253, 254, 255, 256, 257, 258, 259, 260, 261, 262, 263, 264, 265, 266, 267, 268, 269, 270, 276, 277, 278, 279, 275, 271, 272, 273, 274, 600, 601, 602, 603, 862, 863, 864, 865, 866, 867, 868, 869, 904, 905, 906, 907, 908, 909, 910, 911, 912, 913, 914, 924, 925, 926, 927, 928, 929, 918, 919, 920, 921, 922, 923, 930, 931, 932, 933, 934, 935, 936] (by decide +kernel) (by decide +kernel)
set_option maxRecDepth 20000 in
theorem gL_law_X7_finds : GoodIn wsL_law (wsV RL 48 RX7 yX7_finds wsX7_finds) := goodIn_app (goodIn_of _ (by decide +kernel)) ggL_law_X7_finds
set_option maxRecDepth 20000 in
theorem ggL_law_X8_finds : GoodIn wsL_law wsX8_finds := goodIn_r _ [607, 132, 133, 5, 134, 135, 136, 137, 138, 90, 346, 347, 348, 349, 131, 91, 92, 350, 351, 352, 353, 374, 375, 376, 377, 87, 378, 379, 380, 381, 358, 359, 360, 361, 362, 363, 364, 365, 366, 367, 368, 369, 370, 371, 372, 373, 354, 355, 356, 357, 608, 609, 610, 611, 101, 402, 403, 404, 405, 97, 98, 99, 406, 100, 407, 408, 102, 409, 93, 410, 411, 412, 413, 414, 415, 416, 417, 418, 419, 94, 95, 96, 420, 421, 422, 423, 424, 425, 426, 427, 428, 429, 430, 431, 432, 433, 434, 435, 436, 437, 438, 439, 870, 871, 872, 873, 874, 875, 876, 877, 878, 879, 880, 881, 882, 883, 884, 885, 886, 887, 888, 889, 890, 891, 892, 893, 894, 895, 896, 897, 898, 899, 900, 901, 902, 903] (by decide +kernel) (by decide +kernel)
set_option maxRecDepth 20000 in
theorem gL_law_X8_finds : GoodIn wsL_law (wsV RL 51 RX8 yX8_finds wsX8_finds) := goodIn_app (goodIn_of _ (by decide +kernel)) ggL_law_X8_finds
set_option maxRecDepth 20000 in
theorem ggL_law_X7_way : GoodIn wsL_law wsX7_way := goodIn_r _ [615, 23, 151, 616, 15, 19, 617, 618, 619, 620, 621, 622, 115, 116, 117, 2, 118, 119, 120, 121, 153, 154, 155, 14, 156, 126, 157, 158, 159, 160, 161, 162, 163, 18, 164, 41, 165, 166, 167, 168, 169, 36, 170, 171, 172, 173, 174, 175, 176, 177, 178, 22, 179, 49, 180, 181, 182, 183, 184, 185, 186, 187, 188, 189, 190, 191, 192, 60, 193, 194, 195, 196, 58, 197, 198, 199, 200, 201, 202, 203, 204, 205, 206, 207, 208, 52, 209, 210, 211, 48, 212, 213, 67, 214, 215, 216, 57, 217, 218, 219, 220, 221, 222, 223, 224, 225, 226, 227, 72, 228, 229, 230, 231, 232, 233, 234, 235, 236, 237, 238, 239, 240, 241, 242, 243, 244, 245, 246, 247, 51, 248, 249, 250, 251, 66, 252, 253, 254, 255, 256, 257, 258, 259, 260, 261, 262, 263, 264, 265, 266, 267, 268, 269, 270, 623, 862, 863, 864, 865, 866, 867, 868, 869, 908, 909, 910, 911, 912, 913, 914, 924, 925, 926, 927, 928, 929, 918, 919, 920, 921, 922, 923, 904, 905, 906, 907, 930, 931, 932, 933, 934, 935, 936] (by decide +kernel) (by decide +kernel)
set_option maxRecDepth 20000 in
theorem gL_law_X7_way : GoodIn wsL_law (wsV RL 52 RX7 yX7_way wsX7_way) := goodIn_app (goodIn_of _ (by decide +kernel)) ggL_law_X7_way
set_option maxRecDepth 20000 in
theorem ggL_law_X8_way : GoodIn wsL_law wsX8_way := goodIn_r _ [627, 97, 98, 99, 100, 101, 102, 410, 411, 412, 5, 413, 87, 132, 133, 134, 135, 136, 137, 138, 90, 346, 347, 348, 349, 131, 91, 92, 350, 351, 352, 353, 402, 403, 404, 405, 406, 407, 408, 409, 93, 414, 415, 416, 417, 418, 419, 94, 95, 96, 420, 421, 422, 423, 424, 425, 426, 427, 428, 429, 430, 431, 432, 433, 434, 435, 358, 359, 360, 361, 362, 363, 364, 365, 366, 367, 368, 369, 370, 371, 372, 373, 436, 437, 438, 439, 628, 629, 630, 631, 870, 871, 872, 873, 874, 875, 876, 877, 878, 879, 880, 881, 882, 883, 884, 885, 886, 887, 888, 889, 890, 891, 892, 893, 894, 895, 896, 897, 898, 899, 900, 901, 902, 903] (by decide +kernel) (by decide +kernel)
set_option maxRecDepth 20000 in
theorem gL_law_X8_way : GoodIn wsL_law (wsV RL 56 RX8 yX8_way wsX8_way) := goodIn_app (goodIn_of _ (by decide +kernel)) ggL_law_X8_way
set_option maxRecDepth 20000 in
theorem ggL_law_X7_looks : GoodIn wsL_law wsX7_looks := goodIn_r _ [635, 23, 15, 19, 31, 619, 620, 621, 622, 636, 637, 638, 22, 639, 49, 275, 115, 116, 117, 2, 118, 119, 120, 121, 153, 154, 155, 14, 156, 126, 157, 158, 159, 160, 161, 162, 163, 18, 164, 41, 165, 166, 167, 168, 169, 36, 170, 171, 172, 173, 174, 175, 640, 194, 195, 196, 58, 197, 198, 199, 200, 201, 202, 186, 187, 183, 188, 203, 185, 204, 205, 206, 207, 208, 52, 209, 210, 211, 48, 212, 213, 67, 214, 215, 216, 57, 217, 218, 219, 220, 221, 222, 223, 224, 225, 226, 227, 72, 228, 229, 230, 231, 232, 233, 234, 235, 236, 237, 238, 239, 240, 241, 242, 243, 244, 245, 246, 247, 51, 248, 249, 250, 251, 66, 252, 253, 254, 255, 256, 257, 258, 259, 260, 261, 262, 263, 264, 265, 862, 863, 864, 865, 866, 867, 868, 869, 918, 919, 920, 921, 922, 923, 908, 909, 910, 911, 912, 913, 914, 924, 925, 926, 927, 928, 929, 904, 905, 906, 907, 930, 931, 932, 933, 934, 935, 936] (by decide +kernel) (by decide +kernel)
set_option maxRecDepth 20000 in
theorem gL_law_X7_looks : GoodIn wsL_law (wsV RL 57 RX7 yX7_looks wsX7_looks) := goodIn_app (goodIn_of _ (by decide +kernel)) ggL_law_X7_looks
set_option maxRecDepth 20000 in
theorem ggL_law_X8_looks : GoodIn wsL_law wsX8_looks := goodIn_r _ [644, 406, 407, 408, 409, 645, 646, 647, 5, 648, 580, 581, 582, 583, 87, 132, 133, 134, 135, 136, 137, 138, 90, 346, 347, 348, 349, 131, 91, 92, 350, 351, 352, 353, 649, 650, 651, 652, 410, 411, 412, 413, 653, 654, 655, 656, 628, 629, 630, 631, 414, 415, 416, 417, 418, 419, 93, 94, 95, 96, 420, 421, 422, 423, 424, 425, 426, 427, 428, 429, 430, 431, 432, 433, 434, 435, 358, 359, 360, 361, 362, 363, 364, 365, 366, 367, 368, 369, 370, 371, 372, 373, 436, 437, 438, 439, 870, 871, 872, 873, 874, 875, 876, 877, 878, 879, 880, 881, 882, 883, 884, 885, 886, 887, 888, 889, 890, 891, 892, 893, 894, 895, 896, 897, 898, 899, 900, 901, 902, 903] (by decide +kernel) (by decide +kernel)
set_option maxRecDepth 20000 in
theorem gL_law_X8_looks : GoodIn wsL_law (wsV RL 60 RX8 yX8_looks wsX8_looks) := goodIn_app (goodIn_of _ (by decide +kernel)) ggL_law_X8_looks
set_option maxRecDepth 20000 in
theorem ggL_law_X7_begins : GoodIn wsL_law wsX7_begins := goodIn_r _ [660, 15, 19, 23, 151, 115, 116, 117, 2, 118, 119, 120, 121, 153, 154, 155, 14, 156, 126, 157, 158, 159, 160, 161, 162, 163, 18, 164, 41, 165, 166, 167, 168, 169, 36, 170, 171, 172, 173, 174, 175, 661, 662, 663, 48, 664, 291, 665, 293, 249, 250, 251, 66, 666, 253, 254, 255, 256, 257, 258, 259, 260, 261, 262, 263, 264, 667, 668, 669, 670, 176, 177, 178, 22, 179, 49, 180, 181, 182, 183, 184, 185, 186, 187, 188, 189, 190, 191, 192, 60, 193, 194, 195, 196, 58, 197, 198, 199, 200, 201, 202, 203, 204, 205, 206, 207, 208, 52, 209, 210, 211, 212, 213, 67, 214, 215, 216, 57, 217, 218, 219, 220, 221, 222, 223, 224, 225, 226, 227, 72, 228, 229, 230, 231, 232, 233, 234, 235, 236, 237, 238, 239, 240, 241, 242, 243, 244, 245, 246, 247, 51, 248, 252, 265, 266, 267, 268, 269, 270, 271, 272, 273, 274, 275, 276, 277, 278, 279, 862, 863, 864, 865, 866, 867, 868, 869, 908, 909, 910, 911, 912, 913, 914, 904, 905, 906, 907, 924, 925, 926, 927, 928, 929, 918, 919, 920, 921, 922, 923, 930, 931, 932, 933, 934, 935, 936] (by decide +kernel) (by decide +kernel)
set_option maxRecDepth 20000 in
theorem gL_law_X7_begins : GoodIn wsL_law (wsV RL 61 RX7 yX7_begins wsX7_begins) := goodIn_app (goodIn_of _ (by decide +kernel)) ggL_law_X7_begins
set_option maxRecDepth 20000 in
theorem ggL_law_X8_begins : GoodIn wsL_law wsX8_begins := goodIn_r _ [674, 87, 132, 133, 5, 134, 135, 136, 137, 138, 90, 346, 347, 348, 349, 131, 91, 92, 350, 351, 352, 353, 374, 375, 376, 377, 378, 379, 380, 381, 358, 359, 360, 361, 362, 363, 364, 365, 366, 367, 368, 369, 370, 371, 372, 373, 675, 676, 677, 678, 870, 871, 872, 873, 874, 875, 876, 877, 878, 879, 880, 881, 882, 883, 884, 885, 886, 887, 888, 889, 890, 891, 892, 893, 894, 895, 896, 897, 898, 899, 900, 901, 902, 903] (by decide +kernel) (by decide +kernel)
set_option maxRecDepth 20000 in
theorem gL_law_X8_begins : GoodIn wsL_law (wsV RL 64 RX8 yX8_begins wsX8_begins) := goodIn_app (goodIn_of _ (by decide +kernel)) ggL_law_X8_begins
set_option maxRecDepth 20000 in
theorem ggL_law_X7_between : GoodIn wsL_law wsX7_between := goodIn_r _ [682, 23, 151, 152, 15, 19, 115, 116, 117, 2, 118, 119, 120, 121, 153, 154, 155, 14, 156, 126, 157, 158, 159, 160, 161, 162, 163, 18, 164, 41, 165, 166, 167, 168, 169, 36, 170, 171, 172, 173, 174, 175, 667, 668, 669, 670, 176, 177, 178, 22, 179, 49, 180, 181, 182, 183, 184, 185, 186, 187, 188, 189, 190, 191, 192, 60, 193, 194, 195, 196, 58, 197, 198, 199, 200, 201, 202, 203, 204, 205, 206, 207, 208, 52, 209, 210, 211, 48, 212, 213, 67, 214, 215, 216, 57, 217, 218, 219, 220, 221, 222, 223, 224, 225, 226, 227, 72, 228, 229, 230, 231, 232, 233, 234, 235, 236, 237, 238, 239, 240, 241, 242, 243, 244, 245, 246, 247, 51, 248, 249, 250, 251, 66, 252, 253, 254, 255, 256, 257, 258, 259, 260, 261, 262, 263, 264, 265, 266, 267, 268, 269, 270, 271, 272, 273, 274, 275, 276, 277, 278, 279, 862, 863, 864, 865, 866, 867, 868, 869, 908, 909, 910, 911, 912, 913, 914, 924, 925, 926, 927, 928, 929, 904, 905, 906, 907, 918, 919, 920, 921, 922, 923, 930, 931, 932, 933, 934, 935, 936] (by decide +kernel) (by decide +kernel)
set_option maxRecDepth 20000 in
theorem gL_law_X7_between : GoodIn wsL_law (wsV RL 65 RX7 yX7_between wsX7_between) := goodIn_app (goodIn_of _ (by decide +kernel)) ggL_law_X7_between
set_option maxRecDepth 20000 in
theorem ggL_law_X8_between : GoodIn wsL_law wsX8_between := goodIn_r _ [686, 87, 687, 688, 689, 5, 690, 132, 133, 134, 135, 136, 137, 138, 90, 346, 347, 348, 349, 131, 91, 92, 350, 351, 352, 353, 378, 379, 380, 381, 358, 359, 360, 361, 362, 363, 364, 365, 366, 367, 368, 369, 370, 371, 372, 373, 870, 871, 872, 873, 874, 875, 876, 877, 878, 879, 880, 881, 882, 883, 884, 885, 886, 887, 888, 889, 890, 891, 892, 893, 894, 895, 896, 897, 898, 899, 900, 901, 902, 903] (by decide +kernel) (by decide +kernel)
set_option maxRecDepth 20000 in
theorem gL_law_X8_between : GoodIn wsL_law (wsV RL 68 RX8 yX8_between wsX8_between) := goodIn_app (goodIn_of _ (by decide +kernel)) ggL_law_X8_between
set_option maxRecDepth 20000 in
theorem ggL_law_X7_sign : GoodIn wsL_law wsX7_sign := goodIn_r _ [694, 23, 151, 152, 695, 115, 116, 117, 2, 118, 119, 120, 121, 696, 249, 250, 48, 251, 66, 697, 698, 699, 18, 700, 41, 862, 863, 864, 865, 866, 867, 868, 869, 908, 909, 910, 911, 912, 913, 914, 924, 925, 926, 927, 928, 929, 906, 907] (by decide +kernel) (by decide +kernel)
set_option maxRecDepth 20000 in
theorem gL_law_X7_sign : GoodIn wsL_law (wsV RL 69 RX7 yX7_sign wsX7_sign) := goodIn_app (goodIn_of _ (by decide +kernel)) ggL_law_X7_sign
set_option maxRecDepth 20000 in
theorem ggL_law_X8_sign : GoodIn wsL_law wsX8_sign := goodIn_r _ [704, 687, 688, 689, 5, 690, 87, 132, 133, 134, 135, 136, 137, 138, 90, 366, 367, 368, 369, 350, 370, 371, 372, 373, 92, 870, 871, 872, 873, 874, 875, 876, 877, 878, 879, 880, 881, 882, 883, 884, 885, 886, 887, 888, 889, 890, 891, 892, 893, 894, 895, 896, 897, 898, 899, 900, 901, 902, 903] (by decide +kernel) (by decide +kernel)
set_option maxRecDepth 20000 in
theorem gL_law_X8_sign : GoodIn wsL_law (wsV RL 72 RX8 yX8_sign wsX8_sign) := goodIn_app (goodIn_of _ (by decide +kernel)) ggL_law_X8_sign
set_option maxRecDepth 20000 in
theorem ggL_law_X7_parts : GoodIn wsL_law wsX7_parts := goodIn_r _ [708, 23, 151, 152, 115, 116, 117, 2, 118, 119, 120, 121, 696, 249, 250, 48, 251, 66, 709, 253, 254, 18, 255, 41, 256, 257, 258, 259, 260, 261, 262, 263, 264, 862, 863, 864, 865, 866, 867, 868, 869, 908, 909, 910, 911, 912, 913, 914, 924, 925, 926, 927, 928, 929, 906, 907] (by decide +kernel) (by decide +kernel)
set_option maxRecDepth 20000 in
theorem gL_law_X7_parts : GoodIn wsL_law (wsV RL 73 RX7 yX7_parts wsX7_parts) := goodIn_app (goodIn_of _ (by decide +kernel)) ggL_law_X7_parts
set_option maxRecDepth 20000 in
theorem ggL_law_X8_parts : GoodIn wsL_law wsX8_parts := goodIn_r _ [713, 87, 687, 688, 689, 5, 690, 132, 133, 134, 358, 359, 360, 361, 362, 363, 364, 365, 366, 367, 368, 369, 350, 370, 371, 372, 373, 92, 135, 136, 137, 138, 90, 870, 871, 872, 873, 874, 875, 876, 877, 878, 879, 880, 881, 882, 883, 884, 885, 886, 887, 888, 889, 890, 891, 892, 893, 894, 895, 896, 897, 898, 899, 900, 901, 902, 903] (by decide +kernel) (by decide +kernel)
set_option maxRecDepth 20000 in
theorem gL_law_X8_parts : GoodIn wsL_law (wsV RL 76 RX8 yX8_parts wsX8_parts) := goodIn_app (goodIn_of _ (by decide +kernel)) ggL_law_X8_parts
set_option maxRecDepth 20000 in
theorem ggL_law_X7_page : GoodIn wsL_law wsX7_page := goodIn_r _ [717, 23, 636, 637, 638, 22, 639, 49, 275, 115, 116, 117, 2, 118, 119, 120, 121, 718, 719, 720, 721, 54, 334, 335, 336, 337, 53, 209, 210, 211, 48, 212, 213, 67, 722, 723, 724, 725, 325, 244, 245, 246, 247, 51, 726, 727, 728, 729, 58, 730, 186, 187, 183, 188, 205, 206, 207, 208, 52, 214, 215, 216, 57, 217, 218, 219, 220, 221, 222, 223, 224, 225, 226, 227, 72, 731, 732, 733, 734, 236, 237, 238, 239, 735, 736, 737, 738, 202, 248, 249, 250, 251, 66, 240, 241, 242, 243, 862, 863, 864, 865, 866, 867, 868, 869, 908, 909, 910, 911, 912, 913, 914, 924, 925, 926, 927, 928, 929, 930, 931, 932, 933, 934, 935, 936, 906, 907] (by decide +kernel) (by decide +kernel)
set_option maxRecDepth 20000 in
theorem gL_law_X7_page : GoodIn wsL_law (wsV RL 77 RX7 yX7_page wsX7_page) := goodIn_app (goodIn_of _ (by decide +kernel)) ggL_law_X7_page
set_option maxRecDepth 20000 in
theorem ggL_law_X8_page : GoodIn wsL_law wsX8_page := goodIn_r _ [742, 645, 646, 647, 5, 648, 580, 581, 582, 583, 87, 132, 133, 134, 649, 650, 651, 652, 410, 411, 412, 413, 653, 654, 655, 656, 628, 629, 630, 631, 743, 744, 745, 746, 747, 424, 425, 426, 427, 748, 749, 750, 751, 432, 433, 434, 435, 428, 429, 430, 431, 440, 441, 442, 443, 752, 753, 754, 755, 756, 419, 107, 108, 109, 93, 103, 104, 105, 106, 420, 421, 422, 423, 757, 758, 759, 760, 358, 359, 360, 361, 362, 363, 364, 365, 366, 367, 368, 369, 350, 370, 371, 372, 373, 92, 436, 437, 438, 439, 761, 762, 763, 764, 135, 136, 137, 138, 90, 870, 871, 872, 873, 874, 875, 876, 877, 878, 879, 880, 881, 882, 883, 884, 885, 886, 887, 888, 889, 890, 891, 892, 893, 894, 895, 896, 897, 898, 899, 900, 901, 902, 903] (by decide +kernel) (by decide +kernel)
set_option maxRecDepth 20000 in
theorem gL_law_X8_page : GoodIn wsL_law (wsV RL 80 RX8 yX8_page wsX8_page) := goodIn_app (goodIn_of _ (by decide +kernel)) ggL_law_X8_page
set_option maxRecDepth 20000 in
theorem ggL_law_X7_fork : GoodIn wsL_law wsX7_fork := goodIn_r _ [768, 23, 151, 636, 637, 638, 22, 639, 49, 275, 115, 116, 117, 2, 118, 119, 120, 121, 769, 210, 211, 48, 212, 213, 67, 770, 771, 772, 773, 58, 774, 775, 197, 204, 730, 205, 206, 207, 208, 52, 209, 214, 215, 216, 57, 217, 218, 219, 220, 221, 222, 223, 224, 225, 226, 227, 72, 731, 732, 733, 734, 236, 237, 238, 239, 862, 863, 864, 865, 866, 867, 868, 869, 908, 909, 910, 911, 912, 913, 914, 924, 925, 926, 927, 928, 929, 930, 931, 932, 933, 934, 935, 936] (by decide +kernel) (by decide +kernel)
set_option maxRecDepth 20000 in
theorem gL_law_X7_fork : GoodIn wsL_law (wsV RL 81 RX7 yX7_fork wsX7_fork) := goodIn_app (goodIn_of _ (by decide +kernel)) ggL_law_X7_fork
set_option maxRecDepth 20000 in
theorem ggL_law_X8_fork : GoodIn wsL_law wsX8_fork := goodIn_r _ [779, 756, 645, 646, 647, 5, 648, 580, 581, 582, 583, 87, 132, 133, 134, 135, 136, 137, 138, 90, 649, 650, 651, 652, 410, 411, 412, 413, 653, 654, 655, 656, 628, 629, 630, 631, 752, 753, 754, 755, 747, 419, 107, 108, 109, 93, 103, 104, 105, 106, 420, 421, 422, 423, 424, 425, 426, 427, 428, 429, 430, 431, 432, 433, 434, 435, 757, 758, 759, 760, 358, 359, 360, 361, 362, 363, 364, 365, 366, 367, 368, 369, 350, 370, 371, 372, 373, 92, 436, 437, 438, 439, 780, 781, 782, 783, 870, 871, 872, 873, 874, 875, 876, 877, 878, 879, 880, 881, 882, 883, 884, 885, 886, 887, 888, 889, 890, 891, 892, 893, 894, 895, 896, 897, 898, 899, 900, 901, 902, 903] (by decide +kernel) (by decide +kernel)
set_option maxRecDepth 20000 in
theorem gL_law_X8_fork : GoodIn wsL_law (wsV RL 85 RX8 yX8_fork wsX8_fork) := goodIn_app (goodIn_of _ (by decide +kernel)) ggL_law_X8_fork
set_option maxRecDepth 20000 in
theorem ggL_law_X7_all : GoodIn wsL_law wsX7_all := goodIn_r _ [787, 23, 115, 116, 117, 2, 118, 119, 120, 121, 788, 789, 790, 22, 791, 49, 325, 275, 180, 316, 792, 793, 794, 795, 186, 187, 183, 188, 248, 249, 250, 48, 251, 66, 507, 177, 178, 179, 181, 182, 184, 185, 189, 190, 191, 192, 60, 193, 194, 195, 196, 58, 197, 198, 199, 200, 201, 202, 203, 204, 205, 206, 207, 208, 52, 209, 210, 211, 212, 213, 67, 214, 215, 216, 57, 217, 218, 219, 220, 221, 222, 223, 224, 225, 226, 227, 72, 228, 229, 230, 231, 232, 233, 234, 18, 235, 41, 236, 237, 238, 239, 240, 241, 242, 243, 244, 245, 246, 247, 51, 252, 253, 254, 255, 256, 257, 258, 259, 260, 261, 262, 263, 264, 265, 266, 267, 268, 269, 165, 270, 796, 601, 602, 603, 797, 798, 799, 800, 862, 863, 864, 865, 866, 867, 868, 869, 908, 909, 910, 911, 912, 913, 914, 924, 925, 926, 927, 928, 929, 918, 919, 920, 921, 922, 923, 930, 931, 932, 933, 934, 935, 936, 906, 907] (by decide +kernel) (by decide +kernel)
set_option maxRecDepth 20000 in
theorem gL_law_X7_all : GoodIn wsL_law (wsV RL 86 RX7 yX7_all wsX7_all) := goodIn_app (goodIn_of _ (by decide +kernel)) ggL_law_X7_all
set_option maxRecDepth 20000 in
theorem ggL_law_X8_all : GoodIn wsL_law wsX8_all := goodIn_r _ [804, 132, 133, 5, 134, 805, 806, 807, 808, 87, 580, 581, 582, 583, 809, 810, 811, 812, 350, 92, 366, 367, 368, 369, 370, 371, 372, 373, 608, 609, 610, 611, 101, 402, 403, 404, 405, 97, 98, 99, 406, 100, 407, 408, 102, 409, 93, 410, 411, 412, 413, 414, 415, 416, 417, 418, 419, 94, 95, 96, 420, 421, 422, 423, 424, 425, 426, 427, 428, 429, 430, 431, 432, 433, 434, 435, 358, 359, 360, 361, 362, 363, 364, 365, 436, 437, 438, 439, 813, 814, 815, 816, 135, 136, 137, 138, 90, 870, 871, 872, 873, 874, 875, 876, 877, 878, 879, 880, 881, 882, 883, 884, 885, 886, 887, 888, 889, 890, 891, 892, 893, 894, 895, 896, 897, 898, 899, 900, 901, 902, 903] (by decide +kernel) (by decide +kernel)
set_option maxRecDepth 20000 in
theorem gL_law_X8_all : GoodIn wsL_law (wsV RL 89 RX8 yX8_all wsX8_all) := goodIn_app (goodIn_of _ (by decide +kernel)) ggL_law_X8_all
set_option maxRecDepth 20000 in
theorem ggL_law_X7_back : GoodIn wsL_law wsX7_back := goodIn_r _ [820, 27, 821, 23, 151, 115, 116, 117, 2, 118, 119, 120, 121, 822, 823, 824, 26, 825, 284, 81, 285, 287, 288, 289, 48, 290, 291, 66, 213, 67, 292, 68, 293, 249, 250, 251, 294, 295, 296, 18, 297, 41, 165, 298, 210, 211, 212, 571, 322, 323, 22, 324, 49, 275, 325, 58, 326, 327, 328, 329, 54, 52, 209, 330, 331, 332, 333, 51, 181, 182, 183, 184, 53, 205, 206, 207, 208, 244, 245, 246, 247, 334, 335, 336, 337, 240, 241, 242, 243, 248, 252, 253, 254, 255, 256, 257, 258, 259, 260, 261, 262, 263, 264, 338, 339, 340, 57, 341, 72, 862, 863, 864, 865, 866, 867, 868, 869, 915, 916, 917, 908, 909, 910, 911, 912, 913, 914, 924, 925, 926, 927, 928, 929, 906, 907, 930, 931, 932, 933, 934, 935, 936] (by decide +kernel) (by decide +kernel)
set_option maxRecDepth 20000 in
theorem gL_law_X7_back : GoodIn wsL_law (wsV RL 90 RX7 yX7_back wsX7_back) := goodIn_app (goodIn_of _ (by decide +kernel)) ggL_law_X7_back
set_option maxRecDepth 20000 in
theorem ggL_law_X8_back : GoodIn wsL_law wsX8_back := goodIn_r _ [829, 452, 87, 88, 135, 136, 137, 5, 138, 90, 870, 871, 872, 873, 874, 875, 876, 877, 878, 879, 880, 881, 882, 883, 884, 885, 886, 887, 888, 889, 890, 891, 892, 893, 894, 895, 896, 897, 898, 899, 900, 901, 902, 903] (by decide +kernel) (by decide +kernel)
set_option maxRecDepth 20000 in
theorem gL_law_X8_back : GoodIn wsL_law (wsV RL 93 RX8 yX8_back wsX8_back) := goodIn_app (goodIn_of _ (by decide +kernel)) ggL_law_X8_back
set_option maxRecDepth 20000 in
theorem ggL_law_X7_told : GoodIn wsL_law wsX7_told := goodIn_r _ [833, 115, 116, 117, 2, 118, 119, 120, 121, 834, 835, 836, 837, 15, 114, 27, 821, 862, 863, 864, 865, 866, 867, 868, 869, 904, 905, 915, 916, 917] (by decide +kernel) (by decide +kernel)
set_option maxRecDepth 20000 in
theorem gL_law_X7_told : GoodIn wsL_law (wsV RL 94 RX7 yX7_told wsX7_told) := goodIn_app (goodIn_of _ (by decide +kernel)) ggL_law_X7_told
set_option maxRecDepth 20000 in
theorem ggL_law_X8_told : GoodIn wsL_law wsX8_told := goodIn_r _ [841, 132, 133, 5, 134, 842, 843, 844, 845, 90, 131, 452, 135, 136, 137, 138, 870, 871, 872, 873, 874, 875, 876, 877, 878, 879, 880, 881, 882, 883, 884, 885, 886, 887, 888, 889, 890, 891, 892, 893, 894, 895, 896, 897, 898, 899, 900, 901, 902, 903] (by decide +kernel) (by decide +kernel)
set_option maxRecDepth 20000 in
theorem gL_law_X8_told : GoodIn wsL_law (wsV RL 97 RX8 yX8_told wsX8_told) := goodIn_app (goodIn_of _ (by decide +kernel)) ggL_law_X8_told
set_option maxRecDepth 20000 in
theorem ggL_law_X7_digest : GoodIn wsL_law wsX7_digest := goodIn_r _ [849, 850, 851, 23, 151, 152, 695, 834, 835, 836, 2, 837, 119, 120, 121, 15, 114, 27, 821, 788, 789, 790, 22, 791, 49, 325, 275, 180, 316, 792, 793, 794, 795, 186, 187, 183, 188, 248, 249, 250, 48, 251, 66, 507, 177, 178, 179, 181, 182, 184, 185, 189, 190, 191, 192, 60, 193, 194, 195, 196, 58, 197, 198, 199, 200, 201, 202, 203, 204, 205, 206, 207, 208, 52, 209, 210, 211, 212, 213, 67, 214, 215, 216, 57, 217, 218, 219, 220, 221, 222, 223, 224, 225, 226, 227, 72, 228, 229, 230, 231, 232, 233, 234, 18, 235, 41, 236, 237, 238, 239, 240, 241, 242, 243, 244, 245, 246, 247, 51, 252, 253, 254, 255, 256, 257, 258, 259, 260, 261, 262, 263, 264, 265, 266, 267, 268, 269, 165, 270, 796, 601, 602, 603, 797, 798, 799, 800, 852, 853, 854, 855, 561, 718, 719, 720, 721, 54, 334, 335, 336, 337, 53, 722, 723, 724, 725, 726, 727, 728, 729, 730, 731, 732, 733, 734, 735, 736, 737, 738, 769, 770, 771, 772, 773, 774, 775, 696, 697, 698, 699, 700, 862, 863, 864, 865, 866, 867, 868, 869, 908, 909, 910, 911, 912, 913, 914, 924, 925, 926, 927, 928, 929, 906, 907, 904, 905, 915, 916, 917, 918, 919, 920, 921, 922, 923, 930, 931, 932, 933, 934, 935, 936] (by decide +kernel) (by decide +kernel)
set_option maxRecDepth 20000 in
theorem gL_law_X7_digest : GoodIn wsL_law (wsV RL 98 RX7 yX7_digest wsX7_digest) := goodIn_app (goodIn_of _ (by decide +kernel)) ggL_law_X7_digest
set_option maxRecDepth 20000 in
theorem ggL_law_X8_digest : GoodIn wsL_law wsX8_digest := goodIn_r _ [859, 860, 861, 756, 87, 842, 843, 844, 5, 845, 90, 131, 452, 805, 806, 807, 808, 580, 581, 582, 583, 809, 810, 811, 812, 350, 92, 366, 367, 368, 369, 370, 371, 372, 373, 608, 609, 610, 611, 101, 402, 403, 404, 405, 97, 98, 99, 406, 100, 407, 408, 102, 409, 93, 410, 411, 412, 413, 414, 415, 416, 417, 418, 419, 94, 95, 96, 420, 421, 422, 423, 424, 425, 426, 427, 428, 429, 430, 431, 432, 433, 434, 435, 358, 359, 360, 361, 362, 363, 364, 365, 436, 437, 438, 439, 813, 814, 815, 816, 649, 650, 651, 652, 653, 654, 655, 656, 628, 629, 630, 631, 743, 744, 745, 746, 747, 748, 749, 750, 751, 440, 441, 442, 443, 752, 753, 754, 755, 107, 108, 109, 103, 104, 105, 106, 757, 758, 759, 760, 761, 762, 763, 764, 780, 781, 782, 783, 870, 871, 872, 873, 874, 875, 876, 877, 878, 879, 880, 881, 882, 883, 884, 885, 886, 887, 888, 889, 890, 891, 892, 893, 894, 895, 896, 897, 898, 899, 900, 901, 902, 903] (by decide +kernel) (by decide +kernel)
set_option maxRecDepth 20000 in
theorem gL_law_X8_digest : GoodIn wsL_law (wsV RL 102 RX8 yX8_digest wsX8_digest) := goodIn_app (goodIn_of _ (by decide +kernel)) ggL_law_X8_digest
theorem dL_law_0 : decode cL_law 0 = .ok (.new 7, 3) := by decide +kernel
theorem dL_law_3 : decode cL_law 3 = .ok (.dup, 1) := by decide +kernel
theorem dL_law_4 : decode cL_law 4 = .ok (.invokespecial 9, 3) := by decide +kernel
theorem dL_law_7 : decode cL_law 7 = .ok (.astore_n 1, 1) := by decide +kernel
theorem dL_law_8 : decode cL_law 8 = .ok (.new 10, 3) := by decide +kernel
theorem dL_law_11 : decode cL_law 11 = .ok (.dup, 1) := by decide +kernel
theorem dL_law_12 : decode cL_law 12 = .ok (.invokespecial 12, 3) := by decide +kernel
theorem dL_law_15 : decode cL_law 15 = .ok (.astore_n 2, 1) := by decide +kernel
theorem dL_law_16 : decode cL_law 16 = .ok (.iconst 0, 1) := by decide +kernel
theorem dL_law_17 : decode cL_law 17 = .ok (.istore_n 3, 1) := by decide +kernel
theorem dL_law_18 : decode cL_law 18 = .ok (.iload_n 3, 1) := by decide +kernel
theorem dL_law_19 : decode cL_law 19 = .ok (.aload_n 0, 1) := by decide +kernel
theorem dL_law_20 : decode cL_law 20 = .ok (.arraylength, 1) := by decide +kernel
theorem dL_law_21 : decode cL_law 21 = .ok (.iconst 5, 1) := by decide +kernel
theorem dL_law_22 : decode cL_law 22 = .ok (.isub, 1) := by decide +kernel
theorem dL_law_23 : decode cL_law 23 = .ok (.if_icmp .gt 619, 3) := by decide +kernel
theorem dL_law_26 : decode cL_law 26 = .ok (.aload_n 0, 1) := by decide +kernel
theorem dL_law_27 : decode cL_law 27 = .ok (.iload_n 3, 1) := by decide +kernel
theorem dL_law_28 : decode cL_law 28 = .ok (.iaload, 1) := by decide +kernel
theorem dL_law_29 : decode cL_law 29 = .ok (.bipush 31, 2) := by decide +kernel
theorem dL_law_31 : decode cL_law 31 = .ok (.iand, 1) := by decide +kernel
theorem dL_law_32 : decode cL_law 32 = .ok (.tableswitch 604 0 20 #[100, 123, 136, 149, 162, 175, 228, 251, 264, 287, 320, 353, 376, 399, 432, 455, 488, 531, 554, 567, 590], 100) := by decide +kernel
theorem dL_law_132 : decode cL_law 132 = .ok (.aload_n 1, 1) := by decide +kernel
theorem dL_law_133 : decode cL_law 133 = .ok (.aload_n 0, 1) := by decide +kernel
theorem dL_law_134 : decode cL_law 134 = .ok (.iload_n 3, 1) := by decide +kernel
theorem dL_law_135 : decode cL_law 135 = .ok (.iconst 1, 1) := by decide +kernel
theorem dL_law_136 : decode cL_law 136 = .ok (.iadd, 1) := by decide +kernel
theorem dL_law_137 : decode cL_law 137 = .ok (.iaload, 1) := by decide +kernel
theorem dL_law_138 : decode cL_law 138 = .ok (.invokevirtual 13, 3) := by decide +kernel
theorem dL_law_141 : decode cL_law 141 = .ok (.aload_n 2, 1) := by decide +kernel
theorem dL_law_142 : decode cL_law 142 = .ok (.aload_n 0, 1) := by decide +kernel
theorem dL_law_143 : decode cL_law 143 = .ok (.iload_n 3, 1) := by decide +kernel
theorem dL_law_144 : decode cL_law 144 = .ok (.iconst 1, 1) := by decide +kernel
theorem dL_law_145 : decode cL_law 145 = .ok (.iadd, 1) := by decide +kernel
theorem dL_law_146 : decode cL_law 146 = .ok (.iaload, 1) := by decide +kernel
theorem dL_law_147 : decode cL_law 147 = .ok (.invokevirtual 17, 3) := by decide +kernel
theorem dL_law_150 : decode cL_law 150 = .ok (.if_icmp .eq 486, 3) := by decide +kernel
theorem dL_law_153 : decode cL_law 153 = .ok (.iconst 0, 1) := by decide +kernel
theorem dL_law_154 : decode cL_law 154 = .ok (.ireturn, 1) := by decide +kernel
theorem dL_law_155 : decode cL_law 155 = .ok (.aload_n 1, 1) := by decide +kernel
theorem dL_law_156 : decode cL_law 156 = .ok (.invokevirtual 18, 3) := by decide +kernel
theorem dL_law_159 : decode cL_law 159 = .ok (.aload_n 2, 1) := by decide +kernel
theorem dL_law_160 : decode cL_law 160 = .ok (.invokevirtual 22, 3) := by decide +kernel
theorem dL_law_163 : decode cL_law 163 = .ok (.if_icmp .eq 473, 3) := by decide +kernel
theorem dL_law_166 : decode cL_law 166 = .ok (.iconst 0, 1) := by decide +kernel
theorem dL_law_167 : decode cL_law 167 = .ok (.ireturn, 1) := by decide +kernel
theorem dL_law_168 : decode cL_law 168 = .ok (.aload_n 1, 1) := by decide +kernel
theorem dL_law_169 : decode cL_law 169 = .ok (.invokevirtual 23, 3) := by decide +kernel
theorem dL_law_172 : decode cL_law 172 = .ok (.aload_n 2, 1) := by decide +kernel
theorem dL_law_173 : decode cL_law 173 = .ok (.invokevirtual 26, 3) := by decide +kernel
theorem dL_law_176 : decode cL_law 176 = .ok (.if_icmp .eq 460, 3) := by decide +kernel
theorem dL_law_179 : decode cL_law 179 = .ok (.iconst 0, 1) := by decide +kernel
theorem dL_law_180 : decode cL_law 180 = .ok (.ireturn, 1) := by decide +kernel
theorem dL_law_181 : decode cL_law 181 = .ok (.aload_n 1, 1) := by decide +kernel
theorem dL_law_182 : decode cL_law 182 = .ok (.invokevirtual 27, 3) := by decide +kernel
theorem dL_law_185 : decode cL_law 185 = .ok (.aload_n 2, 1) := by decide +kernel
theorem dL_law_186 : decode cL_law 186 = .ok (.invokevirtual 30, 3) := by decide +kernel
theorem dL_law_189 : decode cL_law 189 = .ok (.if_icmp .eq 447, 3) := by decide +kernel
theorem dL_law_192 : decode cL_law 192 = .ok (.iconst 0, 1) := by decide +kernel
theorem dL_law_193 : decode cL_law 193 = .ok (.ireturn, 1) := by decide +kernel
theorem dL_law_194 : decode cL_law 194 = .ok (.aload_n 1, 1) := by decide +kernel
theorem dL_law_195 : decode cL_law 195 = .ok (.invokevirtual 31, 3) := by decide +kernel
theorem dL_law_198 : decode cL_law 198 = .ok (.aload_n 2, 1) := by decide +kernel
theorem dL_law_199 : decode cL_law 199 = .ok (.invokevirtual 34, 3) := by decide +kernel
theorem dL_law_202 : decode cL_law 202 = .ok (.if_icmp .eq 434, 3) := by decide +kernel
theorem dL_law_205 : decode cL_law 205 = .ok (.iconst 0, 1) := by decide +kernel
theorem dL_law_206 : decode cL_law 206 = .ok (.ireturn, 1) := by decide +kernel
theorem dL_law_207 : decode cL_law 207 = .ok (.aload_n 1, 1) := by decide +kernel
theorem dL_law_208 : decode cL_law 208 = .ok (.aload_n 0, 1) := by decide +kernel
theorem dL_law_209 : decode cL_law 209 = .ok (.iload_n 3, 1) := by decide +kernel
theorem dL_law_210 : decode cL_law 210 = .ok (.iconst 1, 1) := by decide +kernel
theorem dL_law_211 : decode cL_law 211 = .ok (.iadd, 1) := by decide +kernel
theorem dL_law_212 : decode cL_law 212 = .ok (.iaload, 1) := by decide +kernel
theorem dL_law_213 : decode cL_law 213 = .ok (.aload_n 0, 1) := by decide +kernel
theorem dL_law_214 : decode cL_law 214 = .ok (.iload_n 3, 1) := by decide +kernel
theorem dL_law_215 : decode cL_law 215 = .ok (.iconst 2, 1) := by decide +kernel
theorem dL_law_216 : decode cL_law 216 = .ok (.iadd, 1) := by decide +kernel
theorem dL_law_217 : decode cL_law 217 = .ok (.iaload, 1) := by decide +kernel
theorem dL_law_218 : decode cL_law 218 = .ok (.aload_n 0, 1) := by decide +kernel
theorem dL_law_219 : decode cL_law 219 = .ok (.iload_n 3, 1) := by decide +kernel
theorem dL_law_220 : decode cL_law 220 = .ok (.iconst 3, 1) := by decide +kernel
theorem dL_law_221 : decode cL_law 221 = .ok (.iadd, 1) := by decide +kernel
theorem dL_law_222 : decode cL_law 222 = .ok (.iaload, 1) := by decide +kernel
theorem dL_law_223 : decode cL_law 223 = .ok (.aload_n 0, 1) := by decide +kernel
theorem dL_law_224 : decode cL_law 224 = .ok (.iload_n 3, 1) := by decide +kernel
theorem dL_law_225 : decode cL_law 225 = .ok (.iconst 4, 1) := by decide +kernel
theorem dL_law_226 : decode cL_law 226 = .ok (.iadd, 1) := by decide +kernel
theorem dL_law_227 : decode cL_law 227 = .ok (.iaload, 1) := by decide +kernel
theorem dL_law_228 : decode cL_law 228 = .ok (.invokevirtual 35, 3) := by decide +kernel
theorem dL_law_231 : decode cL_law 231 = .ok (.aload_n 2, 1) := by decide +kernel
theorem dL_law_232 : decode cL_law 232 = .ok (.aload_n 0, 1) := by decide +kernel
theorem dL_law_233 : decode cL_law 233 = .ok (.iload_n 3, 1) := by decide +kernel
theorem dL_law_234 : decode cL_law 234 = .ok (.iconst 1, 1) := by decide +kernel
theorem dL_law_235 : decode cL_law 235 = .ok (.iadd, 1) := by decide +kernel
theorem dL_law_236 : decode cL_law 236 = .ok (.iaload, 1) := by decide +kernel
theorem dL_law_237 : decode cL_law 237 = .ok (.aload_n 0, 1) := by decide +kernel
theorem dL_law_238 : decode cL_law 238 = .ok (.iload_n 3, 1) := by decide +kernel
theorem dL_law_239 : decode cL_law 239 = .ok (.iconst 2, 1) := by decide +kernel
theorem dL_law_240 : decode cL_law 240 = .ok (.iadd, 1) := by decide +kernel
theorem dL_law_241 : decode cL_law 241 = .ok (.iaload, 1) := by decide +kernel
theorem dL_law_242 : decode cL_law 242 = .ok (.aload_n 0, 1) := by decide +kernel
theorem dL_law_243 : decode cL_law 243 = .ok (.iload_n 3, 1) := by decide +kernel
theorem dL_law_244 : decode cL_law 244 = .ok (.iconst 3, 1) := by decide +kernel
theorem dL_law_245 : decode cL_law 245 = .ok (.iadd, 1) := by decide +kernel
theorem dL_law_246 : decode cL_law 246 = .ok (.iaload, 1) := by decide +kernel
theorem dL_law_247 : decode cL_law 247 = .ok (.aload_n 0, 1) := by decide +kernel
theorem dL_law_248 : decode cL_law 248 = .ok (.iload_n 3, 1) := by decide +kernel
theorem dL_law_249 : decode cL_law 249 = .ok (.iconst 4, 1) := by decide +kernel
theorem dL_law_250 : decode cL_law 250 = .ok (.iadd, 1) := by decide +kernel
theorem dL_law_251 : decode cL_law 251 = .ok (.iaload, 1) := by decide +kernel
theorem dL_law_252 : decode cL_law 252 = .ok (.invokevirtual 39, 3) := by decide +kernel
theorem dL_law_255 : decode cL_law 255 = .ok (.if_icmp .eq 381, 3) := by decide +kernel
theorem dL_law_258 : decode cL_law 258 = .ok (.iconst 0, 1) := by decide +kernel
theorem dL_law_259 : decode cL_law 259 = .ok (.ireturn, 1) := by decide +kernel
theorem dL_law_260 : decode cL_law 260 = .ok (.aload_n 1, 1) := by decide +kernel
theorem dL_law_261 : decode cL_law 261 = .ok (.aload_n 0, 1) := by decide +kernel
theorem dL_law_262 : decode cL_law 262 = .ok (.iload_n 3, 1) := by decide +kernel
theorem dL_law_263 : decode cL_law 263 = .ok (.iconst 1, 1) := by decide +kernel
theorem dL_law_264 : decode cL_law 264 = .ok (.iadd, 1) := by decide +kernel
theorem dL_law_265 : decode cL_law 265 = .ok (.iaload, 1) := by decide +kernel
theorem dL_law_266 : decode cL_law 266 = .ok (.invokevirtual 40, 3) := by decide +kernel
theorem dL_law_269 : decode cL_law 269 = .ok (.aload_n 2, 1) := by decide +kernel
theorem dL_law_270 : decode cL_law 270 = .ok (.aload_n 0, 1) := by decide +kernel
theorem dL_law_271 : decode cL_law 271 = .ok (.iload_n 3, 1) := by decide +kernel
theorem dL_law_272 : decode cL_law 272 = .ok (.iconst 1, 1) := by decide +kernel
theorem dL_law_273 : decode cL_law 273 = .ok (.iadd, 1) := by decide +kernel
theorem dL_law_274 : decode cL_law 274 = .ok (.iaload, 1) := by decide +kernel
theorem dL_law_275 : decode cL_law 275 = .ok (.invokevirtual 43, 3) := by decide +kernel
theorem dL_law_278 : decode cL_law 278 = .ok (.if_icmp .eq 358, 3) := by decide +kernel
theorem dL_law_281 : decode cL_law 281 = .ok (.iconst 0, 1) := by decide +kernel
theorem dL_law_282 : decode cL_law 282 = .ok (.ireturn, 1) := by decide +kernel
theorem dL_law_283 : decode cL_law 283 = .ok (.aload_n 1, 1) := by decide +kernel
theorem dL_law_284 : decode cL_law 284 = .ok (.invokevirtual 44, 3) := by decide +kernel
theorem dL_law_287 : decode cL_law 287 = .ok (.aload_n 2, 1) := by decide +kernel
theorem dL_law_288 : decode cL_law 288 = .ok (.invokevirtual 47, 3) := by decide +kernel
theorem dL_law_291 : decode cL_law 291 = .ok (.if_icmp .eq 345, 3) := by decide +kernel
theorem dL_law_294 : decode cL_law 294 = .ok (.iconst 0, 1) := by decide +kernel
theorem dL_law_295 : decode cL_law 295 = .ok (.ireturn, 1) := by decide +kernel
theorem dL_law_296 : decode cL_law 296 = .ok (.aload_n 1, 1) := by decide +kernel
theorem dL_law_297 : decode cL_law 297 = .ok (.aload_n 0, 1) := by decide +kernel
theorem dL_law_298 : decode cL_law 298 = .ok (.iload_n 3, 1) := by decide +kernel
theorem dL_law_299 : decode cL_law 299 = .ok (.iconst 1, 1) := by decide +kernel
theorem dL_law_300 : decode cL_law 300 = .ok (.iadd, 1) := by decide +kernel
theorem dL_law_301 : decode cL_law 301 = .ok (.iaload, 1) := by decide +kernel
theorem dL_law_302 : decode cL_law 302 = .ok (.invokevirtual 48, 3) := by decide +kernel
theorem dL_law_305 : decode cL_law 305 = .ok (.aload_n 2, 1) := by decide +kernel
theorem dL_law_306 : decode cL_law 306 = .ok (.aload_n 0, 1) := by decide +kernel
theorem dL_law_307 : decode cL_law 307 = .ok (.iload_n 3, 1) := by decide +kernel
theorem dL_law_308 : decode cL_law 308 = .ok (.iconst 1, 1) := by decide +kernel
theorem dL_law_309 : decode cL_law 309 = .ok (.iadd, 1) := by decide +kernel
theorem dL_law_310 : decode cL_law 310 = .ok (.iaload, 1) := by decide +kernel
theorem dL_law_311 : decode cL_law 311 = .ok (.invokevirtual 51, 3) := by decide +kernel
theorem dL_law_314 : decode cL_law 314 = .ok (.if_icmp .eq 322, 3) := by decide +kernel
theorem dL_law_317 : decode cL_law 317 = .ok (.iconst 0, 1) := by decide +kernel
theorem dL_law_318 : decode cL_law 318 = .ok (.ireturn, 1) := by decide +kernel
theorem dL_law_319 : decode cL_law 319 = .ok (.aload_n 1, 1) := by decide +kernel
theorem dL_law_320 : decode cL_law 320 = .ok (.aload_n 0, 1) := by decide +kernel
theorem dL_law_321 : decode cL_law 321 = .ok (.iload_n 3, 1) := by decide +kernel
theorem dL_law_322 : decode cL_law 322 = .ok (.iconst 1, 1) := by decide +kernel
theorem dL_law_323 : decode cL_law 323 = .ok (.iadd, 1) := by decide +kernel
theorem dL_law_324 : decode cL_law 324 = .ok (.iaload, 1) := by decide +kernel
theorem dL_law_325 : decode cL_law 325 = .ok (.aload_n 0, 1) := by decide +kernel
