theorem dX7_anew_35 : decode cX7_anew 35 = .ok (.aload_n 0, 1) := by decide +kernel
theorem dX7_anew_36 : decode cX7_anew 36 = .ok (.getfield 26, 3) := by decide +kernel
theorem dX7_anew_39 : decode cX7_anew 39 = .ok (.invokevirtual 115, 3) := by decide +kernel
theorem dX7_anew_42 : decode cX7_anew 42 = .ok (.iload_n 1, 1) := by decide +kernel
theorem dX7_anew_43 : decode cX7_anew 43 = .ok (.ireturn, 1) := by decide +kernel
set_option maxRecDepth 20000 in
theorem ggX7_finds_X7_refuse : GoodIn wsX7_finds wsX7_refuse := goodIn_r _ [8, 9, 10, 11, 159, 160, 161, 162, 163, 164, 165, 166] (by decide +kernel) (by decide +kernel)
set_option maxRecDepth 20000 in
theorem gX7_finds_X7_refuse : GoodIn wsX7_finds (wsV RX7 44 RX7 yX7_refuse wsX7_refuse) := goodIn_app (goodIn_of _ (by decide +kernel)) ggX7_finds_X7_refuse
set_option maxRecDepth 20000 in
theorem ggX7_finds_X4_readWord : GoodIn wsX7_finds wsX4_readWord := goodIn_r _ [16, 17, 18, 19, 20, 15, 21, 22, 23, 24, 25, 26, 27, 28, 29, 30, 31, 32, 33, 34, 7, 35, 36, 37, 38, 39, 167, 168, 169, 170] (by decide +kernel) (by decide +kernel)
set_option maxRecDepth 20000 in
theorem gX7_finds_X4_readWord : GoodIn wsX7_finds (wsV RX7 56 RX4 yX4_readWord wsX4_readWord) := goodIn_app (goodIn_of _ (by decide +kernel)) ggX7_finds_X4_readWord
set_option maxRecDepth 20000 in
theorem ggX7_finds_X0_walk : GoodIn wsX7_finds wsX0_walk := goodIn_r _ [44, 45, 46, 47, 48, 49, 50, 51, 52, 53, 54, 55, 56, 57, 43, 58, 59, 60, 61, 62, 63, 64, 65, 66, 67, 68, 69, 70, 71, 72, 73, 74, 75, 76, 77, 78, 79, 80, 81, 82, 83, 84, 85, 86, 87, 88, 89, 90, 91, 92, 93, 94, 95, 96, 97, 98, 99, 100, 101, 102, 103, 104, 105, 106, 107, 25, 108, 27, 109, 110, 111, 112, 113, 114, 115, 116, 117, 118, 119, 120, 121, 122, 123, 124, 125, 126, 127, 128, 129, 130, 131, 132, 133, 134, 135, 136, 137, 138, 139, 140, 141, 142, 143, 144, 28, 145, 171, 172, 173, 174, 175, 176, 177, 178, 179, 180, 181, 182, 183, 184, 185, 186, 187, 188, 189, 190, 191, 192, 193, 194, 195, 196, 169, 170] (by decide +kernel) (by decide +kernel)
set_option maxRecDepth 20000 in
theorem gX7_finds_X0_walk : GoodIn wsX7_finds (wsV RX7 60 RX0 yX0_walk wsX0_walk) := goodIn_app (goodIn_of _ (by decide +kernel)) ggX7_finds_X0_walk
set_option maxRecDepth 20000 in
theorem ggX7_finds_X0_rank : GoodIn wsX7_finds wsX0_rank := goodIn_r _ [149, 45, 150, 66, 51, 55, 56, 57, 43, 58, 59, 117, 118, 119, 120, 121, 171, 172, 173, 174, 175, 176, 177, 178, 179, 180, 181, 182, 183, 184, 185, 186, 187, 188, 189] (by decide +kernel) (by decide +kernel)
set_option maxRecDepth 20000 in
theorem gX7_finds_X0_rank : GoodIn wsX7_finds (wsV RX7 77 RX0 yX0_rank wsX0_rank) := goodIn_app (goodIn_of _ (by decide +kernel)) ggX7_finds_X0_rank
set_option maxRecDepth 20000 in
theorem ggX7_finds_X0_isThere : GoodIn wsX7_finds wsX0_isThere := goodIn_r _ [154, 45, 150, 69, 55, 56, 57, 43, 58, 59, 171, 172, 173, 174, 175, 176, 177, 178, 179, 180, 181, 182, 183, 184, 185, 186, 187, 188, 189] (by decide +kernel) (by decide +kernel)
set_option maxRecDepth 20000 in
theorem gX7_finds_X0_isThere : GoodIn wsX7_finds (wsV RX7 64 RX0 yX0_isThere wsX0_isThere) := goodIn_app (goodIn_of _ (by decide +kernel)) ggX7_finds_X0_isThere
set_option maxRecDepth 20000 in
theorem ggX7_finds_X0_cost : GoodIn wsX7_finds wsX0_cost := goodIn_r _ [158, 45, 46, 71, 55, 56, 57, 43, 58, 59, 171, 172, 173, 174, 175, 176, 177, 178, 179, 180, 181, 182, 183, 184, 185, 186, 187, 188, 189] (by decide +kernel) (by decide +kernel)
set_option maxRecDepth 20000 in
theorem gX7_finds_X0_cost : GoodIn wsX7_finds (wsV RX7 124 RX0 yX0_cost wsX0_cost) := goodIn_app (goodIn_of _ (by decide +kernel)) ggX7_finds_X0_cost
theorem dX7_finds_0 : decode cX7_finds 0 = .ok (.iload_n 1, 1) := by decide +kernel
theorem dX7_finds_1 : decode cX7_finds 1 = .ok (.ifCond .lt 8, 3) := by decide +kernel
theorem dX7_finds_4 : decode cX7_finds 4 = .ok (.iload_n 1, 1) := by decide +kernel
theorem dX7_finds_5 : decode cX7_finds 5 = .ok (.iconst 2, 1) := by decide +kernel
theorem dX7_finds_6 : decode cX7_finds 6 = .ok (.if_icmp .le 10, 3) := by decide +kernel
theorem dX7_finds_9 : decode cX7_finds 9 = .ok (.aload_n 0, 1) := by decide +kernel
theorem dX7_finds_10 : decode cX7_finds 10 = .ok (.bipush (-2), 2) := by decide +kernel
theorem dX7_finds_12 : decode cX7_finds 12 = .ok (.invokevirtual 44, 3) := by decide +kernel
theorem dX7_finds_15 : decode cX7_finds 15 = .ok (.ireturn, 1) := by decide +kernel
theorem dX7_finds_16 : decode cX7_finds 16 = .ok (.aload_n 0, 1) := by decide +kernel
theorem dX7_finds_17 : decode cX7_finds 17 = .ok (.getfield 10, 3) := by decide +kernel
theorem dX7_finds_20 : decode cX7_finds 20 = .ok (.aload_n 0, 1) := by decide +kernel
theorem dX7_finds_21 : decode cX7_finds 21 = .ok (.getfield 19, 3) := by decide +kernel
theorem dX7_finds_24 : decode cX7_finds 24 = .ok (.invokevirtual 56, 3) := by decide +kernel
theorem dX7_finds_27 : decode cX7_finds 27 = .ok (.ifCond .ne 10, 3) := by decide +kernel
theorem dX7_finds_30 : decode cX7_finds 30 = .ok (.aload_n 0, 1) := by decide +kernel
theorem dX7_finds_31 : decode cX7_finds 31 = .ok (.bipush (-3), 2) := by decide +kernel
theorem dX7_finds_33 : decode cX7_finds 33 = .ok (.invokevirtual 44, 3) := by decide +kernel
theorem dX7_finds_36 : decode cX7_finds 36 = .ok (.ireturn, 1) := by decide +kernel
theorem dX7_finds_37 : decode cX7_finds 37 = .ok (.aload_n 0, 1) := by decide +kernel
theorem dX7_finds_38 : decode cX7_finds 38 = .ok (.getfield 26, 3) := by decide +kernel
theorem dX7_finds_41 : decode cX7_finds 41 = .ok (.aload_n 0, 1) := by decide +kernel
theorem dX7_finds_42 : decode cX7_finds 42 = .ok (.getfield 19, 3) := by decide +kernel
theorem dX7_finds_45 : decode cX7_finds 45 = .ok (.invokevirtual 60, 3) := by decide +kernel
theorem dX7_finds_48 : decode cX7_finds 48 = .ok (.iload_n 1, 1) := by decide +kernel
theorem dX7_finds_49 : decode cX7_finds 49 = .ok (.ifCond .ne 11, 3) := by decide +kernel
theorem dX7_finds_52 : decode cX7_finds 52 = .ok (.aload_n 0, 1) := by decide +kernel
theorem dX7_finds_53 : decode cX7_finds 53 = .ok (.getfield 26, 3) := by decide +kernel
theorem dX7_finds_56 : decode cX7_finds 56 = .ok (.invokevirtual 77, 3) := by decide +kernel
theorem dX7_finds_59 : decode cX7_finds 59 = .ok (.ireturn, 1) := by decide +kernel
theorem dX7_finds_60 : decode cX7_finds 60 = .ok (.iload_n 1, 1) := by decide +kernel
theorem dX7_finds_61 : decode cX7_finds 61 = .ok (.iconst 1, 1) := by decide +kernel
theorem dX7_finds_62 : decode cX7_finds 62 = .ok (.if_icmp .ne 19, 3) := by decide +kernel
theorem dX7_finds_65 : decode cX7_finds 65 = .ok (.aload_n 0, 1) := by decide +kernel
theorem dX7_finds_66 : decode cX7_finds 66 = .ok (.getfield 26, 3) := by decide +kernel
theorem dX7_finds_69 : decode cX7_finds 69 = .ok (.invokevirtual 64, 3) := by decide +kernel
theorem dX7_finds_72 : decode cX7_finds 72 = .ok (.ifCond .eq 7, 3) := by decide +kernel
theorem dX7_finds_75 : decode cX7_finds 75 = .ok (.iconst 1, 1) := by decide +kernel
theorem dX7_finds_76 : decode cX7_finds 76 = .ok (.goto 4, 3) := by decide +kernel
theorem dX7_finds_79 : decode cX7_finds 79 = .ok (.iconst 0, 1) := by decide +kernel
theorem dX7_finds_80 : decode cX7_finds 80 = .ok (.ireturn, 1) := by decide +kernel
theorem dX7_finds_81 : decode cX7_finds 81 = .ok (.aload_n 0, 1) := by decide +kernel
theorem dX7_finds_82 : decode cX7_finds 82 = .ok (.getfield 26, 3) := by decide +kernel
theorem dX7_finds_85 : decode cX7_finds 85 = .ok (.invokevirtual 124, 3) := by decide +kernel
theorem dX7_finds_88 : decode cX7_finds 88 = .ok (.ireturn, 1) := by decide +kernel
set_option maxRecDepth 20000 in
theorem ggX7_way_X7_refuse : GoodIn wsX7_way wsX7_refuse := goodIn_r _ [16, 17, 18, 19, 155, 156, 157, 158, 159, 160, 161, 162] (by decide +kernel) (by decide +kernel)
set_option maxRecDepth 20000 in
theorem gX7_way_X7_refuse : GoodIn wsX7_way (wsV RX7 44 RX7 yX7_refuse wsX7_refuse) := goodIn_app (goodIn_of _ (by decide +kernel)) ggX7_way_X7_refuse
set_option maxRecDepth 20000 in
theorem ggX7_way_X4_readWord : GoodIn wsX7_way wsX4_readWord := goodIn_r _ [24, 25, 26, 27, 28, 23, 29, 30, 31, 32, 33, 34, 35, 36, 37, 38, 39, 40, 41, 42, 15, 43, 44, 45, 46, 47, 182, 183, 184, 185] (by decide +kernel) (by decide +kernel)
set_option maxRecDepth 20000 in
theorem gX7_way_X4_readWord : GoodIn wsX7_way (wsV RX7 56 RX4 yX4_readWord wsX4_readWord) := goodIn_app (goodIn_of _ (by decide +kernel)) ggX7_way_X4_readWord
set_option maxRecDepth 20000 in
theorem ggX7_way_X0_walk : GoodIn wsX7_way wsX0_walk := goodIn_r _ [52, 53, 54, 55, 56, 57, 58, 59, 60, 61, 62, 63, 64, 65, 51, 66, 67, 68, 69, 70, 71, 72, 73, 74, 75, 76, 77, 78, 79, 80, 81, 82, 83, 84, 85, 86, 87, 88, 89, 90, 91, 92, 93, 94, 95, 96, 97, 98, 99, 100, 101, 102, 103, 104, 105, 106, 107, 108, 109, 110, 111, 112, 113, 114, 115, 33, 116, 35, 117, 118, 119, 120, 121, 122, 123, 124, 125, 126, 127, 128, 129, 130, 131, 132, 133, 134, 135, 136, 137, 138, 139, 140, 141, 142, 143, 144, 145, 146, 147, 148, 149, 150, 151, 152, 36, 153, 163, 164, 165, 166, 167, 168, 169, 170, 171, 172, 173, 174, 175, 176, 177, 178, 179, 180, 181, 186, 187, 188, 189, 190, 191, 192, 184, 185] (by decide +kernel) (by decide +kernel)
set_option maxRecDepth 20000 in
theorem gX7_way_X0_walk : GoodIn wsX7_way (wsV RX7 60 RX0 yX0_walk wsX0_walk) := goodIn_app (goodIn_of _ (by decide +kernel)) ggX7_way_X0_walk
set_option maxRecDepth 20000 in
theorem ggX7_way_X0_lookOf : GoodIn wsX7_way wsX0_lookOf := goodIn_r _ [66, 67, 163, 164, 165, 166, 167, 168, 169] (by decide +kernel) (by decide +kernel)
set_option maxRecDepth 20000 in
theorem gX7_way_X0_lookOf : GoodIn wsX7_way (wsV RX7 130 RX0 yX0_lookOf wsX0_lookOf) := goodIn_app (goodIn_of _ (by decide +kernel)) ggX7_way_X0_lookOf
theorem dX7_way_0 : decode cX7_way 0 = .ok (.iload_n 2, 1) := by decide +kernel
theorem dX7_way_1 : decode cX7_way 1 = .ok (.ifCond .lt 26, 3) := by decide +kernel
theorem dX7_way_4 : decode cX7_way 4 = .ok (.iload_n 2, 1) := by decide +kernel
theorem dX7_way_5 : decode cX7_way 5 = .ok (.iconst 5, 1) := by decide +kernel
theorem dX7_way_6 : decode cX7_way 6 = .ok (.if_icmp .gt 21, 3) := by decide +kernel
theorem dX7_way_9 : decode cX7_way 9 = .ok (.iload_n 1, 1) := by decide +kernel
theorem dX7_way_10 : decode cX7_way 10 = .ok (.ifCond .lt 17, 3) := by decide +kernel
theorem dX7_way_13 : decode cX7_way 13 = .ok (.iload_n 1, 1) := by decide +kernel
theorem dX7_way_14 : decode cX7_way 14 = .ok (.aload_n 0, 1) := by decide +kernel
theorem dX7_way_15 : decode cX7_way 15 = .ok (.getfield 26, 3) := by decide +kernel
theorem dX7_way_18 : decode cX7_way 18 = .ok (.getfield 68, 3) := by decide +kernel
theorem dX7_way_21 : decode cX7_way 21 = .ok (.getfield 127, 3) := by decide +kernel
theorem dX7_way_24 : decode cX7_way 24 = .ok (.if_icmp .lt 10, 3) := by decide +kernel
theorem dX7_way_27 : decode cX7_way 27 = .ok (.aload_n 0, 1) := by decide +kernel
theorem dX7_way_28 : decode cX7_way 28 = .ok (.bipush (-2), 2) := by decide +kernel
theorem dX7_way_30 : decode cX7_way 30 = .ok (.invokevirtual 44, 3) := by decide +kernel
theorem dX7_way_33 : decode cX7_way 33 = .ok (.ireturn, 1) := by decide +kernel
theorem dX7_way_34 : decode cX7_way 34 = .ok (.aload_n 0, 1) := by decide +kernel
theorem dX7_way_35 : decode cX7_way 35 = .ok (.getfield 10, 3) := by decide +kernel
theorem dX7_way_38 : decode cX7_way 38 = .ok (.aload_n 0, 1) := by decide +kernel
theorem dX7_way_39 : decode cX7_way 39 = .ok (.getfield 19, 3) := by decide +kernel
theorem dX7_way_42 : decode cX7_way 42 = .ok (.invokevirtual 56, 3) := by decide +kernel
theorem dX7_way_45 : decode cX7_way 45 = .ok (.ifCond .ne 10, 3) := by decide +kernel
theorem dX7_way_48 : decode cX7_way 48 = .ok (.aload_n 0, 1) := by decide +kernel
theorem dX7_way_49 : decode cX7_way 49 = .ok (.bipush (-3), 2) := by decide +kernel
theorem dX7_way_51 : decode cX7_way 51 = .ok (.invokevirtual 44, 3) := by decide +kernel
theorem dX7_way_54 : decode cX7_way 54 = .ok (.ireturn, 1) := by decide +kernel
theorem dX7_way_55 : decode cX7_way 55 = .ok (.aload_n 0, 1) := by decide +kernel
theorem dX7_way_56 : decode cX7_way 56 = .ok (.getfield 26, 3) := by decide +kernel
theorem dX7_way_59 : decode cX7_way 59 = .ok (.aload_n 0, 1) := by decide +kernel
theorem dX7_way_60 : decode cX7_way 60 = .ok (.getfield 19, 3) := by decide +kernel
theorem dX7_way_63 : decode cX7_way 63 = .ok (.invokevirtual 60, 3) := by decide +kernel
theorem dX7_way_66 : decode cX7_way 66 = .ok (.aload_n 0, 1) := by decide +kernel
theorem dX7_way_67 : decode cX7_way 67 = .ok (.getfield 26, 3) := by decide +kernel
theorem dX7_way_70 : decode cX7_way 70 = .ok (.iload_n 1, 1) := by decide +kernel
theorem dX7_way_71 : decode cX7_way 71 = .ok (.invokevirtual 130, 3) := by decide +kernel
theorem dX7_way_74 : decode cX7_way 74 = .ok (.astore_n 3, 1) := by decide +kernel
theorem dX7_way_75 : decode cX7_way 75 = .ok (.iload_n 2, 1) := by decide +kernel
theorem dX7_way_76 : decode cX7_way 76 = .ok (.tableswitch 61 0 4 #[36, 41, 46, 51, 56], 36) := by decide +kernel
theorem dX7_way_112 : decode cX7_way 112 = .ok (.aload_n 3, 1) := by decide +kernel
theorem dX7_way_113 : decode cX7_way 113 = .ok (.getfield 134, 3) := by decide +kernel
theorem dX7_way_116 : decode cX7_way 116 = .ok (.ireturn, 1) := by decide +kernel
theorem dX7_way_117 : decode cX7_way 117 = .ok (.aload_n 3, 1) := by decide +kernel
theorem dX7_way_118 : decode cX7_way 118 = .ok (.getfield 137, 3) := by decide +kernel
theorem dX7_way_121 : decode cX7_way 121 = .ok (.ireturn, 1) := by decide +kernel
theorem dX7_way_122 : decode cX7_way 122 = .ok (.aload_n 3, 1) := by decide +kernel
theorem dX7_way_123 : decode cX7_way 123 = .ok (.getfield 140, 3) := by decide +kernel
theorem dX7_way_126 : decode cX7_way 126 = .ok (.ireturn, 1) := by decide +kernel
theorem dX7_way_127 : decode cX7_way 127 = .ok (.aload_n 3, 1) := by decide +kernel
theorem dX7_way_128 : decode cX7_way 128 = .ok (.getfield 143, 3) := by decide +kernel
theorem dX7_way_131 : decode cX7_way 131 = .ok (.ireturn, 1) := by decide +kernel
theorem dX7_way_132 : decode cX7_way 132 = .ok (.aload_n 3, 1) := by decide +kernel
theorem dX7_way_133 : decode cX7_way 133 = .ok (.getfield 146, 3) := by decide +kernel
theorem dX7_way_136 : decode cX7_way 136 = .ok (.ireturn, 1) := by decide +kernel
theorem dX7_way_137 : decode cX7_way 137 = .ok (.aload_n 3, 1) := by decide +kernel
theorem dX7_way_138 : decode cX7_way 138 = .ok (.getfield 149, 3) := by decide +kernel
theorem dX7_way_141 : decode cX7_way 141 = .ok (.ireturn, 1) := by decide +kernel
set_option maxRecDepth 20000 in
theorem ggX7_looks_X0_hasPage : GoodIn wsX7_looks wsX0_hasPage := goodIn_r _ [13, 14, 15, 152, 153, 154, 155, 156, 157, 158, 159, 160, 161, 162, 163, 164] (by decide +kernel) (by decide +kernel)
set_option maxRecDepth 20000 in
theorem gX7_looks_X0_hasPage : GoodIn wsX7_looks (wsV RX7 152 RX0 yX0_hasPage wsX0_hasPage) := goodIn_app (goodIn_of _ (by decide +kernel)) ggX7_looks_X0_hasPage
set_option maxRecDepth 20000 in
theorem ggX7_looks_X7_refuse : GoodIn wsX7_looks wsX7_refuse := goodIn_r _ [20, 21, 22, 23, 138, 139, 140, 141, 142, 143, 144, 145] (by decide +kernel) (by decide +kernel)
set_option maxRecDepth 20000 in
theorem gX7_looks_X7_refuse : GoodIn wsX7_looks (wsV RX7 44 RX7 yX7_refuse wsX7_refuse) := goodIn_app (goodIn_of _ (by decide +kernel)) ggX7_looks_X7_refuse
set_option maxRecDepth 20000 in
theorem ggX7_looks_X4_readWord : GoodIn wsX7_looks wsX4_readWord := goodIn_r _ [28, 29, 30, 31, 32, 27, 33, 34, 35, 36, 37, 38, 39, 40, 41, 42, 43, 44, 45, 46, 19, 47, 48, 49, 50, 51, 165, 166, 167, 168] (by decide +kernel) (by decide +kernel)
set_option maxRecDepth 20000 in
theorem gX7_looks_X4_readWord : GoodIn wsX7_looks (wsV RX7 56 RX4 yX4_readWord wsX4_readWord) := goodIn_app (goodIn_of _ (by decide +kernel)) ggX7_looks_X4_readWord
set_option maxRecDepth 20000 in
theorem ggX7_looks_X0_lookAt : GoodIn wsX7_looks wsX0_lookAt := goodIn_r _ [55, 56, 14, 57, 58, 59, 60, 61, 62, 63, 64, 65, 66, 67, 68, 69, 70, 71, 72, 12, 73, 74, 75, 76, 77, 78, 79, 80, 81, 82, 83, 84, 85, 86, 87, 88, 89, 90, 91, 92, 93, 94, 95, 96, 97, 98, 99, 100, 101, 102, 103, 104, 37, 105, 39, 106, 107, 108, 109, 110, 111, 112, 113, 114, 115, 116, 117, 118, 119, 120, 121, 122, 123, 124, 125, 126, 127, 128, 129, 130, 131, 132, 133, 134, 135, 136, 137, 152, 153, 154, 155, 156, 157, 158, 169, 170, 171, 172, 173, 174, 175, 146, 147, 148, 149, 150, 151, 167, 168, 159, 160, 161, 162, 163, 164] (by decide +kernel) (by decide +kernel)
set_option maxRecDepth 20000 in
theorem gX7_looks_X0_lookAt : GoodIn wsX7_looks (wsV RX7 156 RX0 yX0_lookAt wsX0_lookAt) := goodIn_app (goodIn_of _ (by decide +kernel)) ggX7_looks_X0_lookAt
theorem dX7_looks_0 : decode cX7_looks 0 = .ok (.iload_n 2, 1) := by decide +kernel
theorem dX7_looks_1 : decode cX7_looks 1 = .ok (.ifCond .lt 19, 3) := by decide +kernel
theorem dX7_looks_4 : decode cX7_looks 4 = .ok (.iload_n 2, 1) := by decide +kernel
theorem dX7_looks_5 : decode cX7_looks 5 = .ok (.iconst 3, 1) := by decide +kernel
theorem dX7_looks_6 : decode cX7_looks 6 = .ok (.if_icmp .gt 14, 3) := by decide +kernel
theorem dX7_looks_9 : decode cX7_looks 9 = .ok (.aload_n 0, 1) := by decide +kernel
theorem dX7_looks_10 : decode cX7_looks 10 = .ok (.getfield 26, 3) := by decide +kernel
theorem dX7_looks_13 : decode cX7_looks 13 = .ok (.iload_n 1, 1) := by decide +kernel
theorem dX7_looks_14 : decode cX7_looks 14 = .ok (.invokevirtual 152, 3) := by decide +kernel
theorem dX7_looks_17 : decode cX7_looks 17 = .ok (.ifCond .ne 10, 3) := by decide +kernel
theorem dX7_looks_20 : decode cX7_looks 20 = .ok (.aload_n 0, 1) := by decide +kernel
theorem dX7_looks_21 : decode cX7_looks 21 = .ok (.bipush (-2), 2) := by decide +kernel
theorem dX7_looks_23 : decode cX7_looks 23 = .ok (.invokevirtual 44, 3) := by decide +kernel
theorem dX7_looks_26 : decode cX7_looks 26 = .ok (.ireturn, 1) := by decide +kernel
theorem dX7_looks_27 : decode cX7_looks 27 = .ok (.aload_n 0, 1) := by decide +kernel
theorem dX7_looks_28 : decode cX7_looks 28 = .ok (.getfield 10, 3) := by decide +kernel
theorem dX7_looks_31 : decode cX7_looks 31 = .ok (.aload_n 0, 1) := by decide +kernel
theorem dX7_looks_32 : decode cX7_looks 32 = .ok (.getfield 19, 3) := by decide +kernel
theorem dX7_looks_35 : decode cX7_looks 35 = .ok (.invokevirtual 56, 3) := by decide +kernel
theorem dX7_looks_38 : decode cX7_looks 38 = .ok (.ifCond .ne 10, 3) := by decide +kernel
theorem dX7_looks_41 : decode cX7_looks 41 = .ok (.aload_n 0, 1) := by decide +kernel
theorem dX7_looks_42 : decode cX7_looks 42 = .ok (.bipush (-3), 2) := by decide +kernel
theorem dX7_looks_44 : decode cX7_looks 44 = .ok (.invokevirtual 44, 3) := by decide +kernel
theorem dX7_looks_47 : decode cX7_looks 47 = .ok (.ireturn, 1) := by decide +kernel
theorem dX7_looks_48 : decode cX7_looks 48 = .ok (.aload_n 0, 1) := by decide +kernel
theorem dX7_looks_49 : decode cX7_looks 49 = .ok (.getfield 26, 3) := by decide +kernel
theorem dX7_looks_52 : decode cX7_looks 52 = .ok (.aload_n 0, 1) := by decide +kernel
theorem dX7_looks_53 : decode cX7_looks 53 = .ok (.getfield 19, 3) := by decide +kernel
theorem dX7_looks_56 : decode cX7_looks 56 = .ok (.iload_n 1, 1) := by decide +kernel
theorem dX7_looks_57 : decode cX7_looks 57 = .ok (.iconst 0, 1) := by decide +kernel
theorem dX7_looks_58 : decode cX7_looks 58 = .ok (.aload_n 0, 1) := by decide +kernel
theorem dX7_looks_59 : decode cX7_looks 59 = .ok (.getfield 40, 3) := by decide +kernel
theorem dX7_looks_62 : decode cX7_looks 62 = .ok (.invokevirtual 156, 3) := by decide +kernel
theorem dX7_looks_65 : decode cX7_looks 65 = .ok (.iload_n 2, 1) := by decide +kernel
theorem dX7_looks_66 : decode cX7_looks 66 = .ok (.tableswitch 50 0 2 #[26, 34, 42], 26) := by decide +kernel
theorem dX7_looks_92 : decode cX7_looks 92 = .ok (.aload_n 0, 1) := by decide +kernel
theorem dX7_looks_93 : decode cX7_looks 93 = .ok (.getfield 40, 3) := by decide +kernel
theorem dX7_looks_96 : decode cX7_looks 96 = .ok (.getfield 140, 3) := by decide +kernel
theorem dX7_looks_99 : decode cX7_looks 99 = .ok (.ireturn, 1) := by decide +kernel
theorem dX7_looks_100 : decode cX7_looks 100 = .ok (.aload_n 0, 1) := by decide +kernel
theorem dX7_looks_101 : decode cX7_looks 101 = .ok (.getfield 40, 3) := by decide +kernel
theorem dX7_looks_104 : decode cX7_looks 104 = .ok (.getfield 143, 3) := by decide +kernel
theorem dX7_looks_107 : decode cX7_looks 107 = .ok (.ireturn, 1) := by decide +kernel
theorem dX7_looks_108 : decode cX7_looks 108 = .ok (.aload_n 0, 1) := by decide +kernel
theorem dX7_looks_109 : decode cX7_looks 109 = .ok (.getfield 40, 3) := by decide +kernel
theorem dX7_looks_112 : decode cX7_looks 112 = .ok (.getfield 146, 3) := by decide +kernel
theorem dX7_looks_115 : decode cX7_looks 115 = .ok (.ireturn, 1) := by decide +kernel
theorem dX7_looks_116 : decode cX7_looks 116 = .ok (.aload_n 0, 1) := by decide +kernel
theorem dX7_looks_117 : decode cX7_looks 117 = .ok (.getfield 40, 3) := by decide +kernel
theorem dX7_looks_120 : decode cX7_looks 120 = .ok (.getfield 149, 3) := by decide +kernel
theorem dX7_looks_123 : decode cX7_looks 123 = .ok (.ireturn, 1) := by decide +kernel
set_option maxRecDepth 20000 in
theorem ggX7_begins_X7_refuse : GoodIn wsX7_begins wsX7_refuse := goodIn_r _ [9, 10, 11, 12, 168, 169, 170, 171, 172, 173, 174, 175] (by decide +kernel) (by decide +kernel)
set_option maxRecDepth 20000 in
theorem gX7_begins_X7_refuse : GoodIn wsX7_begins (wsV RX7 44 RX7 yX7_refuse wsX7_refuse) := goodIn_app (goodIn_of _ (by decide +kernel)) ggX7_begins_X7_refuse
set_option maxRecDepth 20000 in
theorem ggX7_begins_X4_readWord : GoodIn wsX7_begins wsX4_readWord := goodIn_r _ [17, 18, 19, 20, 21, 16, 22, 23, 24, 25, 26, 27, 28, 29, 30, 31, 32, 33, 34, 35, 8, 36, 37, 38, 39, 40, 183, 184, 185, 186] (by decide +kernel) (by decide +kernel)
set_option maxRecDepth 20000 in
theorem gX7_begins_X4_readWord : GoodIn wsX7_begins (wsV RX7 56 RX4 yX4_readWord wsX4_readWord) := goodIn_app (goodIn_of _ (by decide +kernel)) ggX7_begins_X4_readWord
set_option maxRecDepth 20000 in
theorem ggX7_begins_X3_beginning : GoodIn wsX7_begins wsX3_beginning := goodIn_r _ [45, 46, 47, 48, 49, 50, 44, 51, 52, 53, 54, 55, 26, 56, 28, 57, 58, 59, 60, 61, 62, 63, 64, 65, 187, 188, 189, 190, 191, 192, 185, 186] (by decide +kernel) (by decide +kernel)
set_option maxRecDepth 20000 in
theorem gX7_begins_X3_beginning : GoodIn wsX7_begins (wsV RX7 160 RX3 yX3_beginning wsX3_beginning) := goodIn_app (goodIn_of _ (by decide +kernel)) ggX7_begins_X3_beginning
set_option maxRecDepth 20000 in
theorem ggX7_begins_X7_aheadOfWord : GoodIn wsX7_begins wsX7_aheadOfWord := goodIn_r _ [69, 3, 2, 70, 71, 72, 73, 74, 75, 76, 77, 78, 79, 80, 81, 82, 83, 84, 85, 86, 87, 88, 89, 90, 91, 92, 93, 94, 95, 96, 97, 98, 99, 100, 101, 102, 103, 104, 105, 106, 107, 108, 109, 110, 44, 111, 112, 113, 114, 115, 116, 117, 118, 119, 120, 121, 122, 123, 124, 125, 126, 127, 128, 129, 130, 131, 132, 133, 134, 135, 136, 26, 137, 28, 138, 139, 140, 141, 142, 143, 144, 145, 146, 147, 148, 149, 150, 151, 49, 50, 51, 52, 152, 54, 55, 56, 57, 58, 59, 60, 61, 62, 63, 64, 65, 153, 154, 155, 156, 157, 29, 158, 159, 160, 161, 162, 163, 164, 165, 166, 167, 168, 169, 170, 171, 172, 173, 174, 175, 176, 177, 178, 179, 180, 181, 182, 187, 188, 189, 190, 191, 192, 193, 194, 195, 196, 197, 198, 199, 200, 201, 202, 203, 204, 205, 185, 186] (by decide +kernel) (by decide +kernel)
set_option maxRecDepth 20000 in
theorem gX7_begins_X7_aheadOfWord : GoodIn wsX7_begins (wsV RX7 164 RX7 yX7_aheadOfWord wsX7_aheadOfWord) := goodIn_app (goodIn_of _ (by decide +kernel)) ggX7_begins_X7_aheadOfWord
theorem dX7_begins_0 : decode cX7_begins 0 = .ok (.iload_n 1, 1) := by decide +kernel
theorem dX7_begins_1 : decode cX7_begins 1 = .ok (.ifCond .lt 8, 3) := by decide +kernel
theorem dX7_begins_4 : decode cX7_begins 4 = .ok (.iload_n 1, 1) := by decide +kernel
theorem dX7_begins_5 : decode cX7_begins 5 = .ok (.iconst 1, 1) := by decide +kernel
theorem dX7_begins_6 : decode cX7_begins 6 = .ok (.if_icmp .le 10, 3) := by decide +kernel
theorem dX7_begins_9 : decode cX7_begins 9 = .ok (.aload_n 0, 1) := by decide +kernel
theorem dX7_begins_10 : decode cX7_begins 10 = .ok (.bipush (-2), 2) := by decide +kernel
theorem dX7_begins_12 : decode cX7_begins 12 = .ok (.invokevirtual 44, 3) := by decide +kernel
theorem dX7_begins_15 : decode cX7_begins 15 = .ok (.ireturn, 1) := by decide +kernel
theorem dX7_begins_16 : decode cX7_begins 16 = .ok (.aload_n 0, 1) := by decide +kernel
theorem dX7_begins_17 : decode cX7_begins 17 = .ok (.getfield 10, 3) := by decide +kernel
theorem dX7_begins_20 : decode cX7_begins 20 = .ok (.aload_n 0, 1) := by decide +kernel
theorem dX7_begins_21 : decode cX7_begins 21 = .ok (.getfield 19, 3) := by decide +kernel
theorem dX7_begins_24 : decode cX7_begins 24 = .ok (.invokevirtual 56, 3) := by decide +kernel
theorem dX7_begins_27 : decode cX7_begins 27 = .ok (.ifCond .ne 10, 3) := by decide +kernel
theorem dX7_begins_30 : decode cX7_begins 30 = .ok (.aload_n 0, 1) := by decide +kernel
theorem dX7_begins_31 : decode cX7_begins 31 = .ok (.bipush (-3), 2) := by decide +kernel
theorem dX7_begins_33 : decode cX7_begins 33 = .ok (.invokevirtual 44, 3) := by decide +kernel
theorem dX7_begins_36 : decode cX7_begins 36 = .ok (.ireturn, 1) := by decide +kernel
theorem dX7_begins_37 : decode cX7_begins 37 = .ok (.iload_n 1, 1) := by decide +kernel
theorem dX7_begins_38 : decode cX7_begins 38 = .ok (.ifCond .ne 18, 3) := by decide +kernel
theorem dX7_begins_41 : decode cX7_begins 41 = .ok (.aload_n 0, 1) := by decide +kernel
theorem dX7_begins_42 : decode cX7_begins 42 = .ok (.getfield 26, 3) := by decide +kernel
theorem dX7_begins_45 : decode cX7_begins 45 = .ok (.getfield 68, 3) := by decide +kernel
theorem dX7_begins_48 : decode cX7_begins 48 = .ok (.aload_n 0, 1) := by decide +kernel
theorem dX7_begins_49 : decode cX7_begins 49 = .ok (.getfield 19, 3) := by decide +kernel
theorem dX7_begins_52 : decode cX7_begins 52 = .ok (.invokevirtual 160, 3) := by decide +kernel
theorem dX7_begins_55 : decode cX7_begins 55 = .ok (.ireturn, 1) := by decide +kernel
theorem dX7_begins_56 : decode cX7_begins 56 = .ok (.aload_n 0, 1) := by decide +kernel
theorem dX7_begins_57 : decode cX7_begins 57 = .ok (.invokevirtual 164, 3) := by decide +kernel
theorem dX7_begins_60 : decode cX7_begins 60 = .ok (.ireturn, 1) := by decide +kernel
set_option maxRecDepth 20000 in
theorem ggX7_between_X7_refuse : GoodIn wsX7_between wsX7_refuse := goodIn_r _ [10, 11, 12, 13, 161, 162, 163, 164, 165, 166, 167, 168] (by decide +kernel) (by decide +kernel)
set_option maxRecDepth 20000 in
theorem gX7_between_X7_refuse : GoodIn wsX7_between (wsV RX7 44 RX7 yX7_refuse wsX7_refuse) := goodIn_app (goodIn_of _ (by decide +kernel)) ggX7_between_X7_refuse
set_option maxRecDepth 20000 in
theorem ggX7_between_X4_readWord : GoodIn wsX7_between wsX4_readWord := goodIn_r _ [18, 19, 20, 21, 22, 17, 23, 24, 25, 26, 27, 28, 29, 30, 31, 32, 33, 34, 35, 36, 9, 37, 38, 39, 40, 41, 182, 183, 184, 185] (by decide +kernel) (by decide +kernel)
set_option maxRecDepth 20000 in
theorem gX7_between_X4_readWord : GoodIn wsX7_between (wsV RX7 56 RX4 yX4_readWord wsX4_readWord) := goodIn_app (goodIn_of _ (by decide +kernel)) ggX7_between_X4_readWord
set_option maxRecDepth 20000 in
theorem ggX7_between_X7_aheadOfWord : GoodIn wsX7_between wsX7_aheadOfWord := goodIn_r _ [45, 1, 5, 46, 47, 48, 49, 50, 51, 52, 53, 54, 55, 56, 57, 58, 59, 60, 61, 62, 63, 64, 65, 66, 67, 68, 69, 70, 71, 72, 73, 74, 75, 76, 77, 78, 79, 80, 81, 82, 83, 84, 85, 86, 87, 88, 89, 90, 91, 92, 93, 94, 95, 96, 97, 98, 99, 100, 101, 102, 103, 104, 105, 106, 107, 108, 109, 110, 111, 112, 113, 27, 114, 29, 115, 116, 117, 118, 119, 120, 121, 122, 123, 124, 125, 126, 127, 128, 129, 130, 131, 132, 133, 134, 135, 136, 137, 138, 139, 140, 141, 142, 143, 144, 145, 146, 147, 148, 149, 150, 30, 151, 152, 153, 154, 155, 156, 157, 158, 159, 160, 161, 162, 163, 164, 165, 166, 167, 168, 169, 170, 171, 172, 173, 174, 175, 176, 177, 178, 179, 180, 181, 186, 187, 188, 189, 190, 191, 192, 193, 194, 195, 196, 197, 198, 184, 185] (by decide +kernel) (by decide +kernel)
set_option maxRecDepth 20000 in
theorem gX7_between_X7_aheadOfWord : GoodIn wsX7_between (wsV RX7 164 RX7 yX7_aheadOfWord wsX7_aheadOfWord) := goodIn_app (goodIn_of _ (by decide +kernel)) ggX7_between_X7_aheadOfWord
set_option maxRecDepth 20000 in
theorem ggX7_between_X0_rank : GoodIn wsX7_between wsX0_rank := goodIn_r _ [160, 51, 156, 72, 57, 61, 62, 63, 49, 64, 65, 123, 124, 125, 126, 127, 169, 170, 171, 172, 173, 174, 175, 176, 177, 178, 179, 180, 181, 186, 187, 188, 189, 190, 191] (by decide +kernel) (by decide +kernel)
set_option maxRecDepth 20000 in
theorem gX7_between_X0_rank : GoodIn wsX7_between (wsV RX7 77 RX0 yX0_rank wsX0_rank) := goodIn_app (goodIn_of _ (by decide +kernel)) ggX7_between_X0_rank
theorem dX7_between_0 : decode cX7_between 0 = .ok (.iload_n 1, 1) := by decide +kernel
theorem dX7_between_1 : decode cX7_between 1 = .ok (.ifCond .lt 17, 3) := by decide +kernel
theorem dX7_between_4 : decode cX7_between 4 = .ok (.iload_n 1, 1) := by decide +kernel
theorem dX7_between_5 : decode cX7_between 5 = .ok (.aload_n 0, 1) := by decide +kernel
theorem dX7_between_6 : decode cX7_between 6 = .ok (.getfield 26, 3) := by decide +kernel
theorem dX7_between_9 : decode cX7_between 9 = .ok (.getfield 68, 3) := by decide +kernel
theorem dX7_between_12 : decode cX7_between 12 = .ok (.getfield 72, 3) := by decide +kernel
theorem dX7_between_15 : decode cX7_between 15 = .ok (.if_icmp .lt 10, 3) := by decide +kernel
theorem dX7_between_18 : decode cX7_between 18 = .ok (.aload_n 0, 1) := by decide +kernel
theorem dX7_between_19 : decode cX7_between 19 = .ok (.bipush (-2), 2) := by decide +kernel
theorem dX7_between_21 : decode cX7_between 21 = .ok (.invokevirtual 44, 3) := by decide +kernel
theorem dX7_between_24 : decode cX7_between 24 = .ok (.ireturn, 1) := by decide +kernel
theorem dX7_between_25 : decode cX7_between 25 = .ok (.aload_n 0, 1) := by decide +kernel
theorem dX7_between_26 : decode cX7_between 26 = .ok (.getfield 10, 3) := by decide +kernel
theorem dX7_between_29 : decode cX7_between 29 = .ok (.aload_n 0, 1) := by decide +kernel
theorem dX7_between_30 : decode cX7_between 30 = .ok (.getfield 19, 3) := by decide +kernel
theorem dX7_between_33 : decode cX7_between 33 = .ok (.invokevirtual 56, 3) := by decide +kernel
theorem dX7_between_36 : decode cX7_between 36 = .ok (.ifCond .ne 10, 3) := by decide +kernel
theorem dX7_between_39 : decode cX7_between 39 = .ok (.aload_n 0, 1) := by decide +kernel
theorem dX7_between_40 : decode cX7_between 40 = .ok (.bipush (-3), 2) := by decide +kernel
theorem dX7_between_42 : decode cX7_between 42 = .ok (.invokevirtual 44, 3) := by decide +kernel
theorem dX7_between_45 : decode cX7_between 45 = .ok (.ireturn, 1) := by decide +kernel
theorem dX7_between_46 : decode cX7_between 46 = .ok (.aload_n 0, 1) := by decide +kernel
theorem dX7_between_47 : decode cX7_between 47 = .ok (.invokevirtual 164, 3) := by decide +kernel
theorem dX7_between_50 : decode cX7_between 50 = .ok (.istore_n 2, 1) := by decide +kernel
theorem dX7_between_51 : decode cX7_between 51 = .ok (.iload_n 2, 1) := by decide +kernel
theorem dX7_between_52 : decode cX7_between 52 = .ok (.iload_n 1, 1) := by decide +kernel
theorem dX7_between_53 : decode cX7_between 53 = .ok (.if_icmp .gt 9, 3) := by decide +kernel
theorem dX7_between_56 : decode cX7_between 56 = .ok (.iload_n 1, 1) := by decide +kernel
theorem dX7_between_57 : decode cX7_between 57 = .ok (.iload_n 2, 1) := by decide +kernel
theorem dX7_between_58 : decode cX7_between 58 = .ok (.isub, 1) := by decide +kernel
theorem dX7_between_59 : decode cX7_between 59 = .ok (.iconst 1, 1) := by decide +kernel
theorem dX7_between_60 : decode cX7_between 60 = .ok (.iadd, 1) := by decide +kernel
theorem dX7_between_61 : decode cX7_between 61 = .ok (.ireturn, 1) := by decide +kernel
theorem dX7_between_62 : decode cX7_between 62 = .ok (.aload_n 0, 1) := by decide +kernel
theorem dX7_between_63 : decode cX7_between 63 = .ok (.getfield 26, 3) := by decide +kernel
theorem dX7_between_66 : decode cX7_between 66 = .ok (.invokevirtual 77, 3) := by decide +kernel
theorem dX7_between_69 : decode cX7_between 69 = .ok (.iload_n 1, 1) := by decide +kernel
theorem dX7_between_70 : decode cX7_between 70 = .ok (.isub, 1) := by decide +kernel
theorem dX7_between_71 : decode cX7_between 71 = .ok (.ireturn, 1) := by decide +kernel
set_option maxRecDepth 20000 in
theorem ggX7_sign_X7_refuse : GoodIn wsX7_sign wsX7_refuse := goodIn_r _ [9, 10, 11, 12, 25, 26, 27, 28, 29, 30, 31, 32] (by decide +kernel) (by decide +kernel)
set_option maxRecDepth 20000 in
theorem gX7_sign_X7_refuse : GoodIn wsX7_sign (wsV RX7 44 RX7 yX7_refuse wsX7_refuse) := goodIn_app (goodIn_of _ (by decide +kernel)) ggX7_sign_X7_refuse
set_option maxRecDepth 20000 in
theorem ggX7_sign_X3_wordAt : GoodIn wsX7_sign wsX3_wordAt := goodIn_r _ [17, 18, 40, 41, 42, 43, 44, 45] (by decide +kernel) (by decide +kernel)
set_option maxRecDepth 20000 in
theorem gX7_sign_X3_wordAt : GoodIn wsX7_sign (wsV RX7 167 RX3 yX3_wordAt wsX3_wordAt) := goodIn_app (goodIn_of _ (by decide +kernel)) ggX7_sign_X3_wordAt
set_option maxRecDepth 20000 in
theorem ggX7_sign_X6_signAt : GoodIn wsX7_sign wsX6_signAt := goodIn_r _ [23, 24, 46, 47] (by decide +kernel) (by decide +kernel)
set_option maxRecDepth 20000 in
theorem gX7_sign_X6_signAt : GoodIn wsX7_sign (wsV RX7 174 RX6 yX6_signAt wsX6_signAt) := goodIn_app (goodIn_of _ (by decide +kernel)) ggX7_sign_X6_signAt
theorem dX7_sign_0 : decode cX7_sign 0 = .ok (.iload_n 1, 1) := by decide +kernel
theorem dX7_sign_1 : decode cX7_sign 1 = .ok (.ifCond .lt 21, 3) := by decide +kernel
theorem dX7_sign_4 : decode cX7_sign 4 = .ok (.iload_n 1, 1) := by decide +kernel
theorem dX7_sign_5 : decode cX7_sign 5 = .ok (.aload_n 0, 1) := by decide +kernel
theorem dX7_sign_6 : decode cX7_sign 6 = .ok (.getfield 26, 3) := by decide +kernel
theorem dX7_sign_9 : decode cX7_sign 9 = .ok (.getfield 68, 3) := by decide +kernel
theorem dX7_sign_12 : decode cX7_sign 12 = .ok (.getfield 72, 3) := by decide +kernel
theorem dX7_sign_15 : decode cX7_sign 15 = .ok (.if_icmp .ge 7, 3) := by decide +kernel
theorem dX7_sign_18 : decode cX7_sign 18 = .ok (.iload_n 2, 1) := by decide +kernel
theorem dX7_sign_19 : decode cX7_sign 19 = .ok (.ifCond .ge 10, 3) := by decide +kernel
theorem dX7_sign_22 : decode cX7_sign 22 = .ok (.aload_n 0, 1) := by decide +kernel
theorem dX7_sign_23 : decode cX7_sign 23 = .ok (.bipush (-2), 2) := by decide +kernel
theorem dX7_sign_25 : decode cX7_sign 25 = .ok (.invokevirtual 44, 3) := by decide +kernel
theorem dX7_sign_28 : decode cX7_sign 28 = .ok (.ireturn, 1) := by decide +kernel
theorem dX7_sign_29 : decode cX7_sign 29 = .ok (.aload_n 0, 1) := by decide +kernel
theorem dX7_sign_30 : decode cX7_sign 30 = .ok (.getfield 26, 3) := by decide +kernel
theorem dX7_sign_33 : decode cX7_sign 33 = .ok (.getfield 68, 3) := by decide +kernel
theorem dX7_sign_36 : decode cX7_sign 36 = .ok (.iload_n 1, 1) := by decide +kernel
theorem dX7_sign_37 : decode cX7_sign 37 = .ok (.invokevirtual 167, 3) := by decide +kernel
theorem dX7_sign_40 : decode cX7_sign 40 = .ok (.astore_n 3, 1) := by decide +kernel
theorem dX7_sign_41 : decode cX7_sign 41 = .ok (.iload_n 2, 1) := by decide +kernel
theorem dX7_sign_42 : decode cX7_sign 42 = .ok (.aload_n 3, 1) := by decide +kernel
theorem dX7_sign_43 : decode cX7_sign 43 = .ok (.getfield 171, 3) := by decide +kernel
theorem dX7_sign_46 : decode cX7_sign 46 = .ok (.if_icmp .ge 11, 3) := by decide +kernel
theorem dX7_sign_49 : decode cX7_sign 49 = .ok (.aload_n 3, 1) := by decide +kernel
theorem dX7_sign_50 : decode cX7_sign 50 = .ok (.iload_n 2, 1) := by decide +kernel
theorem dX7_sign_51 : decode cX7_sign 51 = .ok (.invokevirtual 174, 3) := by decide +kernel
theorem dX7_sign_54 : decode cX7_sign 54 = .ok (.goto 4, 3) := by decide +kernel
theorem dX7_sign_57 : decode cX7_sign 57 = .ok (.iconst (-1), 1) := by decide +kernel
theorem dX7_sign_58 : decode cX7_sign 58 = .ok (.ireturn, 1) := by decide +kernel
set_option maxRecDepth 20000 in
theorem ggX7_parts_X7_refuse : GoodIn wsX7_parts wsX7_refuse := goodIn_r _ [8, 9, 10, 11, 33, 34, 35, 36, 37, 38, 39, 40] (by decide +kernel) (by decide +kernel)
set_option maxRecDepth 20000 in
theorem gX7_parts_X7_refuse : GoodIn wsX7_parts (wsV RX7 44 RX7 yX7_refuse wsX7_refuse) := goodIn_app (goodIn_of _ (by decide +kernel)) ggX7_parts_X7_refuse
set_option maxRecDepth 20000 in
theorem ggX7_parts_X3_wordAt : GoodIn wsX7_parts wsX3_wordAt := goodIn_r _ [16, 17, 48, 49, 50, 51, 52, 53] (by decide +kernel) (by decide +kernel)
set_option maxRecDepth 20000 in
theorem gX7_parts_X3_wordAt : GoodIn wsX7_parts (wsV RX7 167 RX3 yX3_wordAt wsX3_wordAt) := goodIn_app (goodIn_of _ (by decide +kernel)) ggX7_parts_X3_wordAt
set_option maxRecDepth 20000 in
theorem ggX7_parts_X6_partingFrom : GoodIn wsX7_parts wsX6_partingFrom := goodIn_r _ [22, 23, 24, 25, 26, 27, 28, 29, 30, 31, 32, 54, 55] (by decide +kernel) (by decide +kernel)
set_option maxRecDepth 20000 in
theorem gX7_parts_X6_partingFrom : GoodIn wsX7_parts (wsV RX7 177 RX6 yX6_partingFrom wsX6_partingFrom) := goodIn_app (goodIn_of _ (by decide +kernel)) ggX7_parts_X6_partingFrom
theorem dX7_parts_0 : decode cX7_parts 0 = .ok (.iload_n 1, 1) := by decide +kernel
theorem dX7_parts_1 : decode cX7_parts 1 = .ok (.ifCond .lt 19, 3) := by decide +kernel
theorem dX7_parts_4 : decode cX7_parts 4 = .ok (.iload_n 1, 1) := by decide +kernel
theorem dX7_parts_5 : decode cX7_parts 5 = .ok (.aload_n 0, 1) := by decide +kernel
theorem dX7_parts_6 : decode cX7_parts 6 = .ok (.getfield 26, 3) := by decide +kernel
theorem dX7_parts_9 : decode cX7_parts 9 = .ok (.getfield 68, 3) := by decide +kernel
theorem dX7_parts_12 : decode cX7_parts 12 = .ok (.getfield 72, 3) := by decide +kernel
theorem dX7_parts_15 : decode cX7_parts 15 = .ok (.iconst 1, 1) := by decide +kernel
theorem dX7_parts_16 : decode cX7_parts 16 = .ok (.isub, 1) := by decide +kernel
theorem dX7_parts_17 : decode cX7_parts 17 = .ok (.if_icmp .lt 10, 3) := by decide +kernel
theorem dX7_parts_20 : decode cX7_parts 20 = .ok (.aload_n 0, 1) := by decide +kernel
theorem dX7_parts_21 : decode cX7_parts 21 = .ok (.bipush (-2), 2) := by decide +kernel
theorem dX7_parts_23 : decode cX7_parts 23 = .ok (.invokevirtual 44, 3) := by decide +kernel
theorem dX7_parts_26 : decode cX7_parts 26 = .ok (.ireturn, 1) := by decide +kernel
theorem dX7_parts_27 : decode cX7_parts 27 = .ok (.aload_n 0, 1) := by decide +kernel
theorem dX7_parts_28 : decode cX7_parts 28 = .ok (.getfield 26, 3) := by decide +kernel
theorem dX7_parts_31 : decode cX7_parts 31 = .ok (.getfield 68, 3) := by decide +kernel
theorem dX7_parts_34 : decode cX7_parts 34 = .ok (.iload_n 1, 1) := by decide +kernel
theorem dX7_parts_35 : decode cX7_parts 35 = .ok (.invokevirtual 167, 3) := by decide +kernel
theorem dX7_parts_38 : decode cX7_parts 38 = .ok (.aload_n 0, 1) := by decide +kernel
theorem dX7_parts_39 : decode cX7_parts 39 = .ok (.getfield 26, 3) := by decide +kernel
theorem dX7_parts_42 : decode cX7_parts 42 = .ok (.getfield 68, 3) := by decide +kernel
theorem dX7_parts_45 : decode cX7_parts 45 = .ok (.iload_n 1, 1) := by decide +kernel
theorem dX7_parts_46 : decode cX7_parts 46 = .ok (.iconst 1, 1) := by decide +kernel
theorem dX7_parts_47 : decode cX7_parts 47 = .ok (.iadd, 1) := by decide +kernel
theorem dX7_parts_48 : decode cX7_parts 48 = .ok (.invokevirtual 167, 3) := by decide +kernel
theorem dX7_parts_51 : decode cX7_parts 51 = .ok (.invokevirtual 177, 3) := by decide +kernel
theorem dX7_parts_54 : decode cX7_parts 54 = .ok (.ireturn, 1) := by decide +kernel
set_option maxRecDepth 20000 in
theorem ggX7_page_X0_hasPage : GoodIn wsX7_page wsX0_hasPage := goodIn_r _ [6, 7, 8, 105, 106, 107, 108, 109, 110, 111, 112, 113, 114, 115, 116, 117] (by decide +kernel) (by decide +kernel)
set_option maxRecDepth 20000 in
theorem gX7_page_X0_hasPage : GoodIn wsX7_page (wsV RX7 152 RX0 yX0_hasPage wsX0_hasPage) := goodIn_app (goodIn_of _ (by decide +kernel)) ggX7_page_X0_hasPage
set_option maxRecDepth 20000 in
theorem ggX7_page_X7_refuse : GoodIn wsX7_page wsX7_refuse := goodIn_r _ [13, 14, 15, 16, 97, 98, 99, 100, 101, 102, 103, 104] (by decide +kernel) (by decide +kernel)
set_option maxRecDepth 20000 in
theorem gX7_page_X7_refuse : GoodIn wsX7_page (wsV RX7 44 RX7 yX7_refuse wsX7_refuse) := goodIn_app (goodIn_of _ (by decide +kernel)) ggX7_page_X7_refuse
set_option maxRecDepth 20000 in
theorem ggX7_page_X0_pageFact : GoodIn wsX7_page wsX0_pageFact := goodIn_r _ [20, 7, 21, 22, 23, 24, 5, 25, 26, 27, 28, 29, 30, 31, 32, 33, 34, 35, 36, 37, 8, 38, 39, 40, 41, 42, 43, 44, 45, 46, 47, 48, 49, 50, 51, 52, 53, 54, 55, 56, 57, 58, 59, 60, 61, 62, 63, 64, 65, 66, 67, 68, 69, 70, 71, 72, 73, 74, 75, 76, 77, 78, 79, 80, 81, 82, 83, 84, 85, 86, 87, 88, 89, 90, 91, 92, 93, 94, 95, 96, 105, 106, 107, 108, 109, 110, 111, 112, 113, 114, 115, 116, 117, 118, 119, 120, 121, 122, 123, 124, 125, 126] (by decide +kernel) (by decide +kernel)
set_option maxRecDepth 20000 in
theorem gX7_page_X0_pageFact : GoodIn wsX7_page (wsV RX7 180 RX0 yX0_pageFact wsX0_pageFact) := goodIn_app (goodIn_of _ (by decide +kernel)) ggX7_page_X0_pageFact
theorem dX7_page_0 : decode cX7_page 0 = .ok (.iload_n 2, 1) := by decide +kernel
theorem dX7_page_1 : decode cX7_page 1 = .ok (.ifCond .lt 20, 3) := by decide +kernel
theorem dX7_page_4 : decode cX7_page 4 = .ok (.iload_n 2, 1) := by decide +kernel
theorem dX7_page_5 : decode cX7_page 5 = .ok (.bipush 6, 2) := by decide +kernel
theorem dX7_page_7 : decode cX7_page 7 = .ok (.if_icmp .gt 14, 3) := by decide +kernel
theorem dX7_page_10 : decode cX7_page 10 = .ok (.aload_n 0, 1) := by decide +kernel
theorem dX7_page_11 : decode cX7_page 11 = .ok (.getfield 26, 3) := by decide +kernel
theorem dX7_page_14 : decode cX7_page 14 = .ok (.iload_n 1, 1) := by decide +kernel
theorem dX7_page_15 : decode cX7_page 15 = .ok (.invokevirtual 152, 3) := by decide +kernel
theorem dX7_page_18 : decode cX7_page 18 = .ok (.ifCond .ne 10, 3) := by decide +kernel
theorem dX7_page_21 : decode cX7_page 21 = .ok (.aload_n 0, 1) := by decide +kernel
theorem dX7_page_22 : decode cX7_page 22 = .ok (.bipush (-2), 2) := by decide +kernel
theorem dX7_page_24 : decode cX7_page 24 = .ok (.invokevirtual 44, 3) := by decide +kernel
theorem dX7_page_27 : decode cX7_page 27 = .ok (.ireturn, 1) := by decide +kernel
theorem dX7_page_28 : decode cX7_page 28 = .ok (.aload_n 0, 1) := by decide +kernel
theorem dX7_page_29 : decode cX7_page 29 = .ok (.getfield 26, 3) := by decide +kernel
theorem dX7_page_32 : decode cX7_page 32 = .ok (.iload_n 1, 1) := by decide +kernel
theorem dX7_page_33 : decode cX7_page 33 = .ok (.iload_n 2, 1) := by decide +kernel
theorem dX7_page_34 : decode cX7_page 34 = .ok (.invokevirtual 180, 3) := by decide +kernel
theorem dX7_page_37 : decode cX7_page 37 = .ok (.ireturn, 1) := by decide +kernel
set_option maxRecDepth 20000 in
theorem ggX7_fork_X0_hasPage : GoodIn wsX7_fork wsX0_hasPage := goodIn_r _ [7, 8, 9, 73, 74, 75, 76, 77, 78, 79, 80, 81, 82, 83, 84, 85] (by decide +kernel) (by decide +kernel)
set_option maxRecDepth 20000 in
theorem gX7_fork_X0_hasPage : GoodIn wsX7_fork (wsV RX7 152 RX0 yX0_hasPage wsX0_hasPage) := goodIn_app (goodIn_of _ (by decide +kernel)) ggX7_fork_X0_hasPage
set_option maxRecDepth 20000 in
theorem ggX7_fork_X7_refuse : GoodIn wsX7_fork wsX7_refuse := goodIn_r _ [14, 15, 16, 17, 65, 66, 67, 68, 69, 70, 71, 72] (by decide +kernel) (by decide +kernel)
set_option maxRecDepth 20000 in
theorem gX7_fork_X7_refuse : GoodIn wsX7_fork (wsV RX7 44 RX7 yX7_refuse wsX7_refuse) := goodIn_app (goodIn_of _ (by decide +kernel)) ggX7_fork_X7_refuse
set_option maxRecDepth 20000 in
theorem ggX7_fork_X3_entriesOf : GoodIn wsX7_fork wsX3_entriesOf := goodIn_r _ [22, 23, 24, 80, 81, 82, 83, 84, 85] (by decide +kernel) (by decide +kernel)
set_option maxRecDepth 20000 in
theorem gX7_fork_X3_entriesOf : GoodIn wsX7_fork (wsV RX7 184 RX3 yX3_entriesOf wsX3_entriesOf) := goodIn_app (goodIn_of _ (by decide +kernel)) ggX7_fork_X3_entriesOf
set_option maxRecDepth 20000 in
theorem ggX7_fork_X0_forkFact : GoodIn wsX7_fork wsX0_forkFact := goodIn_r _ [28, 29, 8, 30, 31, 32, 33, 34, 35, 36, 37, 6, 38, 39, 40, 19, 20, 21, 22, 23, 24, 41, 42, 43, 44, 45, 46, 47, 48, 49, 50, 51, 52, 53, 54, 55, 56, 57, 58, 59, 60, 61, 62, 63, 64, 73, 74, 75, 76, 77, 78, 79, 86, 87, 88, 89, 90, 91, 92, 80, 81, 82, 83, 84, 85] (by decide +kernel) (by decide +kernel)
set_option maxRecDepth 20000 in
theorem gX7_fork_X0_forkFact : GoodIn wsX7_fork (wsV RX7 187 RX0 yX0_forkFact wsX0_forkFact) := goodIn_app (goodIn_of _ (by decide +kernel)) ggX7_fork_X0_forkFact
theorem dX7_fork_0 : decode cX7_fork 0 = .ok (.iload_n 3, 1) := by decide +kernel
theorem dX7_fork_1 : decode cX7_fork 1 = .ok (.ifCond .lt 19, 3) := by decide +kernel
theorem dX7_fork_4 : decode cX7_fork 4 = .ok (.iload_n 3, 1) := by decide +kernel
theorem dX7_fork_5 : decode cX7_fork 5 = .ok (.iconst 3, 1) := by decide +kernel
theorem dX7_fork_6 : decode cX7_fork 6 = .ok (.if_icmp .gt 14, 3) := by decide +kernel
theorem dX7_fork_9 : decode cX7_fork 9 = .ok (.aload_n 0, 1) := by decide +kernel
theorem dX7_fork_10 : decode cX7_fork 10 = .ok (.getfield 26, 3) := by decide +kernel
theorem dX7_fork_13 : decode cX7_fork 13 = .ok (.iload_n 1, 1) := by decide +kernel
theorem dX7_fork_14 : decode cX7_fork 14 = .ok (.invokevirtual 152, 3) := by decide +kernel
theorem dX7_fork_17 : decode cX7_fork 17 = .ok (.ifCond .ne 10, 3) := by decide +kernel
theorem dX7_fork_20 : decode cX7_fork 20 = .ok (.aload_n 0, 1) := by decide +kernel
theorem dX7_fork_21 : decode cX7_fork 21 = .ok (.bipush (-2), 2) := by decide +kernel
theorem dX7_fork_23 : decode cX7_fork 23 = .ok (.invokevirtual 44, 3) := by decide +kernel
theorem dX7_fork_26 : decode cX7_fork 26 = .ok (.ireturn, 1) := by decide +kernel
theorem dX7_fork_27 : decode cX7_fork 27 = .ok (.iload_n 2, 1) := by decide +kernel
theorem dX7_fork_28 : decode cX7_fork 28 = .ok (.ifCond .lt 20, 3) := by decide +kernel
theorem dX7_fork_31 : decode cX7_fork 31 = .ok (.iload_n 2, 1) := by decide +kernel
theorem dX7_fork_32 : decode cX7_fork 32 = .ok (.aload_n 0, 1) := by decide +kernel
theorem dX7_fork_33 : decode cX7_fork 33 = .ok (.getfield 26, 3) := by decide +kernel
theorem dX7_fork_36 : decode cX7_fork 36 = .ok (.getfield 68, 3) := by decide +kernel
theorem dX7_fork_39 : decode cX7_fork 39 = .ok (.iload_n 1, 1) := by decide +kernel
theorem dX7_fork_40 : decode cX7_fork 40 = .ok (.invokevirtual 184, 3) := by decide +kernel
theorem dX7_fork_43 : decode cX7_fork 43 = .ok (.iconst 1, 1) := by decide +kernel
theorem dX7_fork_44 : decode cX7_fork 44 = .ok (.isub, 1) := by decide +kernel
theorem dX7_fork_45 : decode cX7_fork 45 = .ok (.if_icmp .lt 10, 3) := by decide +kernel
theorem dX7_fork_48 : decode cX7_fork 48 = .ok (.aload_n 0, 1) := by decide +kernel
theorem dX7_fork_49 : decode cX7_fork 49 = .ok (.bipush (-2), 2) := by decide +kernel
theorem dX7_fork_51 : decode cX7_fork 51 = .ok (.invokevirtual 44, 3) := by decide +kernel
theorem dX7_fork_54 : decode cX7_fork 54 = .ok (.ireturn, 1) := by decide +kernel
theorem dX7_fork_55 : decode cX7_fork 55 = .ok (.aload_n 0, 1) := by decide +kernel
theorem dX7_fork_56 : decode cX7_fork 56 = .ok (.getfield 26, 3) := by decide +kernel
theorem dX7_fork_59 : decode cX7_fork 59 = .ok (.iload_n 1, 1) := by decide +kernel
theorem dX7_fork_60 : decode cX7_fork 60 = .ok (.iload_n 2, 1) := by decide +kernel
theorem dX7_fork_61 : decode cX7_fork 61 = .ok (.iload_n 3, 1) := by decide +kernel
theorem dX7_fork_62 : decode cX7_fork 62 = .ok (.invokevirtual 187, 3) := by decide +kernel
theorem dX7_fork_65 : decode cX7_fork 65 = .ok (.ireturn, 1) := by decide +kernel
set_option maxRecDepth 20000 in
theorem ggX7_all_X7_refuse : GoodIn wsX7_all wsX7_refuse := goodIn_r _ [6, 7, 8, 9, 138, 139, 140, 141, 142, 143, 144, 145] (by decide +kernel) (by decide +kernel)
set_option maxRecDepth 20000 in
theorem gX7_all_X7_refuse : GoodIn wsX7_all (wsV RX7 44 RX7 yX7_refuse wsX7_refuse) := goodIn_app (goodIn_of _ (by decide +kernel)) ggX7_all_X7_refuse
set_option maxRecDepth 20000 in
theorem ggX7_all_X0_wholeFact : GoodIn wsX7_all wsX0_wholeFact := goodIn_r _ [14, 15, 16, 17, 18, 19, 20, 21, 22, 13, 23, 24, 25, 26, 27, 28, 29, 30, 31, 32, 33, 34, 35, 36, 37, 38, 39, 40, 41, 42, 43, 44, 45, 46, 47, 48, 49, 50, 51, 52, 53, 54, 55, 56, 57, 58, 59, 60, 61, 62, 63, 64, 65, 66, 67, 68, 69, 70, 71, 72, 73, 74, 75, 76, 77, 78, 79, 80, 81, 82, 83, 84, 85, 86, 87, 88, 89, 90, 91, 92, 93, 94, 95, 96, 97, 98, 99, 100, 101, 102, 103, 104, 105, 106, 107, 108, 109, 110, 111, 112, 113, 114, 115, 116, 117, 118, 119, 120, 121, 122, 123, 124, 125, 126, 127, 128, 129, 130, 131, 132, 133, 134, 135, 136, 137, 146, 147, 148, 149, 150, 151, 152, 153, 154, 155, 156, 157, 158, 159, 160, 161, 162, 163, 164, 165, 166, 167, 168, 169, 170, 171, 172, 173] (by decide +kernel) (by decide +kernel)
set_option maxRecDepth 20000 in
theorem gX7_all_X0_wholeFact : GoodIn wsX7_all (wsV RX7 191 RX0 yX0_wholeFact wsX0_wholeFact) := goodIn_app (goodIn_of _ (by decide +kernel)) ggX7_all_X0_wholeFact
theorem dX7_all_0 : decode cX7_all 0 = .ok (.iload_n 1, 1) := by decide +kernel
theorem dX7_all_1 : decode cX7_all 1 = .ok (.ifCond .lt 9, 3) := by decide +kernel
theorem dX7_all_4 : decode cX7_all 4 = .ok (.iload_n 1, 1) := by decide +kernel
theorem dX7_all_5 : decode cX7_all 5 = .ok (.bipush 6, 2) := by decide +kernel
theorem dX7_all_7 : decode cX7_all 7 = .ok (.if_icmp .le 10, 3) := by decide +kernel
theorem dX7_all_10 : decode cX7_all 10 = .ok (.aload_n 0, 1) := by decide +kernel
theorem dX7_all_11 : decode cX7_all 11 = .ok (.bipush (-2), 2) := by decide +kernel
theorem dX7_all_13 : decode cX7_all 13 = .ok (.invokevirtual 44, 3) := by decide +kernel
theorem dX7_all_16 : decode cX7_all 16 = .ok (.ireturn, 1) := by decide +kernel
theorem dX7_all_17 : decode cX7_all 17 = .ok (.aload_n 0, 1) := by decide +kernel
theorem dX7_all_18 : decode cX7_all 18 = .ok (.getfield 26, 3) := by decide +kernel
theorem dX7_all_21 : decode cX7_all 21 = .ok (.iload_n 1, 1) := by decide +kernel
theorem dX7_all_22 : decode cX7_all 22 = .ok (.invokevirtual 191, 3) := by decide +kernel
theorem dX7_all_25 : decode cX7_all 25 = .ok (.ireturn, 1) := by decide +kernel
set_option maxRecDepth 20000 in
theorem ggX7_back_X7_refuse : GoodIn wsX7_back wsX7_refuse := goodIn_r _ [9, 10, 11, 12, 109, 110, 111, 112, 113, 114, 115, 116] (by decide +kernel) (by decide +kernel)
set_option maxRecDepth 20000 in
theorem gX7_back_X7_refuse : GoodIn wsX7_back (wsV RX7 44 RX7 yX7_refuse wsX7_refuse) := goodIn_app (goodIn_of _ (by decide +kernel)) ggX7_back_X7_refuse
set_option maxRecDepth 20000 in
theorem ggX7_back_X2_restore : GoodIn wsX7_back wsX2_restore := goodIn_r _ [17, 18, 19, 20, 21, 22, 23, 24, 25, 26, 27, 28, 29, 30, 31, 32, 33, 34, 35, 36, 37, 38, 39, 40, 41, 42, 43, 44, 45, 46, 117, 118, 119, 127, 128, 129, 130, 131, 132, 133, 134] (by decide +kernel) (by decide +kernel)
set_option maxRecDepth 20000 in
theorem gX7_back_X2_restore : GoodIn wsX7_back (wsV RX7 197 RX2 yX2_restore wsX2_restore) := goodIn_app (goodIn_of _ (by decide +kernel)) ggX7_back_X2_restore
set_option maxRecDepth 20000 in
theorem ggX7_back_X0_settle : GoodIn wsX7_back wsX0_settle := goodIn_r _ [51, 52, 53, 54, 55, 56, 57, 58, 50, 59, 60, 61, 62, 44, 45, 24, 46, 28, 29, 63, 64, 65, 66, 67, 68, 69, 70, 71, 72, 73, 74, 75, 76, 77, 78, 79, 80, 81, 82, 83, 84, 85, 86, 87, 88, 89, 33, 34, 35, 27, 90, 91, 92, 39, 93, 41, 94, 95, 96, 97, 98, 99, 100, 101, 102, 103, 104, 105, 106, 107, 108, 120, 121, 122, 123, 124, 125, 126, 127, 128, 129, 130, 131, 132, 133, 134, 135, 136, 137, 138, 139, 140, 141] (by decide +kernel) (by decide +kernel)
set_option maxRecDepth 20000 in
theorem gX7_back_X0_settle : GoodIn wsX7_back (wsV RX7 115 RX0 yX0_settle wsX0_settle) := goodIn_app (goodIn_of _ (by decide +kernel)) ggX7_back_X0_settle
theorem dX7_back_0 : decode cX7_back 0 = .ok (.aload_n 0, 1) := by decide +kernel
theorem dX7_back_1 : decode cX7_back 1 = .ok (.getfield 33, 3) := by decide +kernel
theorem dX7_back_4 : decode cX7_back 4 = .ok (.getfield 194, 3) := by decide +kernel
theorem dX7_back_7 : decode cX7_back 7 = .ok (.ifCond .ne 10, 3) := by decide +kernel
theorem dX7_back_10 : decode cX7_back 10 = .ok (.aload_n 0, 1) := by decide +kernel
theorem dX7_back_11 : decode cX7_back 11 = .ok (.bipush (-3), 2) := by decide +kernel
theorem dX7_back_13 : decode cX7_back 13 = .ok (.invokevirtual 44, 3) := by decide +kernel
theorem dX7_back_16 : decode cX7_back 16 = .ok (.ireturn, 1) := by decide +kernel
theorem dX7_back_17 : decode cX7_back 17 = .ok (.aload_n 0, 1) := by decide +kernel
theorem dX7_back_18 : decode cX7_back 18 = .ok (.getfield 33, 3) := by decide +kernel
theorem dX7_back_21 : decode cX7_back 21 = .ok (.aload_n 0, 1) := by decide +kernel
theorem dX7_back_22 : decode cX7_back 22 = .ok (.getfield 26, 3) := by decide +kernel
theorem dX7_back_25 : decode cX7_back 25 = .ok (.getfield 68, 3) := by decide +kernel
theorem dX7_back_28 : decode cX7_back 28 = .ok (.invokevirtual 197, 3) := by decide +kernel
theorem dX7_back_31 : decode cX7_back 31 = .ok (.aload_n 0, 1) := by decide +kernel
theorem dX7_back_32 : decode cX7_back 32 = .ok (.getfield 26, 3) := by decide +kernel
theorem dX7_back_35 : decode cX7_back 35 = .ok (.invokevirtual 115, 3) := by decide +kernel
theorem dX7_back_38 : decode cX7_back 38 = .ok (.aload_n 0, 1) := by decide +kernel
theorem dX7_back_39 : decode cX7_back 39 = .ok (.getfield 33, 3) := by decide +kernel
theorem dX7_back_42 : decode cX7_back 42 = .ok (.getfield 194, 3) := by decide +kernel
theorem dX7_back_45 : decode cX7_back 45 = .ok (.ireturn, 1) := by decide +kernel
set_option maxRecDepth 20000 in
theorem ggX7_told_X7_refuse : GoodIn wsX7_told wsX7_refuse := goodIn_r _ [5, 6, 7, 8, 17, 18, 19, 20, 21, 22, 23, 24] (by decide +kernel) (by decide +kernel)
set_option maxRecDepth 20000 in
theorem gX7_told_X7_refuse : GoodIn wsX7_told (wsV RX7 44 RX7 yX7_refuse wsX7_refuse) := goodIn_app (goodIn_of _ (by decide +kernel)) ggX7_told_X7_refuse
set_option maxRecDepth 20000 in
theorem ggX7_told_X7_ownFact : GoodIn wsX7_told wsX7_ownFact := goodIn_r _ [12, 6, 7, 8, 13, 14, 15, 16, 17, 18, 19, 20, 21, 22, 23, 24, 25, 26, 27, 28, 29] (by decide +kernel) (by decide +kernel)
set_option maxRecDepth 20000 in
theorem gX7_told_X7_ownFact : GoodIn wsX7_told (wsV RX7 200 RX7 yX7_ownFact wsX7_ownFact) := goodIn_app (goodIn_of _ (by decide +kernel)) ggX7_told_X7_ownFact
theorem dX7_told_0 : decode cX7_told 0 = .ok (.iload_n 1, 1) := by decide +kernel
theorem dX7_told_1 : decode cX7_told 1 = .ok (.ifCond .lt 8, 3) := by decide +kernel
theorem dX7_told_4 : decode cX7_told 4 = .ok (.iload_n 1, 1) := by decide +kernel
theorem dX7_told_5 : decode cX7_told 5 = .ok (.iconst 4, 1) := by decide +kernel
theorem dX7_told_6 : decode cX7_told 6 = .ok (.if_icmp .le 10, 3) := by decide +kernel
theorem dX7_told_9 : decode cX7_told 9 = .ok (.aload_n 0, 1) := by decide +kernel
theorem dX7_told_10 : decode cX7_told 10 = .ok (.bipush (-2), 2) := by decide +kernel
theorem dX7_told_12 : decode cX7_told 12 = .ok (.invokevirtual 44, 3) := by decide +kernel
theorem dX7_told_15 : decode cX7_told 15 = .ok (.ireturn, 1) := by decide +kernel
theorem dX7_told_16 : decode cX7_told 16 = .ok (.aload_n 0, 1) := by decide +kernel
theorem dX7_told_17 : decode cX7_told 17 = .ok (.iload_n 1, 1) := by decide +kernel
theorem dX7_told_18 : decode cX7_told 18 = .ok (.invokevirtual 200, 3) := by decide +kernel
theorem dX7_told_21 : decode cX7_told 21 = .ok (.ireturn, 1) := by decide +kernel
set_option maxRecDepth 20000 in
theorem ggX7_digest_X7_ownFact : GoodIn wsX7_digest wsX7_ownFact := goodIn_r _ [11, 12, 13, 14, 15, 16, 17, 18, 191, 192, 193, 194, 195, 196, 197, 198, 214, 215, 216, 217, 218] (by decide +kernel) (by decide +kernel)
set_option maxRecDepth 20000 in
theorem gX7_digest_X7_ownFact : GoodIn wsX7_digest (wsV RX7 200 RX7 yX7_ownFact wsX7_ownFact) := goodIn_app (goodIn_of _ (by decide +kernel)) ggX7_digest_X7_ownFact
set_option maxRecDepth 20000 in
theorem ggX7_digest_X0_wholeFact : GoodIn wsX7_digest wsX0_wholeFact := goodIn_r _ [23, 24, 25, 26, 27, 28, 29, 30, 31, 22, 32, 33, 34, 35, 36, 37, 38, 39, 40, 41, 42, 43, 44, 45, 46, 47, 48, 49, 50, 51, 52, 53, 54, 55, 56, 57, 58, 59, 60, 61, 62, 63, 64, 65, 66, 67, 68, 69, 70, 71, 72, 73, 74, 75, 76, 77, 78, 79, 80, 81, 82, 83, 84, 85, 86, 87, 88, 89, 90, 91, 92, 93, 94, 95, 96, 97, 98, 99, 100, 101, 102, 103, 104, 105, 106, 107, 108, 109, 110, 111, 112, 113, 114, 115, 116, 117, 118, 119, 120, 121, 122, 123, 124, 125, 126, 127, 128, 129, 130, 131, 132, 133, 134, 135, 136, 137, 138, 139, 140, 141, 142, 143, 144, 145, 146, 199, 200, 201, 202, 203, 204, 205, 206, 207, 208, 209, 210, 211, 219, 220, 221, 222, 223, 224, 225, 226, 227, 228, 229, 230, 231, 212, 213] (by decide +kernel) (by decide +kernel)
set_option maxRecDepth 20000 in
theorem gX7_digest_X0_wholeFact : GoodIn wsX7_digest (wsV RX7 191 RX0 yX0_wholeFact wsX0_wholeFact) := goodIn_app (goodIn_of _ (by decide +kernel)) ggX7_digest_X0_wholeFact
set_option maxRecDepth 20000 in
theorem ggX7_digest_X7_digestPages : GoodIn wsX7_digest wsX7_digestPages := goodIn_r _ [150, 3, 4, 151, 2, 152, 153, 154, 22, 155, 24, 156, 157, 158, 159, 160, 161, 74, 75, 76, 40, 77, 78, 79, 162, 163, 164, 165, 26, 25, 114, 115, 116, 117, 118, 166, 167, 168, 169, 60, 170, 33, 34, 35, 36, 69, 70, 71, 72, 73, 80, 81, 82, 83, 84, 85, 86, 87, 88, 89, 90, 91, 92, 93, 94, 95, 171, 172, 173, 174, 106, 107, 108, 109, 175, 176, 177, 178, 66, 37, 38, 39, 41, 42, 110, 111, 112, 113, 179, 180, 181, 182, 183, 184, 185, 61, 68, 191, 192, 193, 194, 195, 196, 197, 198, 199, 200, 201, 202, 203, 204, 205, 206, 207, 208, 209, 210, 211, 225, 226, 227, 228, 229, 230, 231, 212, 213] (by decide +kernel) (by decide +kernel)
set_option maxRecDepth 20000 in
theorem gX7_digest_X7_digestPages : GoodIn wsX7_digest (wsV RX7 207 RX7 yX7_digestPages wsX7_digestPages) := goodIn_app (goodIn_of _ (by decide +kernel)) ggX7_digest_X7_digestPages
set_option maxRecDepth 20000 in
theorem ggX7_digest_X3_wordAt : GoodIn wsX7_digest wsX3_wordAt := goodIn_r _ [41, 42, 206, 207, 208, 209, 210, 211] (by decide +kernel) (by decide +kernel)
set_option maxRecDepth 20000 in
theorem gX7_digest_X3_wordAt : GoodIn wsX7_digest (wsV RX7 167 RX3 yX3_wordAt wsX3_wordAt) := goodIn_app (goodIn_of _ (by decide +kernel)) ggX7_digest_X3_wordAt
set_option maxRecDepth 20000 in
theorem ggX7_digest_X6_signAt : GoodIn wsX7_digest wsX6_signAt := goodIn_r _ [190, 105, 212, 213] (by decide +kernel) (by decide +kernel)
set_option maxRecDepth 20000 in
theorem gX7_digest_X6_signAt : GoodIn wsX7_digest (wsV RX7 174 RX6 yX6_signAt wsX6_signAt) := goodIn_app (goodIn_of _ (by decide +kernel)) ggX7_digest_X6_signAt
theorem dX7_digest_0 : decode cX7_digest 0 = .ok (.ldc2_w 203, 3) := by decide +kernel
theorem dX7_digest_3 : decode cX7_digest 3 = .ok (.lstore_n 1, 1) := by decide +kernel
theorem dX7_digest_4 : decode cX7_digest 4 = .ok (.iconst 0, 1) := by decide +kernel
theorem dX7_digest_5 : decode cX7_digest 5 = .ok (.istore_n 3, 1) := by decide +kernel
theorem dX7_digest_6 : decode cX7_digest 6 = .ok (.iload_n 3, 1) := by decide +kernel
theorem dX7_digest_7 : decode cX7_digest 7 = .ok (.iconst 4, 1) := by decide +kernel
theorem dX7_digest_8 : decode cX7_digest 8 = .ok (.if_icmp .gt 22, 3) := by decide +kernel
theorem dX7_digest_11 : decode cX7_digest 11 = .ok (.ldc2_w 205, 3) := by decide +kernel
theorem dX7_digest_14 : decode cX7_digest 14 = .ok (.lload_n 1, 1) := by decide +kernel
theorem dX7_digest_15 : decode cX7_digest 15 = .ok (.lmul, 1) := by decide +kernel
theorem dX7_digest_16 : decode cX7_digest 16 = .ok (.aload_n 0, 1) := by decide +kernel
theorem dX7_digest_17 : decode cX7_digest 17 = .ok (.iload_n 3, 1) := by decide +kernel
theorem dX7_digest_18 : decode cX7_digest 18 = .ok (.invokevirtual 200, 3) := by decide +kernel
theorem dX7_digest_21 : decode cX7_digest 21 = .ok (.i2l, 1) := by decide +kernel
theorem dX7_digest_22 : decode cX7_digest 22 = .ok (.ladd, 1) := by decide +kernel
theorem dX7_digest_23 : decode cX7_digest 23 = .ok (.lstore_n 1, 1) := by decide +kernel
theorem dX7_digest_24 : decode cX7_digest 24 = .ok (.iinc 3 1, 3) := by decide +kernel
theorem dX7_digest_27 : decode cX7_digest 27 = .ok (.goto (-21), 3) := by decide +kernel
theorem dX7_digest_30 : decode cX7_digest 30 = .ok (.iconst 0, 1) := by decide +kernel
theorem dX7_digest_31 : decode cX7_digest 31 = .ok (.istore_n 3, 1) := by decide +kernel
theorem dX7_digest_32 : decode cX7_digest 32 = .ok (.iload_n 3, 1) := by decide +kernel
theorem dX7_digest_33 : decode cX7_digest 33 = .ok (.bipush 6, 2) := by decide +kernel
theorem dX7_digest_35 : decode cX7_digest 35 = .ok (.if_icmp .gt 25, 3) := by decide +kernel
theorem dX7_digest_38 : decode cX7_digest 38 = .ok (.ldc2_w 205, 3) := by decide +kernel
theorem dX7_digest_41 : decode cX7_digest 41 = .ok (.lload_n 1, 1) := by decide +kernel
theorem dX7_digest_42 : decode cX7_digest 42 = .ok (.lmul, 1) := by decide +kernel
theorem dX7_digest_43 : decode cX7_digest 43 = .ok (.aload_n 0, 1) := by decide +kernel
theorem dX7_digest_44 : decode cX7_digest 44 = .ok (.getfield 26, 3) := by decide +kernel
theorem dX7_digest_47 : decode cX7_digest 47 = .ok (.iload_n 3, 1) := by decide +kernel
theorem dX7_digest_48 : decode cX7_digest 48 = .ok (.invokevirtual 191, 3) := by decide +kernel
theorem dX7_digest_51 : decode cX7_digest 51 = .ok (.i2l, 1) := by decide +kernel
theorem dX7_digest_52 : decode cX7_digest 52 = .ok (.ladd, 1) := by decide +kernel
theorem dX7_digest_53 : decode cX7_digest 53 = .ok (.lstore_n 1, 1) := by decide +kernel
theorem dX7_digest_54 : decode cX7_digest 54 = .ok (.iinc 3 1, 3) := by decide +kernel
theorem dX7_digest_57 : decode cX7_digest 57 = .ok (.goto (-25), 3) := by decide +kernel
theorem dX7_digest_60 : decode cX7_digest 60 = .ok (.aload_n 0, 1) := by decide +kernel
theorem dX7_digest_61 : decode cX7_digest 61 = .ok (.lload_n 1, 1) := by decide +kernel
theorem dX7_digest_62 : decode cX7_digest 62 = .ok (.invokevirtual 207, 3) := by decide +kernel
theorem dX7_digest_65 : decode cX7_digest 65 = .ok (.lstore_n 1, 1) := by decide +kernel
theorem dX7_digest_66 : decode cX7_digest 66 = .ok (.iconst 0, 1) := by decide +kernel
theorem dX7_digest_67 : decode cX7_digest 67 = .ok (.istore_n 3, 1) := by decide +kernel
theorem dX7_digest_68 : decode cX7_digest 68 = .ok (.iload_n 3, 1) := by decide +kernel
theorem dX7_digest_69 : decode cX7_digest 69 = .ok (.aload_n 0, 1) := by decide +kernel
theorem dX7_digest_70 : decode cX7_digest 70 = .ok (.getfield 26, 3) := by decide +kernel
theorem dX7_digest_73 : decode cX7_digest 73 = .ok (.getfield 68, 3) := by decide +kernel
theorem dX7_digest_76 : decode cX7_digest 76 = .ok (.getfield 72, 3) := by decide +kernel
theorem dX7_digest_79 : decode cX7_digest 79 = .ok (.if_icmp .ge 56, 3) := by decide +kernel
theorem dX7_digest_82 : decode cX7_digest 82 = .ok (.aload_n 0, 1) := by decide +kernel
theorem dX7_digest_83 : decode cX7_digest 83 = .ok (.getfield 26, 3) := by decide +kernel
theorem dX7_digest_86 : decode cX7_digest 86 = .ok (.getfield 68, 3) := by decide +kernel
theorem dX7_digest_89 : decode cX7_digest 89 = .ok (.iload_n 3, 1) := by decide +kernel
theorem dX7_digest_90 : decode cX7_digest 90 = .ok (.invokevirtual 167, 3) := by decide +kernel
theorem dX7_digest_93 : decode cX7_digest 93 = .ok (.astore 4, 2) := by decide +kernel
theorem dX7_digest_95 : decode cX7_digest 95 = .ok (.iconst 0, 1) := by decide +kernel
theorem dX7_digest_96 : decode cX7_digest 96 = .ok (.istore 5, 2) := by decide +kernel
theorem dX7_digest_98 : decode cX7_digest 98 = .ok (.iload 5, 2) := by decide +kernel
theorem dX7_digest_100 : decode cX7_digest 100 = .ok (.aload 4, 2) := by decide +kernel
theorem dX7_digest_102 : decode cX7_digest 102 = .ok (.getfield 171, 3) := by decide +kernel
theorem dX7_digest_105 : decode cX7_digest 105 = .ok (.if_icmp .ge 24, 3) := by decide +kernel
theorem dX7_digest_108 : decode cX7_digest 108 = .ok (.ldc2_w 205, 3) := by decide +kernel
theorem dX7_digest_111 : decode cX7_digest 111 = .ok (.lload_n 1, 1) := by decide +kernel
theorem dX7_digest_112 : decode cX7_digest 112 = .ok (.lmul, 1) := by decide +kernel
theorem dX7_digest_113 : decode cX7_digest 113 = .ok (.aload 4, 2) := by decide +kernel
theorem dX7_digest_115 : decode cX7_digest 115 = .ok (.iload 5, 2) := by decide +kernel
theorem dX7_digest_117 : decode cX7_digest 117 = .ok (.invokevirtual 174, 3) := by decide +kernel
theorem dX7_digest_120 : decode cX7_digest 120 = .ok (.i2l, 1) := by decide +kernel
theorem dX7_digest_121 : decode cX7_digest 121 = .ok (.ladd, 1) := by decide +kernel
theorem dX7_digest_122 : decode cX7_digest 122 = .ok (.lstore_n 1, 1) := by decide +kernel
theorem dX7_digest_123 : decode cX7_digest 123 = .ok (.iinc 5 1, 3) := by decide +kernel
theorem dX7_digest_126 : decode cX7_digest 126 = .ok (.goto (-28), 3) := by decide +kernel
theorem dX7_digest_129 : decode cX7_digest 129 = .ok (.iinc 3 1, 3) := by decide +kernel
theorem dX7_digest_132 : decode cX7_digest 132 = .ok (.goto (-64), 3) := by decide +kernel
theorem dX7_digest_135 : decode cX7_digest 135 = .ok (.lload_n 1, 1) := by decide +kernel
theorem dX7_digest_136 : decode cX7_digest 136 = .ok (.lreturn, 1) := by decide +kernel
set_option maxRecDepth 20000 in
theorem ggX7_digestPages_X0_pageFact : GoodIn wsX7_digestPages wsX0_pageFact := goodIn_r _ [9, 10, 11, 12, 13, 14, 8, 15, 16, 17, 18, 19, 20, 21, 22, 23, 24, 25, 26, 27, 28, 29, 30, 31, 32, 33, 34, 35, 36, 37, 38, 39, 40, 41, 42, 43, 44, 45, 46, 47, 48, 49, 50, 51, 52, 53, 54, 55, 56, 57, 58, 59, 60, 61, 62, 63, 64, 65, 66, 67, 68, 69, 70, 71, 72, 73, 74, 75, 76, 77, 78, 79, 80, 81, 82, 83, 84, 85, 86, 87, 105, 106, 107, 108, 109, 110, 111, 112, 113, 114, 115, 116, 117, 118, 119, 120, 121, 122, 123, 124, 125, 126] (by decide +kernel) (by decide +kernel)
set_option maxRecDepth 20000 in
theorem gX7_digestPages_X0_pageFact : GoodIn wsX7_digestPages (wsV RX7 180 RX0 yX0_pageFact wsX0_pageFact) := goodIn_app (goodIn_of _ (by decide +kernel)) ggX7_digestPages_X0_pageFact
set_option maxRecDepth 20000 in
theorem ggX7_digestPages_X3_entriesOf : GoodIn wsX7_digestPages wsX3_entriesOf := goodIn_r _ [21, 22, 23, 112, 113, 114, 115, 116, 117] (by decide +kernel) (by decide +kernel)
set_option maxRecDepth 20000 in
theorem gX7_digestPages_X3_entriesOf : GoodIn wsX7_digestPages (wsV RX7 184 RX3 yX3_entriesOf wsX3_entriesOf) := goodIn_app (goodIn_of _ (by decide +kernel)) ggX7_digestPages_X3_entriesOf
set_option maxRecDepth 20000 in
theorem ggX7_digestPages_X0_forkFact : GoodIn wsX7_digestPages wsX0_forkFact := goodIn_r _ [92, 39, 10, 93, 94, 95, 96, 40, 45, 46, 47, 8, 48, 49, 17, 18, 19, 20, 21, 22, 23, 50, 51, 52, 53, 54, 55, 56, 57, 58, 59, 60, 61, 62, 63, 64, 65, 66, 67, 68, 69, 70, 71, 72, 73, 105, 106, 107, 108, 109, 110, 111, 118, 119, 120, 121, 122, 123, 124, 112, 113, 114, 115, 116, 117] (by decide +kernel) (by decide +kernel)
set_option maxRecDepth 20000 in
theorem gX7_digestPages_X0_forkFact : GoodIn wsX7_digestPages (wsV RX7 187 RX0 yX0_forkFact wsX0_forkFact) := goodIn_app (goodIn_of _ (by decide +kernel)) ggX7_digestPages_X0_forkFact
theorem dX7_digestPages_0 : decode cX7_digestPages 0 = .ok (.lload_n 1, 1) := by decide +kernel
theorem dX7_digestPages_1 : decode cX7_digestPages 1 = .ok (.lstore_n 3, 1) := by decide +kernel
theorem dX7_digestPages_2 : decode cX7_digestPages 2 = .ok (.iconst 0, 1) := by decide +kernel
theorem dX7_digestPages_3 : decode cX7_digestPages 3 = .ok (.istore 5, 2) := by decide +kernel
theorem dX7_digestPages_5 : decode cX7_digestPages 5 = .ok (.iload 5, 2) := by decide +kernel
theorem dX7_digestPages_7 : decode cX7_digestPages 7 = .ok (.aload_n 0, 1) := by decide +kernel
theorem dX7_digestPages_8 : decode cX7_digestPages 8 = .ok (.getfield 26, 3) := by decide +kernel
theorem dX7_digestPages_11 : decode cX7_digestPages 11 = .ok (.getfield 68, 3) := by decide +kernel
theorem dX7_digestPages_14 : decode cX7_digestPages 14 = .ok (.getfield 118, 3) := by decide +kernel
theorem dX7_digestPages_17 : decode cX7_digestPages 17 = .ok (.if_icmp .ge 108, 3) := by decide +kernel
theorem dX7_digestPages_20 : decode cX7_digestPages 20 = .ok (.iconst 0, 1) := by decide +kernel
theorem dX7_digestPages_21 : decode cX7_digestPages 21 = .ok (.istore 6, 2) := by decide +kernel
theorem dX7_digestPages_23 : decode cX7_digestPages 23 = .ok (.iload 6, 2) := by decide +kernel
theorem dX7_digestPages_25 : decode cX7_digestPages 25 = .ok (.bipush 6, 2) := by decide +kernel
theorem dX7_digestPages_27 : decode cX7_digestPages 27 = .ok (.if_icmp .gt 28, 3) := by decide +kernel
theorem dX7_digestPages_30 : decode cX7_digestPages 30 = .ok (.ldc2_w 205, 3) := by decide +kernel
theorem dX7_digestPages_33 : decode cX7_digestPages 33 = .ok (.lload_n 3, 1) := by decide +kernel
theorem dX7_digestPages_34 : decode cX7_digestPages 34 = .ok (.lmul, 1) := by decide +kernel
theorem dX7_digestPages_35 : decode cX7_digestPages 35 = .ok (.aload_n 0, 1) := by decide +kernel
theorem dX7_digestPages_36 : decode cX7_digestPages 36 = .ok (.getfield 26, 3) := by decide +kernel
theorem dX7_digestPages_39 : decode cX7_digestPages 39 = .ok (.iload 5, 2) := by decide +kernel
theorem dX7_digestPages_41 : decode cX7_digestPages 41 = .ok (.iload 6, 2) := by decide +kernel
theorem dX7_digestPages_43 : decode cX7_digestPages 43 = .ok (.invokevirtual 180, 3) := by decide +kernel
theorem dX7_digestPages_46 : decode cX7_digestPages 46 = .ok (.i2l, 1) := by decide +kernel
theorem dX7_digestPages_47 : decode cX7_digestPages 47 = .ok (.ladd, 1) := by decide +kernel
theorem dX7_digestPages_48 : decode cX7_digestPages 48 = .ok (.lstore_n 3, 1) := by decide +kernel
theorem dX7_digestPages_49 : decode cX7_digestPages 49 = .ok (.iinc 6 1, 3) := by decide +kernel
theorem dX7_digestPages_52 : decode cX7_digestPages 52 = .ok (.goto (-29), 3) := by decide +kernel
theorem dX7_digestPages_55 : decode cX7_digestPages 55 = .ok (.iconst 0, 1) := by decide +kernel
theorem dX7_digestPages_56 : decode cX7_digestPages 56 = .ok (.istore 6, 2) := by decide +kernel
theorem dX7_digestPages_58 : decode cX7_digestPages 58 = .ok (.iload 6, 2) := by decide +kernel
theorem dX7_digestPages_60 : decode cX7_digestPages 60 = .ok (.aload_n 0, 1) := by decide +kernel
theorem dX7_digestPages_61 : decode cX7_digestPages 61 = .ok (.getfield 26, 3) := by decide +kernel
theorem dX7_digestPages_64 : decode cX7_digestPages 64 = .ok (.getfield 68, 3) := by decide +kernel
theorem dX7_digestPages_67 : decode cX7_digestPages 67 = .ok (.iload 5, 2) := by decide +kernel
theorem dX7_digestPages_69 : decode cX7_digestPages 69 = .ok (.invokevirtual 184, 3) := by decide +kernel
theorem dX7_digestPages_72 : decode cX7_digestPages 72 = .ok (.iconst 1, 1) := by decide +kernel
theorem dX7_digestPages_73 : decode cX7_digestPages 73 = .ok (.isub, 1) := by decide +kernel
theorem dX7_digestPages_74 : decode cX7_digestPages 74 = .ok (.if_icmp .ge 45, 3) := by decide +kernel
theorem dX7_digestPages_77 : decode cX7_digestPages 77 = .ok (.iconst 0, 1) := by decide +kernel
theorem dX7_digestPages_78 : decode cX7_digestPages 78 = .ok (.istore 7, 2) := by decide +kernel
theorem dX7_digestPages_80 : decode cX7_digestPages 80 = .ok (.iload 7, 2) := by decide +kernel
theorem dX7_digestPages_82 : decode cX7_digestPages 82 = .ok (.iconst 2, 1) := by decide +kernel
theorem dX7_digestPages_83 : decode cX7_digestPages 83 = .ok (.if_icmp .gt 30, 3) := by decide +kernel
theorem dX7_digestPages_86 : decode cX7_digestPages 86 = .ok (.ldc2_w 205, 3) := by decide +kernel
theorem dX7_digestPages_89 : decode cX7_digestPages 89 = .ok (.lload_n 3, 1) := by decide +kernel
theorem dX7_digestPages_90 : decode cX7_digestPages 90 = .ok (.lmul, 1) := by decide +kernel
theorem dX7_digestPages_91 : decode cX7_digestPages 91 = .ok (.aload_n 0, 1) := by decide +kernel
theorem dX7_digestPages_92 : decode cX7_digestPages 92 = .ok (.getfield 26, 3) := by decide +kernel
theorem dX7_digestPages_95 : decode cX7_digestPages 95 = .ok (.iload 5, 2) := by decide +kernel
theorem dX7_digestPages_97 : decode cX7_digestPages 97 = .ok (.iload 6, 2) := by decide +kernel
theorem dX7_digestPages_99 : decode cX7_digestPages 99 = .ok (.iload 7, 2) := by decide +kernel
theorem dX7_digestPages_101 : decode cX7_digestPages 101 = .ok (.invokevirtual 187, 3) := by decide +kernel
theorem dX7_digestPages_104 : decode cX7_digestPages 104 = .ok (.i2l, 1) := by decide +kernel
theorem dX7_digestPages_105 : decode cX7_digestPages 105 = .ok (.ladd, 1) := by decide +kernel
theorem dX7_digestPages_106 : decode cX7_digestPages 106 = .ok (.lstore_n 3, 1) := by decide +kernel
theorem dX7_digestPages_107 : decode cX7_digestPages 107 = .ok (.iinc 7 1, 3) := by decide +kernel
theorem dX7_digestPages_110 : decode cX7_digestPages 110 = .ok (.goto (-30), 3) := by decide +kernel
theorem dX7_digestPages_113 : decode cX7_digestPages 113 = .ok (.iinc 6 1, 3) := by decide +kernel
theorem dX7_digestPages_116 : decode cX7_digestPages 116 = .ok (.goto (-58), 3) := by decide +kernel
theorem dX7_digestPages_119 : decode cX7_digestPages 119 = .ok (.iinc 5 1, 3) := by decide +kernel
theorem dX7_digestPages_122 : decode cX7_digestPages 122 = .ok (.goto (-117), 3) := by decide +kernel
theorem dX7_digestPages_125 : decode cX7_digestPages 125 = .ok (.lload_n 3, 1) := by decide +kernel
theorem dX7_digestPages_126 : decode cX7_digestPages 126 = .ok (.lreturn, 1) := by decide +kernel
theorem dX7_refuse_0 : decode cX7_refuse 0 = .ok (.iload_n 1, 1) := by decide +kernel
theorem dX7_refuse_1 : decode cX7_refuse 1 = .ok (.bipush (-2), 2) := by decide +kernel
theorem dX7_refuse_3 : decode cX7_refuse 3 = .ok (.if_icmp .ne 16, 3) := by decide +kernel
theorem dX7_refuse_6 : decode cX7_refuse 6 = .ok (.aload_n 0, 1) := by decide +kernel
theorem dX7_refuse_7 : decode cX7_refuse 7 = .ok (.dup, 1) := by decide +kernel
theorem dX7_refuse_8 : decode cX7_refuse 8 = .ok (.getfield 211, 3) := by decide +kernel
theorem dX7_refuse_11 : decode cX7_refuse 11 = .ok (.iconst 1, 1) := by decide +kernel
theorem dX7_refuse_12 : decode cX7_refuse 12 = .ok (.iadd, 1) := by decide +kernel
theorem dX7_refuse_13 : decode cX7_refuse 13 = .ok (.putfield 211, 3) := by decide +kernel
theorem dX7_refuse_16 : decode cX7_refuse 16 = .ok (.goto 38, 3) := by decide +kernel
theorem dX7_refuse_19 : decode cX7_refuse 19 = .ok (.iload_n 1, 1) := by decide +kernel
theorem dX7_refuse_20 : decode cX7_refuse 20 = .ok (.bipush (-3), 2) := by decide +kernel
theorem dX7_refuse_22 : decode cX7_refuse 22 = .ok (.if_icmp .ne 16, 3) := by decide +kernel
theorem dX7_refuse_25 : decode cX7_refuse 25 = .ok (.aload_n 0, 1) := by decide +kernel
theorem dX7_refuse_26 : decode cX7_refuse 26 = .ok (.dup, 1) := by decide +kernel
theorem dX7_refuse_27 : decode cX7_refuse 27 = .ok (.getfield 214, 3) := by decide +kernel
theorem dX7_refuse_30 : decode cX7_refuse 30 = .ok (.iconst 1, 1) := by decide +kernel
theorem dX7_refuse_31 : decode cX7_refuse 31 = .ok (.iadd, 1) := by decide +kernel
theorem dX7_refuse_32 : decode cX7_refuse 32 = .ok (.putfield 214, 3) := by decide +kernel
theorem dX7_refuse_35 : decode cX7_refuse 35 = .ok (.goto 19, 3) := by decide +kernel
theorem dX7_refuse_38 : decode cX7_refuse 38 = .ok (.iload_n 1, 1) := by decide +kernel
theorem dX7_refuse_39 : decode cX7_refuse 39 = .ok (.bipush (-4), 2) := by decide +kernel
theorem dX7_refuse_41 : decode cX7_refuse 41 = .ok (.if_icmp .ne 13, 3) := by decide +kernel
theorem dX7_refuse_44 : decode cX7_refuse 44 = .ok (.aload_n 0, 1) := by decide +kernel
theorem dX7_refuse_45 : decode cX7_refuse 45 = .ok (.dup, 1) := by decide +kernel
theorem dX7_refuse_46 : decode cX7_refuse 46 = .ok (.getfield 217, 3) := by decide +kernel
theorem dX7_refuse_49 : decode cX7_refuse 49 = .ok (.iconst 1, 1) := by decide +kernel
theorem dX7_refuse_50 : decode cX7_refuse 50 = .ok (.iadd, 1) := by decide +kernel
theorem dX7_refuse_51 : decode cX7_refuse 51 = .ok (.putfield 217, 3) := by decide +kernel
theorem dX7_refuse_54 : decode cX7_refuse 54 = .ok (.iload_n 1, 1) := by decide +kernel
theorem dX7_refuse_55 : decode cX7_refuse 55 = .ok (.ireturn, 1) := by decide +kernel
theorem dX7_ownFact_0 : decode cX7_ownFact 0 = .ok (.iload_n 1, 1) := by decide +kernel
theorem dX7_ownFact_1 : decode cX7_ownFact 1 = .ok (.tableswitch 54 0 3 #[31, 36, 41, 46], 31) := by decide +kernel
theorem dX7_ownFact_32 : decode cX7_ownFact 32 = .ok (.aload_n 0, 1) := by decide +kernel
theorem dX7_ownFact_33 : decode cX7_ownFact 33 = .ok (.getfield 211, 3) := by decide +kernel
theorem dX7_ownFact_36 : decode cX7_ownFact 36 = .ok (.ireturn, 1) := by decide +kernel
theorem dX7_ownFact_37 : decode cX7_ownFact 37 = .ok (.aload_n 0, 1) := by decide +kernel
theorem dX7_ownFact_38 : decode cX7_ownFact 38 = .ok (.getfield 214, 3) := by decide +kernel
theorem dX7_ownFact_41 : decode cX7_ownFact 41 = .ok (.ireturn, 1) := by decide +kernel
theorem dX7_ownFact_42 : decode cX7_ownFact 42 = .ok (.aload_n 0, 1) := by decide +kernel
theorem dX7_ownFact_43 : decode cX7_ownFact 43 = .ok (.getfield 217, 3) := by decide +kernel
theorem dX7_ownFact_46 : decode cX7_ownFact 46 = .ok (.ireturn, 1) := by decide +kernel
theorem dX7_ownFact_47 : decode cX7_ownFact 47 = .ok (.aload_n 0, 1) := by decide +kernel
theorem dX7_ownFact_48 : decode cX7_ownFact 48 = .ok (.getfield 10, 3) := by decide +kernel
theorem dX7_ownFact_51 : decode cX7_ownFact 51 = .ok (.getfield 48, 3) := by decide +kernel
theorem dX7_ownFact_54 : decode cX7_ownFact 54 = .ok (.ireturn, 1) := by decide +kernel
theorem dX7_ownFact_55 : decode cX7_ownFact 55 = .ok (.aload_n 0, 1) := by decide +kernel
theorem dX7_ownFact_56 : decode cX7_ownFact 56 = .ok (.getfield 33, 3) := by decide +kernel
theorem dX7_ownFact_59 : decode cX7_ownFact 59 = .ok (.getfield 194, 3) := by decide +kernel
theorem dX7_ownFact_62 : decode cX7_ownFact 62 = .ok (.ireturn, 1) := by decide +kernel
set_option maxRecDepth 20000 in
theorem ggX7_aheadOfWord_X0_walk : GoodIn wsX7_aheadOfWord wsX0_walk := goodIn_r _ [7, 8, 9, 10, 11, 12, 13, 14, 15, 16, 17, 18, 19, 20, 6, 21, 22, 23, 24, 25, 26, 27, 28, 29, 30, 31, 32, 33, 34, 35, 36, 37, 38, 39, 40, 41, 42, 43, 44, 45, 46, 47, 48, 49, 50, 51, 52, 53, 54, 55, 56, 57, 58, 59, 60, 61, 62, 63, 64, 65, 66, 67, 68, 69, 70, 71, 72, 73, 74, 75, 76, 77, 78, 79, 80, 81, 82, 83, 84, 85, 86, 87, 88, 89, 90, 91, 92, 93, 94, 95, 96, 97, 98, 99, 100, 101, 102, 103, 104, 105, 106, 107, 108, 109, 110, 111, 129, 130, 131, 132, 133, 134, 135, 136, 137, 138, 139, 140, 141, 142, 143, 144, 145, 146, 147, 148, 149, 150, 151, 152, 153, 154, 155, 156] (by decide +kernel) (by decide +kernel)
set_option maxRecDepth 20000 in
theorem gX7_aheadOfWord_X0_walk : GoodIn wsX7_aheadOfWord (wsV RX7 60 RX0 yX0_walk wsX0_walk) := goodIn_app (goodIn_of _ (by decide +kernel)) ggX7_aheadOfWord_X0_walk
set_option maxRecDepth 20000 in
theorem ggX7_aheadOfWord_X0_isThere : GoodIn wsX7_aheadOfWord wsX0_isThere := goodIn_r _ [115, 8, 116, 32, 18, 19, 20, 6, 21, 22, 129, 130, 131, 132, 133, 134, 135, 136, 137, 138, 139, 140, 141, 142, 143, 144, 145, 146, 147] (by decide +kernel) (by decide +kernel)
set_option maxRecDepth 20000 in
theorem gX7_aheadOfWord_X0_isThere : GoodIn wsX7_aheadOfWord (wsV RX7 64 RX0 yX0_isThere wsX0_isThere) := goodIn_app (goodIn_of _ (by decide +kernel)) ggX7_aheadOfWord_X0_isThere
set_option maxRecDepth 20000 in
theorem ggX7_aheadOfWord_X0_rank : GoodIn wsX7_aheadOfWord wsX0_rank := goodIn_r _ [120, 8, 116, 29, 14, 18, 19, 20, 6, 21, 22, 82, 83, 84, 85, 86, 129, 130, 131, 132, 133, 134, 135, 136, 137, 138, 139, 140, 141, 142, 143, 144, 145, 146, 147] (by decide +kernel) (by decide +kernel)
set_option maxRecDepth 20000 in
theorem gX7_aheadOfWord_X0_rank : GoodIn wsX7_aheadOfWord (wsV RX7 77 RX0 yX0_rank wsX0_rank) := goodIn_app (goodIn_of _ (by decide +kernel)) ggX7_aheadOfWord_X0_rank
theorem dX7_aheadOfWord_0 : decode cX7_aheadOfWord 0 = .ok (.aload_n 0, 1) := by decide +kernel
theorem dX7_aheadOfWord_1 : decode cX7_aheadOfWord 1 = .ok (.getfield 26, 3) := by decide +kernel
theorem dX7_aheadOfWord_4 : decode cX7_aheadOfWord 4 = .ok (.aload_n 0, 1) := by decide +kernel
theorem dX7_aheadOfWord_5 : decode cX7_aheadOfWord 5 = .ok (.getfield 19, 3) := by decide +kernel
theorem dX7_aheadOfWord_8 : decode cX7_aheadOfWord 8 = .ok (.invokevirtual 60, 3) := by decide +kernel
theorem dX7_aheadOfWord_11 : decode cX7_aheadOfWord 11 = .ok (.aload_n 0, 1) := by decide +kernel
theorem dX7_aheadOfWord_12 : decode cX7_aheadOfWord 12 = .ok (.getfield 26, 3) := by decide +kernel
theorem dX7_aheadOfWord_15 : decode cX7_aheadOfWord 15 = .ok (.invokevirtual 64, 3) := by decide +kernel
theorem dX7_aheadOfWord_18 : decode cX7_aheadOfWord 18 = .ok (.ifCond .eq 15, 3) := by decide +kernel
theorem dX7_aheadOfWord_21 : decode cX7_aheadOfWord 21 = .ok (.aload_n 0, 1) := by decide +kernel
theorem dX7_aheadOfWord_22 : decode cX7_aheadOfWord 22 = .ok (.getfield 26, 3) := by decide +kernel
theorem dX7_aheadOfWord_25 : decode cX7_aheadOfWord 25 = .ok (.invokevirtual 77, 3) := by decide +kernel
theorem dX7_aheadOfWord_28 : decode cX7_aheadOfWord 28 = .ok (.iconst 1, 1) := by decide +kernel
theorem dX7_aheadOfWord_29 : decode cX7_aheadOfWord 29 = .ok (.isub, 1) := by decide +kernel
theorem dX7_aheadOfWord_30 : decode cX7_aheadOfWord 30 = .ok (.goto 10, 3) := by decide +kernel
theorem dX7_aheadOfWord_33 : decode cX7_aheadOfWord 33 = .ok (.aload_n 0, 1) := by decide +kernel
theorem dX7_aheadOfWord_34 : decode cX7_aheadOfWord 34 = .ok (.getfield 26, 3) := by decide +kernel
theorem dX7_aheadOfWord_37 : decode cX7_aheadOfWord 37 = .ok (.invokevirtual 77, 3) := by decide +kernel
theorem dX7_aheadOfWord_40 : decode cX7_aheadOfWord 40 = .ok (.ireturn, 1) := by decide +kernel
set_option maxRecDepth 20000 in
theorem ggX7_drawWord_X6_empty : GoodIn wsX7_drawWord wsX6_empty := goodIn_r _ [7, 8, 9, 29, 30] (by decide +kernel) (by decide +kernel)
set_option maxRecDepth 20000 in
theorem gX7_drawWord_X6_empty : GoodIn wsX7_drawWord (wsV RX7 220 RX6 yX6_empty wsX6_empty) := goodIn_app (goodIn_of _ (by decide +kernel)) ggX7_drawWord_X6_empty
set_option maxRecDepth 20000 in
theorem ggX7_drawWord_X7_drawn : GoodIn wsX7_drawWord wsX7_drawn := goodIn_r _ [13, 14, 15, 16] (by decide +kernel) (by decide +kernel)
set_option maxRecDepth 20000 in
theorem gX7_drawWord_X7_drawn : GoodIn wsX7_drawWord (va_wsS RX7 221 yX7_drawn wsX7_drawn) := goodIn_app (goodIn_of _ (by decide +kernel)) ggX7_drawWord_X7_drawn
set_option maxRecDepth 20000 in
theorem ggX7_drawWord_X6_append : GoodIn wsX7_drawWord wsX6_append := goodIn_r _ [20, 9, 8, 29, 30] (by decide +kernel) (by decide +kernel)
set_option maxRecDepth 20000 in
theorem gX7_drawWord_X6_append : GoodIn wsX7_drawWord (wsV RX7 226 RX6 yX6_append wsX6_append) := goodIn_app (goodIn_of _ (by decide +kernel)) ggX7_drawWord_X6_append
theorem dX7_drawWord_0 : decode cX7_drawWord 0 = .ok (.aload_n 0, 1) := by decide +kernel
theorem dX7_drawWord_1 : decode cX7_drawWord 1 = .ok (.getfield 19, 3) := by decide +kernel
theorem dX7_drawWord_4 : decode cX7_drawWord 4 = .ok (.invokevirtual 220, 3) := by decide +kernel
theorem dX7_drawWord_7 : decode cX7_drawWord 7 = .ok (.iload_n 3, 1) := by decide +kernel
theorem dX7_drawWord_8 : decode cX7_drawWord 8 = .ok (.iconst 1, 1) := by decide +kernel
theorem dX7_drawWord_9 : decode cX7_drawWord 9 = .ok (.if_icmp .lt 9, 3) := by decide +kernel
theorem dX7_drawWord_12 : decode cX7_drawWord 12 = .ok (.iload 4, 2) := by decide +kernel
theorem dX7_drawWord_14 : decode cX7_drawWord 14 = .ok (.iconst 1, 1) := by decide +kernel
theorem dX7_drawWord_15 : decode cX7_drawWord 15 = .ok (.if_icmp .ge 5, 3) := by decide +kernel
theorem dX7_drawWord_18 : decode cX7_drawWord 18 = .ok (.lload_n 1, 1) := by decide +kernel
theorem dX7_drawWord_19 : decode cX7_drawWord 19 = .ok (.lreturn, 1) := by decide +kernel
theorem dX7_drawWord_20 : decode cX7_drawWord 20 = .ok (.lload_n 1, 1) := by decide +kernel
theorem dX7_drawWord_21 : decode cX7_drawWord 21 = .ok (.invokestatic 221, 3) := by decide +kernel
theorem dX7_drawWord_24 : decode cX7_drawWord 24 = .ok (.lstore 5, 2) := by decide +kernel
theorem dX7_drawWord_26 : decode cX7_drawWord 26 = .ok (.lload 5, 2) := by decide +kernel
theorem dX7_drawWord_28 : decode cX7_drawWord 28 = .ok (.ldc2_w 224, 3) := by decide +kernel
theorem dX7_drawWord_31 : decode cX7_drawWord 31 = .ok (.ldiv, 1) := by decide +kernel
theorem dX7_drawWord_32 : decode cX7_drawWord 32 = .ok (.iload_n 3, 1) := by decide +kernel
theorem dX7_drawWord_33 : decode cX7_drawWord 33 = .ok (.i2l, 1) := by decide +kernel
theorem dX7_drawWord_34 : decode cX7_drawWord 34 = .ok (.lrem, 1) := by decide +kernel
theorem dX7_drawWord_35 : decode cX7_drawWord 35 = .ok (.l2i, 1) := by decide +kernel
theorem dX7_drawWord_36 : decode cX7_drawWord 36 = .ok (.iconst 1, 1) := by decide +kernel
theorem dX7_drawWord_37 : decode cX7_drawWord 37 = .ok (.iadd, 1) := by decide +kernel
theorem dX7_drawWord_38 : decode cX7_drawWord 38 = .ok (.istore 7, 2) := by decide +kernel
theorem dX7_drawWord_40 : decode cX7_drawWord 40 = .ok (.iconst 0, 1) := by decide +kernel
theorem dX7_drawWord_41 : decode cX7_drawWord 41 = .ok (.istore 8, 2) := by decide +kernel
theorem dX7_drawWord_43 : decode cX7_drawWord 43 = .ok (.iload 8, 2) := by decide +kernel
theorem dX7_drawWord_45 : decode cX7_drawWord 45 = .ok (.iload 7, 2) := by decide +kernel
