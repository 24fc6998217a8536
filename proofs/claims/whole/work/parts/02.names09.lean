set_option maxRecDepth 20000 in
theorem ggX8_isPage_X8_manyPages : GoodIn wsX8_isPage wsX8_manyPages := goodIn_r _ [5, 6, 10, 11, 12, 13, 14, 15, 16, 17, 18, 19, 20, 21, 22, 23, 24, 25, 26, 27, 28, 29, 30, 31, 32, 33, 34, 35, 36, 37, 38, 39, 40, 41, 42, 43] rfl (by decide +kernel)
set_option maxRecDepth 20000 in
theorem gX8_isPage_X8_manyPages : GoodIn wsX8_isPage (wsV RX8 233 RX8 yX8_manyPages wsX8_manyPages) := goodIn_app (goodIn_of _ (by decide +kernel)) ggX8_isPage_X8_manyPages
set_option maxRecDepth 20000 in
theorem ggX8_isPage_X8_in : GoodIn wsX8_isPage wsX8_in := goodIn_r _ [9] rfl (by decide +kernel)
set_option maxRecDepth 20000 in
theorem gX8_isPage_X8_in : GoodIn wsX8_isPage (va_wsS RX8 175 yX8_in wsX8_in) := goodIn_app (goodIn_of _ (by decide +kernel)) ggX8_isPage_X8_in
theorem dX8_isPage_0 : decode cX8_isPage 0 = .ok (.iload_n 1, 1) := by decide +kernel
theorem dX8_isPage_1 : decode cX8_isPage 1 = .ok (.iconst 0, 1) := by decide +kernel
theorem dX8_isPage_2 : decode cX8_isPage 2 = .ok (.aload_n 0, 1) := by decide +kernel
theorem dX8_isPage_3 : decode cX8_isPage 3 = .ok (.invokevirtual 233, 3) := by decide +kernel
theorem dX8_isPage_6 : decode cX8_isPage 6 = .ok (.iconst 1, 1) := by decide +kernel
theorem dX8_isPage_7 : decode cX8_isPage 7 = .ok (.isub, 1) := by decide +kernel
theorem dX8_isPage_8 : decode cX8_isPage 8 = .ok (.invokestatic 175, 3) := by decide +kernel
theorem dX8_isPage_11 : decode cX8_isPage 11 = .ok (.ireturn, 1) := by decide +kernel
set_option maxRecDepth 20000 in
theorem ggX8_looks_X8_isPage : GoodIn wsX8_looks wsX8_isPage := goodIn_r _ [9, 10, 11, 12, 8, 13, 14, 15, 16, 17, 96, 97, 98, 99, 100, 101, 102, 103, 104, 105, 106, 107, 108, 109, 110, 111, 112, 113, 114, 115, 116, 117, 118, 119, 120, 121, 122, 123, 124, 125, 126, 127, 128, 129] rfl (by decide +kernel)
set_option maxRecDepth 20000 in
theorem gX8_looks_X8_isPage : GoodIn wsX8_looks (wsV RX8 239 RX8 yX8_isPage wsX8_isPage) := goodIn_app (goodIn_of _ (by decide +kernel)) ggX8_looks_X8_isPage
set_option maxRecDepth 20000 in
theorem ggX8_looks_X8_in : GoodIn wsX8_looks wsX8_in := goodIn_r _ [17] rfl (by decide +kernel)
set_option maxRecDepth 20000 in
theorem gX8_looks_X8_in : GoodIn wsX8_looks (va_wsS RX8 175 yX8_in wsX8_in) := goodIn_app (goodIn_of _ (by decide +kernel)) ggX8_looks_X8_in
set_option maxRecDepth 20000 in
theorem ggX8_looks_X8_refuses : GoodIn wsX8_looks wsX8_refuses := goodIn_r _ [21, 22, 96, 97, 98, 99, 100, 101, 102, 103, 104, 105, 106, 107, 108, 109, 110, 111, 112, 113, 114, 115, 116, 117, 118, 119, 120, 121, 122, 123, 124, 125, 126, 127, 128, 129] rfl (by decide +kernel)
set_option maxRecDepth 20000 in
theorem gX8_looks_X8_refuses : GoodIn wsX8_looks (wsV RX8 179 RX8 yX8_refuses wsX8_refuses) := goodIn_app (goodIn_of _ (by decide +kernel)) ggX8_looks_X8_refuses
set_option maxRecDepth 20000 in
theorem ggX8_looks_X8_isWord : GoodIn wsX8_looks wsX8_isWord := goodIn_r _ [26, 27, 28, 29, 30, 15, 16, 8, 17, 31, 32, 33, 96, 97, 98, 99, 100, 101, 102, 103, 104, 105, 106, 107, 108, 109, 110, 111, 112, 113, 114, 115, 116, 117, 118, 119, 120, 121, 122, 123, 124, 125, 126, 127, 128, 129] rfl (by decide +kernel)
set_option maxRecDepth 20000 in
theorem gX8_looks_X8_isWord : GoodIn wsX8_looks (wsV RX8 189 RX8 yX8_isWord wsX8_isWord) := goodIn_app (goodIn_of _ (by decide +kernel)) ggX8_looks_X8_isWord
set_option maxRecDepth 20000 in
theorem ggX8_looks_X8_levelOf : GoodIn wsX8_looks wsX8_levelOf := goodIn_r _ [37, 14, 38, 39, 40, 8, 41, 96, 97, 98, 99, 100, 101, 102, 103, 104, 105, 106, 107, 108, 109, 110, 111, 112, 113, 114, 115, 116, 117, 118, 119, 120, 121, 122, 123, 124, 125, 126, 127, 128, 129] rfl (by decide +kernel)
set_option maxRecDepth 20000 in
theorem gX8_looks_X8_levelOf : GoodIn wsX8_looks (wsV RX8 114 RX8 yX8_levelOf wsX8_levelOf) := goodIn_app (goodIn_of _ (by decide +kernel)) ggX8_looks_X8_levelOf
set_option maxRecDepth 20000 in
theorem ggX8_looks_X8_pageOf : GoodIn wsX8_looks wsX8_pageOf := goodIn_r _ [45, 34, 35, 36, 8, 37, 14, 38, 39, 40, 41, 46, 47, 48, 49, 96, 97, 98, 99, 100, 101, 102, 103, 104, 105, 106, 107, 108, 109, 110, 111, 112, 113, 114, 115, 116, 117, 118, 119, 120, 121, 122, 123, 124, 125, 126, 127, 128, 129] rfl (by decide +kernel)
set_option maxRecDepth 20000 in
theorem gX8_looks_X8_pageOf : GoodIn wsX8_looks (wsV RX8 242 RX8 yX8_pageOf wsX8_pageOf) := goodIn_app (goodIn_of _ (by decide +kernel)) ggX8_looks_X8_pageOf
set_option maxRecDepth 20000 in
theorem ggX8_looks_X8_looksAt : GoodIn wsX8_looks wsX8_looksAt := goodIn_r _ [53, 54, 55, 56, 57, 58, 59, 1, 2, 3, 4, 60, 61, 62, 8, 63, 64, 65, 66, 67, 14, 68, 69, 70, 71, 72, 73, 74, 75, 76, 77, 78, 79, 80, 81, 82, 83, 84, 85, 86, 87, 30, 88, 89, 90, 91, 29, 92, 93, 94, 95, 96, 97, 98, 99, 100, 101, 102, 103, 104, 105, 106, 107, 108, 109, 110, 111, 112, 113, 114, 115, 116, 117, 118, 119, 120, 121, 122, 123, 124, 125, 126, 127, 128, 129] rfl (by decide +kernel)
set_option maxRecDepth 20000 in
theorem gX8_looks_X8_looksAt : GoodIn wsX8_looks (wsV RX8 149 RX8 yX8_looksAt wsX8_looksAt) := goodIn_app (goodIn_of _ (by decide +kernel)) ggX8_looks_X8_looksAt
theorem dX8_looks_0 : decode cX8_looks 0 = .ok (.aload_n 0, 1) := by decide +kernel
theorem dX8_looks_1 : decode cX8_looks 1 = .ok (.iload_n 1, 1) := by decide +kernel
theorem dX8_looks_2 : decode cX8_looks 2 = .ok (.invokevirtual 239, 3) := by decide +kernel
theorem dX8_looks_5 : decode cX8_looks 5 = .ok (.ifCond .eq 12, 3) := by decide +kernel
theorem dX8_looks_8 : decode cX8_looks 8 = .ok (.iload_n 2, 1) := by decide +kernel
theorem dX8_looks_9 : decode cX8_looks 9 = .ok (.iconst 0, 1) := by decide +kernel
theorem dX8_looks_10 : decode cX8_looks 10 = .ok (.iconst 3, 1) := by decide +kernel
theorem dX8_looks_11 : decode cX8_looks 11 = .ok (.invokestatic 175, 3) := by decide +kernel
theorem dX8_looks_14 : decode cX8_looks 14 = .ok (.ifCond .ne 10, 3) := by decide +kernel
theorem dX8_looks_17 : decode cX8_looks 17 = .ok (.aload_n 0, 1) := by decide +kernel
theorem dX8_looks_18 : decode cX8_looks 18 = .ok (.bipush (-2), 2) := by decide +kernel
theorem dX8_looks_20 : decode cX8_looks 20 = .ok (.invokevirtual 179, 3) := by decide +kernel
theorem dX8_looks_23 : decode cX8_looks 23 = .ok (.ireturn, 1) := by decide +kernel
theorem dX8_looks_24 : decode cX8_looks 24 = .ok (.aload_n 0, 1) := by decide +kernel
theorem dX8_looks_25 : decode cX8_looks 25 = .ok (.invokevirtual 189, 3) := by decide +kernel
theorem dX8_looks_28 : decode cX8_looks 28 = .ok (.ifCond .ne 10, 3) := by decide +kernel
theorem dX8_looks_31 : decode cX8_looks 31 = .ok (.aload_n 0, 1) := by decide +kernel
theorem dX8_looks_32 : decode cX8_looks 32 = .ok (.bipush (-3), 2) := by decide +kernel
theorem dX8_looks_34 : decode cX8_looks 34 = .ok (.invokevirtual 179, 3) := by decide +kernel
theorem dX8_looks_37 : decode cX8_looks 37 = .ok (.ireturn, 1) := by decide +kernel
theorem dX8_looks_38 : decode cX8_looks 38 = .ok (.aload_n 0, 1) := by decide +kernel
theorem dX8_looks_39 : decode cX8_looks 39 = .ok (.aload_n 0, 1) := by decide +kernel
theorem dX8_looks_40 : decode cX8_looks 40 = .ok (.iload_n 1, 1) := by decide +kernel
theorem dX8_looks_41 : decode cX8_looks 41 = .ok (.invokevirtual 114, 3) := by decide +kernel
theorem dX8_looks_44 : decode cX8_looks 44 = .ok (.aload_n 0, 1) := by decide +kernel
theorem dX8_looks_45 : decode cX8_looks 45 = .ok (.iload_n 1, 1) := by decide +kernel
theorem dX8_looks_46 : decode cX8_looks 46 = .ok (.invokevirtual 242, 3) := by decide +kernel
theorem dX8_looks_49 : decode cX8_looks 49 = .ok (.iconst 0, 1) := by decide +kernel
theorem dX8_looks_50 : decode cX8_looks 50 = .ok (.invokevirtual 149, 3) := by decide +kernel
theorem dX8_looks_53 : decode cX8_looks 53 = .ok (.iload_n 2, 1) := by decide +kernel
theorem dX8_looks_54 : decode cX8_looks 54 = .ok (.ifCond .ne 10, 3) := by decide +kernel
theorem dX8_looks_57 : decode cX8_looks 57 = .ok (.aload_n 0, 1) := by decide +kernel
theorem dX8_looks_58 : decode cX8_looks 58 = .ok (.getfield 137, 3) := by decide +kernel
theorem dX8_looks_61 : decode cX8_looks 61 = .ok (.goto 31, 3) := by decide +kernel
theorem dX8_looks_64 : decode cX8_looks 64 = .ok (.iload_n 2, 1) := by decide +kernel
theorem dX8_looks_65 : decode cX8_looks 65 = .ok (.iconst 1, 1) := by decide +kernel
theorem dX8_looks_66 : decode cX8_looks 66 = .ok (.if_icmp .ne 10, 3) := by decide +kernel
theorem dX8_looks_69 : decode cX8_looks 69 = .ok (.aload_n 0, 1) := by decide +kernel
theorem dX8_looks_70 : decode cX8_looks 70 = .ok (.getfield 140, 3) := by decide +kernel
theorem dX8_looks_73 : decode cX8_looks 73 = .ok (.goto 19, 3) := by decide +kernel
theorem dX8_looks_76 : decode cX8_looks 76 = .ok (.iload_n 2, 1) := by decide +kernel
theorem dX8_looks_77 : decode cX8_looks 77 = .ok (.iconst 2, 1) := by decide +kernel
theorem dX8_looks_78 : decode cX8_looks 78 = .ok (.if_icmp .ne 10, 3) := by decide +kernel
theorem dX8_looks_81 : decode cX8_looks 81 = .ok (.aload_n 0, 1) := by decide +kernel
theorem dX8_looks_82 : decode cX8_looks 82 = .ok (.getfield 143, 3) := by decide +kernel
theorem dX8_looks_85 : decode cX8_looks 85 = .ok (.goto 7, 3) := by decide +kernel
theorem dX8_looks_88 : decode cX8_looks 88 = .ok (.aload_n 0, 1) := by decide +kernel
theorem dX8_looks_89 : decode cX8_looks 89 = .ok (.getfield 146, 3) := by decide +kernel
theorem dX8_looks_92 : decode cX8_looks 92 = .ok (.ireturn, 1) := by decide +kernel
set_option maxRecDepth 20000 in
theorem ggX8_isBeginning_X8_lengthOf : GoodIn wsX8_isBeginning wsX8_lengthOf := goodIn_r _ [7, 1, 8, 13, 14, 15, 16, 17, 18, 19, 20, 21, 22, 23, 24, 25, 26, 27, 28, 29, 30, 31, 32, 33, 34, 35, 36, 37, 38, 39, 40, 41, 42, 43, 44, 45, 46] rfl (by decide +kernel)
set_option maxRecDepth 20000 in
theorem gX8_isBeginning_X8_lengthOf : GoodIn wsX8_isBeginning (wsV RX8 86 RX8 yX8_lengthOf wsX8_lengthOf) := goodIn_app (goodIn_of _ (by decide +kernel)) ggX8_isBeginning_X8_lengthOf
set_option maxRecDepth 20000 in
theorem ggX8_isBeginning_X8_signOf : GoodIn wsX8_isBeginning wsX8_signOf := goodIn_r _ [12, 2, 8, 13, 14, 15, 16, 17, 18, 19, 20, 21, 22, 23, 24, 25, 26, 27, 28, 29, 30, 31, 32, 33, 34, 35, 36, 37, 38, 39, 40, 41, 42, 43, 44, 45, 46] rfl (by decide +kernel)
set_option maxRecDepth 20000 in
theorem gX8_isBeginning_X8_signOf : GoodIn wsX8_isBeginning (wsV RX8 90 RX8 yX8_signOf wsX8_signOf) := goodIn_app (goodIn_of _ (by decide +kernel)) ggX8_isBeginning_X8_signOf
theorem dX8_isBeginning_0 : decode cX8_isBeginning 0 = .ok (.aload_n 0, 1) := by decide +kernel
theorem dX8_isBeginning_1 : decode cX8_isBeginning 1 = .ok (.iload_n 1, 1) := by decide +kernel
theorem dX8_isBeginning_2 : decode cX8_isBeginning 2 = .ok (.invokevirtual 86, 3) := by decide +kernel
theorem dX8_isBeginning_5 : decode cX8_isBeginning 5 = .ok (.aload_n 0, 1) := by decide +kernel
theorem dX8_isBeginning_6 : decode cX8_isBeginning 6 = .ok (.getfield 83, 3) := by decide +kernel
theorem dX8_isBeginning_9 : decode cX8_isBeginning 9 = .ok (.if_icmp .lt 7, 3) := by decide +kernel
theorem dX8_isBeginning_12 : decode cX8_isBeginning 12 = .ok (.iconst 1, 1) := by decide +kernel
theorem dX8_isBeginning_13 : decode cX8_isBeginning 13 = .ok (.goto 4, 3) := by decide +kernel
theorem dX8_isBeginning_16 : decode cX8_isBeginning 16 = .ok (.iconst 0, 1) := by decide +kernel
theorem dX8_isBeginning_17 : decode cX8_isBeginning 17 = .ok (.istore_n 2, 1) := by decide +kernel
theorem dX8_isBeginning_18 : decode cX8_isBeginning 18 = .ok (.iconst 0, 1) := by decide +kernel
theorem dX8_isBeginning_19 : decode cX8_isBeginning 19 = .ok (.istore_n 3, 1) := by decide +kernel
theorem dX8_isBeginning_20 : decode cX8_isBeginning 20 = .ok (.iload_n 3, 1) := by decide +kernel
theorem dX8_isBeginning_21 : decode cX8_isBeginning 21 = .ok (.aload_n 0, 1) := by decide +kernel
theorem dX8_isBeginning_22 : decode cX8_isBeginning 22 = .ok (.getfield 83, 3) := by decide +kernel
theorem dX8_isBeginning_25 : decode cX8_isBeginning 25 = .ok (.if_icmp .ge 34, 3) := by decide +kernel
theorem dX8_isBeginning_28 : decode cX8_isBeginning 28 = .ok (.iload_n 2, 1) := by decide +kernel
theorem dX8_isBeginning_29 : decode cX8_isBeginning 29 = .ok (.ifCond .eq 30, 3) := by decide +kernel
theorem dX8_isBeginning_32 : decode cX8_isBeginning 32 = .ok (.aload_n 0, 1) := by decide +kernel
theorem dX8_isBeginning_33 : decode cX8_isBeginning 33 = .ok (.iload_n 1, 1) := by decide +kernel
theorem dX8_isBeginning_34 : decode cX8_isBeginning 34 = .ok (.iload_n 3, 1) := by decide +kernel
theorem dX8_isBeginning_35 : decode cX8_isBeginning 35 = .ok (.invokevirtual 90, 3) := by decide +kernel
theorem dX8_isBeginning_38 : decode cX8_isBeginning 38 = .ok (.aload_n 0, 1) := by decide +kernel
theorem dX8_isBeginning_39 : decode cX8_isBeginning 39 = .ok (.getfield 25, 3) := by decide +kernel
theorem dX8_isBeginning_42 : decode cX8_isBeginning 42 = .ok (.iload_n 3, 1) := by decide +kernel
theorem dX8_isBeginning_43 : decode cX8_isBeginning 43 = .ok (.iaload, 1) := by decide +kernel
theorem dX8_isBeginning_44 : decode cX8_isBeginning 44 = .ok (.if_icmp .ne 7, 3) := by decide +kernel
theorem dX8_isBeginning_47 : decode cX8_isBeginning 47 = .ok (.iconst 1, 1) := by decide +kernel
theorem dX8_isBeginning_48 : decode cX8_isBeginning 48 = .ok (.goto 4, 3) := by decide +kernel
theorem dX8_isBeginning_51 : decode cX8_isBeginning 51 = .ok (.iconst 0, 1) := by decide +kernel
theorem dX8_isBeginning_52 : decode cX8_isBeginning 52 = .ok (.istore_n 2, 1) := by decide +kernel
theorem dX8_isBeginning_53 : decode cX8_isBeginning 53 = .ok (.iinc 3 1, 3) := by decide +kernel
theorem dX8_isBeginning_56 : decode cX8_isBeginning 56 = .ok (.goto (-36), 3) := by decide +kernel
theorem dX8_isBeginning_59 : decode cX8_isBeginning 59 = .ok (.iload_n 2, 1) := by decide +kernel
theorem dX8_isBeginning_60 : decode cX8_isBeginning 60 = .ok (.ireturn, 1) := by decide +kernel
set_option maxRecDepth 20000 in
theorem ggX8_begins_X8_in : GoodIn wsX8_begins wsX8_in := goodIn_r _ [5] rfl (by decide +kernel)
set_option maxRecDepth 20000 in
theorem gX8_begins_X8_in : GoodIn wsX8_begins (va_wsS RX8 175 yX8_in wsX8_in) := goodIn_app (goodIn_of _ (by decide +kernel)) ggX8_begins_X8_in
set_option maxRecDepth 20000 in
theorem ggX8_begins_X8_refuses : GoodIn wsX8_begins wsX8_refuses := goodIn_r _ [9, 10, 50, 51, 52, 53, 54, 55, 56, 57, 58, 59, 60, 61, 62, 63, 64, 65, 66, 67, 68, 69, 70, 71, 72, 73, 74, 75, 76, 77, 78, 79, 80, 81, 82, 83] rfl (by decide +kernel)
set_option maxRecDepth 20000 in
theorem gX8_begins_X8_refuses : GoodIn wsX8_begins (wsV RX8 179 RX8 yX8_refuses wsX8_refuses) := goodIn_app (goodIn_of _ (by decide +kernel)) ggX8_begins_X8_refuses
set_option maxRecDepth 20000 in
theorem ggX8_begins_X8_isWord : GoodIn wsX8_begins wsX8_isWord := goodIn_r _ [14, 15, 16, 17, 18, 2, 3, 4, 5, 19, 20, 21, 50, 51, 52, 53, 54, 55, 56, 57, 58, 59, 60, 61, 62, 63, 64, 65, 66, 67, 68, 69, 70, 71, 72, 73, 74, 75, 76, 77, 78, 79, 80, 81, 82, 83] rfl (by decide +kernel)
set_option maxRecDepth 20000 in
theorem gX8_begins_X8_isWord : GoodIn wsX8_begins (wsV RX8 189 RX8 yX8_isWord wsX8_isWord) := goodIn_app (goodIn_of _ (by decide +kernel)) ggX8_begins_X8_isWord
set_option maxRecDepth 20000 in
theorem ggX8_begins_X8_ahead : GoodIn wsX8_begins wsX8_ahead := goodIn_r _ [25, 1, 26, 27, 28, 4, 29, 30, 31, 32, 33, 34, 35, 36, 37, 38, 39, 40, 41, 18, 42, 43, 44, 45, 17, 50, 51, 52, 53, 54, 55, 56, 57, 58, 59, 60, 61, 62, 63, 64, 65, 66, 67, 68, 69, 70, 71, 72, 73, 74, 75, 76, 77, 78, 79, 80, 81, 82, 83] rfl (by decide +kernel)
set_option maxRecDepth 20000 in
theorem gX8_begins_X8_ahead : GoodIn wsX8_begins (wsV RX8 196 RX8 yX8_ahead wsX8_ahead) := goodIn_app (goodIn_of _ (by decide +kernel)) ggX8_begins_X8_ahead
set_option maxRecDepth 20000 in
theorem ggX8_begins_X8_isBeginning : GoodIn wsX8_begins wsX8_isBeginning := goodIn_r _ [49, 18, 17, 38, 39, 40, 4, 41, 1, 42, 43, 44, 45, 50, 51, 52, 53, 54, 55, 56, 57, 58, 59, 60, 61, 62, 63, 64, 65, 66, 67, 68, 69, 70, 71, 72, 73, 74, 75, 76, 77, 78, 79, 80, 81, 82, 83] rfl (by decide +kernel)
set_option maxRecDepth 20000 in
theorem gX8_begins_X8_isBeginning : GoodIn wsX8_begins (wsV RX8 245 RX8 yX8_isBeginning wsX8_isBeginning) := goodIn_app (goodIn_of _ (by decide +kernel)) ggX8_begins_X8_isBeginning
theorem dX8_begins_0 : decode cX8_begins 0 = .ok (.iload_n 1, 1) := by decide +kernel
theorem dX8_begins_1 : decode cX8_begins 1 = .ok (.iconst 0, 1) := by decide +kernel
theorem dX8_begins_2 : decode cX8_begins 2 = .ok (.iconst 1, 1) := by decide +kernel
theorem dX8_begins_3 : decode cX8_begins 3 = .ok (.invokestatic 175, 3) := by decide +kernel
theorem dX8_begins_6 : decode cX8_begins 6 = .ok (.ifCond .ne 10, 3) := by decide +kernel
theorem dX8_begins_9 : decode cX8_begins 9 = .ok (.aload_n 0, 1) := by decide +kernel
theorem dX8_begins_10 : decode cX8_begins 10 = .ok (.bipush (-2), 2) := by decide +kernel
theorem dX8_begins_12 : decode cX8_begins 12 = .ok (.invokevirtual 179, 3) := by decide +kernel
theorem dX8_begins_15 : decode cX8_begins 15 = .ok (.ireturn, 1) := by decide +kernel
theorem dX8_begins_16 : decode cX8_begins 16 = .ok (.aload_n 0, 1) := by decide +kernel
theorem dX8_begins_17 : decode cX8_begins 17 = .ok (.invokevirtual 189, 3) := by decide +kernel
theorem dX8_begins_20 : decode cX8_begins 20 = .ok (.ifCond .ne 10, 3) := by decide +kernel
theorem dX8_begins_23 : decode cX8_begins 23 = .ok (.aload_n 0, 1) := by decide +kernel
theorem dX8_begins_24 : decode cX8_begins 24 = .ok (.bipush (-3), 2) := by decide +kernel
theorem dX8_begins_26 : decode cX8_begins 26 = .ok (.invokevirtual 179, 3) := by decide +kernel
theorem dX8_begins_29 : decode cX8_begins 29 = .ok (.ireturn, 1) := by decide +kernel
theorem dX8_begins_30 : decode cX8_begins 30 = .ok (.iload_n 1, 1) := by decide +kernel
theorem dX8_begins_31 : decode cX8_begins 31 = .ok (.iconst 1, 1) := by decide +kernel
theorem dX8_begins_32 : decode cX8_begins 32 = .ok (.if_icmp .ne 8, 3) := by decide +kernel
theorem dX8_begins_35 : decode cX8_begins 35 = .ok (.aload_n 0, 1) := by decide +kernel
theorem dX8_begins_36 : decode cX8_begins 36 = .ok (.invokevirtual 196, 3) := by decide +kernel
theorem dX8_begins_39 : decode cX8_begins 39 = .ok (.ireturn, 1) := by decide +kernel
theorem dX8_begins_40 : decode cX8_begins 40 = .ok (.iconst 0, 1) := by decide +kernel
theorem dX8_begins_41 : decode cX8_begins 41 = .ok (.istore_n 2, 1) := by decide +kernel
theorem dX8_begins_42 : decode cX8_begins 42 = .ok (.iconst 0, 1) := by decide +kernel
theorem dX8_begins_43 : decode cX8_begins 43 = .ok (.istore_n 3, 1) := by decide +kernel
theorem dX8_begins_44 : decode cX8_begins 44 = .ok (.iload_n 3, 1) := by decide +kernel
theorem dX8_begins_45 : decode cX8_begins 45 = .ok (.aload_n 0, 1) := by decide +kernel
theorem dX8_begins_46 : decode cX8_begins 46 = .ok (.getfield 7, 3) := by decide +kernel
theorem dX8_begins_49 : decode cX8_begins 49 = .ok (.iconst 0, 1) := by decide +kernel
theorem dX8_begins_50 : decode cX8_begins 50 = .ok (.iaload, 1) := by decide +kernel
theorem dX8_begins_51 : decode cX8_begins 51 = .ok (.if_icmp .ge 25, 3) := by decide +kernel
theorem dX8_begins_54 : decode cX8_begins 54 = .ok (.iload_n 2, 1) := by decide +kernel
theorem dX8_begins_55 : decode cX8_begins 55 = .ok (.aload_n 0, 1) := by decide +kernel
theorem dX8_begins_56 : decode cX8_begins 56 = .ok (.iload_n 3, 1) := by decide +kernel
theorem dX8_begins_57 : decode cX8_begins 57 = .ok (.invokevirtual 245, 3) := by decide +kernel
theorem dX8_begins_60 : decode cX8_begins 60 = .ok (.ifCond .eq 7, 3) := by decide +kernel
theorem dX8_begins_63 : decode cX8_begins 63 = .ok (.iconst 1, 1) := by decide +kernel
theorem dX8_begins_64 : decode cX8_begins 64 = .ok (.goto 4, 3) := by decide +kernel
theorem dX8_begins_67 : decode cX8_begins 67 = .ok (.iconst 0, 1) := by decide +kernel
theorem dX8_begins_68 : decode cX8_begins 68 = .ok (.iadd, 1) := by decide +kernel
theorem dX8_begins_69 : decode cX8_begins 69 = .ok (.istore_n 2, 1) := by decide +kernel
theorem dX8_begins_70 : decode cX8_begins 70 = .ok (.iinc 3 1, 3) := by decide +kernel
theorem dX8_begins_73 : decode cX8_begins 73 = .ok (.goto (-29), 3) := by decide +kernel
theorem dX8_begins_76 : decode cX8_begins 76 = .ok (.iload_n 2, 1) := by decide +kernel
theorem dX8_begins_77 : decode cX8_begins 77 = .ok (.ireturn, 1) := by decide +kernel
set_option maxRecDepth 20000 in
theorem ggX8_isIndexed_X8_in : GoodIn wsX8_isIndexed wsX8_in := goodIn_r _ [5] rfl (by decide +kernel)
set_option maxRecDepth 20000 in
theorem gX8_isIndexed_X8_in : GoodIn wsX8_isIndexed (va_wsS RX8 175 yX8_in wsX8_in) := goodIn_app (goodIn_of _ (by decide +kernel)) ggX8_isIndexed_X8_in
theorem dX8_isIndexed_0 : decode cX8_isIndexed 0 = .ok (.iload_n 1, 1) := by decide +kernel
theorem dX8_isIndexed_1 : decode cX8_isIndexed 1 = .ok (.iconst 0, 1) := by decide +kernel
theorem dX8_isIndexed_2 : decode cX8_isIndexed 2 = .ok (.aload_n 0, 1) := by decide +kernel
theorem dX8_isIndexed_3 : decode cX8_isIndexed 3 = .ok (.getfield 7, 3) := by decide +kernel
theorem dX8_isIndexed_6 : decode cX8_isIndexed 6 = .ok (.iconst 0, 1) := by decide +kernel
theorem dX8_isIndexed_7 : decode cX8_isIndexed 7 = .ok (.iaload, 1) := by decide +kernel
theorem dX8_isIndexed_8 : decode cX8_isIndexed 8 = .ok (.iconst 1, 1) := by decide +kernel
theorem dX8_isIndexed_9 : decode cX8_isIndexed 9 = .ok (.isub, 1) := by decide +kernel
theorem dX8_isIndexed_10 : decode cX8_isIndexed 10 = .ok (.invokestatic 175, 3) := by decide +kernel
theorem dX8_isIndexed_13 : decode cX8_isIndexed 13 = .ok (.ireturn, 1) := by decide +kernel
set_option maxRecDepth 20000 in
theorem ggX8_between_X8_isIndexed : GoodIn wsX8_between wsX8_isIndexed := goodIn_r _ [6, 1, 7, 8, 5, 9, 46, 47, 48, 49, 50, 51, 52, 53, 54, 55, 56, 57, 58, 59, 60, 61, 62, 63, 64, 65, 66, 67, 68, 69, 70, 71, 72, 73, 74, 75, 76, 77, 78, 79] rfl (by decide +kernel)
set_option maxRecDepth 20000 in
theorem gX8_between_X8_isIndexed : GoodIn wsX8_between (wsV RX8 248 RX8 yX8_isIndexed wsX8_isIndexed) := goodIn_app (goodIn_of _ (by decide +kernel)) ggX8_between_X8_isIndexed
set_option maxRecDepth 20000 in
theorem ggX8_between_X8_refuses : GoodIn wsX8_between wsX8_refuses := goodIn_r _ [13, 14, 46, 47, 48, 49, 50, 51, 52, 53, 54, 55, 56, 57, 58, 59, 60, 61, 62, 63, 64, 65, 66, 67, 68, 69, 70, 71, 72, 73, 74, 75, 76, 77, 78, 79] rfl (by decide +kernel)
set_option maxRecDepth 20000 in
theorem gX8_between_X8_refuses : GoodIn wsX8_between (wsV RX8 179 RX8 yX8_refuses wsX8_refuses) := goodIn_app (goodIn_of _ (by decide +kernel)) ggX8_between_X8_refuses
set_option maxRecDepth 20000 in
theorem ggX8_between_X8_isWord : GoodIn wsX8_between wsX8_isWord := goodIn_r _ [18, 19, 20, 21, 22, 7, 8, 5, 9, 23, 24, 25, 46, 47, 48, 49, 50, 51, 52, 53, 54, 55, 56, 57, 58, 59, 60, 61, 62, 63, 64, 65, 66, 67, 68, 69, 70, 71, 72, 73, 74, 75, 76, 77, 78, 79] rfl (by decide +kernel)
set_option maxRecDepth 20000 in
theorem gX8_between_X8_isWord : GoodIn wsX8_between (wsV RX8 189 RX8 yX8_isWord wsX8_isWord) := goodIn_app (goodIn_of _ (by decide +kernel)) ggX8_between_X8_isWord
set_option maxRecDepth 20000 in
theorem ggX8_between_X8_isAhead : GoodIn wsX8_between wsX8_isAhead := goodIn_r _ [29, 30, 31, 32, 5, 33, 34, 35, 36, 37, 38, 39, 40, 41, 22, 1, 42, 43, 44, 45, 21, 46, 47, 48, 49, 50, 51, 52, 53, 54, 55, 56, 57, 58, 59, 60, 61, 62, 63, 64, 65, 66, 67, 68, 69, 70, 71, 72, 73, 74, 75, 76, 77, 78, 79] rfl (by decide +kernel)
set_option maxRecDepth 20000 in
theorem gX8_between_X8_isAhead : GoodIn wsX8_between (wsV RX8 100 RX8 yX8_isAhead wsX8_isAhead) := goodIn_app (goodIn_of _ (by decide +kernel)) ggX8_between_X8_isAhead
theorem dX8_between_0 : decode cX8_between 0 = .ok (.aload_n 0, 1) := by decide +kernel
theorem dX8_between_1 : decode cX8_between 1 = .ok (.iload_n 1, 1) := by decide +kernel
theorem dX8_between_2 : decode cX8_between 2 = .ok (.invokevirtual 248, 3) := by decide +kernel
theorem dX8_between_5 : decode cX8_between 5 = .ok (.ifCond .ne 10, 3) := by decide +kernel
theorem dX8_between_8 : decode cX8_between 8 = .ok (.aload_n 0, 1) := by decide +kernel
theorem dX8_between_9 : decode cX8_between 9 = .ok (.bipush (-2), 2) := by decide +kernel
theorem dX8_between_11 : decode cX8_between 11 = .ok (.invokevirtual 179, 3) := by decide +kernel
theorem dX8_between_14 : decode cX8_between 14 = .ok (.ireturn, 1) := by decide +kernel
theorem dX8_between_15 : decode cX8_between 15 = .ok (.aload_n 0, 1) := by decide +kernel
theorem dX8_between_16 : decode cX8_between 16 = .ok (.invokevirtual 189, 3) := by decide +kernel
theorem dX8_between_19 : decode cX8_between 19 = .ok (.ifCond .ne 10, 3) := by decide +kernel
theorem dX8_between_22 : decode cX8_between 22 = .ok (.aload_n 0, 1) := by decide +kernel
theorem dX8_between_23 : decode cX8_between 23 = .ok (.bipush (-3), 2) := by decide +kernel
theorem dX8_between_25 : decode cX8_between 25 = .ok (.invokevirtual 179, 3) := by decide +kernel
theorem dX8_between_28 : decode cX8_between 28 = .ok (.ireturn, 1) := by decide +kernel
theorem dX8_between_29 : decode cX8_between 29 = .ok (.iconst 0, 1) := by decide +kernel
theorem dX8_between_30 : decode cX8_between 30 = .ok (.istore_n 2, 1) := by decide +kernel
theorem dX8_between_31 : decode cX8_between 31 = .ok (.aload_n 0, 1) := by decide +kernel
theorem dX8_between_32 : decode cX8_between 32 = .ok (.iload_n 1, 1) := by decide +kernel
theorem dX8_between_33 : decode cX8_between 33 = .ok (.bipush 48, 2) := by decide +kernel
theorem dX8_between_35 : decode cX8_between 35 = .ok (.invokevirtual 100, 3) := by decide +kernel
theorem dX8_between_38 : decode cX8_between 38 = .ok (.istore_n 3, 1) := by decide +kernel
theorem dX8_between_39 : decode cX8_between 39 = .ok (.iconst 0, 1) := by decide +kernel
theorem dX8_between_40 : decode cX8_between 40 = .ok (.istore 4, 2) := by decide +kernel
theorem dX8_between_42 : decode cX8_between 42 = .ok (.iload 4, 2) := by decide +kernel
theorem dX8_between_44 : decode cX8_between 44 = .ok (.aload_n 0, 1) := by decide +kernel
theorem dX8_between_45 : decode cX8_between 45 = .ok (.getfield 7, 3) := by decide +kernel
theorem dX8_between_48 : decode cX8_between 48 = .ok (.iconst 0, 1) := by decide +kernel
theorem dX8_between_49 : decode cX8_between 49 = .ok (.iaload, 1) := by decide +kernel
theorem dX8_between_50 : decode cX8_between 50 = .ok (.if_icmp .ge 75, 3) := by decide +kernel
theorem dX8_between_53 : decode cX8_between 53 = .ok (.iload_n 3, 1) := by decide +kernel
theorem dX8_between_54 : decode cX8_between 54 = .ok (.ifCond .eq 28, 3) := by decide +kernel
theorem dX8_between_57 : decode cX8_between 57 = .ok (.iload 4, 2) := by decide +kernel
theorem dX8_between_59 : decode cX8_between 59 = .ok (.iload_n 1, 1) := by decide +kernel
theorem dX8_between_60 : decode cX8_between 60 = .ok (.if_icmp .lt 18, 3) := by decide +kernel
theorem dX8_between_63 : decode cX8_between 63 = .ok (.aload_n 0, 1) := by decide +kernel
theorem dX8_between_64 : decode cX8_between 64 = .ok (.bipush 48, 2) := by decide +kernel
theorem dX8_between_66 : decode cX8_between 66 = .ok (.iload 4, 2) := by decide +kernel
theorem dX8_between_68 : decode cX8_between 68 = .ok (.invokevirtual 100, 3) := by decide +kernel
theorem dX8_between_71 : decode cX8_between 71 = .ok (.ifCond .ne 7, 3) := by decide +kernel
theorem dX8_between_74 : decode cX8_between 74 = .ok (.iconst 1, 1) := by decide +kernel
theorem dX8_between_75 : decode cX8_between 75 = .ok (.goto 29, 3) := by decide +kernel
theorem dX8_between_78 : decode cX8_between 78 = .ok (.iconst 0, 1) := by decide +kernel
theorem dX8_between_79 : decode cX8_between 79 = .ok (.goto 25, 3) := by decide +kernel
theorem dX8_between_82 : decode cX8_between 82 = .ok (.iload 4, 2) := by decide +kernel
theorem dX8_between_84 : decode cX8_between 84 = .ok (.iload_n 1, 1) := by decide +kernel
theorem dX8_between_85 : decode cX8_between 85 = .ok (.if_icmp .gt 18, 3) := by decide +kernel
theorem dX8_between_88 : decode cX8_between 88 = .ok (.aload_n 0, 1) := by decide +kernel
theorem dX8_between_89 : decode cX8_between 89 = .ok (.iload 4, 2) := by decide +kernel
theorem dX8_between_91 : decode cX8_between 91 = .ok (.bipush 48, 2) := by decide +kernel
theorem dX8_between_93 : decode cX8_between 93 = .ok (.invokevirtual 100, 3) := by decide +kernel
theorem dX8_between_96 : decode cX8_between 96 = .ok (.ifCond .ne 7, 3) := by decide +kernel
theorem dX8_between_99 : decode cX8_between 99 = .ok (.iconst 1, 1) := by decide +kernel
theorem dX8_between_100 : decode cX8_between 100 = .ok (.goto 4, 3) := by decide +kernel
theorem dX8_between_103 : decode cX8_between 103 = .ok (.iconst 0, 1) := by decide +kernel
theorem dX8_between_104 : decode cX8_between 104 = .ok (.istore 5, 2) := by decide +kernel
theorem dX8_between_106 : decode cX8_between 106 = .ok (.iload_n 2, 1) := by decide +kernel
theorem dX8_between_107 : decode cX8_between 107 = .ok (.iload 5, 2) := by decide +kernel
theorem dX8_between_109 : decode cX8_between 109 = .ok (.ifCond .eq 7, 3) := by decide +kernel
theorem dX8_between_112 : decode cX8_between 112 = .ok (.iconst 1, 1) := by decide +kernel
theorem dX8_between_113 : decode cX8_between 113 = .ok (.goto 4, 3) := by decide +kernel
theorem dX8_between_116 : decode cX8_between 116 = .ok (.iconst 0, 1) := by decide +kernel
theorem dX8_between_117 : decode cX8_between 117 = .ok (.iadd, 1) := by decide +kernel
theorem dX8_between_118 : decode cX8_between 118 = .ok (.istore_n 2, 1) := by decide +kernel
theorem dX8_between_119 : decode cX8_between 119 = .ok (.iinc 4 1, 3) := by decide +kernel
theorem dX8_between_122 : decode cX8_between 122 = .ok (.goto (-80), 3) := by decide +kernel
theorem dX8_between_125 : decode cX8_between 125 = .ok (.iload_n 2, 1) := by decide +kernel
theorem dX8_between_126 : decode cX8_between 126 = .ok (.ireturn, 1) := by decide +kernel
set_option maxRecDepth 20000 in
theorem ggX8_sign_X8_isIndexed : GoodIn wsX8_sign wsX8_isIndexed := goodIn_r _ [5, 6, 7, 8, 4, 9, 25, 26, 27, 28, 29, 30, 31, 32, 33, 34, 35, 36, 37, 38, 39, 40, 41, 42, 43, 44, 45, 46, 47, 48, 49, 50, 51, 52, 53, 54, 55, 56, 57, 58] rfl (by decide +kernel)
set_option maxRecDepth 20000 in
theorem gX8_sign_X8_isIndexed : GoodIn wsX8_sign (wsV RX8 248 RX8 yX8_isIndexed wsX8_isIndexed) := goodIn_app (goodIn_of _ (by decide +kernel)) ggX8_sign_X8_isIndexed
set_option maxRecDepth 20000 in
theorem ggX8_sign_X8_refuses : GoodIn wsX8_sign wsX8_refuses := goodIn_r _ [13, 14, 25, 26, 27, 28, 29, 30, 31, 32, 33, 34, 35, 36, 37, 38, 39, 40, 41, 42, 43, 44, 45, 46, 47, 48, 49, 50, 51, 52, 53, 54, 55, 56, 57, 58] rfl (by decide +kernel)
set_option maxRecDepth 20000 in
theorem gX8_sign_X8_refuses : GoodIn wsX8_sign (wsV RX8 179 RX8 yX8_refuses wsX8_refuses) := goodIn_app (goodIn_of _ (by decide +kernel)) ggX8_sign_X8_refuses
set_option maxRecDepth 20000 in
theorem ggX8_sign_X8_lengthOf : GoodIn wsX8_sign wsX8_lengthOf := goodIn_r _ [18, 19, 6, 25, 26, 27, 28, 29, 30, 31, 32, 33, 34, 35, 36, 37, 38, 39, 40, 41, 42, 43, 44, 45, 46, 47, 48, 49, 50, 51, 52, 53, 54, 55, 56, 57, 58] rfl (by decide +kernel)
set_option maxRecDepth 20000 in
theorem gX8_sign_X8_lengthOf : GoodIn wsX8_sign (wsV RX8 86 RX8 yX8_lengthOf wsX8_lengthOf) := goodIn_app (goodIn_of _ (by decide +kernel)) ggX8_sign_X8_lengthOf
set_option maxRecDepth 20000 in
theorem ggX8_sign_X8_signOf : GoodIn wsX8_sign wsX8_signOf := goodIn_r _ [23, 24, 6, 25, 26, 27, 28, 29, 30, 31, 32, 33, 34, 35, 36, 37, 38, 39, 40, 41, 42, 43, 44, 45, 46, 47, 48, 49, 50, 51, 52, 53, 54, 55, 56, 57, 58] rfl (by decide +kernel)
set_option maxRecDepth 20000 in
theorem gX8_sign_X8_signOf : GoodIn wsX8_sign (wsV RX8 90 RX8 yX8_signOf wsX8_signOf) := goodIn_app (goodIn_of _ (by decide +kernel)) ggX8_sign_X8_signOf
theorem dX8_sign_0 : decode cX8_sign 0 = .ok (.aload_n 0, 1) := by decide +kernel
theorem dX8_sign_1 : decode cX8_sign 1 = .ok (.iload_n 1, 1) := by decide +kernel
theorem dX8_sign_2 : decode cX8_sign 2 = .ok (.invokevirtual 248, 3) := by decide +kernel
theorem dX8_sign_5 : decode cX8_sign 5 = .ok (.ifCond .eq 7, 3) := by decide +kernel
theorem dX8_sign_8 : decode cX8_sign 8 = .ok (.iload_n 2, 1) := by decide +kernel
theorem dX8_sign_9 : decode cX8_sign 9 = .ok (.ifCond .ge 10, 3) := by decide +kernel
theorem dX8_sign_12 : decode cX8_sign 12 = .ok (.aload_n 0, 1) := by decide +kernel
theorem dX8_sign_13 : decode cX8_sign 13 = .ok (.bipush (-2), 2) := by decide +kernel
theorem dX8_sign_15 : decode cX8_sign 15 = .ok (.invokevirtual 179, 3) := by decide +kernel
theorem dX8_sign_18 : decode cX8_sign 18 = .ok (.ireturn, 1) := by decide +kernel
theorem dX8_sign_19 : decode cX8_sign 19 = .ok (.iload_n 2, 1) := by decide +kernel
theorem dX8_sign_20 : decode cX8_sign 20 = .ok (.aload_n 0, 1) := by decide +kernel
theorem dX8_sign_21 : decode cX8_sign 21 = .ok (.iload_n 1, 1) := by decide +kernel
theorem dX8_sign_22 : decode cX8_sign 22 = .ok (.invokevirtual 86, 3) := by decide +kernel
theorem dX8_sign_25 : decode cX8_sign 25 = .ok (.if_icmp .ge 12, 3) := by decide +kernel
theorem dX8_sign_28 : decode cX8_sign 28 = .ok (.aload_n 0, 1) := by decide +kernel
theorem dX8_sign_29 : decode cX8_sign 29 = .ok (.iload_n 1, 1) := by decide +kernel
theorem dX8_sign_30 : decode cX8_sign 30 = .ok (.iload_n 2, 1) := by decide +kernel
theorem dX8_sign_31 : decode cX8_sign 31 = .ok (.invokevirtual 90, 3) := by decide +kernel
theorem dX8_sign_34 : decode cX8_sign 34 = .ok (.goto 4, 3) := by decide +kernel
theorem dX8_sign_37 : decode cX8_sign 37 = .ok (.iconst (-1), 1) := by decide +kernel
theorem dX8_sign_38 : decode cX8_sign 38 = .ok (.ireturn, 1) := by decide +kernel
set_option maxRecDepth 20000 in
theorem ggX8_parts_X8_isIndexed : GoodIn wsX8_parts wsX8_isIndexed := goodIn_r _ [6, 1, 7, 8, 5, 9, 33, 34, 35, 36, 37, 38, 39, 40, 41, 42, 43, 44, 45, 46, 47, 48, 49, 50, 51, 52, 53, 54, 55, 56, 57, 58, 59, 60, 61, 62, 63, 64, 65, 66] rfl (by decide +kernel)
set_option maxRecDepth 20000 in
theorem gX8_parts_X8_isIndexed : GoodIn wsX8_parts (wsV RX8 248 RX8 yX8_isIndexed wsX8_isIndexed) := goodIn_app (goodIn_of _ (by decide +kernel)) ggX8_parts_X8_isIndexed
set_option maxRecDepth 20000 in
theorem ggX8_parts_X8_differ : GoodIn wsX8_parts wsX8_differ := goodIn_r _ [13, 14, 15, 16, 5, 17, 18, 19, 20, 21, 22, 1, 23, 24, 25, 26, 27, 33, 34, 35, 36, 37, 38, 39, 40, 41, 42, 43, 44, 45, 46, 47, 48, 49, 50, 51, 52, 53, 54, 55, 56, 57, 58, 59, 60, 61, 62, 63, 64, 65, 66] rfl (by decide +kernel)
set_option maxRecDepth 20000 in
theorem gX8_parts_X8_differ : GoodIn wsX8_parts (wsV RX8 97 RX8 yX8_differ wsX8_differ) := goodIn_app (goodIn_of _ (by decide +kernel)) ggX8_parts_X8_differ
set_option maxRecDepth 20000 in
theorem ggX8_parts_X8_refuses : GoodIn wsX8_parts wsX8_refuses := goodIn_r _ [31, 32, 33, 34, 35, 36, 37, 38, 39, 40, 41, 42, 43, 44, 45, 46, 47, 48, 49, 50, 51, 52, 53, 54, 55, 56, 57, 58, 59, 60, 61, 62, 63, 64, 65, 66] rfl (by decide +kernel)
set_option maxRecDepth 20000 in
theorem gX8_parts_X8_refuses : GoodIn wsX8_parts (wsV RX8 179 RX8 yX8_refuses wsX8_refuses) := goodIn_app (goodIn_of _ (by decide +kernel)) ggX8_parts_X8_refuses
theorem dX8_parts_0 : decode cX8_parts 0 = .ok (.aload_n 0, 1) := by decide +kernel
theorem dX8_parts_1 : decode cX8_parts 1 = .ok (.iload_n 1, 1) := by decide +kernel
theorem dX8_parts_2 : decode cX8_parts 2 = .ok (.invokevirtual 248, 3) := by decide +kernel
theorem dX8_parts_5 : decode cX8_parts 5 = .ok (.ifCond .eq 26, 3) := by decide +kernel
theorem dX8_parts_8 : decode cX8_parts 8 = .ok (.iload_n 1, 1) := by decide +kernel
theorem dX8_parts_9 : decode cX8_parts 9 = .ok (.aload_n 0, 1) := by decide +kernel
theorem dX8_parts_10 : decode cX8_parts 10 = .ok (.getfield 7, 3) := by decide +kernel
theorem dX8_parts_13 : decode cX8_parts 13 = .ok (.iconst 0, 1) := by decide +kernel
theorem dX8_parts_14 : decode cX8_parts 14 = .ok (.iaload, 1) := by decide +kernel
theorem dX8_parts_15 : decode cX8_parts 15 = .ok (.iconst 1, 1) := by decide +kernel
theorem dX8_parts_16 : decode cX8_parts 16 = .ok (.isub, 1) := by decide +kernel
theorem dX8_parts_17 : decode cX8_parts 17 = .ok (.if_icmp .ge 14, 3) := by decide +kernel
theorem dX8_parts_20 : decode cX8_parts 20 = .ok (.aload_n 0, 1) := by decide +kernel
theorem dX8_parts_21 : decode cX8_parts 21 = .ok (.iload_n 1, 1) := by decide +kernel
theorem dX8_parts_22 : decode cX8_parts 22 = .ok (.iload_n 1, 1) := by decide +kernel
theorem dX8_parts_23 : decode cX8_parts 23 = .ok (.iconst 1, 1) := by decide +kernel
theorem dX8_parts_24 : decode cX8_parts 24 = .ok (.iadd, 1) := by decide +kernel
theorem dX8_parts_25 : decode cX8_parts 25 = .ok (.invokevirtual 97, 3) := by decide +kernel
theorem dX8_parts_28 : decode cX8_parts 28 = .ok (.goto 9, 3) := by decide +kernel
theorem dX8_parts_31 : decode cX8_parts 31 = .ok (.aload_n 0, 1) := by decide +kernel
theorem dX8_parts_32 : decode cX8_parts 32 = .ok (.bipush (-2), 2) := by decide +kernel
theorem dX8_parts_34 : decode cX8_parts 34 = .ok (.invokevirtual 179, 3) := by decide +kernel
theorem dX8_parts_37 : decode cX8_parts 37 = .ok (.ireturn, 1) := by decide +kernel
theorem dX8_piles_0 : decode cX8_piles 0 = .ok (.aload_n 0, 1) := by decide +kernel
theorem dX8_piles_1 : decode cX8_piles 1 = .ok (.getfield 70, 3) := by decide +kernel
theorem dX8_piles_4 : decode cX8_piles 4 = .ok (.iload_n 1, 1) := by decide +kernel
theorem dX8_piles_5 : decode cX8_piles 5 = .ok (.iload_n 2, 1) := by decide +kernel
theorem dX8_piles_6 : decode cX8_piles 6 = .ok (.iastore, 1) := by decide +kernel
theorem dX8_piles_7 : decode cX8_piles 7 = .ok (.aload_n 0, 1) := by decide +kernel
theorem dX8_piles_8 : decode cX8_piles 8 = .ok (.getfield 73, 3) := by decide +kernel
theorem dX8_piles_11 : decode cX8_piles 11 = .ok (.iload_n 1, 1) := by decide +kernel
theorem dX8_piles_12 : decode cX8_piles 12 = .ok (.iload_n 3, 1) := by decide +kernel
theorem dX8_piles_13 : decode cX8_piles 13 = .ok (.iastore, 1) := by decide +kernel
theorem dX8_piles_14 : decode cX8_piles 14 = .ok (.aload_n 0, 1) := by decide +kernel
theorem dX8_piles_15 : decode cX8_piles 15 = .ok (.getfield 76, 3) := by decide +kernel
theorem dX8_piles_18 : decode cX8_piles 18 = .ok (.iload_n 1, 1) := by decide +kernel
theorem dX8_piles_19 : decode cX8_piles 19 = .ok (.iload 4, 2) := by decide +kernel
theorem dX8_piles_21 : decode cX8_piles 21 = .ok (.iastore, 1) := by decide +kernel
theorem dX8_piles_22 : decode cX8_piles 22 = .ok (.return_, 1) := by decide +kernel
set_option maxRecDepth 20000 in
theorem ggX8_laysTree_X8_laysHeads : GoodIn wsX8_laysTree wsX8_laysHeads := goodIn_r _ [16, 3, 7, 17, 18, 19, 15, 20, 21, 22, 23, 24, 25, 26, 27, 28, 29, 56, 57, 58, 59, 60, 61, 62, 63, 64, 65, 66, 67, 68, 69, 70, 71, 72, 73, 74, 75, 76, 77, 78, 79, 80, 81, 82, 83, 84, 85, 86, 87, 88, 89] rfl (by decide +kernel)
set_option maxRecDepth 20000 in
theorem gX8_laysTree_X8_laysHeads : GoodIn wsX8_laysTree (wsV RX8 126 RX8 yX8_laysHeads wsX8_laysHeads) := goodIn_app (goodIn_of _ (by decide +kernel)) ggX8_laysTree_X8_laysHeads
set_option maxRecDepth 20000 in
theorem ggX8_laysTree_X8_piles : GoodIn wsX8_laysTree wsX8_piles := goodIn_r _ [33, 4, 5, 6, 56, 57, 58, 59, 60, 61, 62, 63, 64, 65, 66, 67, 68, 69, 70, 71, 72, 73, 74, 75, 76, 77, 78, 79, 80, 81, 82, 83, 84, 85, 86, 87, 88, 89] rfl (by decide +kernel)
set_option maxRecDepth 20000 in
theorem gX8_laysTree_X8_piles : GoodIn wsX8_laysTree (wsV RX8 257 RX8 yX8_piles wsX8_piles) := goodIn_app (goodIn_of _ (by decide +kernel)) ggX8_laysTree_X8_piles
set_option maxRecDepth 20000 in
theorem ggX8_laysTree_X8_differ : GoodIn wsX8_laysTree wsX8_differ := goodIn_r _ [37, 38, 39, 40, 15, 41, 42, 43, 44, 45, 46, 21, 47, 48, 49, 50, 51, 56, 57, 58, 59, 60, 61, 62, 63, 64, 65, 66, 67, 68, 69, 70, 71, 72, 73, 74, 75, 76, 77, 78, 79, 80, 81, 82, 83, 84, 85, 86, 87, 88, 89] rfl (by decide +kernel)
set_option maxRecDepth 20000 in
theorem gX8_laysTree_X8_differ : GoodIn wsX8_laysTree (wsV RX8 97 RX8 yX8_differ wsX8_differ) := goodIn_app (goodIn_of _ (by decide +kernel)) ggX8_laysTree_X8_differ
set_option maxRecDepth 20000 in
theorem ggX8_laysTree_X8_parting : GoodIn wsX8_laysTree wsX8_parting := goodIn_r _ [55, 7, 38, 39, 40, 15, 41, 42, 43, 44, 45, 46, 21, 47, 48, 49, 50, 51, 56, 57, 58, 59, 60, 61, 62, 63, 64, 65, 66, 67, 68, 69, 70, 71, 72, 73, 74, 75, 76, 77, 78, 79, 80, 81, 82, 83, 84, 85, 86, 87, 88, 89] rfl (by decide +kernel)
set_option maxRecDepth 20000 in
theorem gX8_laysTree_X8_parting : GoodIn wsX8_laysTree (wsV RX8 133 RX8 yX8_parting wsX8_parting) := goodIn_app (goodIn_of _ (by decide +kernel)) ggX8_laysTree_X8_parting
theorem dX8_laysTree_0 : decode cX8_laysTree 0 = .ok (.aload_n 0, 1) := by decide +kernel
theorem dX8_laysTree_1 : decode cX8_laysTree 1 = .ok (.iload_n 1, 1) := by decide +kernel
theorem dX8_laysTree_2 : decode cX8_laysTree 2 = .ok (.iload_n 2, 1) := by decide +kernel
theorem dX8_laysTree_3 : decode cX8_laysTree 3 = .ok (.invokevirtual 126, 3) := by decide +kernel
theorem dX8_laysTree_6 : decode cX8_laysTree 6 = .ok (.aload_n 0, 1) := by decide +kernel
theorem dX8_laysTree_7 : decode cX8_laysTree 7 = .ok (.iconst 0, 1) := by decide +kernel
theorem dX8_laysTree_8 : decode cX8_laysTree 8 = .ok (.putfield 251, 3) := by decide +kernel
theorem dX8_laysTree_11 : decode cX8_laysTree 11 = .ok (.aload_n 0, 1) := by decide +kernel
theorem dX8_laysTree_12 : decode cX8_laysTree 12 = .ok (.iconst 0, 1) := by decide +kernel
theorem dX8_laysTree_13 : decode cX8_laysTree 13 = .ok (.putfield 254, 3) := by decide +kernel
theorem dX8_laysTree_16 : decode cX8_laysTree 16 = .ok (.iconst 1, 1) := by decide +kernel
theorem dX8_laysTree_17 : decode cX8_laysTree 17 = .ok (.istore_n 3, 1) := by decide +kernel
theorem dX8_laysTree_18 : decode cX8_laysTree 18 = .ok (.aload_n 0, 1) := by decide +kernel
theorem dX8_laysTree_19 : decode cX8_laysTree 19 = .ok (.iconst 0, 1) := by decide +kernel
theorem dX8_laysTree_20 : decode cX8_laysTree 20 = .ok (.iconst 0, 1) := by decide +kernel
theorem dX8_laysTree_21 : decode cX8_laysTree 21 = .ok (.aload_n 0, 1) := by decide +kernel
theorem dX8_laysTree_22 : decode cX8_laysTree 22 = .ok (.getfield 120, 3) := by decide +kernel
theorem dX8_laysTree_25 : decode cX8_laysTree 25 = .ok (.iconst 0, 1) := by decide +kernel
theorem dX8_laysTree_26 : decode cX8_laysTree 26 = .ok (.invokevirtual 257, 3) := by decide +kernel
theorem dX8_laysTree_29 : decode cX8_laysTree 29 = .ok (.iload_n 3, 1) := by decide +kernel
theorem dX8_laysTree_30 : decode cX8_laysTree 30 = .ok (.ifCond .le 189, 3) := by decide +kernel
theorem dX8_laysTree_33 : decode cX8_laysTree 33 = .ok (.iinc 3 (-1), 3) := by decide +kernel
theorem dX8_laysTree_36 : decode cX8_laysTree 36 = .ok (.aload_n 0, 1) := by decide +kernel
theorem dX8_laysTree_37 : decode cX8_laysTree 37 = .ok (.getfield 70, 3) := by decide +kernel
theorem dX8_laysTree_40 : decode cX8_laysTree 40 = .ok (.iload_n 3, 1) := by decide +kernel
theorem dX8_laysTree_41 : decode cX8_laysTree 41 = .ok (.iaload, 1) := by decide +kernel
theorem dX8_laysTree_42 : decode cX8_laysTree 42 = .ok (.istore 4, 2) := by decide +kernel
theorem dX8_laysTree_44 : decode cX8_laysTree 44 = .ok (.aload_n 0, 1) := by decide +kernel
theorem dX8_laysTree_45 : decode cX8_laysTree 45 = .ok (.getfield 73, 3) := by decide +kernel
theorem dX8_laysTree_48 : decode cX8_laysTree 48 = .ok (.iload_n 3, 1) := by decide +kernel
theorem dX8_laysTree_49 : decode cX8_laysTree 49 = .ok (.iaload, 1) := by decide +kernel
theorem dX8_laysTree_50 : decode cX8_laysTree 50 = .ok (.istore 5, 2) := by decide +kernel
theorem dX8_laysTree_52 : decode cX8_laysTree 52 = .ok (.aload_n 0, 1) := by decide +kernel
theorem dX8_laysTree_53 : decode cX8_laysTree 53 = .ok (.getfield 76, 3) := by decide +kernel
theorem dX8_laysTree_56 : decode cX8_laysTree 56 = .ok (.iload_n 3, 1) := by decide +kernel
theorem dX8_laysTree_57 : decode cX8_laysTree 57 = .ok (.iaload, 1) := by decide +kernel
theorem dX8_laysTree_58 : decode cX8_laysTree 58 = .ok (.istore 6, 2) := by decide +kernel
theorem dX8_laysTree_60 : decode cX8_laysTree 60 = .ok (.aload_n 0, 1) := by decide +kernel
theorem dX8_laysTree_61 : decode cX8_laysTree 61 = .ok (.iload 6, 2) := by decide +kernel
theorem dX8_laysTree_63 : decode cX8_laysTree 63 = .ok (.aload_n 0, 1) := by decide +kernel
theorem dX8_laysTree_64 : decode cX8_laysTree 64 = .ok (.getfield 254, 3) := by decide +kernel
theorem dX8_laysTree_67 : decode cX8_laysTree 67 = .ok (.if_icmp .le 8, 3) := by decide +kernel
theorem dX8_laysTree_70 : decode cX8_laysTree 70 = .ok (.iload 6, 2) := by decide +kernel
theorem dX8_laysTree_72 : decode cX8_laysTree 72 = .ok (.goto 7, 3) := by decide +kernel
theorem dX8_laysTree_75 : decode cX8_laysTree 75 = .ok (.aload_n 0, 1) := by decide +kernel
theorem dX8_laysTree_76 : decode cX8_laysTree 76 = .ok (.getfield 254, 3) := by decide +kernel
theorem dX8_laysTree_79 : decode cX8_laysTree 79 = .ok (.putfield 254, 3) := by decide +kernel
theorem dX8_laysTree_82 : decode cX8_laysTree 82 = .ok (.iload 5, 2) := by decide +kernel
theorem dX8_laysTree_84 : decode cX8_laysTree 84 = .ok (.iload 4, 2) := by decide +kernel
theorem dX8_laysTree_86 : decode cX8_laysTree 86 = .ok (.isub, 1) := by decide +kernel
theorem dX8_laysTree_87 : decode cX8_laysTree 87 = .ok (.iconst 1, 1) := by decide +kernel
theorem dX8_laysTree_88 : decode cX8_laysTree 88 = .ok (.if_icmp .le 128, 3) := by decide +kernel
theorem dX8_laysTree_91 : decode cX8_laysTree 91 = .ok (.aload_n 0, 1) := by decide +kernel
theorem dX8_laysTree_92 : decode cX8_laysTree 92 = .ok (.aload_n 0, 1) := by decide +kernel
theorem dX8_laysTree_93 : decode cX8_laysTree 93 = .ok (.getfield 28, 3) := by decide +kernel
theorem dX8_laysTree_96 : decode cX8_laysTree 96 = .ok (.iload 4, 2) := by decide +kernel
theorem dX8_laysTree_98 : decode cX8_laysTree 98 = .ok (.iaload, 1) := by decide +kernel
theorem dX8_laysTree_99 : decode cX8_laysTree 99 = .ok (.aload_n 0, 1) := by decide +kernel
theorem dX8_laysTree_100 : decode cX8_laysTree 100 = .ok (.getfield 28, 3) := by decide +kernel
theorem dX8_laysTree_103 : decode cX8_laysTree 103 = .ok (.iload 5, 2) := by decide +kernel
theorem dX8_laysTree_105 : decode cX8_laysTree 105 = .ok (.iconst 1, 1) := by decide +kernel
theorem dX8_laysTree_106 : decode cX8_laysTree 106 = .ok (.isub, 1) := by decide +kernel
theorem dX8_laysTree_107 : decode cX8_laysTree 107 = .ok (.iaload, 1) := by decide +kernel
theorem dX8_laysTree_108 : decode cX8_laysTree 108 = .ok (.invokevirtual 97, 3) := by decide +kernel
theorem dX8_laysTree_111 : decode cX8_laysTree 111 = .ok (.istore 7, 2) := by decide +kernel
theorem dX8_laysTree_113 : decode cX8_laysTree 113 = .ok (.aload_n 0, 1) := by decide +kernel
theorem dX8_laysTree_114 : decode cX8_laysTree 114 = .ok (.iload 4, 2) := by decide +kernel
theorem dX8_laysTree_116 : decode cX8_laysTree 116 = .ok (.iload 5, 2) := by decide +kernel
theorem dX8_laysTree_118 : decode cX8_laysTree 118 = .ok (.iload 7, 2) := by decide +kernel
theorem dX8_laysTree_120 : decode cX8_laysTree 120 = .ok (.invokevirtual 133, 3) := by decide +kernel
theorem dX8_laysTree_123 : decode cX8_laysTree 123 = .ok (.istore 8, 2) := by decide +kernel
theorem dX8_laysTree_125 : decode cX8_laysTree 125 = .ok (.aload_n 0, 1) := by decide +kernel
theorem dX8_laysTree_126 : decode cX8_laysTree 126 = .ok (.getfield 58, 3) := by decide +kernel
theorem dX8_laysTree_129 : decode cX8_laysTree 129 = .ok (.aload_n 0, 1) := by decide +kernel
theorem dX8_laysTree_130 : decode cX8_laysTree 130 = .ok (.getfield 251, 3) := by decide +kernel
theorem dX8_laysTree_133 : decode cX8_laysTree 133 = .ok (.iload 7, 2) := by decide +kernel
theorem dX8_laysTree_135 : decode cX8_laysTree 135 = .ok (.iastore, 1) := by decide +kernel
theorem dX8_laysTree_136 : decode cX8_laysTree 136 = .ok (.aload_n 0, 1) := by decide +kernel
theorem dX8_laysTree_137 : decode cX8_laysTree 137 = .ok (.getfield 61, 3) := by decide +kernel
theorem dX8_laysTree_140 : decode cX8_laysTree 140 = .ok (.aload_n 0, 1) := by decide +kernel
theorem dX8_laysTree_141 : decode cX8_laysTree 141 = .ok (.getfield 251, 3) := by decide +kernel
theorem dX8_laysTree_144 : decode cX8_laysTree 144 = .ok (.iload 8, 2) := by decide +kernel
theorem dX8_laysTree_146 : decode cX8_laysTree 146 = .ok (.iload 4, 2) := by decide +kernel
theorem dX8_laysTree_148 : decode cX8_laysTree 148 = .ok (.isub, 1) := by decide +kernel
theorem dX8_laysTree_149 : decode cX8_laysTree 149 = .ok (.iastore, 1) := by decide +kernel
theorem dX8_laysTree_150 : decode cX8_laysTree 150 = .ok (.aload_n 0, 1) := by decide +kernel
theorem dX8_laysTree_151 : decode cX8_laysTree 151 = .ok (.getfield 64, 3) := by decide +kernel
theorem dX8_laysTree_154 : decode cX8_laysTree 154 = .ok (.aload_n 0, 1) := by decide +kernel
theorem dX8_laysTree_155 : decode cX8_laysTree 155 = .ok (.getfield 251, 3) := by decide +kernel
theorem dX8_laysTree_158 : decode cX8_laysTree 158 = .ok (.iload 5, 2) := by decide +kernel
theorem dX8_laysTree_160 : decode cX8_laysTree 160 = .ok (.iload 8, 2) := by decide +kernel
theorem dX8_laysTree_162 : decode cX8_laysTree 162 = .ok (.isub, 1) := by decide +kernel
theorem dX8_laysTree_163 : decode cX8_laysTree 163 = .ok (.iastore, 1) := by decide +kernel
theorem dX8_laysTree_164 : decode cX8_laysTree 164 = .ok (.aload_n 0, 1) := by decide +kernel
theorem dX8_laysTree_165 : decode cX8_laysTree 165 = .ok (.getfield 67, 3) := by decide +kernel
theorem dX8_laysTree_168 : decode cX8_laysTree 168 = .ok (.aload_n 0, 1) := by decide +kernel
theorem dX8_laysTree_169 : decode cX8_laysTree 169 = .ok (.getfield 251, 3) := by decide +kernel
theorem dX8_laysTree_172 : decode cX8_laysTree 172 = .ok (.iload 6, 2) := by decide +kernel
theorem dX8_laysTree_174 : decode cX8_laysTree 174 = .ok (.iastore, 1) := by decide +kernel
theorem dX8_laysTree_175 : decode cX8_laysTree 175 = .ok (.aload_n 0, 1) := by decide +kernel
theorem dX8_laysTree_176 : decode cX8_laysTree 176 = .ok (.dup, 1) := by decide +kernel
theorem dX8_laysTree_177 : decode cX8_laysTree 177 = .ok (.getfield 251, 3) := by decide +kernel
theorem dX8_laysTree_180 : decode cX8_laysTree 180 = .ok (.iconst 1, 1) := by decide +kernel
theorem dX8_laysTree_181 : decode cX8_laysTree 181 = .ok (.iadd, 1) := by decide +kernel
theorem dX8_laysTree_182 : decode cX8_laysTree 182 = .ok (.putfield 251, 3) := by decide +kernel
theorem dX8_laysTree_185 : decode cX8_laysTree 185 = .ok (.aload_n 0, 1) := by decide +kernel
theorem dX8_laysTree_186 : decode cX8_laysTree 186 = .ok (.iload_n 3, 1) := by decide +kernel
theorem dX8_laysTree_187 : decode cX8_laysTree 187 = .ok (.iload 8, 2) := by decide +kernel
theorem dX8_laysTree_189 : decode cX8_laysTree 189 = .ok (.iload 5, 2) := by decide +kernel
theorem dX8_laysTree_191 : decode cX8_laysTree 191 = .ok (.iload 6, 2) := by decide +kernel
theorem dX8_laysTree_193 : decode cX8_laysTree 193 = .ok (.iconst 1, 1) := by decide +kernel
theorem dX8_laysTree_194 : decode cX8_laysTree 194 = .ok (.iadd, 1) := by decide +kernel
theorem dX8_laysTree_195 : decode cX8_laysTree 195 = .ok (.invokevirtual 257, 3) := by decide +kernel
theorem dX8_laysTree_198 : decode cX8_laysTree 198 = .ok (.aload_n 0, 1) := by decide +kernel
theorem dX8_laysTree_199 : decode cX8_laysTree 199 = .ok (.iload_n 3, 1) := by decide +kernel
theorem dX8_laysTree_200 : decode cX8_laysTree 200 = .ok (.iconst 1, 1) := by decide +kernel
theorem dX8_laysTree_201 : decode cX8_laysTree 201 = .ok (.iadd, 1) := by decide +kernel
theorem dX8_laysTree_202 : decode cX8_laysTree 202 = .ok (.iload 4, 2) := by decide +kernel
theorem dX8_laysTree_204 : decode cX8_laysTree 204 = .ok (.iload 8, 2) := by decide +kernel
theorem dX8_laysTree_206 : decode cX8_laysTree 206 = .ok (.iload 6, 2) := by decide +kernel
theorem dX8_laysTree_208 : decode cX8_laysTree 208 = .ok (.iconst 1, 1) := by decide +kernel
theorem dX8_laysTree_209 : decode cX8_laysTree 209 = .ok (.iadd, 1) := by decide +kernel
theorem dX8_laysTree_210 : decode cX8_laysTree 210 = .ok (.invokevirtual 257, 3) := by decide +kernel
theorem dX8_laysTree_213 : decode cX8_laysTree 213 = .ok (.iinc 3 2, 3) := by decide +kernel
theorem dX8_laysTree_216 : decode cX8_laysTree 216 = .ok (.goto (-187), 3) := by decide +kernel
theorem dX8_laysTree_219 : decode cX8_laysTree 219 = .ok (.return_, 1) := by decide +kernel
set_option maxRecDepth 20000 in
theorem ggX8_wordsBeneath_X8_headOf : GoodIn wsX8_wordsBeneath wsX8_headOf := goodIn_r _ [5, 6, 7, 8, 4, 9, 10, 11, 12, 13, 14, 15, 16, 17, 18, 19, 20, 21, 22, 23, 24, 25, 26, 27, 28, 29, 30, 31, 32, 33, 34, 35, 36, 37, 38, 39, 40, 41, 42, 43, 44, 45, 46, 47, 48] rfl (by decide +kernel)
set_option maxRecDepth 20000 in
theorem gX8_wordsBeneath_X8_headOf : GoodIn wsX8_wordsBeneath (wsV RX8 123 RX8 yX8_headOf wsX8_headOf) := goodIn_app (goodIn_of _ (by decide +kernel)) ggX8_wordsBeneath_X8_headOf
theorem dX8_wordsBeneath_0 : decode cX8_wordsBeneath 0 = .ok (.aload_n 0, 1) := by decide +kernel
theorem dX8_wordsBeneath_1 : decode cX8_wordsBeneath 1 = .ok (.iload_n 1, 1) := by decide +kernel
theorem dX8_wordsBeneath_2 : decode cX8_wordsBeneath 2 = .ok (.iload_n 2, 1) := by decide +kernel
theorem dX8_wordsBeneath_3 : decode cX8_wordsBeneath 3 = .ok (.iconst 1, 1) := by decide +kernel
theorem dX8_wordsBeneath_4 : decode cX8_wordsBeneath 4 = .ok (.iadd, 1) := by decide +kernel
theorem dX8_wordsBeneath_5 : decode cX8_wordsBeneath 5 = .ok (.invokevirtual 123, 3) := by decide +kernel
theorem dX8_wordsBeneath_8 : decode cX8_wordsBeneath 8 = .ok (.aload_n 0, 1) := by decide +kernel
theorem dX8_wordsBeneath_9 : decode cX8_wordsBeneath 9 = .ok (.iload_n 1, 1) := by decide +kernel
theorem dX8_wordsBeneath_10 : decode cX8_wordsBeneath 10 = .ok (.iload_n 2, 1) := by decide +kernel
theorem dX8_wordsBeneath_11 : decode cX8_wordsBeneath 11 = .ok (.invokevirtual 123, 3) := by decide +kernel
theorem dX8_wordsBeneath_14 : decode cX8_wordsBeneath 14 = .ok (.isub, 1) := by decide +kernel
theorem dX8_wordsBeneath_15 : decode cX8_wordsBeneath 15 = .ok (.ireturn, 1) := by decide +kernel
set_option maxRecDepth 20000 in
theorem ggX8_weight_X8_headOf : GoodIn wsX8_weight wsX8_headOf := goodIn_r _ [5, 6, 7, 8, 4, 9, 10, 11, 12, 13, 14, 24, 25, 26, 27, 28, 29, 30, 31, 32, 33, 34, 35, 36, 37, 38, 39, 40, 41, 42, 43, 44, 45, 46, 47, 48, 49, 50, 51, 52, 53, 54, 55, 56, 57] rfl (by decide +kernel)
set_option maxRecDepth 20000 in
theorem gX8_weight_X8_headOf : GoodIn wsX8_weight (wsV RX8 123 RX8 yX8_headOf wsX8_headOf) := goodIn_app (goodIn_of _ (by decide +kernel)) ggX8_weight_X8_headOf
set_option maxRecDepth 20000 in
theorem ggX8_weight_X8_wordsBeneath : GoodIn wsX8_weight wsX8_wordsBeneath := goodIn_r _ [18, 1, 2, 3, 4, 5, 6, 7, 8, 9, 10, 11, 12, 13, 14, 24, 25, 26, 27, 28, 29, 30, 31, 32, 33, 34, 35, 36, 37, 38, 39, 40, 41, 42, 43, 44, 45, 46, 47, 48, 49, 50, 51, 52, 53, 54, 55, 56, 57] rfl (by decide +kernel)
set_option maxRecDepth 20000 in
theorem gX8_weight_X8_wordsBeneath : GoodIn wsX8_weight (wsV RX8 261 RX8 yX8_wordsBeneath wsX8_wordsBeneath) := goodIn_app (goodIn_of _ (by decide +kernel)) ggX8_weight_X8_wordsBeneath
set_option maxRecDepth 20000 in
theorem ggX8_weight_X8_lengthOf : GoodIn wsX8_weight wsX8_lengthOf := goodIn_r _ [22, 23, 14, 24, 25, 26, 27, 28, 29, 30, 31, 32, 33, 34, 35, 36, 37, 38, 39, 40, 41, 42, 43, 44, 45, 46, 47, 48, 49, 50, 51, 52, 53, 54, 55, 56, 57] rfl (by decide +kernel)
set_option maxRecDepth 20000 in
theorem gX8_weight_X8_lengthOf : GoodIn wsX8_weight (wsV RX8 86 RX8 yX8_lengthOf wsX8_lengthOf) := goodIn_app (goodIn_of _ (by decide +kernel)) ggX8_weight_X8_lengthOf
set_option maxRecDepth 20000 in
theorem ggX8_weight_X8_entriesAhead : GoodIn wsX8_weight wsX8_entriesAhead := goodIn_r _ [9, 10, 11, 12, 4, 13, 14, 24, 25, 26, 27, 28, 29, 30, 31, 32, 33, 34, 35, 36, 37, 38, 39, 40, 41, 42, 43, 44, 45, 46, 47, 48, 49, 50, 51, 52, 53, 54, 55, 56, 57] rfl (by decide +kernel)
set_option maxRecDepth 20000 in
theorem gX8_weight_X8_entriesAhead : GoodIn wsX8_weight (wsV RX8 107 RX8 yX8_entriesAhead wsX8_entriesAhead) := goodIn_app (goodIn_of _ (by decide +kernel)) ggX8_weight_X8_entriesAhead
theorem dX8_weight_0 : decode cX8_weight 0 = .ok (.aload_n 0, 1) := by decide +kernel
theorem dX8_weight_1 : decode cX8_weight 1 = .ok (.iload_n 1, 1) := by decide +kernel
theorem dX8_weight_2 : decode cX8_weight 2 = .ok (.iload_n 2, 1) := by decide +kernel
theorem dX8_weight_3 : decode cX8_weight 3 = .ok (.invokevirtual 123, 3) := by decide +kernel
theorem dX8_weight_6 : decode cX8_weight 6 = .ok (.istore_n 3, 1) := by decide +kernel
theorem dX8_weight_7 : decode cX8_weight 7 = .ok (.iconst 0, 1) := by decide +kernel
theorem dX8_weight_8 : decode cX8_weight 8 = .ok (.istore 4, 2) := by decide +kernel
theorem dX8_weight_10 : decode cX8_weight 10 = .ok (.iload_n 3, 1) := by decide +kernel
theorem dX8_weight_11 : decode cX8_weight 11 = .ok (.istore 5, 2) := by decide +kernel
theorem dX8_weight_13 : decode cX8_weight 13 = .ok (.iload 5, 2) := by decide +kernel
theorem dX8_weight_15 : decode cX8_weight 15 = .ok (.iload_n 3, 1) := by decide +kernel
theorem dX8_weight_16 : decode cX8_weight 16 = .ok (.aload_n 0, 1) := by decide +kernel
theorem dX8_weight_17 : decode cX8_weight 17 = .ok (.iload_n 1, 1) := by decide +kernel
theorem dX8_weight_18 : decode cX8_weight 18 = .ok (.iload_n 2, 1) := by decide +kernel
theorem dX8_weight_19 : decode cX8_weight 19 = .ok (.invokevirtual 261, 3) := by decide +kernel
theorem dX8_weight_22 : decode cX8_weight 22 = .ok (.iadd, 1) := by decide +kernel
theorem dX8_weight_23 : decode cX8_weight 23 = .ok (.if_icmp .ge 20, 3) := by decide +kernel
theorem dX8_weight_26 : decode cX8_weight 26 = .ok (.iload 4, 2) := by decide +kernel
theorem dX8_weight_28 : decode cX8_weight 28 = .ok (.aload_n 0, 1) := by decide +kernel
theorem dX8_weight_29 : decode cX8_weight 29 = .ok (.iload 5, 2) := by decide +kernel
theorem dX8_weight_31 : decode cX8_weight 31 = .ok (.invokevirtual 86, 3) := by decide +kernel
theorem dX8_weight_34 : decode cX8_weight 34 = .ok (.iadd, 1) := by decide +kernel
theorem dX8_weight_35 : decode cX8_weight 35 = .ok (.istore 4, 2) := by decide +kernel
theorem dX8_weight_37 : decode cX8_weight 37 = .ok (.iinc 5 1, 3) := by decide +kernel
theorem dX8_weight_40 : decode cX8_weight 40 = .ok (.goto (-27), 3) := by decide +kernel
theorem dX8_weight_43 : decode cX8_weight 43 = .ok (.iload_n 2, 1) := by decide +kernel
theorem dX8_weight_44 : decode cX8_weight 44 = .ok (.istore 5, 2) := by decide +kernel
theorem dX8_weight_46 : decode cX8_weight 46 = .ok (.iload_n 2, 1) := by decide +kernel
theorem dX8_weight_47 : decode cX8_weight 47 = .ok (.iconst 1, 1) := by decide +kernel
theorem dX8_weight_48 : decode cX8_weight 48 = .ok (.iadd, 1) := by decide +kernel
theorem dX8_weight_49 : decode cX8_weight 49 = .ok (.istore 6, 2) := by decide +kernel
theorem dX8_weight_51 : decode cX8_weight 51 = .ok (.iload_n 1, 1) := by decide +kernel
theorem dX8_weight_52 : decode cX8_weight 52 = .ok (.istore 7, 2) := by decide +kernel
theorem dX8_weight_54 : decode cX8_weight 54 = .ok (.iload 7, 2) := by decide +kernel
theorem dX8_weight_56 : decode cX8_weight 56 = .ok (.ifCond .le 65, 3) := by decide +kernel
theorem dX8_weight_59 : decode cX8_weight 59 = .ok (.aload_n 0, 1) := by decide +kernel
theorem dX8_weight_60 : decode cX8_weight 60 = .ok (.iload 7, 2) := by decide +kernel
theorem dX8_weight_62 : decode cX8_weight 62 = .ok (.iload 5, 2) := by decide +kernel
theorem dX8_weight_64 : decode cX8_weight 64 = .ok (.invokevirtual 107, 3) := by decide +kernel
theorem dX8_weight_67 : decode cX8_weight 67 = .ok (.istore 5, 2) := by decide +kernel
theorem dX8_weight_69 : decode cX8_weight 69 = .ok (.aload_n 0, 1) := by decide +kernel
theorem dX8_weight_70 : decode cX8_weight 70 = .ok (.iload 7, 2) := by decide +kernel
theorem dX8_weight_72 : decode cX8_weight 72 = .ok (.iload 6, 2) := by decide +kernel
theorem dX8_weight_74 : decode cX8_weight 74 = .ok (.invokevirtual 107, 3) := by decide +kernel
theorem dX8_weight_77 : decode cX8_weight 77 = .ok (.istore 6, 2) := by decide +kernel
theorem dX8_weight_79 : decode cX8_weight 79 = .ok (.iload 5, 2) := by decide +kernel
theorem dX8_weight_81 : decode cX8_weight 81 = .ok (.istore 8, 2) := by decide +kernel
theorem dX8_weight_83 : decode cX8_weight 83 = .ok (.iload 8, 2) := by decide +kernel
theorem dX8_weight_85 : decode cX8_weight 85 = .ok (.iload 6, 2) := by decide +kernel
theorem dX8_weight_87 : decode cX8_weight 87 = .ok (.if_icmp .ge 28, 3) := by decide +kernel
theorem dX8_weight_90 : decode cX8_weight 90 = .ok (.iload 4, 2) := by decide +kernel
theorem dX8_weight_92 : decode cX8_weight 92 = .ok (.aload_n 0, 1) := by decide +kernel
theorem dX8_weight_93 : decode cX8_weight 93 = .ok (.aload_n 0, 1) := by decide +kernel
theorem dX8_weight_94 : decode cX8_weight 94 = .ok (.iload 7, 2) := by decide +kernel
theorem dX8_weight_96 : decode cX8_weight 96 = .ok (.iconst 1, 1) := by decide +kernel
theorem dX8_weight_97 : decode cX8_weight 97 = .ok (.isub, 1) := by decide +kernel
theorem dX8_weight_98 : decode cX8_weight 98 = .ok (.iload 8, 2) := by decide +kernel
theorem dX8_weight_100 : decode cX8_weight 100 = .ok (.invokevirtual 123, 3) := by decide +kernel
theorem dX8_weight_103 : decode cX8_weight 103 = .ok (.invokevirtual 86, 3) := by decide +kernel
theorem dX8_weight_106 : decode cX8_weight 106 = .ok (.iadd, 1) := by decide +kernel
theorem dX8_weight_107 : decode cX8_weight 107 = .ok (.istore 4, 2) := by decide +kernel
theorem dX8_weight_109 : decode cX8_weight 109 = .ok (.iinc 8 1, 3) := by decide +kernel
theorem dX8_weight_112 : decode cX8_weight 112 = .ok (.goto (-29), 3) := by decide +kernel
theorem dX8_weight_115 : decode cX8_weight 115 = .ok (.iinc 7 (-1), 3) := by decide +kernel
theorem dX8_weight_118 : decode cX8_weight 118 = .ok (.goto (-64), 3) := by decide +kernel
theorem dX8_weight_121 : decode cX8_weight 121 = .ok (.iload 4, 2) := by decide +kernel
theorem dX8_weight_123 : decode cX8_weight 123 = .ok (.ireturn, 1) := by decide +kernel
set_option maxRecDepth 20000 in
theorem ggX8_pageFact_X8_sizeOf : GoodIn wsX8_pageFact wsX8_sizeOf := goodIn_r _ [6, 7, 80, 81, 82, 83, 84, 85, 86, 87, 88, 89, 90, 91, 92, 93, 94, 95, 96, 97, 98, 99, 100, 101, 102, 103, 104, 105, 106, 107, 108, 109, 110, 111, 112, 113] rfl (by decide +kernel)
set_option maxRecDepth 20000 in
theorem gX8_pageFact_X8_sizeOf : GoodIn wsX8_pageFact (wsV RX8 104 RX8 yX8_sizeOf wsX8_sizeOf) := goodIn_app (goodIn_of _ (by decide +kernel)) ggX8_pageFact_X8_sizeOf
set_option maxRecDepth 20000 in
theorem ggX8_pageFact_X8_wordsBeneath : GoodIn wsX8_pageFact wsX8_wordsBeneath := goodIn_r _ [11, 12, 13, 14, 5, 15, 16, 17, 18, 19, 2, 3, 4, 6, 7, 80, 81, 82, 83, 84, 85, 86, 87, 88, 89, 90, 91, 92, 93, 94, 95, 96, 97, 98, 99, 100, 101, 102, 103, 104, 105, 106, 107, 108, 109, 110, 111, 112, 113] rfl (by decide +kernel)
set_option maxRecDepth 20000 in
theorem gX8_pageFact_X8_wordsBeneath : GoodIn wsX8_pageFact (wsV RX8 261 RX8 yX8_wordsBeneath wsX8_wordsBeneath) := goodIn_app (goodIn_of _ (by decide +kernel)) ggX8_pageFact_X8_wordsBeneath
set_option maxRecDepth 20000 in
theorem ggX8_pageFact_X8_headOf : GoodIn wsX8_pageFact wsX8_headOf := goodIn_r _ [15, 16, 17, 18, 5, 19, 2, 3, 4, 6, 7, 80, 81, 82, 83, 84, 85, 86, 87, 88, 89, 90, 91, 92, 93, 94, 95, 96, 97, 98, 99, 100, 101, 102, 103, 104, 105, 106, 107, 108, 109, 110, 111, 112, 113] rfl (by decide +kernel)
set_option maxRecDepth 20000 in
theorem gX8_pageFact_X8_headOf : GoodIn wsX8_pageFact (wsV RX8 123 RX8 yX8_headOf wsX8_headOf) := goodIn_app (goodIn_of _ (by decide +kernel)) ggX8_pageFact_X8_headOf
set_option maxRecDepth 20000 in
theorem ggX8_pageFact_X8_topLevel : GoodIn wsX8_pageFact wsX8_topLevel := goodIn_r _ [23, 7, 80, 81, 82, 83, 84, 85, 86, 87, 88, 89, 90, 91, 92, 93, 94, 95, 96, 97, 98, 99, 100, 101, 102, 103, 104, 105, 106, 107, 108, 109, 110, 111, 112, 113] rfl (by decide +kernel)
set_option maxRecDepth 20000 in
theorem gX8_pageFact_X8_topLevel : GoodIn wsX8_pageFact (wsV RX8 110 RX8 yX8_topLevel wsX8_topLevel) := goodIn_app (goodIn_of _ (by decide +kernel)) ggX8_pageFact_X8_topLevel
set_option maxRecDepth 20000 in
theorem ggX8_pageFact_X8_over : GoodIn wsX8_pageFact wsX8_over := goodIn_r _ [27, 16, 17, 18, 5, 19, 2, 3, 4, 6, 7, 80, 81, 82, 83, 84, 85, 86, 87, 88, 89, 90, 91, 92, 93, 94, 95, 96, 97, 98, 99, 100, 101, 102, 103, 104, 105, 106, 107, 108, 109, 110, 111, 112, 113] rfl (by decide +kernel)
set_option maxRecDepth 20000 in
theorem gX8_pageFact_X8_over : GoodIn wsX8_pageFact (wsV RX8 166 RX8 yX8_over wsX8_over) := goodIn_app (goodIn_of _ (by decide +kernel)) ggX8_pageFact_X8_over
set_option maxRecDepth 20000 in
theorem ggX8_pageFact_X8_numberOf : GoodIn wsX8_pageFact wsX8_numberOf := goodIn_r _ [31, 7, 80, 81, 82, 83, 84, 85, 86, 87, 88, 89, 90, 91, 92, 93, 94, 95, 96, 97, 98, 99, 100, 101, 102, 103, 104, 105, 106, 107, 108, 109, 110, 111, 112, 113] rfl (by decide +kernel)
set_option maxRecDepth 20000 in
theorem gX8_pageFact_X8_numberOf : GoodIn wsX8_pageFact (wsV RX8 117 RX8 yX8_numberOf wsX8_numberOf) := goodIn_app (goodIn_of _ (by decide +kernel)) ggX8_pageFact_X8_numberOf
set_option maxRecDepth 20000 in
theorem ggX8_pageFact_X8_laysTree : GoodIn wsX8_pageFact wsX8_laysTree := goodIn_r _ [35, 36, 1, 37, 38, 39, 40, 41, 42, 43, 44, 45, 46, 47, 48, 5, 49, 2, 3, 4, 6, 7, 16, 17, 18, 19, 12, 13, 14, 15, 50, 51, 52, 53, 54, 55, 56, 57, 58, 59, 60, 61, 62, 63, 64, 65, 66, 67, 68, 69, 70, 71, 72, 73, 74, 75, 80, 81, 82, 83, 84, 85, 86, 87, 88, 89, 90, 91, 92, 93, 94, 95, 96, 97, 98, 99, 100, 101, 102, 103, 104, 105, 106, 107, 108, 109, 110, 111, 112, 113] rfl (by decide +kernel)
set_option maxRecDepth 20000 in
theorem gX8_pageFact_X8_laysTree : GoodIn wsX8_pageFact (wsV RX8 264 RX8 yX8_laysTree wsX8_laysTree) := goodIn_app (goodIn_of _ (by decide +kernel)) ggX8_pageFact_X8_laysTree
set_option maxRecDepth 20000 in
theorem ggX8_pageFact_X8_weight : GoodIn wsX8_pageFact wsX8_weight := goodIn_r _ [79, 12, 13, 14, 5, 15, 16, 17, 18, 19, 2, 3, 4, 6, 7, 8, 9, 10, 11, 62, 63, 64, 65, 66, 80, 81, 82, 83, 84, 85, 86, 87, 88, 89, 90, 91, 92, 93, 94, 95, 96, 97, 98, 99, 100, 101, 102, 103, 104, 105, 106, 107, 108, 109, 110, 111, 112, 113] rfl (by decide +kernel)
set_option maxRecDepth 20000 in
theorem gX8_pageFact_X8_weight : GoodIn wsX8_pageFact (wsV RX8 267 RX8 yX8_weight wsX8_weight) := goodIn_app (goodIn_of _ (by decide +kernel)) ggX8_pageFact_X8_weight
theorem dX8_pageFact_0 : decode cX8_pageFact 0 = .ok (.iload_n 3, 1) := by decide +kernel
theorem dX8_pageFact_1 : decode cX8_pageFact 1 = .ok (.tableswitch 99 0 5 #[39, 41, 48, 55, 62, 88], 39) := by decide +kernel
theorem dX8_pageFact_40 : decode cX8_pageFact 40 = .ok (.iload_n 1, 1) := by decide +kernel
theorem dX8_pageFact_41 : decode cX8_pageFact 41 = .ok (.ireturn, 1) := by decide +kernel
theorem dX8_pageFact_42 : decode cX8_pageFact 42 = .ok (.aload_n 0, 1) := by decide +kernel
theorem dX8_pageFact_43 : decode cX8_pageFact 43 = .ok (.iload_n 1, 1) := by decide +kernel
theorem dX8_pageFact_44 : decode cX8_pageFact 44 = .ok (.iload_n 2, 1) := by decide +kernel
theorem dX8_pageFact_45 : decode cX8_pageFact 45 = .ok (.invokevirtual 104, 3) := by decide +kernel
theorem dX8_pageFact_48 : decode cX8_pageFact 48 = .ok (.ireturn, 1) := by decide +kernel
theorem dX8_pageFact_49 : decode cX8_pageFact 49 = .ok (.aload_n 0, 1) := by decide +kernel
theorem dX8_pageFact_50 : decode cX8_pageFact 50 = .ok (.iload_n 1, 1) := by decide +kernel
theorem dX8_pageFact_51 : decode cX8_pageFact 51 = .ok (.iload_n 2, 1) := by decide +kernel
theorem dX8_pageFact_52 : decode cX8_pageFact 52 = .ok (.invokevirtual 261, 3) := by decide +kernel
theorem dX8_pageFact_55 : decode cX8_pageFact 55 = .ok (.ireturn, 1) := by decide +kernel
theorem dX8_pageFact_56 : decode cX8_pageFact 56 = .ok (.aload_n 0, 1) := by decide +kernel
theorem dX8_pageFact_57 : decode cX8_pageFact 57 = .ok (.iload_n 1, 1) := by decide +kernel
theorem dX8_pageFact_58 : decode cX8_pageFact 58 = .ok (.iload_n 2, 1) := by decide +kernel
theorem dX8_pageFact_59 : decode cX8_pageFact 59 = .ok (.invokevirtual 123, 3) := by decide +kernel
theorem dX8_pageFact_62 : decode cX8_pageFact 62 = .ok (.ireturn, 1) := by decide +kernel
theorem dX8_pageFact_63 : decode cX8_pageFact 63 = .ok (.iload_n 1, 1) := by decide +kernel
theorem dX8_pageFact_64 : decode cX8_pageFact 64 = .ok (.aload_n 0, 1) := by decide +kernel
theorem dX8_pageFact_65 : decode cX8_pageFact 65 = .ok (.invokevirtual 110, 3) := by decide +kernel
theorem dX8_pageFact_68 : decode cX8_pageFact 68 = .ok (.if_icmp .ne 7, 3) := by decide +kernel
theorem dX8_pageFact_71 : decode cX8_pageFact 71 = .ok (.iconst (-1), 1) := by decide +kernel
theorem dX8_pageFact_72 : decode cX8_pageFact 72 = .ok (.goto 16, 3) := by decide +kernel
theorem dX8_pageFact_75 : decode cX8_pageFact 75 = .ok (.aload_n 0, 1) := by decide +kernel
theorem dX8_pageFact_76 : decode cX8_pageFact 76 = .ok (.iload_n 1, 1) := by decide +kernel
theorem dX8_pageFact_77 : decode cX8_pageFact 77 = .ok (.iconst 1, 1) := by decide +kernel
theorem dX8_pageFact_78 : decode cX8_pageFact 78 = .ok (.iadd, 1) := by decide +kernel
theorem dX8_pageFact_79 : decode cX8_pageFact 79 = .ok (.aload_n 0, 1) := by decide +kernel
theorem dX8_pageFact_80 : decode cX8_pageFact 80 = .ok (.iload_n 1, 1) := by decide +kernel
theorem dX8_pageFact_81 : decode cX8_pageFact 81 = .ok (.iload_n 2, 1) := by decide +kernel
theorem dX8_pageFact_82 : decode cX8_pageFact 82 = .ok (.invokevirtual 166, 3) := by decide +kernel
theorem dX8_pageFact_85 : decode cX8_pageFact 85 = .ok (.invokevirtual 117, 3) := by decide +kernel
theorem dX8_pageFact_88 : decode cX8_pageFact 88 = .ok (.ireturn, 1) := by decide +kernel
theorem dX8_pageFact_89 : decode cX8_pageFact 89 = .ok (.aload_n 0, 1) := by decide +kernel
theorem dX8_pageFact_90 : decode cX8_pageFact 90 = .ok (.iload_n 1, 1) := by decide +kernel
theorem dX8_pageFact_91 : decode cX8_pageFact 91 = .ok (.iload_n 2, 1) := by decide +kernel
theorem dX8_pageFact_92 : decode cX8_pageFact 92 = .ok (.invokevirtual 264, 3) := by decide +kernel
theorem dX8_pageFact_95 : decode cX8_pageFact 95 = .ok (.aload_n 0, 1) := by decide +kernel
theorem dX8_pageFact_96 : decode cX8_pageFact 96 = .ok (.getfield 254, 3) := by decide +kernel
theorem dX8_pageFact_99 : decode cX8_pageFact 99 = .ok (.ireturn, 1) := by decide +kernel
theorem dX8_pageFact_100 : decode cX8_pageFact 100 = .ok (.aload_n 0, 1) := by decide +kernel
theorem dX8_pageFact_101 : decode cX8_pageFact 101 = .ok (.iload_n 1, 1) := by decide +kernel
theorem dX8_pageFact_102 : decode cX8_pageFact 102 = .ok (.iload_n 2, 1) := by decide +kernel
theorem dX8_pageFact_103 : decode cX8_pageFact 103 = .ok (.invokevirtual 267, 3) := by decide +kernel
theorem dX8_pageFact_106 : decode cX8_pageFact 106 = .ok (.ireturn, 1) := by decide +kernel
set_option maxRecDepth 20000 in
theorem ggX8_page_X8_isPage : GoodIn wsX8_page wsX8_isPage := goodIn_r _ [5, 6, 7, 8, 4, 9, 10, 11, 12, 13, 108, 109, 110, 111, 112, 113, 114, 115, 116, 117, 118, 119, 120, 121, 122, 123, 124, 125, 126, 127, 128, 129, 130, 131, 132, 133, 134, 135, 136, 137, 138, 139, 140, 141] rfl (by decide +kernel)
set_option maxRecDepth 20000 in
theorem gX8_page_X8_isPage : GoodIn wsX8_page (wsV RX8 239 RX8 yX8_isPage wsX8_isPage) := goodIn_app (goodIn_of _ (by decide +kernel)) ggX8_page_X8_isPage
set_option maxRecDepth 20000 in
theorem ggX8_page_X8_in : GoodIn wsX8_page wsX8_in := goodIn_r _ [13] rfl (by decide +kernel)
set_option maxRecDepth 20000 in
theorem gX8_page_X8_in : GoodIn wsX8_page (va_wsS RX8 175 yX8_in wsX8_in) := goodIn_app (goodIn_of _ (by decide +kernel)) ggX8_page_X8_in
set_option maxRecDepth 20000 in
theorem ggX8_page_X8_levelOf : GoodIn wsX8_page wsX8_levelOf := goodIn_r _ [17, 10, 18, 19, 20, 4, 21, 108, 109, 110, 111, 112, 113, 114, 115, 116, 117, 118, 119, 120, 121, 122, 123, 124, 125, 126, 127, 128, 129, 130, 131, 132, 133, 134, 135, 136, 137, 138, 139, 140, 141] rfl (by decide +kernel)
set_option maxRecDepth 20000 in
theorem gX8_page_X8_levelOf : GoodIn wsX8_page (wsV RX8 114 RX8 yX8_levelOf wsX8_levelOf) := goodIn_app (goodIn_of _ (by decide +kernel)) ggX8_page_X8_levelOf
set_option maxRecDepth 20000 in
theorem ggX8_page_X8_pageOf : GoodIn wsX8_page wsX8_pageOf := goodIn_r _ [25, 14, 15, 16, 4, 17, 10, 18, 19, 20, 21, 26, 27, 28, 29, 108, 109, 110, 111, 112, 113, 114, 115, 116, 117, 118, 119, 120, 121, 122, 123, 124, 125, 126, 127, 128, 129, 130, 131, 132, 133, 134, 135, 136, 137, 138, 139, 140, 141] rfl (by decide +kernel)
set_option maxRecDepth 20000 in
theorem gX8_page_X8_pageOf : GoodIn wsX8_page (wsV RX8 242 RX8 yX8_pageOf wsX8_pageOf) := goodIn_app (goodIn_of _ (by decide +kernel)) ggX8_page_X8_pageOf
set_option maxRecDepth 20000 in
theorem ggX8_page_X8_pageFact : GoodIn wsX8_page wsX8_pageFact := goodIn_r _ [33, 34, 35, 36, 37, 4, 38, 10, 39, 40, 41, 42, 43, 44, 45, 46, 47, 48, 49, 50, 18, 19, 20, 21, 51, 52, 53, 54, 26, 27, 28, 29, 55, 56, 57, 58, 59, 60, 61, 62, 63, 64, 65, 66, 67, 68, 69, 70, 71, 72, 73, 74, 75, 76, 77, 78, 79, 80, 81, 82, 83, 84, 85, 86, 87, 88, 89, 90, 91, 92, 93, 94, 95, 96, 97, 98, 99, 100, 101, 102, 108, 109, 110, 111, 112, 113, 114, 115, 116, 117, 118, 119, 120, 121, 122, 123, 124, 125, 126, 127, 128, 129, 130, 131, 132, 133, 134, 135, 136, 137, 138, 139, 140, 141] rfl (by decide +kernel)
set_option maxRecDepth 20000 in
theorem gX8_page_X8_pageFact : GoodIn wsX8_page (wsV RX8 270 RX8 yX8_pageFact wsX8_pageFact) := goodIn_app (goodIn_of _ (by decide +kernel)) ggX8_page_X8_pageFact
set_option maxRecDepth 20000 in
theorem ggX8_page_X8_refuses : GoodIn wsX8_page wsX8_refuses := goodIn_r _ [106, 107, 108, 109, 110, 111, 112, 113, 114, 115, 116, 117, 118, 119, 120, 121, 122, 123, 124, 125, 126, 127, 128, 129, 130, 131, 132, 133, 134, 135, 136, 137, 138, 139, 140, 141] rfl (by decide +kernel)
set_option maxRecDepth 20000 in
theorem gX8_page_X8_refuses : GoodIn wsX8_page (wsV RX8 179 RX8 yX8_refuses wsX8_refuses) := goodIn_app (goodIn_of _ (by decide +kernel)) ggX8_page_X8_refuses
theorem dX8_page_0 : decode cX8_page 0 = .ok (.aload_n 0, 1) := by decide +kernel
theorem dX8_page_1 : decode cX8_page 1 = .ok (.iload_n 1, 1) := by decide +kernel
theorem dX8_page_2 : decode cX8_page 2 = .ok (.invokevirtual 239, 3) := by decide +kernel
theorem dX8_page_5 : decode cX8_page 5 = .ok (.ifCond .eq 31, 3) := by decide +kernel
theorem dX8_page_8 : decode cX8_page 8 = .ok (.iload_n 2, 1) := by decide +kernel
theorem dX8_page_9 : decode cX8_page 9 = .ok (.iconst 0, 1) := by decide +kernel
theorem dX8_page_10 : decode cX8_page 10 = .ok (.bipush 6, 2) := by decide +kernel
theorem dX8_page_12 : decode cX8_page 12 = .ok (.invokestatic 175, 3) := by decide +kernel
theorem dX8_page_15 : decode cX8_page 15 = .ok (.ifCond .eq 21, 3) := by decide +kernel
theorem dX8_page_18 : decode cX8_page 18 = .ok (.aload_n 0, 1) := by decide +kernel
theorem dX8_page_19 : decode cX8_page 19 = .ok (.aload_n 0, 1) := by decide +kernel
theorem dX8_page_20 : decode cX8_page 20 = .ok (.iload_n 1, 1) := by decide +kernel
theorem dX8_page_21 : decode cX8_page 21 = .ok (.invokevirtual 114, 3) := by decide +kernel
theorem dX8_page_24 : decode cX8_page 24 = .ok (.aload_n 0, 1) := by decide +kernel
theorem dX8_page_25 : decode cX8_page 25 = .ok (.iload_n 1, 1) := by decide +kernel
theorem dX8_page_26 : decode cX8_page 26 = .ok (.invokevirtual 242, 3) := by decide +kernel
theorem dX8_page_29 : decode cX8_page 29 = .ok (.iload_n 2, 1) := by decide +kernel
theorem dX8_page_30 : decode cX8_page 30 = .ok (.invokevirtual 270, 3) := by decide +kernel
theorem dX8_page_33 : decode cX8_page 33 = .ok (.goto 9, 3) := by decide +kernel
theorem dX8_page_36 : decode cX8_page 36 = .ok (.aload_n 0, 1) := by decide +kernel
theorem dX8_page_37 : decode cX8_page 37 = .ok (.bipush (-2), 2) := by decide +kernel
theorem dX8_page_39 : decode cX8_page 39 = .ok (.invokevirtual 179, 3) := by decide +kernel
theorem dX8_page_42 : decode cX8_page 42 = .ok (.ireturn, 1) := by decide +kernel
theorem dX8_forkFact_0 : decode cX8_forkFact 0 = .ok (.iload_n 2, 1) := by decide +kernel
theorem dX8_forkFact_1 : decode cX8_forkFact 1 = .ok (.ifCond .ne 12, 3) := by decide +kernel
theorem dX8_forkFact_4 : decode cX8_forkFact 4 = .ok (.aload_n 0, 1) := by decide +kernel
theorem dX8_forkFact_5 : decode cX8_forkFact 5 = .ok (.getfield 58, 3) := by decide +kernel
theorem dX8_forkFact_8 : decode cX8_forkFact 8 = .ok (.iload_n 1, 1) := by decide +kernel
theorem dX8_forkFact_9 : decode cX8_forkFact 9 = .ok (.iaload, 1) := by decide +kernel
theorem dX8_forkFact_10 : decode cX8_forkFact 10 = .ok (.goto 37, 3) := by decide +kernel
theorem dX8_forkFact_13 : decode cX8_forkFact 13 = .ok (.iload_n 2, 1) := by decide +kernel
theorem dX8_forkFact_14 : decode cX8_forkFact 14 = .ok (.iconst 1, 1) := by decide +kernel
theorem dX8_forkFact_15 : decode cX8_forkFact 15 = .ok (.if_icmp .ne 12, 3) := by decide +kernel
theorem dX8_forkFact_18 : decode cX8_forkFact 18 = .ok (.aload_n 0, 1) := by decide +kernel
theorem dX8_forkFact_19 : decode cX8_forkFact 19 = .ok (.getfield 61, 3) := by decide +kernel
theorem dX8_forkFact_22 : decode cX8_forkFact 22 = .ok (.iload_n 1, 1) := by decide +kernel
theorem dX8_forkFact_23 : decode cX8_forkFact 23 = .ok (.iaload, 1) := by decide +kernel
theorem dX8_forkFact_24 : decode cX8_forkFact 24 = .ok (.goto 23, 3) := by decide +kernel
theorem dX8_forkFact_27 : decode cX8_forkFact 27 = .ok (.iload_n 2, 1) := by decide +kernel
theorem dX8_forkFact_28 : decode cX8_forkFact 28 = .ok (.iconst 2, 1) := by decide +kernel
theorem dX8_forkFact_29 : decode cX8_forkFact 29 = .ok (.if_icmp .ne 12, 3) := by decide +kernel
theorem dX8_forkFact_32 : decode cX8_forkFact 32 = .ok (.aload_n 0, 1) := by decide +kernel
theorem dX8_forkFact_33 : decode cX8_forkFact 33 = .ok (.getfield 64, 3) := by decide +kernel
theorem dX8_forkFact_36 : decode cX8_forkFact 36 = .ok (.iload_n 1, 1) := by decide +kernel
theorem dX8_forkFact_37 : decode cX8_forkFact 37 = .ok (.iaload, 1) := by decide +kernel
theorem dX8_forkFact_38 : decode cX8_forkFact 38 = .ok (.goto 9, 3) := by decide +kernel
theorem dX8_forkFact_41 : decode cX8_forkFact 41 = .ok (.aload_n 0, 1) := by decide +kernel
theorem dX8_forkFact_42 : decode cX8_forkFact 42 = .ok (.getfield 67, 3) := by decide +kernel
theorem dX8_forkFact_45 : decode cX8_forkFact 45 = .ok (.iload_n 1, 1) := by decide +kernel
theorem dX8_forkFact_46 : decode cX8_forkFact 46 = .ok (.iaload, 1) := by decide +kernel
theorem dX8_forkFact_47 : decode cX8_forkFact 47 = .ok (.ireturn, 1) := by decide +kernel
set_option maxRecDepth 20000 in
theorem ggX8_fork_X8_isPage : GoodIn wsX8_fork wsX8_isPage := goodIn_r _ [6, 7, 8, 9, 5, 10, 11, 12, 13, 14, 96, 97, 98, 99, 100, 101, 102, 103, 104, 105, 106, 107, 108, 109, 110, 111, 112, 113, 114, 115, 116, 117, 118, 119, 120, 121, 122, 123, 124, 125, 126, 127, 128, 129] rfl (by decide +kernel)
set_option maxRecDepth 20000 in
theorem gX8_fork_X8_isPage : GoodIn wsX8_fork (wsV RX8 239 RX8 yX8_isPage wsX8_isPage) := goodIn_app (goodIn_of _ (by decide +kernel)) ggX8_fork_X8_isPage
set_option maxRecDepth 20000 in
theorem ggX8_fork_X8_in : GoodIn wsX8_fork wsX8_in := goodIn_r _ [14] rfl (by decide +kernel)
set_option maxRecDepth 20000 in
theorem gX8_fork_X8_in : GoodIn wsX8_fork (va_wsS RX8 175 yX8_in wsX8_in) := goodIn_app (goodIn_of _ (by decide +kernel)) ggX8_fork_X8_in
set_option maxRecDepth 20000 in
theorem ggX8_fork_X8_refuses : GoodIn wsX8_fork wsX8_refuses := goodIn_r _ [18, 19, 96, 97, 98, 99, 100, 101, 102, 103, 104, 105, 106, 107, 108, 109, 110, 111, 112, 113, 114, 115, 116, 117, 118, 119, 120, 121, 122, 123, 124, 125, 126, 127, 128, 129] rfl (by decide +kernel)
set_option maxRecDepth 20000 in
theorem gX8_fork_X8_refuses : GoodIn wsX8_fork (wsV RX8 179 RX8 yX8_refuses wsX8_refuses) := goodIn_app (goodIn_of _ (by decide +kernel)) ggX8_fork_X8_refuses
set_option maxRecDepth 20000 in
theorem ggX8_fork_X8_levelOf : GoodIn wsX8_fork wsX8_levelOf := goodIn_r _ [23, 11, 24, 25, 26, 5, 27, 96, 97, 98, 99, 100, 101, 102, 103, 104, 105, 106, 107, 108, 109, 110, 111, 112, 113, 114, 115, 116, 117, 118, 119, 120, 121, 122, 123, 124, 125, 126, 127, 128, 129] rfl (by decide +kernel)
set_option maxRecDepth 20000 in
theorem gX8_fork_X8_levelOf : GoodIn wsX8_fork (wsV RX8 114 RX8 yX8_levelOf wsX8_levelOf) := goodIn_app (goodIn_of _ (by decide +kernel)) ggX8_fork_X8_levelOf
set_option maxRecDepth 20000 in
theorem ggX8_fork_X8_pageOf : GoodIn wsX8_fork wsX8_pageOf := goodIn_r _ [31, 20, 21, 22, 5, 23, 11, 24, 25, 26, 27, 32, 33, 34, 35, 96, 97, 98, 99, 100, 101, 102, 103, 104, 105, 106, 107, 108, 109, 110, 111, 112, 113, 114, 115, 116, 117, 118, 119, 120, 121, 122, 123, 124, 125, 126, 127, 128, 129] rfl (by decide +kernel)
set_option maxRecDepth 20000 in
theorem gX8_fork_X8_pageOf : GoodIn wsX8_fork (wsV RX8 242 RX8 yX8_pageOf wsX8_pageOf) := goodIn_app (goodIn_of _ (by decide +kernel)) ggX8_fork_X8_pageOf
set_option maxRecDepth 20000 in
theorem ggX8_fork_X8_laysTree : GoodIn wsX8_fork wsX8_laysTree := goodIn_r _ [39, 1, 40, 41, 42, 43, 44, 45, 46, 47, 48, 49, 50, 51, 52, 5, 53, 54, 55, 56, 57, 11, 58, 59, 60, 61, 62, 63, 64, 65, 66, 67, 68, 69, 70, 71, 72, 73, 74, 75, 76, 77, 78, 79, 80, 81, 82, 83, 84, 85, 86, 87, 88, 89, 90, 91, 96, 97, 98, 99, 100, 101, 102, 103, 104, 105, 106, 107, 108, 109, 110, 111, 112, 113, 114, 115, 116, 117, 118, 119, 120, 121, 122, 123, 124, 125, 126, 127, 128, 129] rfl (by decide +kernel)
set_option maxRecDepth 20000 in
theorem gX8_fork_X8_laysTree : GoodIn wsX8_fork (wsV RX8 264 RX8 yX8_laysTree wsX8_laysTree) := goodIn_app (goodIn_of _ (by decide +kernel)) ggX8_fork_X8_laysTree
set_option maxRecDepth 20000 in
theorem ggX8_fork_X8_forkFact : GoodIn wsX8_fork wsX8_forkFact := goodIn_r _ [95, 46, 47, 48, 49, 96, 97, 98, 99, 100, 101, 102, 103, 104, 105, 106, 107, 108, 109, 110, 111, 112, 113, 114, 115, 116, 117, 118, 119, 120, 121, 122, 123, 124, 125, 126, 127, 128, 129] rfl (by decide +kernel)
set_option maxRecDepth 20000 in
theorem gX8_fork_X8_forkFact : GoodIn wsX8_fork (wsV RX8 273 RX8 yX8_forkFact wsX8_forkFact) := goodIn_app (goodIn_of _ (by decide +kernel)) ggX8_fork_X8_forkFact
theorem dX8_fork_0 : decode cX8_fork 0 = .ok (.aload_n 0, 1) := by decide +kernel
theorem dX8_fork_1 : decode cX8_fork 1 = .ok (.iload_n 1, 1) := by decide +kernel
theorem dX8_fork_2 : decode cX8_fork 2 = .ok (.invokevirtual 239, 3) := by decide +kernel
theorem dX8_fork_5 : decode cX8_fork 5 = .ok (.ifCond .eq 16, 3) := by decide +kernel
theorem dX8_fork_8 : decode cX8_fork 8 = .ok (.iload_n 2, 1) := by decide +kernel
theorem dX8_fork_9 : decode cX8_fork 9 = .ok (.ifCond .lt 12, 3) := by decide +kernel
theorem dX8_fork_12 : decode cX8_fork 12 = .ok (.iload_n 3, 1) := by decide +kernel
theorem dX8_fork_13 : decode cX8_fork 13 = .ok (.iconst 0, 1) := by decide +kernel
theorem dX8_fork_14 : decode cX8_fork 14 = .ok (.iconst 3, 1) := by decide +kernel
theorem dX8_fork_15 : decode cX8_fork 15 = .ok (.invokestatic 175, 3) := by decide +kernel
theorem dX8_fork_18 : decode cX8_fork 18 = .ok (.ifCond .ne 10, 3) := by decide +kernel
theorem dX8_fork_21 : decode cX8_fork 21 = .ok (.aload_n 0, 1) := by decide +kernel
theorem dX8_fork_22 : decode cX8_fork 22 = .ok (.bipush (-2), 2) := by decide +kernel
theorem dX8_fork_24 : decode cX8_fork 24 = .ok (.invokevirtual 179, 3) := by decide +kernel
theorem dX8_fork_27 : decode cX8_fork 27 = .ok (.ireturn, 1) := by decide +kernel
theorem dX8_fork_28 : decode cX8_fork 28 = .ok (.aload_n 0, 1) := by decide +kernel
theorem dX8_fork_29 : decode cX8_fork 29 = .ok (.aload_n 0, 1) := by decide +kernel
theorem dX8_fork_30 : decode cX8_fork 30 = .ok (.iload_n 1, 1) := by decide +kernel
theorem dX8_fork_31 : decode cX8_fork 31 = .ok (.invokevirtual 114, 3) := by decide +kernel
theorem dX8_fork_34 : decode cX8_fork 34 = .ok (.aload_n 0, 1) := by decide +kernel
theorem dX8_fork_35 : decode cX8_fork 35 = .ok (.iload_n 1, 1) := by decide +kernel
theorem dX8_fork_36 : decode cX8_fork 36 = .ok (.invokevirtual 242, 3) := by decide +kernel
theorem dX8_fork_39 : decode cX8_fork 39 = .ok (.invokevirtual 264, 3) := by decide +kernel
theorem dX8_fork_42 : decode cX8_fork 42 = .ok (.iload_n 2, 1) := by decide +kernel
theorem dX8_fork_43 : decode cX8_fork 43 = .ok (.aload_n 0, 1) := by decide +kernel
theorem dX8_fork_44 : decode cX8_fork 44 = .ok (.getfield 251, 3) := by decide +kernel
theorem dX8_fork_47 : decode cX8_fork 47 = .ok (.if_icmp .ge 12, 3) := by decide +kernel
theorem dX8_fork_50 : decode cX8_fork 50 = .ok (.aload_n 0, 1) := by decide +kernel
theorem dX8_fork_51 : decode cX8_fork 51 = .ok (.iload_n 2, 1) := by decide +kernel
theorem dX8_fork_52 : decode cX8_fork 52 = .ok (.iload_n 3, 1) := by decide +kernel
theorem dX8_fork_53 : decode cX8_fork 53 = .ok (.invokevirtual 273, 3) := by decide +kernel
theorem dX8_fork_56 : decode cX8_fork 56 = .ok (.goto 9, 3) := by decide +kernel
theorem dX8_fork_59 : decode cX8_fork 59 = .ok (.aload_n 0, 1) := by decide +kernel
theorem dX8_fork_60 : decode cX8_fork 60 = .ok (.bipush (-2), 2) := by decide +kernel
theorem dX8_fork_62 : decode cX8_fork 62 = .ok (.invokevirtual 179, 3) := by decide +kernel
theorem dX8_fork_65 : decode cX8_fork 65 = .ok (.ireturn, 1) := by decide +kernel
set_option maxRecDepth 20000 in
theorem ggX8_costs_X8_lengthOf : GoodIn wsX8_costs wsX8_lengthOf := goodIn_r _ [8, 2, 1, 73, 74, 75, 76, 77, 78, 79, 80, 81, 82, 83, 84, 85, 86, 87, 88, 89, 90, 91, 92, 93, 94, 95, 96, 97, 98, 99, 100, 101, 102, 103, 104, 105, 106] rfl (by decide +kernel)
