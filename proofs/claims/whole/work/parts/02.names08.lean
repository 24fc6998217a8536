theorem dX8_isSign_0 : decode cX8_isSign 0 = .ok (.iload_n 0, 1) := by decide +kernel
theorem dX8_isSign_1 : decode cX8_isSign 1 = .ok (.bipush 97, 2) := by decide +kernel
theorem dX8_isSign_3 : decode cX8_isSign 3 = .ok (.bipush 122, 2) := by decide +kernel
theorem dX8_isSign_5 : decode cX8_isSign 5 = .ok (.invokestatic 175, 3) := by decide +kernel
theorem dX8_isSign_8 : decode cX8_isSign 8 = .ok (.ifCond .ne 25, 3) := by decide +kernel
theorem dX8_isSign_11 : decode cX8_isSign 11 = .ok (.iload_n 0, 1) := by decide +kernel
theorem dX8_isSign_12 : decode cX8_isSign 12 = .ok (.bipush 65, 2) := by decide +kernel
theorem dX8_isSign_14 : decode cX8_isSign 14 = .ok (.bipush 90, 2) := by decide +kernel
theorem dX8_isSign_16 : decode cX8_isSign 16 = .ok (.invokestatic 175, 3) := by decide +kernel
theorem dX8_isSign_19 : decode cX8_isSign 19 = .ok (.ifCond .ne 14, 3) := by decide +kernel
theorem dX8_isSign_22 : decode cX8_isSign 22 = .ok (.iload_n 0, 1) := by decide +kernel
theorem dX8_isSign_23 : decode cX8_isSign 23 = .ok (.bipush 48, 2) := by decide +kernel
theorem dX8_isSign_25 : decode cX8_isSign 25 = .ok (.bipush 57, 2) := by decide +kernel
theorem dX8_isSign_27 : decode cX8_isSign 27 = .ok (.invokestatic 175, 3) := by decide +kernel
theorem dX8_isSign_30 : decode cX8_isSign 30 = .ok (.ifCond .eq 7, 3) := by decide +kernel
theorem dX8_isSign_33 : decode cX8_isSign 33 = .ok (.iconst 1, 1) := by decide +kernel
theorem dX8_isSign_34 : decode cX8_isSign 34 = .ok (.goto 4, 3) := by decide +kernel
theorem dX8_isSign_37 : decode cX8_isSign 37 = .ok (.iconst 0, 1) := by decide +kernel
theorem dX8_isSign_38 : decode cX8_isSign 38 = .ok (.ireturn, 1) := by decide +kernel
set_option maxRecDepth 20000 in
theorem ggX8_isWord_X8_in : GoodIn wsX8_isWord wsX8_in := goodIn_r _ [8] rfl (by decide +kernel)
set_option maxRecDepth 20000 in
theorem gX8_isWord_X8_in : GoodIn wsX8_isWord (va_wsS RX8 175 yX8_in wsX8_in) := goodIn_app (goodIn_of _ (by decide +kernel)) ggX8_isWord_X8_in
set_option maxRecDepth 20000 in
theorem ggX8_isWord_X8_isSign : GoodIn wsX8_isWord wsX8_isSign := goodIn_r _ [11, 5, 6, 7, 8] rfl (by decide +kernel)
set_option maxRecDepth 20000 in
theorem gX8_isWord_X8_isSign : GoodIn wsX8_isWord (va_wsS RX8 185 yX8_isSign wsX8_isSign) := goodIn_app (goodIn_of _ (by decide +kernel)) ggX8_isWord_X8_isSign
theorem dX8_isWord_0 : decode cX8_isWord 0 = .ok (.aload_n 0, 1) := by decide +kernel
theorem dX8_isWord_1 : decode cX8_isWord 1 = .ok (.getfield 182, 3) := by decide +kernel
theorem dX8_isWord_4 : decode cX8_isWord 4 = .ok (.iconst 1, 1) := by decide +kernel
theorem dX8_isWord_5 : decode cX8_isWord 5 = .ok (.bipush 24, 2) := by decide +kernel
theorem dX8_isWord_7 : decode cX8_isWord 7 = .ok (.invokestatic 175, 3) := by decide +kernel
theorem dX8_isWord_10 : decode cX8_isWord 10 = .ok (.istore_n 1, 1) := by decide +kernel
theorem dX8_isWord_11 : decode cX8_isWord 11 = .ok (.iconst 0, 1) := by decide +kernel
theorem dX8_isWord_12 : decode cX8_isWord 12 = .ok (.istore_n 2, 1) := by decide +kernel
theorem dX8_isWord_13 : decode cX8_isWord 13 = .ok (.iload_n 2, 1) := by decide +kernel
theorem dX8_isWord_14 : decode cX8_isWord 14 = .ok (.aload_n 0, 1) := by decide +kernel
theorem dX8_isWord_15 : decode cX8_isWord 15 = .ok (.getfield 182, 3) := by decide +kernel
theorem dX8_isWord_18 : decode cX8_isWord 18 = .ok (.if_icmp .ge 35, 3) := by decide +kernel
theorem dX8_isWord_21 : decode cX8_isWord 21 = .ok (.iload_n 1, 1) := by decide +kernel
theorem dX8_isWord_22 : decode cX8_isWord 22 = .ok (.ifCond .eq 31, 3) := by decide +kernel
theorem dX8_isWord_25 : decode cX8_isWord 25 = .ok (.aload_n 0, 1) := by decide +kernel
theorem dX8_isWord_26 : decode cX8_isWord 26 = .ok (.getfield 22, 3) := by decide +kernel
theorem dX8_isWord_29 : decode cX8_isWord 29 = .ok (.iload_n 2, 1) := by decide +kernel
theorem dX8_isWord_30 : decode cX8_isWord 30 = .ok (.iaload, 1) := by decide +kernel
theorem dX8_isWord_31 : decode cX8_isWord 31 = .ok (.invokestatic 185, 3) := by decide +kernel
theorem dX8_isWord_34 : decode cX8_isWord 34 = .ok (.istore_n 1, 1) := by decide +kernel
theorem dX8_isWord_35 : decode cX8_isWord 35 = .ok (.aload_n 0, 1) := by decide +kernel
theorem dX8_isWord_36 : decode cX8_isWord 36 = .ok (.getfield 25, 3) := by decide +kernel
theorem dX8_isWord_39 : decode cX8_isWord 39 = .ok (.iload_n 2, 1) := by decide +kernel
theorem dX8_isWord_40 : decode cX8_isWord 40 = .ok (.aload_n 0, 1) := by decide +kernel
theorem dX8_isWord_41 : decode cX8_isWord 41 = .ok (.getfield 22, 3) := by decide +kernel
theorem dX8_isWord_44 : decode cX8_isWord 44 = .ok (.iload_n 2, 1) := by decide +kernel
theorem dX8_isWord_45 : decode cX8_isWord 45 = .ok (.iaload, 1) := by decide +kernel
theorem dX8_isWord_46 : decode cX8_isWord 46 = .ok (.iastore, 1) := by decide +kernel
theorem dX8_isWord_47 : decode cX8_isWord 47 = .ok (.iinc 2 1, 3) := by decide +kernel
theorem dX8_isWord_50 : decode cX8_isWord 50 = .ok (.goto (-37), 3) := by decide +kernel
theorem dX8_isWord_53 : decode cX8_isWord 53 = .ok (.aload_n 0, 1) := by decide +kernel
theorem dX8_isWord_54 : decode cX8_isWord 54 = .ok (.iload_n 1, 1) := by decide +kernel
theorem dX8_isWord_55 : decode cX8_isWord 55 = .ok (.ifCond .eq 10, 3) := by decide +kernel
theorem dX8_isWord_58 : decode cX8_isWord 58 = .ok (.aload_n 0, 1) := by decide +kernel
theorem dX8_isWord_59 : decode cX8_isWord 59 = .ok (.getfield 182, 3) := by decide +kernel
theorem dX8_isWord_62 : decode cX8_isWord 62 = .ok (.goto 7, 3) := by decide +kernel
theorem dX8_isWord_65 : decode cX8_isWord 65 = .ok (.aload_n 0, 1) := by decide +kernel
theorem dX8_isWord_66 : decode cX8_isWord 66 = .ok (.getfield 83, 3) := by decide +kernel
theorem dX8_isWord_69 : decode cX8_isWord 69 = .ok (.putfield 83, 3) := by decide +kernel
theorem dX8_isWord_72 : decode cX8_isWord 72 = .ok (.iload_n 1, 1) := by decide +kernel
theorem dX8_isWord_73 : decode cX8_isWord 73 = .ok (.ireturn, 1) := by decide +kernel
set_option maxRecDepth 20000 in
theorem ggX8_add_X8_isWord : GoodIn wsX8_add wsX8_isWord := goodIn_r _ [6, 7, 8, 9, 10, 11, 12, 5, 13, 14, 15, 16, 133, 134, 135, 136, 137, 138, 139, 140, 141, 142, 143, 144, 145, 146, 147, 148, 149, 150, 151, 152, 153, 154, 155, 156, 157, 158, 159, 160, 161, 162, 163, 164, 165, 166] rfl (by decide +kernel)
set_option maxRecDepth 20000 in
theorem gX8_add_X8_isWord : GoodIn wsX8_add (wsV RX8 189 RX8 yX8_isWord wsX8_isWord) := goodIn_app (goodIn_of _ (by decide +kernel)) ggX8_add_X8_isWord
set_option maxRecDepth 20000 in
theorem ggX8_add_X8_isThere : GoodIn wsX8_add wsX8_isThere := goodIn_r _ [20, 1, 21, 22, 23, 5, 24, 25, 26, 27, 28, 29, 30, 31, 32, 10, 33, 34, 35, 36, 9, 133, 134, 135, 136, 137, 138, 139, 140, 141, 142, 143, 144, 145, 146, 147, 148, 149, 150, 151, 152, 153, 154, 155, 156, 157, 158, 159, 160, 161, 162, 163, 164, 165, 166] rfl (by decide +kernel)
set_option maxRecDepth 20000 in
theorem gX8_add_X8_isThere : GoodIn wsX8_add (wsV RX8 193 RX8 yX8_isThere wsX8_isThere) := goodIn_app (goodIn_of _ (by decide +kernel)) ggX8_add_X8_isThere
set_option maxRecDepth 20000 in
theorem ggX8_add_X8_refuses : GoodIn wsX8_add wsX8_refuses := goodIn_r _ [40, 41, 133, 134, 135, 136, 137, 138, 139, 140, 141, 142, 143, 144, 145, 146, 147, 148, 149, 150, 151, 152, 153, 154, 155, 156, 157, 158, 159, 160, 161, 162, 163, 164, 165, 166] rfl (by decide +kernel)
set_option maxRecDepth 20000 in
theorem gX8_add_X8_refuses : GoodIn wsX8_add (wsV RX8 179 RX8 yX8_refuses wsX8_refuses) := goodIn_app (goodIn_of _ (by decide +kernel)) ggX8_add_X8_refuses
set_option maxRecDepth 20000 in
theorem ggX8_add_X8_ahead : GoodIn wsX8_add wsX8_ahead := goodIn_r _ [45, 1, 46, 47, 48, 5, 49, 21, 22, 23, 24, 25, 26, 27, 28, 29, 30, 31, 32, 10, 33, 34, 35, 36, 9, 133, 134, 135, 136, 137, 138, 139, 140, 141, 142, 143, 144, 145, 146, 147, 148, 149, 150, 151, 152, 153, 154, 155, 156, 157, 158, 159, 160, 161, 162, 163, 164, 165, 166] rfl (by decide +kernel)
set_option maxRecDepth 20000 in
theorem gX8_add_X8_ahead : GoodIn wsX8_add (wsV RX8 196 RX8 yX8_ahead wsX8_ahead) := goodIn_app (goodIn_of _ (by decide +kernel)) ggX8_add_X8_ahead
set_option maxRecDepth 20000 in
theorem ggX8_add_X8_aside : GoodIn wsX8_add wsX8_aside := goodIn_r _ [53, 54, 1, 133, 134, 135, 136, 137, 138, 139, 140, 141, 142, 143, 144, 145, 146, 147, 148, 149, 150, 151, 152, 153, 154, 155, 156, 157, 158, 159, 160, 161, 162, 163, 164, 165, 166] rfl (by decide +kernel)
set_option maxRecDepth 20000 in
theorem gX8_add_X8_aside : GoodIn wsX8_add (wsV RX8 199 RX8 yX8_aside wsX8_aside) := goodIn_app (goodIn_of _ (by decide +kernel)) ggX8_add_X8_aside
set_option maxRecDepth 20000 in
theorem ggX8_add_X8_adds : GoodIn wsX8_add wsX8_adds := goodIn_r _ [58, 1, 59, 60, 61, 62, 63, 5, 64, 10, 9, 65, 66, 67, 68, 69, 70, 71, 72, 73, 74, 75, 76, 77, 78, 79, 80, 81, 82, 83, 84, 85, 86, 87, 88, 89, 90, 91, 92, 93, 94, 95, 96, 97, 98, 99, 100, 101, 102, 103, 104, 105, 106, 107, 108, 109, 110, 111, 112, 113, 114, 21, 22, 23, 24, 25, 26, 27, 28, 29, 30, 31, 32, 33, 34, 35, 36, 115, 116, 117, 118, 119, 120, 121, 122, 123, 124, 125, 126, 133, 134, 135, 136, 137, 138, 139, 140, 141, 142, 143, 144, 145, 146, 147, 148, 149, 150, 151, 152, 153, 154, 155, 156, 157, 158, 159, 160, 161, 162, 163, 164, 165, 166] rfl (by decide +kernel)
set_option maxRecDepth 20000 in
theorem gX8_add_X8_adds : GoodIn wsX8_add (wsV RX8 202 RX8 yX8_adds wsX8_adds) := goodIn_app (goodIn_of _ (by decide +kernel)) ggX8_add_X8_adds
set_option maxRecDepth 20000 in
theorem ggX8_add_X8_keeps : GoodIn wsX8_add wsX8_keeps := goodIn_r _ [130, 131, 132, 54, 133, 134, 135, 136, 137, 138, 139, 140, 141, 142, 143, 144, 145, 146, 147, 148, 149, 150, 151, 152, 153, 154, 155, 156, 157, 158, 159, 160, 161, 162, 163, 164, 165, 166] rfl (by decide +kernel)
set_option maxRecDepth 20000 in
theorem gX8_add_X8_keeps : GoodIn wsX8_add (wsV RX8 205 RX8 yX8_keeps wsX8_keeps) := goodIn_app (goodIn_of _ (by decide +kernel)) ggX8_add_X8_keeps
theorem dX8_add_0 : decode cX8_add 0 = .ok (.aload_n 0, 1) := by decide +kernel
theorem dX8_add_1 : decode cX8_add 1 = .ok (.invokevirtual 189, 3) := by decide +kernel
theorem dX8_add_4 : decode cX8_add 4 = .ok (.ifCond .eq 10, 3) := by decide +kernel
theorem dX8_add_7 : decode cX8_add 7 = .ok (.aload_n 0, 1) := by decide +kernel
theorem dX8_add_8 : decode cX8_add 8 = .ok (.invokevirtual 193, 3) := by decide +kernel
theorem dX8_add_11 : decode cX8_add 11 = .ok (.ifCond .eq 10, 3) := by decide +kernel
theorem dX8_add_14 : decode cX8_add 14 = .ok (.aload_n 0, 1) := by decide +kernel
theorem dX8_add_15 : decode cX8_add 15 = .ok (.bipush (-3), 2) := by decide +kernel
theorem dX8_add_17 : decode cX8_add 17 = .ok (.invokevirtual 179, 3) := by decide +kernel
theorem dX8_add_20 : decode cX8_add 20 = .ok (.ireturn, 1) := by decide +kernel
theorem dX8_add_21 : decode cX8_add 21 = .ok (.aload_n 0, 1) := by decide +kernel
theorem dX8_add_22 : decode cX8_add 22 = .ok (.getfield 7, 3) := by decide +kernel
theorem dX8_add_25 : decode cX8_add 25 = .ok (.iconst 0, 1) := by decide +kernel
theorem dX8_add_26 : decode cX8_add 26 = .ok (.iaload, 1) := by decide +kernel
theorem dX8_add_27 : decode cX8_add 27 = .ok (.bipush 48, 2) := by decide +kernel
theorem dX8_add_29 : decode cX8_add 29 = .ok (.if_icmp .ne 10, 3) := by decide +kernel
theorem dX8_add_32 : decode cX8_add 32 = .ok (.aload_n 0, 1) := by decide +kernel
theorem dX8_add_33 : decode cX8_add 33 = .ok (.bipush (-4), 2) := by decide +kernel
theorem dX8_add_35 : decode cX8_add 35 = .ok (.invokevirtual 179, 3) := by decide +kernel
theorem dX8_add_38 : decode cX8_add 38 = .ok (.ireturn, 1) := by decide +kernel
theorem dX8_add_39 : decode cX8_add 39 = .ok (.aload_n 0, 1) := by decide +kernel
theorem dX8_add_40 : decode cX8_add 40 = .ok (.invokevirtual 196, 3) := by decide +kernel
theorem dX8_add_43 : decode cX8_add 43 = .ok (.istore_n 1, 1) := by decide +kernel
theorem dX8_add_44 : decode cX8_add 44 = .ok (.aload_n 0, 1) := by decide +kernel
theorem dX8_add_45 : decode cX8_add 45 = .ok (.invokevirtual 199, 3) := by decide +kernel
theorem dX8_add_48 : decode cX8_add 48 = .ok (.aload_n 0, 1) := by decide +kernel
theorem dX8_add_49 : decode cX8_add 49 = .ok (.invokevirtual 202, 3) := by decide +kernel
theorem dX8_add_52 : decode cX8_add 52 = .ok (.aload_n 0, 1) := by decide +kernel
theorem dX8_add_53 : decode cX8_add 53 = .ok (.invokevirtual 205, 3) := by decide +kernel
theorem dX8_add_56 : decode cX8_add 56 = .ok (.iload_n 1, 1) := by decide +kernel
theorem dX8_add_57 : decode cX8_add 57 = .ok (.ireturn, 1) := by decide +kernel
set_option maxRecDepth 20000 in
theorem ggX8_takeOut_X8_isWord : GoodIn wsX8_takeOut wsX8_isWord := goodIn_r _ [6, 7, 8, 9, 10, 11, 12, 5, 13, 14, 15, 16, 117, 118, 119, 120, 121, 122, 123, 124, 125, 126, 127, 128, 129, 130, 131, 132, 133, 134, 135, 136, 137, 138, 139, 140, 141, 142, 143, 144, 145, 146, 147, 148, 149, 150] rfl (by decide +kernel)
set_option maxRecDepth 20000 in
theorem gX8_takeOut_X8_isWord : GoodIn wsX8_takeOut (wsV RX8 189 RX8 yX8_isWord wsX8_isWord) := goodIn_app (goodIn_of _ (by decide +kernel)) ggX8_takeOut_X8_isWord
set_option maxRecDepth 20000 in
theorem ggX8_takeOut_X8_isThere : GoodIn wsX8_takeOut wsX8_isThere := goodIn_r _ [20, 1, 21, 22, 23, 5, 24, 25, 26, 27, 28, 29, 30, 31, 32, 10, 33, 34, 35, 36, 9, 117, 118, 119, 120, 121, 122, 123, 124, 125, 126, 127, 128, 129, 130, 131, 132, 133, 134, 135, 136, 137, 138, 139, 140, 141, 142, 143, 144, 145, 146, 147, 148, 149, 150] rfl (by decide +kernel)
set_option maxRecDepth 20000 in
theorem gX8_takeOut_X8_isThere : GoodIn wsX8_takeOut (wsV RX8 193 RX8 yX8_isThere wsX8_isThere) := goodIn_app (goodIn_of _ (by decide +kernel)) ggX8_takeOut_X8_isThere
set_option maxRecDepth 20000 in
theorem ggX8_takeOut_X8_refuses : GoodIn wsX8_takeOut wsX8_refuses := goodIn_r _ [40, 41, 117, 118, 119, 120, 121, 122, 123, 124, 125, 126, 127, 128, 129, 130, 131, 132, 133, 134, 135, 136, 137, 138, 139, 140, 141, 142, 143, 144, 145, 146, 147, 148, 149, 150] rfl (by decide +kernel)
set_option maxRecDepth 20000 in
theorem gX8_takeOut_X8_refuses : GoodIn wsX8_takeOut (wsV RX8 179 RX8 yX8_refuses wsX8_refuses) := goodIn_app (goodIn_of _ (by decide +kernel)) ggX8_takeOut_X8_refuses
set_option maxRecDepth 20000 in
theorem ggX8_takeOut_X8_aside : GoodIn wsX8_takeOut wsX8_aside := goodIn_r _ [45, 46, 1, 117, 118, 119, 120, 121, 122, 123, 124, 125, 126, 127, 128, 129, 130, 131, 132, 133, 134, 135, 136, 137, 138, 139, 140, 141, 142, 143, 144, 145, 146, 147, 148, 149, 150] rfl (by decide +kernel)
set_option maxRecDepth 20000 in
theorem gX8_takeOut_X8_aside : GoodIn wsX8_takeOut (wsV RX8 199 RX8 yX8_aside wsX8_aside) := goodIn_app (goodIn_of _ (by decide +kernel)) ggX8_takeOut_X8_aside
set_option maxRecDepth 20000 in
theorem ggX8_takeOut_X8_takes : GoodIn wsX8_takeOut wsX8_takes := goodIn_r _ [50, 51, 52, 1, 53, 54, 55, 5, 56, 57, 58, 59, 60, 61, 62, 63, 64, 65, 10, 66, 67, 68, 69, 70, 71, 72, 73, 74, 75, 76, 77, 78, 79, 80, 81, 82, 83, 84, 85, 86, 87, 88, 89, 90, 91, 92, 93, 94, 21, 22, 23, 24, 25, 26, 27, 28, 29, 30, 31, 32, 33, 34, 35, 36, 9, 95, 96, 97, 98, 99, 100, 101, 102, 103, 104, 105, 106, 107, 108, 109, 110, 117, 118, 119, 120, 121, 122, 123, 124, 125, 126, 127, 128, 129, 130, 131, 132, 133, 134, 135, 136, 137, 138, 139, 140, 141, 142, 143, 144, 145, 146, 147, 148, 149, 150] rfl (by decide +kernel)
set_option maxRecDepth 20000 in
theorem gX8_takeOut_X8_takes : GoodIn wsX8_takeOut (wsV RX8 208 RX8 yX8_takes wsX8_takes) := goodIn_app (goodIn_of _ (by decide +kernel)) ggX8_takeOut_X8_takes
set_option maxRecDepth 20000 in
theorem ggX8_takeOut_X8_keeps : GoodIn wsX8_takeOut wsX8_keeps := goodIn_r _ [114, 115, 116, 46, 117, 118, 119, 120, 121, 122, 123, 124, 125, 126, 127, 128, 129, 130, 131, 132, 133, 134, 135, 136, 137, 138, 139, 140, 141, 142, 143, 144, 145, 146, 147, 148, 149, 150] rfl (by decide +kernel)
set_option maxRecDepth 20000 in
theorem gX8_takeOut_X8_keeps : GoodIn wsX8_takeOut (wsV RX8 205 RX8 yX8_keeps wsX8_keeps) := goodIn_app (goodIn_of _ (by decide +kernel)) ggX8_takeOut_X8_keeps
theorem dX8_takeOut_0 : decode cX8_takeOut 0 = .ok (.aload_n 0, 1) := by decide +kernel
theorem dX8_takeOut_1 : decode cX8_takeOut 1 = .ok (.invokevirtual 189, 3) := by decide +kernel
theorem dX8_takeOut_4 : decode cX8_takeOut 4 = .ok (.ifCond .eq 10, 3) := by decide +kernel
theorem dX8_takeOut_7 : decode cX8_takeOut 7 = .ok (.aload_n 0, 1) := by decide +kernel
theorem dX8_takeOut_8 : decode cX8_takeOut 8 = .ok (.invokevirtual 193, 3) := by decide +kernel
theorem dX8_takeOut_11 : decode cX8_takeOut 11 = .ok (.ifCond .ne 10, 3) := by decide +kernel
theorem dX8_takeOut_14 : decode cX8_takeOut 14 = .ok (.aload_n 0, 1) := by decide +kernel
theorem dX8_takeOut_15 : decode cX8_takeOut 15 = .ok (.bipush (-3), 2) := by decide +kernel
theorem dX8_takeOut_17 : decode cX8_takeOut 17 = .ok (.invokevirtual 179, 3) := by decide +kernel
theorem dX8_takeOut_20 : decode cX8_takeOut 20 = .ok (.ireturn, 1) := by decide +kernel
theorem dX8_takeOut_21 : decode cX8_takeOut 21 = .ok (.aload_n 0, 1) := by decide +kernel
theorem dX8_takeOut_22 : decode cX8_takeOut 22 = .ok (.invokevirtual 199, 3) := by decide +kernel
theorem dX8_takeOut_25 : decode cX8_takeOut 25 = .ok (.aload_n 0, 1) := by decide +kernel
theorem dX8_takeOut_26 : decode cX8_takeOut 26 = .ok (.invokevirtual 208, 3) := by decide +kernel
theorem dX8_takeOut_29 : decode cX8_takeOut 29 = .ok (.aload_n 0, 1) := by decide +kernel
theorem dX8_takeOut_30 : decode cX8_takeOut 30 = .ok (.invokevirtual 205, 3) := by decide +kernel
theorem dX8_takeOut_33 : decode cX8_takeOut 33 = .ok (.aload_n 0, 1) := by decide +kernel
theorem dX8_takeOut_34 : decode cX8_takeOut 34 = .ok (.getfield 7, 3) := by decide +kernel
theorem dX8_takeOut_37 : decode cX8_takeOut 37 = .ok (.iconst 0, 1) := by decide +kernel
theorem dX8_takeOut_38 : decode cX8_takeOut 38 = .ok (.iaload, 1) := by decide +kernel
theorem dX8_takeOut_39 : decode cX8_takeOut 39 = .ok (.ireturn, 1) := by decide +kernel
set_option maxRecDepth 20000 in
theorem ggX8_faultOf_X8_isSign : GoodIn wsX8_faultOf wsX8_isSign := goodIn_r _ [6, 7, 8, 5, 9] rfl (by decide +kernel)
set_option maxRecDepth 20000 in
theorem gX8_faultOf_X8_isSign : GoodIn wsX8_faultOf (va_wsS RX8 185 yX8_isSign wsX8_isSign) := goodIn_app (goodIn_of _ (by decide +kernel)) ggX8_faultOf_X8_isSign
theorem dX8_faultOf_0 : decode cX8_faultOf 0 = .ok (.iconst 0, 1) := by decide +kernel
theorem dX8_faultOf_1 : decode cX8_faultOf 1 = .ok (.istore_n 1, 1) := by decide +kernel
theorem dX8_faultOf_2 : decode cX8_faultOf 2 = .ok (.iload_n 1, 1) := by decide +kernel
theorem dX8_faultOf_3 : decode cX8_faultOf 3 = .ok (.aload_n 0, 1) := by decide +kernel
theorem dX8_faultOf_4 : decode cX8_faultOf 4 = .ok (.getfield 182, 3) := by decide +kernel
theorem dX8_faultOf_7 : decode cX8_faultOf 7 = .ok (.if_icmp .lt 7, 3) := by decide +kernel
theorem dX8_faultOf_10 : decode cX8_faultOf 10 = .ok (.iload_n 1, 1) := by decide +kernel
theorem dX8_faultOf_11 : decode cX8_faultOf 11 = .ok (.ifCond .ne 108, 3) := by decide +kernel
theorem dX8_faultOf_14 : decode cX8_faultOf 14 = .ok (.iload_n 1, 1) := by decide +kernel
theorem dX8_faultOf_15 : decode cX8_faultOf 15 = .ok (.aload_n 0, 1) := by decide +kernel
theorem dX8_faultOf_16 : decode cX8_faultOf 16 = .ok (.getfield 182, 3) := by decide +kernel
theorem dX8_faultOf_19 : decode cX8_faultOf 19 = .ok (.if_icmp .eq 25, 3) := by decide +kernel
theorem dX8_faultOf_22 : decode cX8_faultOf 22 = .ok (.aload_n 0, 1) := by decide +kernel
theorem dX8_faultOf_23 : decode cX8_faultOf 23 = .ok (.getfield 22, 3) := by decide +kernel
theorem dX8_faultOf_26 : decode cX8_faultOf 26 = .ok (.iload_n 1, 1) := by decide +kernel
theorem dX8_faultOf_27 : decode cX8_faultOf 27 = .ok (.iaload, 1) := by decide +kernel
theorem dX8_faultOf_28 : decode cX8_faultOf 28 = .ok (.bipush 43, 2) := by decide +kernel
theorem dX8_faultOf_30 : decode cX8_faultOf 30 = .ok (.if_icmp .eq 16, 3) := by decide +kernel
theorem dX8_faultOf_33 : decode cX8_faultOf 33 = .ok (.aload_n 0, 1) := by decide +kernel
theorem dX8_faultOf_34 : decode cX8_faultOf 34 = .ok (.getfield 22, 3) := by decide +kernel
theorem dX8_faultOf_37 : decode cX8_faultOf 37 = .ok (.iload_n 1, 1) := by decide +kernel
theorem dX8_faultOf_38 : decode cX8_faultOf 38 = .ok (.iaload, 1) := by decide +kernel
theorem dX8_faultOf_39 : decode cX8_faultOf 39 = .ok (.bipush 45, 2) := by decide +kernel
theorem dX8_faultOf_41 : decode cX8_faultOf 41 = .ok (.if_icmp .eq 5, 3) := by decide +kernel
theorem dX8_faultOf_44 : decode cX8_faultOf 44 = .ok (.iload_n 1, 1) := by decide +kernel
theorem dX8_faultOf_45 : decode cX8_faultOf 45 = .ok (.ireturn, 1) := by decide +kernel
theorem dX8_faultOf_46 : decode cX8_faultOf 46 = .ok (.iload_n 1, 1) := by decide +kernel
theorem dX8_faultOf_47 : decode cX8_faultOf 47 = .ok (.iconst 1, 1) := by decide +kernel
theorem dX8_faultOf_48 : decode cX8_faultOf 48 = .ok (.iadd, 1) := by decide +kernel
theorem dX8_faultOf_49 : decode cX8_faultOf 49 = .ok (.istore_n 2, 1) := by decide +kernel
theorem dX8_faultOf_50 : decode cX8_faultOf 50 = .ok (.iload_n 2, 1) := by decide +kernel
theorem dX8_faultOf_51 : decode cX8_faultOf 51 = .ok (.istore_n 3, 1) := by decide +kernel
theorem dX8_faultOf_52 : decode cX8_faultOf 52 = .ok (.iload_n 3, 1) := by decide +kernel
theorem dX8_faultOf_53 : decode cX8_faultOf 53 = .ok (.aload_n 0, 1) := by decide +kernel
theorem dX8_faultOf_54 : decode cX8_faultOf 54 = .ok (.getfield 182, 3) := by decide +kernel
theorem dX8_faultOf_57 : decode cX8_faultOf 57 = .ok (.if_icmp .ge 29, 3) := by decide +kernel
theorem dX8_faultOf_60 : decode cX8_faultOf 60 = .ok (.iload_n 3, 1) := by decide +kernel
theorem dX8_faultOf_61 : decode cX8_faultOf 61 = .ok (.iload_n 2, 1) := by decide +kernel
theorem dX8_faultOf_62 : decode cX8_faultOf 62 = .ok (.isub, 1) := by decide +kernel
theorem dX8_faultOf_63 : decode cX8_faultOf 63 = .ok (.bipush 24, 2) := by decide +kernel
theorem dX8_faultOf_65 : decode cX8_faultOf 65 = .ok (.if_icmp .ge 21, 3) := by decide +kernel
theorem dX8_faultOf_68 : decode cX8_faultOf 68 = .ok (.aload_n 0, 1) := by decide +kernel
theorem dX8_faultOf_69 : decode cX8_faultOf 69 = .ok (.getfield 22, 3) := by decide +kernel
theorem dX8_faultOf_72 : decode cX8_faultOf 72 = .ok (.iload_n 3, 1) := by decide +kernel
theorem dX8_faultOf_73 : decode cX8_faultOf 73 = .ok (.iaload, 1) := by decide +kernel
theorem dX8_faultOf_74 : decode cX8_faultOf 74 = .ok (.invokestatic 185, 3) := by decide +kernel
theorem dX8_faultOf_77 : decode cX8_faultOf 77 = .ok (.ifCond .eq 9, 3) := by decide +kernel
theorem dX8_faultOf_80 : decode cX8_faultOf 80 = .ok (.iinc 3 1, 3) := by decide +kernel
theorem dX8_faultOf_83 : decode cX8_faultOf 83 = .ok (.goto (-31), 3) := by decide +kernel
theorem dX8_faultOf_86 : decode cX8_faultOf 86 = .ok (.iload_n 3, 1) := by decide +kernel
theorem dX8_faultOf_87 : decode cX8_faultOf 87 = .ok (.iload_n 2, 1) := by decide +kernel
theorem dX8_faultOf_88 : decode cX8_faultOf 88 = .ok (.if_icmp .eq 22, 3) := by decide +kernel
theorem dX8_faultOf_91 : decode cX8_faultOf 91 = .ok (.iload_n 3, 1) := by decide +kernel
theorem dX8_faultOf_92 : decode cX8_faultOf 92 = .ok (.aload_n 0, 1) := by decide +kernel
theorem dX8_faultOf_93 : decode cX8_faultOf 93 = .ok (.getfield 182, 3) := by decide +kernel
theorem dX8_faultOf_96 : decode cX8_faultOf 96 = .ok (.if_icmp .eq 14, 3) := by decide +kernel
theorem dX8_faultOf_99 : decode cX8_faultOf 99 = .ok (.aload_n 0, 1) := by decide +kernel
theorem dX8_faultOf_100 : decode cX8_faultOf 100 = .ok (.getfield 22, 3) := by decide +kernel
theorem dX8_faultOf_103 : decode cX8_faultOf 103 = .ok (.iload_n 3, 1) := by decide +kernel
theorem dX8_faultOf_104 : decode cX8_faultOf 104 = .ok (.iaload, 1) := by decide +kernel
theorem dX8_faultOf_105 : decode cX8_faultOf 105 = .ok (.bipush 59, 2) := by decide +kernel
theorem dX8_faultOf_107 : decode cX8_faultOf 107 = .ok (.if_icmp .eq 5, 3) := by decide +kernel
theorem dX8_faultOf_110 : decode cX8_faultOf 110 = .ok (.iload_n 3, 1) := by decide +kernel
theorem dX8_faultOf_111 : decode cX8_faultOf 111 = .ok (.ireturn, 1) := by decide +kernel
theorem dX8_faultOf_112 : decode cX8_faultOf 112 = .ok (.iload_n 3, 1) := by decide +kernel
theorem dX8_faultOf_113 : decode cX8_faultOf 113 = .ok (.iconst 1, 1) := by decide +kernel
theorem dX8_faultOf_114 : decode cX8_faultOf 114 = .ok (.iadd, 1) := by decide +kernel
theorem dX8_faultOf_115 : decode cX8_faultOf 115 = .ok (.istore_n 1, 1) := by decide +kernel
theorem dX8_faultOf_116 : decode cX8_faultOf 116 = .ok (.goto (-114), 3) := by decide +kernel
theorem dX8_faultOf_119 : decode cX8_faultOf 119 = .ok (.iconst (-1), 1) := by decide +kernel
theorem dX8_faultOf_120 : decode cX8_faultOf 120 = .ok (.ireturn, 1) := by decide +kernel
set_option maxRecDepth 20000 in
theorem ggX8_isDone_X8_isSign : GoodIn wsX8_isDone wsX8_isSign := goodIn_r _ [8, 9, 10, 7, 11] rfl (by decide +kernel)
set_option maxRecDepth 20000 in
theorem gX8_isDone_X8_isSign : GoodIn wsX8_isDone (va_wsS RX8 185 yX8_isSign wsX8_isSign) := goodIn_app (goodIn_of _ (by decide +kernel)) ggX8_isDone_X8_isSign
set_option maxRecDepth 20000 in
theorem ggX8_isDone_X8_isThere : GoodIn wsX8_isDone wsX8_isThere := goodIn_r _ [15, 4, 16, 17, 18, 7, 19, 20, 21, 22, 23, 24, 25, 26, 27, 1, 28, 29, 30, 31, 3, 112, 113, 114, 115, 116, 117, 118, 119, 120, 121, 122, 123, 124, 125, 126, 127, 128, 129, 130, 131, 132, 133, 134, 135, 136, 137, 138, 139, 140, 141, 142, 143, 144, 145] rfl (by decide +kernel)
set_option maxRecDepth 20000 in
theorem gX8_isDone_X8_isThere : GoodIn wsX8_isDone (wsV RX8 193 RX8 yX8_isThere wsX8_isThere) := goodIn_app (goodIn_of _ (by decide +kernel)) ggX8_isDone_X8_isThere
set_option maxRecDepth 20000 in
theorem ggX8_isDone_X8_adds : GoodIn wsX8_isDone wsX8_adds := goodIn_r _ [35, 4, 36, 37, 38, 39, 40, 7, 41, 1, 3, 42, 43, 44, 45, 46, 47, 48, 49, 50, 51, 52, 53, 54, 55, 56, 57, 58, 59, 60, 61, 62, 63, 64, 65, 66, 67, 68, 69, 70, 71, 72, 73, 74, 75, 76, 77, 78, 79, 80, 81, 82, 83, 84, 85, 86, 87, 88, 89, 90, 91, 16, 17, 18, 19, 20, 21, 22, 23, 24, 25, 26, 27, 28, 29, 30, 31, 92, 93, 94, 95, 96, 97, 98, 99, 100, 101, 102, 103, 112, 113, 114, 115, 116, 117, 118, 119, 120, 121, 122, 123, 124, 125, 126, 127, 128, 129, 130, 131, 132, 133, 134, 135, 136, 137, 138, 139, 140, 141, 142, 143, 144, 145] rfl (by decide +kernel)
set_option maxRecDepth 20000 in
theorem gX8_isDone_X8_adds : GoodIn wsX8_isDone (wsV RX8 202 RX8 yX8_adds wsX8_adds) := goodIn_app (goodIn_of _ (by decide +kernel)) ggX8_isDone_X8_adds
set_option maxRecDepth 20000 in
theorem ggX8_isDone_X8_takes : GoodIn wsX8_isDone wsX8_takes := goodIn_r _ [107, 36, 37, 4, 50, 51, 52, 7, 53, 54, 55, 56, 57, 58, 59, 60, 61, 62, 1, 63, 64, 65, 66, 67, 68, 69, 70, 71, 72, 73, 74, 75, 76, 77, 78, 79, 80, 81, 82, 83, 84, 85, 86, 87, 88, 89, 90, 91, 16, 17, 18, 19, 20, 21, 22, 23, 24, 25, 26, 27, 28, 29, 30, 31, 3, 92, 93, 94, 95, 46, 47, 48, 49, 96, 97, 98, 99, 108, 109, 110, 111, 112, 113, 114, 115, 116, 117, 118, 119, 120, 121, 122, 123, 124, 125, 126, 127, 128, 129, 130, 131, 132, 133, 134, 135, 136, 137, 138, 139, 140, 141, 142, 143, 144, 145] rfl (by decide +kernel)
set_option maxRecDepth 20000 in
theorem gX8_isDone_X8_takes : GoodIn wsX8_isDone (wsV RX8 208 RX8 yX8_takes wsX8_takes) := goodIn_app (goodIn_of _ (by decide +kernel)) ggX8_isDone_X8_takes
theorem dX8_isDone_0 : decode cX8_isDone 0 = .ok (.aload_n 0, 1) := by decide +kernel
theorem dX8_isDone_1 : decode cX8_isDone 1 = .ok (.iconst 0, 1) := by decide +kernel
theorem dX8_isDone_2 : decode cX8_isDone 2 = .ok (.putfield 83, 3) := by decide +kernel
theorem dX8_isDone_5 : decode cX8_isDone 5 = .ok (.aload_n 0, 1) := by decide +kernel
theorem dX8_isDone_6 : decode cX8_isDone 6 = .ok (.getfield 22, 3) := by decide +kernel
theorem dX8_isDone_9 : decode cX8_isDone 9 = .ok (.iload_n 1, 1) := by decide +kernel
theorem dX8_isDone_10 : decode cX8_isDone 10 = .ok (.iconst 1, 1) := by decide +kernel
theorem dX8_isDone_11 : decode cX8_isDone 11 = .ok (.iadd, 1) := by decide +kernel
theorem dX8_isDone_12 : decode cX8_isDone 12 = .ok (.aload_n 0, 1) := by decide +kernel
theorem dX8_isDone_13 : decode cX8_isDone 13 = .ok (.getfield 83, 3) := by decide +kernel
theorem dX8_isDone_16 : decode cX8_isDone 16 = .ok (.iadd, 1) := by decide +kernel
theorem dX8_isDone_17 : decode cX8_isDone 17 = .ok (.iaload, 1) := by decide +kernel
theorem dX8_isDone_18 : decode cX8_isDone 18 = .ok (.invokestatic 185, 3) := by decide +kernel
theorem dX8_isDone_21 : decode cX8_isDone 21 = .ok (.ifCond .eq 38, 3) := by decide +kernel
theorem dX8_isDone_24 : decode cX8_isDone 24 = .ok (.aload_n 0, 1) := by decide +kernel
theorem dX8_isDone_25 : decode cX8_isDone 25 = .ok (.getfield 25, 3) := by decide +kernel
theorem dX8_isDone_28 : decode cX8_isDone 28 = .ok (.aload_n 0, 1) := by decide +kernel
theorem dX8_isDone_29 : decode cX8_isDone 29 = .ok (.getfield 83, 3) := by decide +kernel
theorem dX8_isDone_32 : decode cX8_isDone 32 = .ok (.aload_n 0, 1) := by decide +kernel
theorem dX8_isDone_33 : decode cX8_isDone 33 = .ok (.getfield 22, 3) := by decide +kernel
theorem dX8_isDone_36 : decode cX8_isDone 36 = .ok (.iload_n 1, 1) := by decide +kernel
theorem dX8_isDone_37 : decode cX8_isDone 37 = .ok (.iconst 1, 1) := by decide +kernel
theorem dX8_isDone_38 : decode cX8_isDone 38 = .ok (.iadd, 1) := by decide +kernel
theorem dX8_isDone_39 : decode cX8_isDone 39 = .ok (.aload_n 0, 1) := by decide +kernel
theorem dX8_isDone_40 : decode cX8_isDone 40 = .ok (.getfield 83, 3) := by decide +kernel
theorem dX8_isDone_43 : decode cX8_isDone 43 = .ok (.iadd, 1) := by decide +kernel
theorem dX8_isDone_44 : decode cX8_isDone 44 = .ok (.iaload, 1) := by decide +kernel
theorem dX8_isDone_45 : decode cX8_isDone 45 = .ok (.iastore, 1) := by decide +kernel
theorem dX8_isDone_46 : decode cX8_isDone 46 = .ok (.aload_n 0, 1) := by decide +kernel
theorem dX8_isDone_47 : decode cX8_isDone 47 = .ok (.dup, 1) := by decide +kernel
theorem dX8_isDone_48 : decode cX8_isDone 48 = .ok (.getfield 83, 3) := by decide +kernel
theorem dX8_isDone_51 : decode cX8_isDone 51 = .ok (.iconst 1, 1) := by decide +kernel
theorem dX8_isDone_52 : decode cX8_isDone 52 = .ok (.iadd, 1) := by decide +kernel
theorem dX8_isDone_53 : decode cX8_isDone 53 = .ok (.putfield 83, 3) := by decide +kernel
theorem dX8_isDone_56 : decode cX8_isDone 56 = .ok (.goto (-51), 3) := by decide +kernel
theorem dX8_isDone_59 : decode cX8_isDone 59 = .ok (.aload_n 0, 1) := by decide +kernel
theorem dX8_isDone_60 : decode cX8_isDone 60 = .ok (.getfield 22, 3) := by decide +kernel
theorem dX8_isDone_63 : decode cX8_isDone 63 = .ok (.iload_n 1, 1) := by decide +kernel
theorem dX8_isDone_64 : decode cX8_isDone 64 = .ok (.iaload, 1) := by decide +kernel
theorem dX8_isDone_65 : decode cX8_isDone 65 = .ok (.bipush 43, 2) := by decide +kernel
theorem dX8_isDone_67 : decode cX8_isDone 67 = .ok (.if_icmp .ne 7, 3) := by decide +kernel
theorem dX8_isDone_70 : decode cX8_isDone 70 = .ok (.iconst 1, 1) := by decide +kernel
theorem dX8_isDone_71 : decode cX8_isDone 71 = .ok (.goto 4, 3) := by decide +kernel
theorem dX8_isDone_74 : decode cX8_isDone 74 = .ok (.iconst 0, 1) := by decide +kernel
theorem dX8_isDone_75 : decode cX8_isDone 75 = .ok (.istore_n 2, 1) := by decide +kernel
theorem dX8_isDone_76 : decode cX8_isDone 76 = .ok (.iload_n 2, 1) := by decide +kernel
theorem dX8_isDone_77 : decode cX8_isDone 77 = .ok (.ifCond .eq 29, 3) := by decide +kernel
theorem dX8_isDone_80 : decode cX8_isDone 80 = .ok (.aload_n 0, 1) := by decide +kernel
theorem dX8_isDone_81 : decode cX8_isDone 81 = .ok (.invokevirtual 193, 3) := by decide +kernel
theorem dX8_isDone_84 : decode cX8_isDone 84 = .ok (.ifCond .ne 18, 3) := by decide +kernel
theorem dX8_isDone_87 : decode cX8_isDone 87 = .ok (.aload_n 0, 1) := by decide +kernel
theorem dX8_isDone_88 : decode cX8_isDone 88 = .ok (.getfield 7, 3) := by decide +kernel
theorem dX8_isDone_91 : decode cX8_isDone 91 = .ok (.iconst 0, 1) := by decide +kernel
theorem dX8_isDone_92 : decode cX8_isDone 92 = .ok (.iaload, 1) := by decide +kernel
theorem dX8_isDone_93 : decode cX8_isDone 93 = .ok (.bipush 48, 2) := by decide +kernel
theorem dX8_isDone_95 : decode cX8_isDone 95 = .ok (.if_icmp .ge 7, 3) := by decide +kernel
theorem dX8_isDone_98 : decode cX8_isDone 98 = .ok (.iconst 1, 1) := by decide +kernel
theorem dX8_isDone_99 : decode cX8_isDone 99 = .ok (.goto 11, 3) := by decide +kernel
theorem dX8_isDone_102 : decode cX8_isDone 102 = .ok (.iconst 0, 1) := by decide +kernel
theorem dX8_isDone_103 : decode cX8_isDone 103 = .ok (.goto 7, 3) := by decide +kernel
theorem dX8_isDone_106 : decode cX8_isDone 106 = .ok (.aload_n 0, 1) := by decide +kernel
theorem dX8_isDone_107 : decode cX8_isDone 107 = .ok (.invokevirtual 193, 3) := by decide +kernel
theorem dX8_isDone_110 : decode cX8_isDone 110 = .ok (.istore_n 3, 1) := by decide +kernel
theorem dX8_isDone_111 : decode cX8_isDone 111 = .ok (.iload_n 3, 1) := by decide +kernel
theorem dX8_isDone_112 : decode cX8_isDone 112 = .ok (.ifCond .eq 14, 3) := by decide +kernel
theorem dX8_isDone_115 : decode cX8_isDone 115 = .ok (.iload_n 2, 1) := by decide +kernel
theorem dX8_isDone_116 : decode cX8_isDone 116 = .ok (.ifCond .eq 10, 3) := by decide +kernel
theorem dX8_isDone_119 : decode cX8_isDone 119 = .ok (.aload_n 0, 1) := by decide +kernel
theorem dX8_isDone_120 : decode cX8_isDone 120 = .ok (.invokevirtual 202, 3) := by decide +kernel
theorem dX8_isDone_123 : decode cX8_isDone 123 = .ok (.goto 11, 3) := by decide +kernel
theorem dX8_isDone_126 : decode cX8_isDone 126 = .ok (.iload_n 3, 1) := by decide +kernel
theorem dX8_isDone_127 : decode cX8_isDone 127 = .ok (.ifCond .eq 7, 3) := by decide +kernel
theorem dX8_isDone_130 : decode cX8_isDone 130 = .ok (.aload_n 0, 1) := by decide +kernel
theorem dX8_isDone_131 : decode cX8_isDone 131 = .ok (.invokevirtual 208, 3) := by decide +kernel
theorem dX8_isDone_134 : decode cX8_isDone 134 = .ok (.iload_n 3, 1) := by decide +kernel
theorem dX8_isDone_135 : decode cX8_isDone 135 = .ok (.ireturn, 1) := by decide +kernel
set_option maxRecDepth 20000 in
theorem ggX8_does_X8_faultOf : GoodIn wsX8_does wsX8_faultOf := goodIn_r _ [7, 1, 2, 8, 9, 6, 10, 11, 12, 13, 132, 133, 134, 135, 136, 137, 138, 139, 140, 141, 142, 143, 144, 145, 146, 147, 148, 149, 150, 151, 152, 153, 154, 155, 156, 157, 158, 159, 160, 161, 162, 163, 164, 165] rfl (by decide +kernel)
set_option maxRecDepth 20000 in
theorem gX8_does_X8_faultOf : GoodIn wsX8_does (wsV RX8 211 RX8 yX8_faultOf wsX8_faultOf) := goodIn_app (goodIn_of _ (by decide +kernel)) ggX8_does_X8_faultOf
set_option maxRecDepth 20000 in
theorem ggX8_does_X8_aside : GoodIn wsX8_does wsX8_aside := goodIn_r _ [17, 18, 19, 132, 133, 134, 135, 136, 137, 138, 139, 140, 141, 142, 143, 144, 145, 146, 147, 148, 149, 150, 151, 152, 153, 154, 155, 156, 157, 158, 159, 160, 161, 162, 163, 164, 165] rfl (by decide +kernel)
set_option maxRecDepth 20000 in
theorem gX8_does_X8_aside : GoodIn wsX8_does (wsV RX8 199 RX8 yX8_aside wsX8_aside) := goodIn_app (goodIn_of _ (by decide +kernel)) ggX8_does_X8_aside
set_option maxRecDepth 20000 in
theorem ggX8_does_X8_isDone : GoodIn wsX8_does wsX8_isDone := goodIn_r _ [23, 24, 2, 25, 19, 8, 9, 6, 10, 11, 12, 13, 26, 27, 28, 29, 30, 31, 32, 33, 34, 35, 36, 37, 38, 39, 40, 41, 42, 43, 44, 45, 46, 47, 48, 49, 50, 51, 52, 53, 54, 55, 56, 57, 58, 59, 60, 61, 62, 63, 64, 65, 66, 67, 68, 69, 70, 71, 72, 73, 74, 75, 76, 77, 78, 79, 80, 81, 82, 83, 84, 85, 86, 87, 88, 89, 90, 91, 92, 93, 94, 95, 96, 97, 98, 99, 100, 101, 102, 103, 104, 105, 106, 107, 108, 109, 110, 111, 112, 113, 114, 115, 116, 117, 118, 119, 120, 121, 122, 123, 124, 125, 132, 133, 134, 135, 136, 137, 138, 139, 140, 141, 142, 143, 144, 145, 146, 147, 148, 149, 150, 151, 152, 153, 154, 155, 156, 157, 158, 159, 160, 161, 162, 163, 164, 165] rfl (by decide +kernel)
set_option maxRecDepth 20000 in
theorem gX8_does_X8_isDone : GoodIn wsX8_does (wsV RX8 214 RX8 yX8_isDone wsX8_isDone) := goodIn_app (goodIn_of _ (by decide +kernel)) ggX8_does_X8_isDone
set_option maxRecDepth 20000 in
theorem ggX8_does_X8_keeps : GoodIn wsX8_does wsX8_keeps := goodIn_r _ [129, 130, 131, 18, 132, 133, 134, 135, 136, 137, 138, 139, 140, 141, 142, 143, 144, 145, 146, 147, 148, 149, 150, 151, 152, 153, 154, 155, 156, 157, 158, 159, 160, 161, 162, 163, 164, 165] rfl (by decide +kernel)
set_option maxRecDepth 20000 in
theorem gX8_does_X8_keeps : GoodIn wsX8_does (wsV RX8 205 RX8 yX8_keeps wsX8_keeps) := goodIn_app (goodIn_of _ (by decide +kernel)) ggX8_does_X8_keeps
theorem dX8_does_0 : decode cX8_does 0 = .ok (.aload_n 0, 1) := by decide +kernel
theorem dX8_does_1 : decode cX8_does 1 = .ok (.invokevirtual 211, 3) := by decide +kernel
theorem dX8_does_4 : decode cX8_does 4 = .ok (.istore_n 1, 1) := by decide +kernel
theorem dX8_does_5 : decode cX8_does 5 = .ok (.iload_n 1, 1) := by decide +kernel
theorem dX8_does_6 : decode cX8_does 6 = .ok (.iconst (-1), 1) := by decide +kernel
theorem dX8_does_7 : decode cX8_does 7 = .ok (.if_icmp .eq 8, 3) := by decide +kernel
theorem dX8_does_10 : decode cX8_does 10 = .ok (.bipush (-10), 2) := by decide +kernel
theorem dX8_does_12 : decode cX8_does 12 = .ok (.iload_n 1, 1) := by decide +kernel
theorem dX8_does_13 : decode cX8_does 13 = .ok (.isub, 1) := by decide +kernel
theorem dX8_does_14 : decode cX8_does 14 = .ok (.ireturn, 1) := by decide +kernel
theorem dX8_does_15 : decode cX8_does 15 = .ok (.aload_n 0, 1) := by decide +kernel
theorem dX8_does_16 : decode cX8_does 16 = .ok (.invokevirtual 199, 3) := by decide +kernel
theorem dX8_does_19 : decode cX8_does 19 = .ok (.iconst 0, 1) := by decide +kernel
theorem dX8_does_20 : decode cX8_does 20 = .ok (.istore_n 2, 1) := by decide +kernel
theorem dX8_does_21 : decode cX8_does 21 = .ok (.iconst 0, 1) := by decide +kernel
theorem dX8_does_22 : decode cX8_does 22 = .ok (.istore_n 3, 1) := by decide +kernel
theorem dX8_does_23 : decode cX8_does 23 = .ok (.iload_n 3, 1) := by decide +kernel
theorem dX8_does_24 : decode cX8_does 24 = .ok (.aload_n 0, 1) := by decide +kernel
theorem dX8_does_25 : decode cX8_does 25 = .ok (.getfield 182, 3) := by decide +kernel
theorem dX8_does_28 : decode cX8_does 28 = .ok (.if_icmp .ge 47, 3) := by decide +kernel
theorem dX8_does_31 : decode cX8_does 31 = .ok (.aload_n 0, 1) := by decide +kernel
theorem dX8_does_32 : decode cX8_does 32 = .ok (.getfield 22, 3) := by decide +kernel
theorem dX8_does_35 : decode cX8_does 35 = .ok (.iload_n 3, 1) := by decide +kernel
theorem dX8_does_36 : decode cX8_does 36 = .ok (.iaload, 1) := by decide +kernel
theorem dX8_does_37 : decode cX8_does 37 = .ok (.bipush 43, 2) := by decide +kernel
theorem dX8_does_39 : decode cX8_does 39 = .ok (.if_icmp .eq 14, 3) := by decide +kernel
theorem dX8_does_42 : decode cX8_does 42 = .ok (.aload_n 0, 1) := by decide +kernel
theorem dX8_does_43 : decode cX8_does 43 = .ok (.getfield 22, 3) := by decide +kernel
theorem dX8_does_46 : decode cX8_does 46 = .ok (.iload_n 3, 1) := by decide +kernel
theorem dX8_does_47 : decode cX8_does 47 = .ok (.iaload, 1) := by decide +kernel
theorem dX8_does_48 : decode cX8_does 48 = .ok (.bipush 45, 2) := by decide +kernel
theorem dX8_does_50 : decode cX8_does 50 = .ok (.if_icmp .ne 19, 3) := by decide +kernel
theorem dX8_does_53 : decode cX8_does 53 = .ok (.iload_n 2, 1) := by decide +kernel
theorem dX8_does_54 : decode cX8_does 54 = .ok (.aload_n 0, 1) := by decide +kernel
theorem dX8_does_55 : decode cX8_does 55 = .ok (.iload_n 3, 1) := by decide +kernel
theorem dX8_does_56 : decode cX8_does 56 = .ok (.invokevirtual 214, 3) := by decide +kernel
theorem dX8_does_59 : decode cX8_does 59 = .ok (.ifCond .eq 7, 3) := by decide +kernel
theorem dX8_does_62 : decode cX8_does 62 = .ok (.iconst 1, 1) := by decide +kernel
theorem dX8_does_63 : decode cX8_does 63 = .ok (.goto 4, 3) := by decide +kernel
theorem dX8_does_66 : decode cX8_does 66 = .ok (.iconst 0, 1) := by decide +kernel
theorem dX8_does_67 : decode cX8_does 67 = .ok (.iadd, 1) := by decide +kernel
theorem dX8_does_68 : decode cX8_does 68 = .ok (.istore_n 2, 1) := by decide +kernel
theorem dX8_does_69 : decode cX8_does 69 = .ok (.iinc 3 1, 3) := by decide +kernel
theorem dX8_does_72 : decode cX8_does 72 = .ok (.goto (-49), 3) := by decide +kernel
theorem dX8_does_75 : decode cX8_does 75 = .ok (.aload_n 0, 1) := by decide +kernel
theorem dX8_does_76 : decode cX8_does 76 = .ok (.invokevirtual 205, 3) := by decide +kernel
theorem dX8_does_79 : decode cX8_does 79 = .ok (.iload_n 2, 1) := by decide +kernel
theorem dX8_does_80 : decode cX8_does 80 = .ok (.ireturn, 1) := by decide +kernel
theorem dX8_drawn_0 : decode cX8_drawn 0 = .ok (.lload_n 0, 1) := by decide +kernel
theorem dX8_drawn_1 : decode cX8_drawn 1 = .ok (.ldc2_w 217, 3) := by decide +kernel
theorem dX8_drawn_4 : decode cX8_drawn 4 = .ok (.lmul, 1) := by decide +kernel
theorem dX8_drawn_5 : decode cX8_drawn 5 = .ok (.ldc2_w 219, 3) := by decide +kernel
theorem dX8_drawn_8 : decode cX8_drawn 8 = .ok (.ladd, 1) := by decide +kernel
theorem dX8_drawn_9 : decode cX8_drawn 9 = .ok (.ldc2_w 221, 3) := by decide +kernel
theorem dX8_drawn_12 : decode cX8_drawn 12 = .ok (.lrem, 1) := by decide +kernel
theorem dX8_drawn_13 : decode cX8_drawn 13 = .ok (.lreturn, 1) := by decide +kernel
set_option maxRecDepth 20000 in
theorem ggX8_draw_X8_in : GoodIn wsX8_draw wsX8_in := goodIn_r _ [9] rfl (by decide +kernel)
set_option maxRecDepth 20000 in
theorem gX8_draw_X8_in : GoodIn wsX8_draw (va_wsS RX8 175 yX8_in wsX8_in) := goodIn_app (goodIn_of _ (by decide +kernel)) ggX8_draw_X8_in
set_option maxRecDepth 20000 in
theorem ggX8_draw_X8_refuses : GoodIn wsX8_draw wsX8_refuses := goodIn_r _ [13, 14, 124, 125, 126, 127, 128, 129, 130, 131, 132, 133, 134, 135, 136, 137, 138, 139, 140, 141, 142, 143, 144, 145, 146, 147, 148, 149, 150, 151, 152, 153, 154, 155, 156, 157] rfl (by decide +kernel)
set_option maxRecDepth 20000 in
theorem gX8_draw_X8_refuses : GoodIn wsX8_draw (wsV RX8 179 RX8 yX8_refuses wsX8_refuses) := goodIn_app (goodIn_of _ (by decide +kernel)) ggX8_draw_X8_refuses
set_option maxRecDepth 20000 in
theorem ggX8_draw_X8_aside : GoodIn wsX8_draw wsX8_aside := goodIn_r _ [18, 19, 5, 124, 125, 126, 127, 128, 129, 130, 131, 132, 133, 134, 135, 136, 137, 138, 139, 140, 141, 142, 143, 144, 145, 146, 147, 148, 149, 150, 151, 152, 153, 154, 155, 156, 157] rfl (by decide +kernel)
set_option maxRecDepth 20000 in
theorem gX8_draw_X8_aside : GoodIn wsX8_draw (wsV RX8 199 RX8 yX8_aside wsX8_aside) := goodIn_app (goodIn_of _ (by decide +kernel)) ggX8_draw_X8_aside
set_option maxRecDepth 20000 in
theorem ggX8_draw_X8_drawn : GoodIn wsX8_draw wsX8_drawn := goodIn_r _ [22, 23, 24, 25] rfl (by decide +kernel)
set_option maxRecDepth 20000 in
theorem gX8_draw_X8_drawn : GoodIn wsX8_draw (va_wsS RX8 224 yX8_drawn wsX8_drawn) := goodIn_app (goodIn_of _ (by decide +kernel)) ggX8_draw_X8_drawn
set_option maxRecDepth 20000 in
theorem ggX8_draw_X8_isThere : GoodIn wsX8_draw wsX8_isThere := goodIn_r _ [29, 5, 30, 31, 32, 8, 33, 34, 35, 36, 37, 38, 39, 40, 41, 3, 42, 43, 44, 45, 4, 124, 125, 126, 127, 128, 129, 130, 131, 132, 133, 134, 135, 136, 137, 138, 139, 140, 141, 142, 143, 144, 145, 146, 147, 148, 149, 150, 151, 152, 153, 154, 155, 156, 157] rfl (by decide +kernel)
set_option maxRecDepth 20000 in
theorem gX8_draw_X8_isThere : GoodIn wsX8_draw (wsV RX8 193 RX8 yX8_isThere wsX8_isThere) := goodIn_app (goodIn_of _ (by decide +kernel)) ggX8_draw_X8_isThere
set_option maxRecDepth 20000 in
theorem ggX8_draw_X8_adds : GoodIn wsX8_draw wsX8_adds := goodIn_r _ [49, 5, 50, 51, 52, 53, 54, 8, 55, 3, 4, 56, 57, 58, 59, 60, 61, 62, 63, 64, 65, 66, 67, 68, 69, 70, 71, 72, 73, 74, 75, 76, 77, 78, 79, 80, 81, 82, 83, 84, 85, 86, 87, 88, 89, 90, 91, 92, 93, 94, 95, 96, 97, 98, 99, 100, 101, 102, 103, 104, 105, 30, 31, 32, 33, 34, 35, 36, 37, 38, 39, 40, 41, 42, 43, 44, 45, 106, 107, 108, 109, 110, 111, 112, 113, 114, 115, 116, 117, 124, 125, 126, 127, 128, 129, 130, 131, 132, 133, 134, 135, 136, 137, 138, 139, 140, 141, 142, 143, 144, 145, 146, 147, 148, 149, 150, 151, 152, 153, 154, 155, 156, 157] rfl (by decide +kernel)
set_option maxRecDepth 20000 in
theorem gX8_draw_X8_adds : GoodIn wsX8_draw (wsV RX8 202 RX8 yX8_adds wsX8_adds) := goodIn_app (goodIn_of _ (by decide +kernel)) ggX8_draw_X8_adds
set_option maxRecDepth 20000 in
theorem ggX8_draw_X8_keeps : GoodIn wsX8_draw wsX8_keeps := goodIn_r _ [121, 122, 123, 19, 124, 125, 126, 127, 128, 129, 130, 131, 132, 133, 134, 135, 136, 137, 138, 139, 140, 141, 142, 143, 144, 145, 146, 147, 148, 149, 150, 151, 152, 153, 154, 155, 156, 157] rfl (by decide +kernel)
set_option maxRecDepth 20000 in
theorem gX8_draw_X8_keeps : GoodIn wsX8_draw (wsV RX8 205 RX8 yX8_keeps wsX8_keeps) := goodIn_app (goodIn_of _ (by decide +kernel)) ggX8_draw_X8_keeps
theorem dX8_draw_0 : decode cX8_draw 0 = .ok (.iload_n 1, 1) := by decide +kernel
theorem dX8_draw_1 : decode cX8_draw 1 = .ok (.iconst 0, 1) := by decide +kernel
theorem dX8_draw_2 : decode cX8_draw 2 = .ok (.ldc 223, 2) := by decide +kernel
theorem dX8_draw_4 : decode cX8_draw 4 = .ok (.invokestatic 175, 3) := by decide +kernel
theorem dX8_draw_7 : decode cX8_draw 7 = .ok (.ifCond .eq 34, 3) := by decide +kernel
theorem dX8_draw_10 : decode cX8_draw 10 = .ok (.iload_n 2, 1) := by decide +kernel
theorem dX8_draw_11 : decode cX8_draw 11 = .ok (.iconst 1, 1) := by decide +kernel
theorem dX8_draw_12 : decode cX8_draw 12 = .ok (.bipush 8, 2) := by decide +kernel
theorem dX8_draw_14 : decode cX8_draw 14 = .ok (.invokestatic 175, 3) := by decide +kernel
theorem dX8_draw_17 : decode cX8_draw 17 = .ok (.ifCond .eq 24, 3) := by decide +kernel
theorem dX8_draw_20 : decode cX8_draw 20 = .ok (.iload_n 3, 1) := by decide +kernel
theorem dX8_draw_21 : decode cX8_draw 21 = .ok (.iconst 1, 1) := by decide +kernel
theorem dX8_draw_22 : decode cX8_draw 22 = .ok (.bipush 24, 2) := by decide +kernel
theorem dX8_draw_24 : decode cX8_draw 24 = .ok (.invokestatic 175, 3) := by decide +kernel
theorem dX8_draw_27 : decode cX8_draw 27 = .ok (.ifCond .eq 14, 3) := by decide +kernel
theorem dX8_draw_30 : decode cX8_draw 30 = .ok (.iload 4, 2) := by decide +kernel
theorem dX8_draw_32 : decode cX8_draw 32 = .ok (.iconst 1, 1) := by decide +kernel
theorem dX8_draw_33 : decode cX8_draw 33 = .ok (.bipush 26, 2) := by decide +kernel
theorem dX8_draw_35 : decode cX8_draw 35 = .ok (.invokestatic 175, 3) := by decide +kernel
theorem dX8_draw_38 : decode cX8_draw 38 = .ok (.ifCond .ne 10, 3) := by decide +kernel
theorem dX8_draw_41 : decode cX8_draw 41 = .ok (.aload_n 0, 1) := by decide +kernel
theorem dX8_draw_42 : decode cX8_draw 42 = .ok (.bipush (-2), 2) := by decide +kernel
theorem dX8_draw_44 : decode cX8_draw 44 = .ok (.invokevirtual 179, 3) := by decide +kernel
theorem dX8_draw_47 : decode cX8_draw 47 = .ok (.ireturn, 1) := by decide +kernel
theorem dX8_draw_48 : decode cX8_draw 48 = .ok (.aload_n 0, 1) := by decide +kernel
theorem dX8_draw_49 : decode cX8_draw 49 = .ok (.invokevirtual 199, 3) := by decide +kernel
theorem dX8_draw_52 : decode cX8_draw 52 = .ok (.iload_n 1, 1) := by decide +kernel
theorem dX8_draw_53 : decode cX8_draw 53 = .ok (.i2l, 1) := by decide +kernel
theorem dX8_draw_54 : decode cX8_draw 54 = .ok (.lstore 5, 2) := by decide +kernel
theorem dX8_draw_56 : decode cX8_draw 56 = .ok (.iconst 0, 1) := by decide +kernel
theorem dX8_draw_57 : decode cX8_draw 57 = .ok (.istore 7, 2) := by decide +kernel
theorem dX8_draw_59 : decode cX8_draw 59 = .ok (.iconst 0, 1) := by decide +kernel
theorem dX8_draw_60 : decode cX8_draw 60 = .ok (.istore 8, 2) := by decide +kernel
theorem dX8_draw_62 : decode cX8_draw 62 = .ok (.iload 8, 2) := by decide +kernel
theorem dX8_draw_64 : decode cX8_draw 64 = .ok (.iload_n 2, 1) := by decide +kernel
theorem dX8_draw_65 : decode cX8_draw 65 = .ok (.if_icmp .ge 103, 3) := by decide +kernel
theorem dX8_draw_68 : decode cX8_draw 68 = .ok (.lload 5, 2) := by decide +kernel
theorem dX8_draw_70 : decode cX8_draw 70 = .ok (.invokestatic 224, 3) := by decide +kernel
theorem dX8_draw_73 : decode cX8_draw 73 = .ok (.lstore 5, 2) := by decide +kernel
theorem dX8_draw_75 : decode cX8_draw 75 = .ok (.aload_n 0, 1) := by decide +kernel
theorem dX8_draw_76 : decode cX8_draw 76 = .ok (.lload 5, 2) := by decide +kernel
theorem dX8_draw_78 : decode cX8_draw 78 = .ok (.ldc2_w 228, 3) := by decide +kernel
theorem dX8_draw_81 : decode cX8_draw 81 = .ok (.ldiv, 1) := by decide +kernel
theorem dX8_draw_82 : decode cX8_draw 82 = .ok (.iload_n 3, 1) := by decide +kernel
theorem dX8_draw_83 : decode cX8_draw 83 = .ok (.i2l, 1) := by decide +kernel
theorem dX8_draw_84 : decode cX8_draw 84 = .ok (.lrem, 1) := by decide +kernel
theorem dX8_draw_85 : decode cX8_draw 85 = .ok (.l2i, 1) := by decide +kernel
theorem dX8_draw_86 : decode cX8_draw 86 = .ok (.iconst 1, 1) := by decide +kernel
theorem dX8_draw_87 : decode cX8_draw 87 = .ok (.iadd, 1) := by decide +kernel
theorem dX8_draw_88 : decode cX8_draw 88 = .ok (.putfield 83, 3) := by decide +kernel
theorem dX8_draw_91 : decode cX8_draw 91 = .ok (.iconst 0, 1) := by decide +kernel
theorem dX8_draw_92 : decode cX8_draw 92 = .ok (.istore 9, 2) := by decide +kernel
theorem dX8_draw_94 : decode cX8_draw 94 = .ok (.iload 9, 2) := by decide +kernel
theorem dX8_draw_96 : decode cX8_draw 96 = .ok (.aload_n 0, 1) := by decide +kernel
theorem dX8_draw_97 : decode cX8_draw 97 = .ok (.getfield 83, 3) := by decide +kernel
theorem dX8_draw_100 : decode cX8_draw 100 = .ok (.if_icmp .ge 37, 3) := by decide +kernel
theorem dX8_draw_103 : decode cX8_draw 103 = .ok (.lload 5, 2) := by decide +kernel
theorem dX8_draw_105 : decode cX8_draw 105 = .ok (.invokestatic 224, 3) := by decide +kernel
theorem dX8_draw_108 : decode cX8_draw 108 = .ok (.lstore 5, 2) := by decide +kernel
theorem dX8_draw_110 : decode cX8_draw 110 = .ok (.aload_n 0, 1) := by decide +kernel
theorem dX8_draw_111 : decode cX8_draw 111 = .ok (.getfield 25, 3) := by decide +kernel
theorem dX8_draw_114 : decode cX8_draw 114 = .ok (.iload 9, 2) := by decide +kernel
theorem dX8_draw_116 : decode cX8_draw 116 = .ok (.bipush 97, 2) := by decide +kernel
theorem dX8_draw_118 : decode cX8_draw 118 = .ok (.lload 5, 2) := by decide +kernel
theorem dX8_draw_120 : decode cX8_draw 120 = .ok (.ldc2_w 228, 3) := by decide +kernel
theorem dX8_draw_123 : decode cX8_draw 123 = .ok (.ldiv, 1) := by decide +kernel
theorem dX8_draw_124 : decode cX8_draw 124 = .ok (.iload 4, 2) := by decide +kernel
theorem dX8_draw_126 : decode cX8_draw 126 = .ok (.i2l, 1) := by decide +kernel
theorem dX8_draw_127 : decode cX8_draw 127 = .ok (.lrem, 1) := by decide +kernel
theorem dX8_draw_128 : decode cX8_draw 128 = .ok (.l2i, 1) := by decide +kernel
theorem dX8_draw_129 : decode cX8_draw 129 = .ok (.iadd, 1) := by decide +kernel
theorem dX8_draw_130 : decode cX8_draw 130 = .ok (.iastore, 1) := by decide +kernel
theorem dX8_draw_131 : decode cX8_draw 131 = .ok (.iinc 9 1, 3) := by decide +kernel
theorem dX8_draw_134 : decode cX8_draw 134 = .ok (.goto (-40), 3) := by decide +kernel
theorem dX8_draw_137 : decode cX8_draw 137 = .ok (.aload_n 0, 1) := by decide +kernel
theorem dX8_draw_138 : decode cX8_draw 138 = .ok (.invokevirtual 193, 3) := by decide +kernel
theorem dX8_draw_141 : decode cX8_draw 141 = .ok (.ifCond .ne 21, 3) := by decide +kernel
theorem dX8_draw_144 : decode cX8_draw 144 = .ok (.aload_n 0, 1) := by decide +kernel
theorem dX8_draw_145 : decode cX8_draw 145 = .ok (.getfield 7, 3) := by decide +kernel
theorem dX8_draw_148 : decode cX8_draw 148 = .ok (.iconst 0, 1) := by decide +kernel
theorem dX8_draw_149 : decode cX8_draw 149 = .ok (.iaload, 1) := by decide +kernel
theorem dX8_draw_150 : decode cX8_draw 150 = .ok (.bipush 48, 2) := by decide +kernel
theorem dX8_draw_152 : decode cX8_draw 152 = .ok (.if_icmp .ge 10, 3) := by decide +kernel
theorem dX8_draw_155 : decode cX8_draw 155 = .ok (.aload_n 0, 1) := by decide +kernel
theorem dX8_draw_156 : decode cX8_draw 156 = .ok (.invokevirtual 202, 3) := by decide +kernel
theorem dX8_draw_159 : decode cX8_draw 159 = .ok (.iinc 7 1, 3) := by decide +kernel
theorem dX8_draw_162 : decode cX8_draw 162 = .ok (.iinc 8 1, 3) := by decide +kernel
theorem dX8_draw_165 : decode cX8_draw 165 = .ok (.goto (-103), 3) := by decide +kernel
theorem dX8_draw_168 : decode cX8_draw 168 = .ok (.aload_n 0, 1) := by decide +kernel
theorem dX8_draw_169 : decode cX8_draw 169 = .ok (.invokevirtual 205, 3) := by decide +kernel
theorem dX8_draw_172 : decode cX8_draw 172 = .ok (.iload 7, 2) := by decide +kernel
theorem dX8_draw_174 : decode cX8_draw 174 = .ok (.ireturn, 1) := by decide +kernel
set_option maxRecDepth 20000 in
theorem ggX8_dealt_X8_setSize : GoodIn wsX8_dealt wsX8_setSize := goodIn_r _ [6, 1, 7, 8, 9, 10, 11, 12, 13, 14, 15, 16, 17, 18, 19, 20, 21, 22, 23, 24, 25, 26, 27, 28, 29, 30, 31, 32, 33, 34, 35, 36, 37, 38, 39, 40] rfl (by decide +kernel)
set_option maxRecDepth 20000 in
theorem gX8_dealt_X8_setSize : GoodIn wsX8_dealt (wsV RX8 156 RX8 yX8_setSize wsX8_setSize) := goodIn_app (goodIn_of _ (by decide +kernel)) ggX8_dealt_X8_setSize
theorem dX8_dealt_0 : decode cX8_dealt 0 = .ok (.iload_n 2, 1) := by decide +kernel
theorem dX8_dealt_1 : decode cX8_dealt 1 = .ok (.aload_n 0, 1) := by decide +kernel
theorem dX8_dealt_2 : decode cX8_dealt 2 = .ok (.getfield 7, 3) := by decide +kernel
theorem dX8_dealt_5 : decode cX8_dealt 5 = .ok (.iconst 1, 1) := by decide +kernel
theorem dX8_dealt_6 : decode cX8_dealt 6 = .ok (.iaload, 1) := by decide +kernel
theorem dX8_dealt_7 : decode cX8_dealt 7 = .ok (.iadd, 1) := by decide +kernel
theorem dX8_dealt_8 : decode cX8_dealt 8 = .ok (.iconst 1, 1) := by decide +kernel
theorem dX8_dealt_9 : decode cX8_dealt 9 = .ok (.isub, 1) := by decide +kernel
theorem dX8_dealt_10 : decode cX8_dealt 10 = .ok (.aload_n 0, 1) := by decide +kernel
theorem dX8_dealt_11 : decode cX8_dealt 11 = .ok (.getfield 7, 3) := by decide +kernel
theorem dX8_dealt_14 : decode cX8_dealt 14 = .ok (.iconst 1, 1) := by decide +kernel
theorem dX8_dealt_15 : decode cX8_dealt 15 = .ok (.iaload, 1) := by decide +kernel
theorem dX8_dealt_16 : decode cX8_dealt 16 = .ok (.idiv, 1) := by decide +kernel
theorem dX8_dealt_17 : decode cX8_dealt 17 = .ok (.istore_n 3, 1) := by decide +kernel
theorem dX8_dealt_18 : decode cX8_dealt 18 = .ok (.iconst 0, 1) := by decide +kernel
theorem dX8_dealt_19 : decode cX8_dealt 19 = .ok (.istore 4, 2) := by decide +kernel
theorem dX8_dealt_21 : decode cX8_dealt 21 = .ok (.iload 4, 2) := by decide +kernel
theorem dX8_dealt_23 : decode cX8_dealt 23 = .ok (.iload_n 3, 1) := by decide +kernel
theorem dX8_dealt_24 : decode cX8_dealt 24 = .ok (.if_icmp .ge 33, 3) := by decide +kernel
theorem dX8_dealt_27 : decode cX8_dealt 27 = .ok (.aload_n 0, 1) := by decide +kernel
theorem dX8_dealt_28 : decode cX8_dealt 28 = .ok (.iload_n 1, 1) := by decide +kernel
theorem dX8_dealt_29 : decode cX8_dealt 29 = .ok (.iload 4, 2) := by decide +kernel
theorem dX8_dealt_31 : decode cX8_dealt 31 = .ok (.iload_n 2, 1) := by decide +kernel
theorem dX8_dealt_32 : decode cX8_dealt 32 = .ok (.iload_n 3, 1) := by decide +kernel
theorem dX8_dealt_33 : decode cX8_dealt 33 = .ok (.idiv, 1) := by decide +kernel
theorem dX8_dealt_34 : decode cX8_dealt 34 = .ok (.iload 4, 2) := by decide +kernel
theorem dX8_dealt_36 : decode cX8_dealt 36 = .ok (.iload_n 2, 1) := by decide +kernel
theorem dX8_dealt_37 : decode cX8_dealt 37 = .ok (.iload_n 3, 1) := by decide +kernel
theorem dX8_dealt_38 : decode cX8_dealt 38 = .ok (.irem, 1) := by decide +kernel
theorem dX8_dealt_39 : decode cX8_dealt 39 = .ok (.if_icmp .ge 7, 3) := by decide +kernel
theorem dX8_dealt_42 : decode cX8_dealt 42 = .ok (.iconst 1, 1) := by decide +kernel
theorem dX8_dealt_43 : decode cX8_dealt 43 = .ok (.goto 4, 3) := by decide +kernel
theorem dX8_dealt_46 : decode cX8_dealt 46 = .ok (.iconst 0, 1) := by decide +kernel
theorem dX8_dealt_47 : decode cX8_dealt 47 = .ok (.iadd, 1) := by decide +kernel
theorem dX8_dealt_48 : decode cX8_dealt 48 = .ok (.invokevirtual 156, 3) := by decide +kernel
theorem dX8_dealt_51 : decode cX8_dealt 51 = .ok (.iinc 4 1, 3) := by decide +kernel
theorem dX8_dealt_54 : decode cX8_dealt 54 = .ok (.goto (-33), 3) := by decide +kernel
theorem dX8_dealt_57 : decode cX8_dealt 57 = .ok (.aload_n 0, 1) := by decide +kernel
theorem dX8_dealt_58 : decode cX8_dealt 58 = .ok (.getfield 7, 3) := by decide +kernel
theorem dX8_dealt_61 : decode cX8_dealt 61 = .ok (.iconst 3, 1) := by decide +kernel
theorem dX8_dealt_62 : decode cX8_dealt 62 = .ok (.iload_n 1, 1) := by decide +kernel
theorem dX8_dealt_63 : decode cX8_dealt 63 = .ok (.iadd, 1) := by decide +kernel
theorem dX8_dealt_64 : decode cX8_dealt 64 = .ok (.iload_n 3, 1) := by decide +kernel
theorem dX8_dealt_65 : decode cX8_dealt 65 = .ok (.iastore, 1) := by decide +kernel
theorem dX8_dealt_66 : decode cX8_dealt 66 = .ok (.iload_n 3, 1) := by decide +kernel
theorem dX8_dealt_67 : decode cX8_dealt 67 = .ok (.ireturn, 1) := by decide +kernel
set_option maxRecDepth 20000 in
theorem ggX8_deals_X8_in : GoodIn wsX8_deals wsX8_in := goodIn_r _ [5] rfl (by decide +kernel)
set_option maxRecDepth 20000 in
theorem gX8_deals_X8_in : GoodIn wsX8_deals (va_wsS RX8 175 yX8_in wsX8_in) := goodIn_app (goodIn_of _ (by decide +kernel)) ggX8_deals_X8_in
set_option maxRecDepth 20000 in
theorem ggX8_deals_X8_refuses : GoodIn wsX8_deals wsX8_refuses := goodIn_r _ [9, 10, 34, 35, 36, 37, 38, 39, 40, 41, 42, 43, 44, 45, 46, 47, 48, 49, 50, 51, 52, 53, 54, 55, 56, 57, 58, 59, 60, 61, 62, 63, 64, 65, 66, 67] rfl (by decide +kernel)
set_option maxRecDepth 20000 in
theorem gX8_deals_X8_refuses : GoodIn wsX8_deals (wsV RX8 179 RX8 yX8_refuses wsX8_refuses) := goodIn_app (goodIn_of _ (by decide +kernel)) ggX8_deals_X8_refuses
set_option maxRecDepth 20000 in
theorem ggX8_deals_X8_aside : GoodIn wsX8_deals wsX8_aside := goodIn_r _ [14, 15, 1, 34, 35, 36, 37, 38, 39, 40, 41, 42, 43, 44, 45, 46, 47, 48, 49, 50, 51, 52, 53, 54, 55, 56, 57, 58, 59, 60, 61, 62, 63, 64, 65, 66, 67] rfl (by decide +kernel)
set_option maxRecDepth 20000 in
theorem gX8_deals_X8_aside : GoodIn wsX8_deals (wsV RX8 199 RX8 yX8_aside wsX8_aside) := goodIn_app (goodIn_of _ (by decide +kernel)) ggX8_deals_X8_aside
set_option maxRecDepth 20000 in
theorem ggX8_deals_X8_dealt : GoodIn wsX8_deals wsX8_dealt := goodIn_r _ [19, 1, 20, 21, 22, 4, 23, 34, 35, 36, 37, 38, 39, 40, 41, 42, 43, 44, 45, 46, 47, 48, 49, 50, 51, 52, 53, 54, 55, 56, 57, 58, 59, 60, 61, 62, 63, 64, 65, 66, 67] rfl (by decide +kernel)
set_option maxRecDepth 20000 in
theorem gX8_deals_X8_dealt : GoodIn wsX8_deals (wsV RX8 230 RX8 yX8_dealt wsX8_dealt) := goodIn_app (goodIn_of _ (by decide +kernel)) ggX8_deals_X8_dealt
set_option maxRecDepth 20000 in
theorem ggX8_deals_X8_keeps : GoodIn wsX8_deals wsX8_keeps := goodIn_r _ [27, 28, 29, 15, 34, 35, 36, 37, 38, 39, 40, 41, 42, 43, 44, 45, 46, 47, 48, 49, 50, 51, 52, 53, 54, 55, 56, 57, 58, 59, 60, 61, 62, 63, 64, 65, 66, 67] rfl (by decide +kernel)
set_option maxRecDepth 20000 in
theorem gX8_deals_X8_keeps : GoodIn wsX8_deals (wsV RX8 205 RX8 yX8_keeps wsX8_keeps) := goodIn_app (goodIn_of _ (by decide +kernel)) ggX8_deals_X8_keeps
set_option maxRecDepth 20000 in
theorem ggX8_deals_X8_manyPages : GoodIn wsX8_deals wsX8_manyPages := goodIn_r _ [33, 1, 34, 35, 36, 37, 38, 39, 40, 41, 42, 43, 44, 45, 46, 47, 48, 49, 50, 51, 52, 53, 54, 55, 56, 57, 58, 59, 60, 61, 62, 63, 64, 65, 66, 67] rfl (by decide +kernel)
set_option maxRecDepth 20000 in
theorem gX8_deals_X8_manyPages : GoodIn wsX8_deals (wsV RX8 233 RX8 yX8_manyPages wsX8_manyPages) := goodIn_app (goodIn_of _ (by decide +kernel)) ggX8_deals_X8_manyPages
theorem dX8_deals_0 : decode cX8_deals 0 = .ok (.iload_n 1, 1) := by decide +kernel
theorem dX8_deals_1 : decode cX8_deals 1 = .ok (.iconst 4, 1) := by decide +kernel
theorem dX8_deals_2 : decode cX8_deals 2 = .ok (.bipush 8, 2) := by decide +kernel
theorem dX8_deals_4 : decode cX8_deals 4 = .ok (.invokestatic 175, 3) := by decide +kernel
theorem dX8_deals_7 : decode cX8_deals 7 = .ok (.ifCond .ne 10, 3) := by decide +kernel
theorem dX8_deals_10 : decode cX8_deals 10 = .ok (.aload_n 0, 1) := by decide +kernel
theorem dX8_deals_11 : decode cX8_deals 11 = .ok (.bipush (-2), 2) := by decide +kernel
theorem dX8_deals_13 : decode cX8_deals 13 = .ok (.invokevirtual 179, 3) := by decide +kernel
theorem dX8_deals_16 : decode cX8_deals 16 = .ok (.ireturn, 1) := by decide +kernel
theorem dX8_deals_17 : decode cX8_deals 17 = .ok (.aload_n 0, 1) := by decide +kernel
theorem dX8_deals_18 : decode cX8_deals 18 = .ok (.invokevirtual 199, 3) := by decide +kernel
theorem dX8_deals_21 : decode cX8_deals 21 = .ok (.aload_n 0, 1) := by decide +kernel
theorem dX8_deals_22 : decode cX8_deals 22 = .ok (.getfield 7, 3) := by decide +kernel
theorem dX8_deals_25 : decode cX8_deals 25 = .ok (.iconst 1, 1) := by decide +kernel
theorem dX8_deals_26 : decode cX8_deals 26 = .ok (.iload_n 1, 1) := by decide +kernel
theorem dX8_deals_27 : decode cX8_deals 27 = .ok (.iastore, 1) := by decide +kernel
theorem dX8_deals_28 : decode cX8_deals 28 = .ok (.aload_n 0, 1) := by decide +kernel
theorem dX8_deals_29 : decode cX8_deals 29 = .ok (.getfield 7, 3) := by decide +kernel
theorem dX8_deals_32 : decode cX8_deals 32 = .ok (.iconst 2, 1) := by decide +kernel
theorem dX8_deals_33 : decode cX8_deals 33 = .ok (.iconst 0, 1) := by decide +kernel
theorem dX8_deals_34 : decode cX8_deals 34 = .ok (.iastore, 1) := by decide +kernel
theorem dX8_deals_35 : decode cX8_deals 35 = .ok (.aload_n 0, 1) := by decide +kernel
theorem dX8_deals_36 : decode cX8_deals 36 = .ok (.getfield 7, 3) := by decide +kernel
theorem dX8_deals_39 : decode cX8_deals 39 = .ok (.iconst 0, 1) := by decide +kernel
theorem dX8_deals_40 : decode cX8_deals 40 = .ok (.iaload, 1) := by decide +kernel
theorem dX8_deals_41 : decode cX8_deals 41 = .ok (.istore_n 2, 1) := by decide +kernel
theorem dX8_deals_42 : decode cX8_deals 42 = .ok (.iload_n 2, 1) := by decide +kernel
theorem dX8_deals_43 : decode cX8_deals 43 = .ok (.ifCond .le 7, 3) := by decide +kernel
theorem dX8_deals_46 : decode cX8_deals 46 = .ok (.iconst 1, 1) := by decide +kernel
theorem dX8_deals_47 : decode cX8_deals 47 = .ok (.goto 4, 3) := by decide +kernel
theorem dX8_deals_50 : decode cX8_deals 50 = .ok (.iconst 0, 1) := by decide +kernel
theorem dX8_deals_51 : decode cX8_deals 51 = .ok (.istore_n 3, 1) := by decide +kernel
theorem dX8_deals_52 : decode cX8_deals 52 = .ok (.iload_n 3, 1) := by decide +kernel
theorem dX8_deals_53 : decode cX8_deals 53 = .ok (.ifCond .eq 39, 3) := by decide +kernel
theorem dX8_deals_56 : decode cX8_deals 56 = .ok (.aload_n 0, 1) := by decide +kernel
theorem dX8_deals_57 : decode cX8_deals 57 = .ok (.aload_n 0, 1) := by decide +kernel
theorem dX8_deals_58 : decode cX8_deals 58 = .ok (.getfield 7, 3) := by decide +kernel
theorem dX8_deals_61 : decode cX8_deals 61 = .ok (.iconst 2, 1) := by decide +kernel
theorem dX8_deals_62 : decode cX8_deals 62 = .ok (.iaload, 1) := by decide +kernel
theorem dX8_deals_63 : decode cX8_deals 63 = .ok (.iload_n 2, 1) := by decide +kernel
theorem dX8_deals_64 : decode cX8_deals 64 = .ok (.invokevirtual 230, 3) := by decide +kernel
theorem dX8_deals_67 : decode cX8_deals 67 = .ok (.istore_n 2, 1) := by decide +kernel
theorem dX8_deals_68 : decode cX8_deals 68 = .ok (.aload_n 0, 1) := by decide +kernel
theorem dX8_deals_69 : decode cX8_deals 69 = .ok (.getfield 7, 3) := by decide +kernel
theorem dX8_deals_72 : decode cX8_deals 72 = .ok (.iconst 2, 1) := by decide +kernel
theorem dX8_deals_73 : decode cX8_deals 73 = .ok (.dup2, 1) := by decide +kernel
theorem dX8_deals_74 : decode cX8_deals 74 = .ok (.iaload, 1) := by decide +kernel
theorem dX8_deals_75 : decode cX8_deals 75 = .ok (.iconst 1, 1) := by decide +kernel
theorem dX8_deals_76 : decode cX8_deals 76 = .ok (.iadd, 1) := by decide +kernel
theorem dX8_deals_77 : decode cX8_deals 77 = .ok (.iastore, 1) := by decide +kernel
theorem dX8_deals_78 : decode cX8_deals 78 = .ok (.iload_n 2, 1) := by decide +kernel
theorem dX8_deals_79 : decode cX8_deals 79 = .ok (.iconst 1, 1) := by decide +kernel
theorem dX8_deals_80 : decode cX8_deals 80 = .ok (.if_icmp .le 7, 3) := by decide +kernel
theorem dX8_deals_83 : decode cX8_deals 83 = .ok (.iconst 1, 1) := by decide +kernel
theorem dX8_deals_84 : decode cX8_deals 84 = .ok (.goto 4, 3) := by decide +kernel
theorem dX8_deals_87 : decode cX8_deals 87 = .ok (.iconst 0, 1) := by decide +kernel
theorem dX8_deals_88 : decode cX8_deals 88 = .ok (.istore_n 3, 1) := by decide +kernel
theorem dX8_deals_89 : decode cX8_deals 89 = .ok (.goto (-37), 3) := by decide +kernel
theorem dX8_deals_92 : decode cX8_deals 92 = .ok (.aload_n 0, 1) := by decide +kernel
theorem dX8_deals_93 : decode cX8_deals 93 = .ok (.invokevirtual 205, 3) := by decide +kernel
theorem dX8_deals_96 : decode cX8_deals 96 = .ok (.aload_n 0, 1) := by decide +kernel
theorem dX8_deals_97 : decode cX8_deals 97 = .ok (.invokevirtual 233, 3) := by decide +kernel
theorem dX8_deals_100 : decode cX8_deals 100 = .ok (.ireturn, 1) := by decide +kernel
set_option maxRecDepth 20000 in
theorem ggX8_anew_X8_aside : GoodIn wsX8_anew wsX8_aside := goodIn_r _ [6, 7, 1, 14, 15, 16, 17, 18, 19, 20, 21, 22, 23, 24, 25, 26, 27, 28, 29, 30, 31, 32, 33, 34, 35, 36, 37, 38, 39, 40, 41, 42, 43, 44, 45, 46, 47] rfl (by decide +kernel)
set_option maxRecDepth 20000 in
theorem gX8_anew_X8_aside : GoodIn wsX8_anew (wsV RX8 199 RX8 yX8_aside wsX8_aside) := goodIn_app (goodIn_of _ (by decide +kernel)) ggX8_anew_X8_aside
set_option maxRecDepth 20000 in
theorem ggX8_anew_X8_keeps : GoodIn wsX8_anew wsX8_keeps := goodIn_r _ [11, 12, 13, 7, 14, 15, 16, 17, 18, 19, 20, 21, 22, 23, 24, 25, 26, 27, 28, 29, 30, 31, 32, 33, 34, 35, 36, 37, 38, 39, 40, 41, 42, 43, 44, 45, 46, 47] rfl (by decide +kernel)
set_option maxRecDepth 20000 in
theorem gX8_anew_X8_keeps : GoodIn wsX8_anew (wsV RX8 205 RX8 yX8_keeps wsX8_keeps) := goodIn_app (goodIn_of _ (by decide +kernel)) ggX8_anew_X8_keeps
theorem dX8_anew_0 : decode cX8_anew 0 = .ok (.aload_n 0, 1) := by decide +kernel
theorem dX8_anew_1 : decode cX8_anew 1 = .ok (.invokevirtual 199, 3) := by decide +kernel
theorem dX8_anew_4 : decode cX8_anew 4 = .ok (.aload_n 0, 1) := by decide +kernel
theorem dX8_anew_5 : decode cX8_anew 5 = .ok (.getfield 7, 3) := by decide +kernel
theorem dX8_anew_8 : decode cX8_anew 8 = .ok (.iconst 0, 1) := by decide +kernel
theorem dX8_anew_9 : decode cX8_anew 9 = .ok (.iaload, 1) := by decide +kernel
theorem dX8_anew_10 : decode cX8_anew 10 = .ok (.istore_n 1, 1) := by decide +kernel
theorem dX8_anew_11 : decode cX8_anew 11 = .ok (.aload_n 0, 1) := by decide +kernel
theorem dX8_anew_12 : decode cX8_anew 12 = .ok (.getfield 7, 3) := by decide +kernel
theorem dX8_anew_15 : decode cX8_anew 15 = .ok (.iconst 0, 1) := by decide +kernel
theorem dX8_anew_16 : decode cX8_anew 16 = .ok (.iconst 0, 1) := by decide +kernel
theorem dX8_anew_17 : decode cX8_anew 17 = .ok (.iastore, 1) := by decide +kernel
theorem dX8_anew_18 : decode cX8_anew 18 = .ok (.aload_n 0, 1) := by decide +kernel
theorem dX8_anew_19 : decode cX8_anew 19 = .ok (.getfield 7, 3) := by decide +kernel
theorem dX8_anew_22 : decode cX8_anew 22 = .ok (.iconst 2, 1) := by decide +kernel
theorem dX8_anew_23 : decode cX8_anew 23 = .ok (.iconst 0, 1) := by decide +kernel
theorem dX8_anew_24 : decode cX8_anew 24 = .ok (.iastore, 1) := by decide +kernel
theorem dX8_anew_25 : decode cX8_anew 25 = .ok (.aload_n 0, 1) := by decide +kernel
theorem dX8_anew_26 : decode cX8_anew 26 = .ok (.getfield 7, 3) := by decide +kernel
theorem dX8_anew_29 : decode cX8_anew 29 = .ok (.iconst 1, 1) := by decide +kernel
theorem dX8_anew_30 : decode cX8_anew 30 = .ok (.iconst 4, 1) := by decide +kernel
theorem dX8_anew_31 : decode cX8_anew 31 = .ok (.iastore, 1) := by decide +kernel
theorem dX8_anew_32 : decode cX8_anew 32 = .ok (.aload_n 0, 1) := by decide +kernel
theorem dX8_anew_33 : decode cX8_anew 33 = .ok (.invokevirtual 205, 3) := by decide +kernel
theorem dX8_anew_36 : decode cX8_anew 36 = .ok (.iload_n 1, 1) := by decide +kernel
theorem dX8_anew_37 : decode cX8_anew 37 = .ok (.ireturn, 1) := by decide +kernel
set_option maxRecDepth 20000 in
theorem ggX8_finds_X8_in : GoodIn wsX8_finds wsX8_in := goodIn_r _ [4] rfl (by decide +kernel)
set_option maxRecDepth 20000 in
theorem gX8_finds_X8_in : GoodIn wsX8_finds (va_wsS RX8 175 yX8_in wsX8_in) := goodIn_app (goodIn_of _ (by decide +kernel)) ggX8_finds_X8_in
set_option maxRecDepth 20000 in
theorem ggX8_finds_X8_refuses : GoodIn wsX8_finds wsX8_refuses := goodIn_r _ [8, 9, 102, 103, 104, 105, 106, 107, 108, 109, 110, 111, 112, 113, 114, 115, 116, 117, 118, 119, 120, 121, 122, 123, 124, 125, 126, 127, 128, 129, 130, 131, 132, 133, 134, 135] rfl (by decide +kernel)
set_option maxRecDepth 20000 in
theorem gX8_finds_X8_refuses : GoodIn wsX8_finds (wsV RX8 179 RX8 yX8_refuses wsX8_refuses) := goodIn_app (goodIn_of _ (by decide +kernel)) ggX8_finds_X8_refuses
set_option maxRecDepth 20000 in
theorem ggX8_finds_X8_isWord : GoodIn wsX8_finds wsX8_isWord := goodIn_r _ [13, 14, 15, 16, 17, 1, 2, 3, 4, 18, 19, 20, 102, 103, 104, 105, 106, 107, 108, 109, 110, 111, 112, 113, 114, 115, 116, 117, 118, 119, 120, 121, 122, 123, 124, 125, 126, 127, 128, 129, 130, 131, 132, 133, 134, 135] rfl (by decide +kernel)
set_option maxRecDepth 20000 in
theorem gX8_finds_X8_isWord : GoodIn wsX8_finds (wsV RX8 189 RX8 yX8_isWord wsX8_isWord) := goodIn_app (goodIn_of _ (by decide +kernel)) ggX8_finds_X8_isWord
set_option maxRecDepth 20000 in
theorem ggX8_finds_X8_ahead : GoodIn wsX8_finds wsX8_ahead := goodIn_r _ [24, 25, 26, 27, 28, 3, 29, 30, 31, 32, 33, 34, 35, 36, 37, 38, 39, 40, 41, 17, 42, 43, 44, 45, 16, 102, 103, 104, 105, 106, 107, 108, 109, 110, 111, 112, 113, 114, 115, 116, 117, 118, 119, 120, 121, 122, 123, 124, 125, 126, 127, 128, 129, 130, 131, 132, 133, 134, 135] rfl (by decide +kernel)
set_option maxRecDepth 20000 in
theorem gX8_finds_X8_ahead : GoodIn wsX8_finds (wsV RX8 196 RX8 yX8_ahead wsX8_ahead) := goodIn_app (goodIn_of _ (by decide +kernel)) ggX8_finds_X8_ahead
set_option maxRecDepth 20000 in
theorem ggX8_finds_X8_isThere : GoodIn wsX8_finds wsX8_isThere := goodIn_r _ [49, 25, 30, 31, 32, 3, 33, 34, 35, 36, 37, 38, 39, 40, 41, 17, 42, 43, 44, 45, 16, 102, 103, 104, 105, 106, 107, 108, 109, 110, 111, 112, 113, 114, 115, 116, 117, 118, 119, 120, 121, 122, 123, 124, 125, 126, 127, 128, 129, 130, 131, 132, 133, 134, 135] rfl (by decide +kernel)
set_option maxRecDepth 20000 in
theorem gX8_finds_X8_isThere : GoodIn wsX8_finds (wsV RX8 193 RX8 yX8_isThere wsX8_isThere) := goodIn_app (goodIn_of _ (by decide +kernel)) ggX8_finds_X8_isThere
set_option maxRecDepth 20000 in
theorem ggX8_finds_X8_cost : GoodIn wsX8_finds wsX8_cost := goodIn_r _ [53, 25, 54, 55, 56, 57, 3, 58, 59, 60, 61, 62, 63, 64, 65, 66, 67, 68, 17, 69, 70, 71, 72, 73, 74, 75, 76, 77, 78, 79, 80, 81, 82, 83, 84, 85, 86, 87, 88, 89, 90, 91, 92, 93, 94, 95, 96, 97, 30, 31, 32, 33, 34, 35, 36, 37, 38, 39, 40, 41, 42, 43, 44, 45, 16, 98, 99, 100, 101, 102, 103, 104, 105, 106, 107, 108, 109, 110, 111, 112, 113, 114, 115, 116, 117, 118, 119, 120, 121, 122, 123, 124, 125, 126, 127, 128, 129, 130, 131, 132, 133, 134, 135] rfl (by decide +kernel)
set_option maxRecDepth 20000 in
theorem gX8_finds_X8_cost : GoodIn wsX8_finds (wsV RX8 236 RX8 yX8_cost wsX8_cost) := goodIn_app (goodIn_of _ (by decide +kernel)) ggX8_finds_X8_cost
theorem dX8_finds_0 : decode cX8_finds 0 = .ok (.iload_n 1, 1) := by decide +kernel
theorem dX8_finds_1 : decode cX8_finds 1 = .ok (.iconst 0, 1) := by decide +kernel
theorem dX8_finds_2 : decode cX8_finds 2 = .ok (.iconst 2, 1) := by decide +kernel
theorem dX8_finds_3 : decode cX8_finds 3 = .ok (.invokestatic 175, 3) := by decide +kernel
theorem dX8_finds_6 : decode cX8_finds 6 = .ok (.ifCond .ne 10, 3) := by decide +kernel
theorem dX8_finds_9 : decode cX8_finds 9 = .ok (.aload_n 0, 1) := by decide +kernel
theorem dX8_finds_10 : decode cX8_finds 10 = .ok (.bipush (-2), 2) := by decide +kernel
theorem dX8_finds_12 : decode cX8_finds 12 = .ok (.invokevirtual 179, 3) := by decide +kernel
theorem dX8_finds_15 : decode cX8_finds 15 = .ok (.ireturn, 1) := by decide +kernel
theorem dX8_finds_16 : decode cX8_finds 16 = .ok (.aload_n 0, 1) := by decide +kernel
theorem dX8_finds_17 : decode cX8_finds 17 = .ok (.invokevirtual 189, 3) := by decide +kernel
theorem dX8_finds_20 : decode cX8_finds 20 = .ok (.ifCond .ne 10, 3) := by decide +kernel
theorem dX8_finds_23 : decode cX8_finds 23 = .ok (.aload_n 0, 1) := by decide +kernel
theorem dX8_finds_24 : decode cX8_finds 24 = .ok (.bipush (-3), 2) := by decide +kernel
theorem dX8_finds_26 : decode cX8_finds 26 = .ok (.invokevirtual 179, 3) := by decide +kernel
theorem dX8_finds_29 : decode cX8_finds 29 = .ok (.ireturn, 1) := by decide +kernel
theorem dX8_finds_30 : decode cX8_finds 30 = .ok (.iload_n 1, 1) := by decide +kernel
theorem dX8_finds_31 : decode cX8_finds 31 = .ok (.ifCond .ne 23, 3) := by decide +kernel
theorem dX8_finds_34 : decode cX8_finds 34 = .ok (.aload_n 0, 1) := by decide +kernel
theorem dX8_finds_35 : decode cX8_finds 35 = .ok (.invokevirtual 196, 3) := by decide +kernel
theorem dX8_finds_38 : decode cX8_finds 38 = .ok (.aload_n 0, 1) := by decide +kernel
theorem dX8_finds_39 : decode cX8_finds 39 = .ok (.invokevirtual 193, 3) := by decide +kernel
theorem dX8_finds_42 : decode cX8_finds 42 = .ok (.ifCond .eq 7, 3) := by decide +kernel
theorem dX8_finds_45 : decode cX8_finds 45 = .ok (.iconst 1, 1) := by decide +kernel
theorem dX8_finds_46 : decode cX8_finds 46 = .ok (.goto 4, 3) := by decide +kernel
theorem dX8_finds_49 : decode cX8_finds 49 = .ok (.iconst 0, 1) := by decide +kernel
theorem dX8_finds_50 : decode cX8_finds 50 = .ok (.iadd, 1) := by decide +kernel
theorem dX8_finds_51 : decode cX8_finds 51 = .ok (.goto 27, 3) := by decide +kernel
theorem dX8_finds_54 : decode cX8_finds 54 = .ok (.iload_n 1, 1) := by decide +kernel
theorem dX8_finds_55 : decode cX8_finds 55 = .ok (.iconst 1, 1) := by decide +kernel
theorem dX8_finds_56 : decode cX8_finds 56 = .ok (.if_icmp .ne 18, 3) := by decide +kernel
theorem dX8_finds_59 : decode cX8_finds 59 = .ok (.aload_n 0, 1) := by decide +kernel
theorem dX8_finds_60 : decode cX8_finds 60 = .ok (.invokevirtual 193, 3) := by decide +kernel
theorem dX8_finds_63 : decode cX8_finds 63 = .ok (.ifCond .eq 7, 3) := by decide +kernel
theorem dX8_finds_66 : decode cX8_finds 66 = .ok (.iconst 1, 1) := by decide +kernel
theorem dX8_finds_67 : decode cX8_finds 67 = .ok (.goto 11, 3) := by decide +kernel
theorem dX8_finds_70 : decode cX8_finds 70 = .ok (.iconst 0, 1) := by decide +kernel
theorem dX8_finds_71 : decode cX8_finds 71 = .ok (.goto 7, 3) := by decide +kernel
theorem dX8_finds_74 : decode cX8_finds 74 = .ok (.aload_n 0, 1) := by decide +kernel
theorem dX8_finds_75 : decode cX8_finds 75 = .ok (.invokevirtual 236, 3) := by decide +kernel
theorem dX8_finds_78 : decode cX8_finds 78 = .ok (.ireturn, 1) := by decide +kernel
set_option maxRecDepth 20000 in
theorem ggX8_way_X8_topLevel : GoodIn wsX8_way wsX8_topLevel := goodIn_r _ [11, 12, 90, 91, 92, 93, 94, 95, 96, 97, 98, 99, 100, 101, 102, 103, 104, 105, 106, 107, 108, 109, 110, 111, 112, 113, 114, 115, 116, 117, 118, 119, 120, 121, 122, 123] rfl (by decide +kernel)
set_option maxRecDepth 20000 in
theorem gX8_way_X8_topLevel : GoodIn wsX8_way (wsV RX8 110 RX8 yX8_topLevel wsX8_topLevel) := goodIn_app (goodIn_of _ (by decide +kernel)) ggX8_way_X8_topLevel
set_option maxRecDepth 20000 in
theorem ggX8_way_X8_in : GoodIn wsX8_way wsX8_in := goodIn_r _ [15] rfl (by decide +kernel)
set_option maxRecDepth 20000 in
theorem gX8_way_X8_in : GoodIn wsX8_way (va_wsS RX8 175 yX8_in wsX8_in) := goodIn_app (goodIn_of _ (by decide +kernel)) ggX8_way_X8_in
set_option maxRecDepth 20000 in
theorem ggX8_way_X8_refuses : GoodIn wsX8_way wsX8_refuses := goodIn_r _ [19, 20, 90, 91, 92, 93, 94, 95, 96, 97, 98, 99, 100, 101, 102, 103, 104, 105, 106, 107, 108, 109, 110, 111, 112, 113, 114, 115, 116, 117, 118, 119, 120, 121, 122, 123] rfl (by decide +kernel)
set_option maxRecDepth 20000 in
theorem gX8_way_X8_refuses : GoodIn wsX8_way (wsV RX8 179 RX8 yX8_refuses wsX8_refuses) := goodIn_app (goodIn_of _ (by decide +kernel)) ggX8_way_X8_refuses
set_option maxRecDepth 20000 in
theorem ggX8_way_X8_isWord : GoodIn wsX8_way wsX8_isWord := goodIn_r _ [24, 25, 26, 27, 28, 13, 14, 10, 15, 29, 30, 31, 90, 91, 92, 93, 94, 95, 96, 97, 98, 99, 100, 101, 102, 103, 104, 105, 106, 107, 108, 109, 110, 111, 112, 113, 114, 115, 116, 117, 118, 119, 120, 121, 122, 123] rfl (by decide +kernel)
set_option maxRecDepth 20000 in
theorem gX8_way_X8_isWord : GoodIn wsX8_way (wsV RX8 189 RX8 yX8_isWord wsX8_isWord) := goodIn_app (goodIn_of _ (by decide +kernel)) ggX8_way_X8_isWord
set_option maxRecDepth 20000 in
theorem ggX8_way_X8_goes : GoodIn wsX8_way wsX8_goes := goodIn_r _ [35, 1, 2, 3, 36, 4, 37, 5, 38, 6, 39, 40, 28, 7, 8, 9, 10, 11, 12, 41, 42, 43, 44, 45, 46, 47, 48, 49, 50, 51, 52, 53, 54, 55, 56, 57, 58, 59, 60, 61, 62, 63, 64, 65, 66, 67, 68, 69, 70, 71, 72, 73, 74, 75, 76, 77, 78, 79, 80, 81, 27, 82, 83, 84, 85, 90, 91, 92, 93, 94, 95, 96, 97, 98, 99, 100, 101, 102, 103, 104, 105, 106, 107, 108, 109, 110, 111, 112, 113, 114, 115, 116, 117, 118, 119, 120, 121, 122, 123] rfl (by decide +kernel)
set_option maxRecDepth 20000 in
theorem gX8_way_X8_goes : GoodIn wsX8_way (wsV RX8 153 RX8 yX8_goes wsX8_goes) := goodIn_app (goodIn_of _ (by decide +kernel)) ggX8_way_X8_goes
set_option maxRecDepth 20000 in
theorem ggX8_way_X8_numberOf : GoodIn wsX8_way wsX8_numberOf := goodIn_r _ [89, 12, 90, 91, 92, 93, 94, 95, 96, 97, 98, 99, 100, 101, 102, 103, 104, 105, 106, 107, 108, 109, 110, 111, 112, 113, 114, 115, 116, 117, 118, 119, 120, 121, 122, 123] rfl (by decide +kernel)
set_option maxRecDepth 20000 in
theorem gX8_way_X8_numberOf : GoodIn wsX8_way (wsV RX8 117 RX8 yX8_numberOf wsX8_numberOf) := goodIn_app (goodIn_of _ (by decide +kernel)) ggX8_way_X8_numberOf
theorem dX8_way_0 : decode cX8_way 0 = .ok (.iload_n 1, 1) := by decide +kernel
theorem dX8_way_1 : decode cX8_way 1 = .ok (.iconst 0, 1) := by decide +kernel
theorem dX8_way_2 : decode cX8_way 2 = .ok (.aload_n 0, 1) := by decide +kernel
theorem dX8_way_3 : decode cX8_way 3 = .ok (.invokevirtual 110, 3) := by decide +kernel
theorem dX8_way_6 : decode cX8_way 6 = .ok (.invokestatic 175, 3) := by decide +kernel
theorem dX8_way_9 : decode cX8_way 9 = .ok (.ifCond .eq 12, 3) := by decide +kernel
theorem dX8_way_12 : decode cX8_way 12 = .ok (.iload_n 2, 1) := by decide +kernel
theorem dX8_way_13 : decode cX8_way 13 = .ok (.iconst 0, 1) := by decide +kernel
theorem dX8_way_14 : decode cX8_way 14 = .ok (.iconst 5, 1) := by decide +kernel
theorem dX8_way_15 : decode cX8_way 15 = .ok (.invokestatic 175, 3) := by decide +kernel
theorem dX8_way_18 : decode cX8_way 18 = .ok (.ifCond .ne 10, 3) := by decide +kernel
theorem dX8_way_21 : decode cX8_way 21 = .ok (.aload_n 0, 1) := by decide +kernel
theorem dX8_way_22 : decode cX8_way 22 = .ok (.bipush (-2), 2) := by decide +kernel
theorem dX8_way_24 : decode cX8_way 24 = .ok (.invokevirtual 179, 3) := by decide +kernel
theorem dX8_way_27 : decode cX8_way 27 = .ok (.ireturn, 1) := by decide +kernel
theorem dX8_way_28 : decode cX8_way 28 = .ok (.aload_n 0, 1) := by decide +kernel
theorem dX8_way_29 : decode cX8_way 29 = .ok (.invokevirtual 189, 3) := by decide +kernel
theorem dX8_way_32 : decode cX8_way 32 = .ok (.ifCond .ne 10, 3) := by decide +kernel
theorem dX8_way_35 : decode cX8_way 35 = .ok (.aload_n 0, 1) := by decide +kernel
theorem dX8_way_36 : decode cX8_way 36 = .ok (.bipush (-3), 2) := by decide +kernel
theorem dX8_way_38 : decode cX8_way 38 = .ok (.invokevirtual 179, 3) := by decide +kernel
theorem dX8_way_41 : decode cX8_way 41 = .ok (.ireturn, 1) := by decide +kernel
theorem dX8_way_42 : decode cX8_way 42 = .ok (.aload_n 0, 1) := by decide +kernel
theorem dX8_way_43 : decode cX8_way 43 = .ok (.invokevirtual 153, 3) := by decide +kernel
theorem dX8_way_46 : decode cX8_way 46 = .ok (.iload_n 2, 1) := by decide +kernel
theorem dX8_way_47 : decode cX8_way 47 = .ok (.tableswitch 73 0 4 #[33, 45, 52, 59, 66], 33) := by decide +kernel
theorem dX8_way_80 : decode cX8_way 80 = .ok (.aload_n 0, 1) := by decide +kernel
theorem dX8_way_81 : decode cX8_way 81 = .ok (.iload_n 1, 1) := by decide +kernel
theorem dX8_way_82 : decode cX8_way 82 = .ok (.aload_n 0, 1) := by decide +kernel
theorem dX8_way_83 : decode cX8_way 83 = .ok (.getfield 40, 3) := by decide +kernel
theorem dX8_way_86 : decode cX8_way 86 = .ok (.iload_n 1, 1) := by decide +kernel
theorem dX8_way_87 : decode cX8_way 87 = .ok (.iaload, 1) := by decide +kernel
theorem dX8_way_88 : decode cX8_way 88 = .ok (.invokevirtual 117, 3) := by decide +kernel
theorem dX8_way_91 : decode cX8_way 91 = .ok (.ireturn, 1) := by decide +kernel
theorem dX8_way_92 : decode cX8_way 92 = .ok (.aload_n 0, 1) := by decide +kernel
theorem dX8_way_93 : decode cX8_way 93 = .ok (.getfield 43, 3) := by decide +kernel
theorem dX8_way_96 : decode cX8_way 96 = .ok (.iload_n 1, 1) := by decide +kernel
theorem dX8_way_97 : decode cX8_way 97 = .ok (.iaload, 1) := by decide +kernel
theorem dX8_way_98 : decode cX8_way 98 = .ok (.ireturn, 1) := by decide +kernel
theorem dX8_way_99 : decode cX8_way 99 = .ok (.aload_n 0, 1) := by decide +kernel
theorem dX8_way_100 : decode cX8_way 100 = .ok (.getfield 46, 3) := by decide +kernel
theorem dX8_way_103 : decode cX8_way 103 = .ok (.iload_n 1, 1) := by decide +kernel
theorem dX8_way_104 : decode cX8_way 104 = .ok (.iaload, 1) := by decide +kernel
theorem dX8_way_105 : decode cX8_way 105 = .ok (.ireturn, 1) := by decide +kernel
theorem dX8_way_106 : decode cX8_way 106 = .ok (.aload_n 0, 1) := by decide +kernel
theorem dX8_way_107 : decode cX8_way 107 = .ok (.getfield 49, 3) := by decide +kernel
theorem dX8_way_110 : decode cX8_way 110 = .ok (.iload_n 1, 1) := by decide +kernel
theorem dX8_way_111 : decode cX8_way 111 = .ok (.iaload, 1) := by decide +kernel
theorem dX8_way_112 : decode cX8_way 112 = .ok (.ireturn, 1) := by decide +kernel
theorem dX8_way_113 : decode cX8_way 113 = .ok (.aload_n 0, 1) := by decide +kernel
theorem dX8_way_114 : decode cX8_way 114 = .ok (.getfield 52, 3) := by decide +kernel
theorem dX8_way_117 : decode cX8_way 117 = .ok (.iload_n 1, 1) := by decide +kernel
theorem dX8_way_118 : decode cX8_way 118 = .ok (.iaload, 1) := by decide +kernel
theorem dX8_way_119 : decode cX8_way 119 = .ok (.ireturn, 1) := by decide +kernel
theorem dX8_way_120 : decode cX8_way 120 = .ok (.aload_n 0, 1) := by decide +kernel
theorem dX8_way_121 : decode cX8_way 121 = .ok (.getfield 55, 3) := by decide +kernel
theorem dX8_way_124 : decode cX8_way 124 = .ok (.iload_n 1, 1) := by decide +kernel
theorem dX8_way_125 : decode cX8_way 125 = .ok (.iaload, 1) := by decide +kernel
theorem dX8_way_126 : decode cX8_way 126 = .ok (.ireturn, 1) := by decide +kernel
