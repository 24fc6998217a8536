theorem dX0_rank_11 : decode cX0_rank 11 = .ok (.aload_n 0, 1) := by decide +kernel
theorem dX0_rank_12 : decode cX0_rank 12 = .ok (.iconst 0, 1) := by decide +kernel
theorem dX0_rank_13 : decode cX0_rank 13 = .ok (.invokevirtual 137, 3) := by decide +kernel
theorem dX0_rank_16 : decode cX0_rank 16 = .ok (.getfield 104, 3) := by decide +kernel
theorem dX0_rank_19 : decode cX0_rank 19 = .ok (.invokevirtual 49, 3) := by decide +kernel
theorem dX0_rank_22 : decode cX0_rank 22 = .ok (.aload_n 0, 1) := by decide +kernel
theorem dX0_rank_23 : decode cX0_rank 23 = .ok (.iconst 0, 1) := by decide +kernel
theorem dX0_rank_24 : decode cX0_rank 24 = .ok (.invokevirtual 137, 3) := by decide +kernel
theorem dX0_rank_27 : decode cX0_rank 27 = .ok (.getfield 125, 3) := by decide +kernel
theorem dX0_rank_30 : decode cX0_rank 30 = .ok (.iadd, 1) := by decide +kernel
theorem dX0_rank_31 : decode cX0_rank 31 = .ok (.goto 4, 3) := by decide +kernel
theorem dX0_rank_34 : decode cX0_rank 34 = .ok (.iconst 0, 1) := by decide +kernel
theorem dX0_rank_35 : decode cX0_rank 35 = .ok (.ireturn, 1) := by decide +kernel
set_option maxRecDepth 20000 in
theorem ggX0_cost_X0_lookOf : GoodIn wsX0_cost wsX0_lookOf := goodIn_r _ [8, 9, 10, 11, 12, 13, 14, 15, 16] (by decide +kernel) (by decide +kernel)
set_option maxRecDepth 20000 in
theorem gX0_cost_X0_lookOf : GoodIn wsX0_cost (wsV RX0 137 RX0 yX0_lookOf wsX0_lookOf) := goodIn_app (goodIn_of _ (by decide +kernel)) ggX0_cost_X0_lookOf
theorem dX0_cost_0 : decode cX0_cost 0 = .ok (.iconst 0, 1) := by decide +kernel
theorem dX0_cost_1 : decode cX0_cost 1 = .ok (.istore_n 1, 1) := by decide +kernel
theorem dX0_cost_2 : decode cX0_cost 2 = .ok (.iconst 0, 1) := by decide +kernel
theorem dX0_cost_3 : decode cX0_cost 3 = .ok (.istore_n 2, 1) := by decide +kernel
theorem dX0_cost_4 : decode cX0_cost 4 = .ok (.iload_n 2, 1) := by decide +kernel
theorem dX0_cost_5 : decode cX0_cost 5 = .ok (.aload_n 0, 1) := by decide +kernel
theorem dX0_cost_6 : decode cX0_cost 6 = .ok (.getfield 12, 3) := by decide +kernel
theorem dX0_cost_9 : decode cX0_cost 9 = .ok (.getfield 134, 3) := by decide +kernel
theorem dX0_cost_12 : decode cX0_cost 12 = .ok (.if_icmp .ge 20, 3) := by decide +kernel
theorem dX0_cost_15 : decode cX0_cost 15 = .ok (.iload_n 1, 1) := by decide +kernel
theorem dX0_cost_16 : decode cX0_cost 16 = .ok (.aload_n 0, 1) := by decide +kernel
theorem dX0_cost_17 : decode cX0_cost 17 = .ok (.iload_n 2, 1) := by decide +kernel
theorem dX0_cost_18 : decode cX0_cost 18 = .ok (.invokevirtual 137, 3) := by decide +kernel
theorem dX0_cost_21 : decode cX0_cost 21 = .ok (.getfield 122, 3) := by decide +kernel
theorem dX0_cost_24 : decode cX0_cost 24 = .ok (.iadd, 1) := by decide +kernel
theorem dX0_cost_25 : decode cX0_cost 25 = .ok (.istore_n 1, 1) := by decide +kernel
theorem dX0_cost_26 : decode cX0_cost 26 = .ok (.iinc 2 1, 3) := by decide +kernel
theorem dX0_cost_29 : decode cX0_cost 29 = .ok (.goto (-25), 3) := by decide +kernel
theorem dX0_cost_32 : decode cX0_cost 32 = .ok (.iload_n 1, 1) := by decide +kernel
theorem dX0_cost_33 : decode cX0_cost 33 = .ok (.ireturn, 1) := by decide +kernel
set_option maxRecDepth 20000 in
theorem ggX0_insertIfNew_X0_walk : GoodIn wsX0_insertIfNew wsX0_walk := goodIn_r _ [7, 1, 8, 9, 10, 11, 12, 13, 14, 15, 16, 17, 18, 19, 6, 20, 21, 22, 23, 24, 25, 26, 27, 28, 29, 30, 31, 32, 33, 34, 35, 36, 37, 38, 39, 40, 41, 42, 43, 44, 45, 46, 47, 48, 49, 50, 51, 52, 53, 54, 55, 56, 57, 58, 59, 60, 61, 62, 63, 64, 65, 66, 67, 68, 69, 70, 71, 72, 73, 74, 75, 76, 77, 78, 79, 80, 81, 82, 83, 84, 85, 86, 87, 88, 89, 90, 91, 92, 93, 94, 95, 96, 97, 98, 99, 100, 101, 102, 103, 104, 105, 106, 107, 108, 109, 110, 168, 169, 170, 171, 172, 173, 174, 175, 176, 177, 178, 179, 180, 181, 182, 183, 184, 185, 186, 187, 188, 189, 190, 191, 192, 193, 194, 195] (by decide +kernel) (by decide +kernel)
set_option maxRecDepth 20000 in
theorem gX0_insertIfNew_X0_walk : GoodIn wsX0_insertIfNew (wsV RX0 148 RX0 yX0_walk wsX0_walk) := goodIn_app (goodIn_of _ (by decide +kernel)) ggX0_insertIfNew_X0_walk
set_option maxRecDepth 20000 in
theorem ggX0_insertIfNew_X0_isThere : GoodIn wsX0_insertIfNew wsX0_isThere := goodIn_r _ [114, 1, 115, 31, 17, 18, 19, 6, 20, 21, 168, 169, 170, 171, 172, 173, 174, 175, 176, 177, 178, 179, 180, 181, 182, 183, 184, 185, 186] (by decide +kernel) (by decide +kernel)
set_option maxRecDepth 20000 in
theorem gX0_insertIfNew_X0_isThere : GoodIn wsX0_insertIfNew (wsV RX0 152 RX0 yX0_isThere wsX0_isThere) := goodIn_app (goodIn_of _ (by decide +kernel)) ggX0_insertIfNew_X0_isThere
set_option maxRecDepth 20000 in
theorem ggX0_insertIfNew_X0_insert : GoodIn wsX0_insertIfNew wsX0_insert := goodIn_r _ [119, 1, 115, 8, 120, 121, 122, 6, 123, 28, 13, 17, 18, 19, 20, 21, 81, 82, 83, 84, 85, 124, 125, 126, 43, 127, 128, 90, 129, 130, 131, 70, 132, 72, 109, 133, 134, 135, 136, 45, 46, 137, 138, 139, 140, 141, 40, 41, 42, 44, 142, 143, 144, 145, 146, 147, 148, 149, 2, 26, 150, 151, 152, 153, 154, 39, 155, 156, 157, 158, 9, 10, 11, 12, 159, 35, 36, 37, 38, 160, 161, 162, 163, 77, 78, 79, 80, 86, 87, 88, 89, 91, 92, 93, 94, 95, 96, 97, 98, 99, 100, 101, 102, 103, 164, 165, 166, 50, 167, 62, 168, 169, 170, 171, 172, 173, 174, 175, 176, 177, 178, 179, 180, 181, 182, 183, 184, 185, 186, 194, 195, 187, 188, 189, 190, 191, 192, 193] (by decide +kernel) (by decide +kernel)
set_option maxRecDepth 20000 in
theorem gX0_insertIfNew_X0_insert : GoodIn wsX0_insertIfNew (wsV RX0 156 RX0 yX0_insert wsX0_insert) := goodIn_app (goodIn_of _ (by decide +kernel)) ggX0_insertIfNew_X0_insert
theorem dX0_insertIfNew_0 : decode cX0_insertIfNew 0 = .ok (.aload_n 0, 1) := by decide +kernel
theorem dX0_insertIfNew_1 : decode cX0_insertIfNew 1 = .ok (.aload_n 1, 1) := by decide +kernel
theorem dX0_insertIfNew_2 : decode cX0_insertIfNew 2 = .ok (.invokevirtual 148, 3) := by decide +kernel
theorem dX0_insertIfNew_5 : decode cX0_insertIfNew 5 = .ok (.aload_n 0, 1) := by decide +kernel
theorem dX0_insertIfNew_6 : decode cX0_insertIfNew 6 = .ok (.invokevirtual 152, 3) := by decide +kernel
theorem dX0_insertIfNew_9 : decode cX0_insertIfNew 9 = .ok (.ifCond .ne 15, 3) := by decide +kernel
theorem dX0_insertIfNew_12 : decode cX0_insertIfNew 12 = .ok (.aload_n 0, 1) := by decide +kernel
theorem dX0_insertIfNew_13 : decode cX0_insertIfNew 13 = .ok (.getfield 12, 3) := by decide +kernel
theorem dX0_insertIfNew_16 : decode cX0_insertIfNew 16 = .ok (.getfield 63, 3) := by decide +kernel
theorem dX0_insertIfNew_19 : decode cX0_insertIfNew 19 = .ok (.bipush 48, 2) := by decide +kernel
theorem dX0_insertIfNew_21 : decode cX0_insertIfNew 21 = .ok (.if_icmp .lt 5, 3) := by decide +kernel
theorem dX0_insertIfNew_24 : decode cX0_insertIfNew 24 = .ok (.iconst 0, 1) := by decide +kernel
theorem dX0_insertIfNew_25 : decode cX0_insertIfNew 25 = .ok (.ireturn, 1) := by decide +kernel
theorem dX0_insertIfNew_26 : decode cX0_insertIfNew 26 = .ok (.aload_n 0, 1) := by decide +kernel
theorem dX0_insertIfNew_27 : decode cX0_insertIfNew 27 = .ok (.aload_n 1, 1) := by decide +kernel
theorem dX0_insertIfNew_28 : decode cX0_insertIfNew 28 = .ok (.invokevirtual 156, 3) := by decide +kernel
theorem dX0_insertIfNew_31 : decode cX0_insertIfNew 31 = .ok (.iconst 1, 1) := by decide +kernel
theorem dX0_insertIfNew_32 : decode cX0_insertIfNew 32 = .ok (.ireturn, 1) := by decide +kernel
set_option maxRecDepth 20000 in
theorem ggX0_removeIfThere_X0_walk : GoodIn wsX0_removeIfThere wsX0_walk := goodIn_r _ [5, 6, 7, 8, 9, 10, 11, 12, 13, 14, 15, 16, 17, 18, 4, 19, 20, 21, 22, 23, 24, 25, 26, 27, 28, 29, 30, 31, 32, 33, 34, 35, 36, 37, 38, 39, 40, 41, 42, 43, 44, 45, 46, 47, 48, 49, 50, 51, 52, 53, 54, 55, 56, 57, 58, 59, 60, 61, 62, 63, 64, 65, 66, 67, 68, 69, 70, 71, 72, 73, 74, 75, 76, 77, 78, 79, 80, 81, 82, 83, 84, 85, 86, 87, 88, 89, 90, 91, 92, 93, 94, 95, 96, 97, 98, 99, 100, 101, 102, 103, 104, 105, 106, 107, 108, 109, 172, 173, 174, 175, 176, 177, 178, 179, 180, 181, 182, 183, 184, 185, 186, 187, 188, 189, 190, 191, 192, 193, 194, 195, 196, 197, 198, 199] (by decide +kernel) (by decide +kernel)
set_option maxRecDepth 20000 in
theorem gX0_removeIfThere_X0_walk : GoodIn wsX0_removeIfThere (wsV RX0 148 RX0 yX0_walk wsX0_walk) := goodIn_app (goodIn_of _ (by decide +kernel)) ggX0_removeIfThere_X0_walk
set_option maxRecDepth 20000 in
theorem ggX0_removeIfThere_X0_isThere : GoodIn wsX0_removeIfThere wsX0_isThere := goodIn_r _ [113, 6, 114, 30, 16, 17, 18, 4, 19, 20, 172, 173, 174, 175, 176, 177, 178, 179, 180, 181, 182, 183, 184, 185, 186, 187, 188, 189, 190] (by decide +kernel) (by decide +kernel)
set_option maxRecDepth 20000 in
theorem gX0_removeIfThere_X0_isThere : GoodIn wsX0_removeIfThere (wsV RX0 152 RX0 yX0_isThere wsX0_isThere) := goodIn_app (goodIn_of _ (by decide +kernel)) ggX0_removeIfThere_X0_isThere
set_option maxRecDepth 20000 in
theorem ggX0_removeIfThere_X0_remove : GoodIn wsX0_removeIfThere wsX0_remove := goodIn_r _ [118, 6, 119, 120, 121, 4, 122, 114, 27, 12, 16, 17, 18, 19, 20, 80, 81, 82, 83, 84, 123, 124, 125, 42, 126, 127, 89, 128, 129, 130, 131, 7, 132, 39, 40, 41, 43, 44, 45, 133, 134, 135, 136, 137, 138, 139, 140, 34, 35, 36, 37, 38, 141, 142, 143, 144, 145, 146, 147, 148, 149, 150, 151, 152, 153, 25, 154, 155, 156, 157, 158, 159, 160, 161, 162, 8, 9, 10, 11, 163, 164, 165, 166, 167, 76, 77, 78, 79, 85, 86, 87, 88, 90, 91, 92, 69, 93, 71, 94, 95, 96, 97, 98, 99, 100, 101, 102, 168, 169, 170, 49, 171, 61, 172, 173, 174, 175, 176, 177, 178, 179, 180, 181, 182, 183, 184, 185, 186, 187, 188, 189, 190, 198, 199, 191, 192, 193, 194, 195, 196, 197] (by decide +kernel) (by decide +kernel)
set_option maxRecDepth 20000 in
theorem gX0_removeIfThere_X0_remove : GoodIn wsX0_removeIfThere (wsV RX0 159 RX0 yX0_remove wsX0_remove) := goodIn_app (goodIn_of _ (by decide +kernel)) ggX0_removeIfThere_X0_remove
theorem dX0_removeIfThere_0 : decode cX0_removeIfThere 0 = .ok (.aload_n 0, 1) := by decide +kernel
theorem dX0_removeIfThere_1 : decode cX0_removeIfThere 1 = .ok (.aload_n 1, 1) := by decide +kernel
theorem dX0_removeIfThere_2 : decode cX0_removeIfThere 2 = .ok (.invokevirtual 148, 3) := by decide +kernel
theorem dX0_removeIfThere_5 : decode cX0_removeIfThere 5 = .ok (.aload_n 0, 1) := by decide +kernel
theorem dX0_removeIfThere_6 : decode cX0_removeIfThere 6 = .ok (.invokevirtual 152, 3) := by decide +kernel
theorem dX0_removeIfThere_9 : decode cX0_removeIfThere 9 = .ok (.ifCond .ne 5, 3) := by decide +kernel
theorem dX0_removeIfThere_12 : decode cX0_removeIfThere 12 = .ok (.iconst 0, 1) := by decide +kernel
theorem dX0_removeIfThere_13 : decode cX0_removeIfThere 13 = .ok (.ireturn, 1) := by decide +kernel
theorem dX0_removeIfThere_14 : decode cX0_removeIfThere 14 = .ok (.aload_n 0, 1) := by decide +kernel
theorem dX0_removeIfThere_15 : decode cX0_removeIfThere 15 = .ok (.invokevirtual 159, 3) := by decide +kernel
theorem dX0_removeIfThere_18 : decode cX0_removeIfThere 18 = .ok (.iconst 1, 1) := by decide +kernel
theorem dX0_removeIfThere_19 : decode cX0_removeIfThere 19 = .ok (.ireturn, 1) := by decide +kernel
set_option maxRecDepth 20000 in
theorem ggX0_insert_X0_rank : GoodIn wsX0_insert wsX0_rank := goodIn_r _ [8, 1, 2, 9, 10, 11, 12, 13, 7, 14, 15, 16, 17, 18, 19, 20, 110, 111, 112, 113, 114, 115, 116, 117, 118, 119, 120, 121, 122, 123, 124, 125, 126, 127, 128] (by decide +kernel) (by decide +kernel)
set_option maxRecDepth 20000 in
theorem gX0_insert_X0_rank : GoodIn wsX0_insert (wsV RX0 162 RX0 yX0_rank wsX0_rank) := goodIn_app (goodIn_of _ (by decide +kernel)) ggX0_insert_X0_rank
set_option maxRecDepth 20000 in
theorem ggX0_insert_X3_insertWord : GoodIn wsX0_insert wsX3_insertWord := goodIn_r _ [25, 26, 27, 28, 29, 30, 31, 32, 33, 34, 117, 118, 119, 120, 121, 122, 129, 130] (by decide +kernel) (by decide +kernel)
set_option maxRecDepth 20000 in
theorem gX0_insert_X3_insertWord : GoodIn wsX0_insert (wsV RX0 166 RX3 yX3_insertWord wsX3_insertWord) := goodIn_app (goodIn_of _ (by decide +kernel)) ggX0_insert_X3_insertWord
set_option maxRecDepth 20000 in
theorem ggX0_insert_X3_insertPage : GoodIn wsX0_insert wsX3_insertPage := goodIn_r _ [38, 39, 40, 117, 118, 119, 120, 121, 122] (by decide +kernel) (by decide +kernel)
set_option maxRecDepth 20000 in
theorem gX0_insert_X3_insertPage : GoodIn wsX0_insert (wsV RX0 170 RX3 yX3_insertPage wsX3_insertPage) := goodIn_app (goodIn_of _ (by decide +kernel)) ggX0_insert_X3_insertPage
set_option maxRecDepth 20000 in
theorem ggX0_insert_X0_growUpwards : GoodIn wsX0_insert wsX0_growUpwards := goodIn_r _ [44, 1, 3, 45, 9, 11, 12, 13, 7, 14, 15, 46, 47, 48, 24, 49, 39, 40, 50, 51, 52, 53, 35, 36, 37, 38, 110, 111, 112, 113, 114, 115, 116, 117, 118, 119, 120, 121, 122, 123, 124, 125, 126, 127, 128] (by decide +kernel) (by decide +kernel)
set_option maxRecDepth 20000 in
theorem gX0_insert_X0_growUpwards : GoodIn wsX0_insert (wsV RX0 173 RX0 yX0_growUpwards wsX0_growUpwards) := goodIn_app (goodIn_of _ (by decide +kernel)) ggX0_insert_X0_growUpwards
set_option maxRecDepth 20000 in
theorem ggX0_insert_X0_settle : GoodIn wsX0_insert wsX0_settle := goodIn_r _ [57, 1, 2, 58, 59, 60, 61, 62, 7, 63, 64, 65, 46, 47, 48, 24, 49, 39, 40, 66, 67, 68, 69, 20, 70, 71, 72, 73, 74, 75, 76, 77, 78, 16, 17, 18, 19, 79, 80, 81, 82, 83, 84, 85, 86, 87, 88, 89, 90, 27, 91, 92, 93, 31, 94, 33, 95, 96, 97, 98, 99, 100, 101, 102, 103, 104, 105, 106, 107, 108, 109, 110, 111, 112, 113, 114, 115, 116, 117, 118, 119, 120, 121, 122, 129, 130, 131, 132, 133, 134, 135, 136, 137] (by decide +kernel) (by decide +kernel)
set_option maxRecDepth 20000 in
theorem gX0_insert_X0_settle : GoodIn wsX0_insert (wsV RX0 176 RX0 yX0_settle wsX0_settle) := goodIn_app (goodIn_of _ (by decide +kernel)) ggX0_insert_X0_settle
theorem dX0_insert_0 : decode cX0_insert 0 = .ok (.aload_n 0, 1) := by decide +kernel
theorem dX0_insert_1 : decode cX0_insert 1 = .ok (.getfield 12, 3) := by decide +kernel
theorem dX0_insert_4 : decode cX0_insert 4 = .ok (.aload_n 0, 1) := by decide +kernel
theorem dX0_insert_5 : decode cX0_insert 5 = .ok (.invokevirtual 162, 3) := by decide +kernel
theorem dX0_insert_8 : decode cX0_insert 8 = .ok (.aload_n 1, 1) := by decide +kernel
theorem dX0_insert_9 : decode cX0_insert 9 = .ok (.invokevirtual 166, 3) := by decide +kernel
theorem dX0_insert_12 : decode cX0_insert 12 = .ok (.aload_n 0, 1) := by decide +kernel
theorem dX0_insert_13 : decode cX0_insert 13 = .ok (.getfield 12, 3) := by decide +kernel
theorem dX0_insert_16 : decode cX0_insert 16 = .ok (.getfield 45, 3) := by decide +kernel
theorem dX0_insert_19 : decode cX0_insert 19 = .ok (.ifCond .ne 23, 3) := by decide +kernel
theorem dX0_insert_22 : decode cX0_insert 22 = .ok (.aload_n 0, 1) := by decide +kernel
theorem dX0_insert_23 : decode cX0_insert 23 = .ok (.getfield 12, 3) := by decide +kernel
theorem dX0_insert_26 : decode cX0_insert 26 = .ok (.iconst 0, 1) := by decide +kernel
theorem dX0_insert_27 : decode cX0_insert 27 = .ok (.iconst 1, 1) := by decide +kernel
theorem dX0_insert_28 : decode cX0_insert 28 = .ok (.invokevirtual 170, 3) := by decide +kernel
theorem dX0_insert_31 : decode cX0_insert 31 = .ok (.aload_n 0, 1) := by decide +kernel
theorem dX0_insert_32 : decode cX0_insert 32 = .ok (.getfield 12, 3) := by decide +kernel
theorem dX0_insert_35 : decode cX0_insert 35 = .ok (.iconst 1, 1) := by decide +kernel
theorem dX0_insert_36 : decode cX0_insert 36 = .ok (.putfield 134, 3) := by decide +kernel
theorem dX0_insert_39 : decode cX0_insert 39 = .ok (.goto 7, 3) := by decide +kernel
theorem dX0_insert_42 : decode cX0_insert 42 = .ok (.aload_n 0, 1) := by decide +kernel
theorem dX0_insert_43 : decode cX0_insert 43 = .ok (.invokevirtual 173, 3) := by decide +kernel
theorem dX0_insert_46 : decode cX0_insert 46 = .ok (.aload_n 0, 1) := by decide +kernel
theorem dX0_insert_47 : decode cX0_insert 47 = .ok (.invokevirtual 176, 3) := by decide +kernel
theorem dX0_insert_50 : decode cX0_insert 50 = .ok (.return_, 1) := by decide +kernel
set_option maxRecDepth 20000 in
theorem ggX0_growUpwards_X0_lookOf : GoodIn wsX0_growUpwards wsX0_lookOf := goodIn_r _ [9, 10, 26, 27, 28, 29, 30, 31, 32] (by decide +kernel) (by decide +kernel)
set_option maxRecDepth 20000 in
theorem gX0_growUpwards_X0_lookOf : GoodIn wsX0_growUpwards (wsV RX0 137 RX0 yX0_lookOf wsX0_lookOf) := goodIn_app (goodIn_of _ (by decide +kernel)) ggX0_growUpwards_X0_lookOf
set_option maxRecDepth 20000 in
theorem ggX0_growUpwards_X3_entriesOf : GoodIn wsX0_growUpwards wsX3_entriesOf := goodIn_r _ [15, 16, 17, 33, 34, 35, 36, 37, 38] (by decide +kernel) (by decide +kernel)
set_option maxRecDepth 20000 in
theorem gX0_growUpwards_X3_entriesOf : GoodIn wsX0_growUpwards (wsV RX0 79 RX3 yX3_entriesOf wsX3_entriesOf) := goodIn_app (goodIn_of _ (by decide +kernel)) ggX0_growUpwards_X3_entriesOf
set_option maxRecDepth 20000 in
theorem ggX0_growUpwards_X3_setEntries : GoodIn wsX0_growUpwards wsX3_setEntries := goodIn_r _ [21, 16, 17, 33, 34, 35, 36, 37, 38] (by decide +kernel) (by decide +kernel)
set_option maxRecDepth 20000 in
theorem gX0_growUpwards_X3_setEntries : GoodIn wsX0_growUpwards (wsV RX0 182 RX3 yX3_setEntries wsX3_setEntries) := goodIn_app (goodIn_of _ (by decide +kernel)) ggX0_growUpwards_X3_setEntries
set_option maxRecDepth 20000 in
theorem ggX0_growUpwards_X3_insertPage : GoodIn wsX0_growUpwards wsX3_insertPage := goodIn_r _ [25, 16, 17, 33, 34, 35, 36, 37, 38] (by decide +kernel) (by decide +kernel)
set_option maxRecDepth 20000 in
theorem gX0_growUpwards_X3_insertPage : GoodIn wsX0_growUpwards (wsV RX0 170 RX3 yX3_insertPage wsX3_insertPage) := goodIn_app (goodIn_of _ (by decide +kernel)) ggX0_growUpwards_X3_insertPage
theorem dX0_growUpwards_0 : decode cX0_growUpwards 0 = .ok (.aload_n 0, 1) := by decide +kernel
theorem dX0_growUpwards_1 : decode cX0_growUpwards 1 = .ok (.getfield 12, 3) := by decide +kernel
theorem dX0_growUpwards_4 : decode cX0_growUpwards 4 = .ok (.getfield 134, 3) := by decide +kernel
theorem dX0_growUpwards_7 : decode cX0_growUpwards 7 = .ok (.istore_n 1, 1) := by decide +kernel
theorem dX0_growUpwards_8 : decode cX0_growUpwards 8 = .ok (.aload_n 0, 1) := by decide +kernel
theorem dX0_growUpwards_9 : decode cX0_growUpwards 9 = .ok (.getfield 12, 3) := by decide +kernel
theorem dX0_growUpwards_12 : decode cX0_growUpwards 12 = .ok (.getfield 179, 3) := by decide +kernel
theorem dX0_growUpwards_15 : decode cX0_growUpwards 15 = .ok (.iconst 2, 1) := by decide +kernel
theorem dX0_growUpwards_16 : decode cX0_growUpwards 16 = .ok (.iadd, 1) := by decide +kernel
theorem dX0_growUpwards_17 : decode cX0_growUpwards 17 = .ok (.iconst 2, 1) := by decide +kernel
theorem dX0_growUpwards_18 : decode cX0_growUpwards 18 = .ok (.idiv, 1) := by decide +kernel
theorem dX0_growUpwards_19 : decode cX0_growUpwards 19 = .ok (.istore_n 2, 1) := by decide +kernel
theorem dX0_growUpwards_20 : decode cX0_growUpwards 20 = .ok (.iconst 0, 1) := by decide +kernel
theorem dX0_growUpwards_21 : decode cX0_growUpwards 21 = .ok (.istore_n 3, 1) := by decide +kernel
theorem dX0_growUpwards_22 : decode cX0_growUpwards 22 = .ok (.iload_n 3, 1) := by decide +kernel
theorem dX0_growUpwards_23 : decode cX0_growUpwards 23 = .ok (.iload_n 1, 1) := by decide +kernel
theorem dX0_growUpwards_24 : decode cX0_growUpwards 24 = .ok (.if_icmp .ge 81, 3) := by decide +kernel
theorem dX0_growUpwards_27 : decode cX0_growUpwards 27 = .ok (.aload_n 0, 1) := by decide +kernel
theorem dX0_growUpwards_28 : decode cX0_growUpwards 28 = .ok (.iload_n 3, 1) := by decide +kernel
theorem dX0_growUpwards_29 : decode cX0_growUpwards 29 = .ok (.invokevirtual 137, 3) := by decide +kernel
theorem dX0_growUpwards_32 : decode cX0_growUpwards 32 = .ok (.getfield 104, 3) := by decide +kernel
theorem dX0_growUpwards_35 : decode cX0_growUpwards 35 = .ok (.istore 4, 2) := by decide +kernel
theorem dX0_growUpwards_37 : decode cX0_growUpwards 37 = .ok (.aload_n 0, 1) := by decide +kernel
theorem dX0_growUpwards_38 : decode cX0_growUpwards 38 = .ok (.getfield 12, 3) := by decide +kernel
theorem dX0_growUpwards_41 : decode cX0_growUpwards 41 = .ok (.iload 4, 2) := by decide +kernel
theorem dX0_growUpwards_43 : decode cX0_growUpwards 43 = .ok (.invokevirtual 79, 3) := by decide +kernel
theorem dX0_growUpwards_46 : decode cX0_growUpwards 46 = .ok (.iconst 1, 1) := by decide +kernel
theorem dX0_growUpwards_47 : decode cX0_growUpwards 47 = .ok (.iadd, 1) := by decide +kernel
theorem dX0_growUpwards_48 : decode cX0_growUpwards 48 = .ok (.istore 5, 2) := by decide +kernel
theorem dX0_growUpwards_50 : decode cX0_growUpwards 50 = .ok (.iload 5, 2) := by decide +kernel
theorem dX0_growUpwards_52 : decode cX0_growUpwards 52 = .ok (.aload_n 0, 1) := by decide +kernel
theorem dX0_growUpwards_53 : decode cX0_growUpwards 53 = .ok (.getfield 12, 3) := by decide +kernel
theorem dX0_growUpwards_56 : decode cX0_growUpwards 56 = .ok (.getfield 179, 3) := by decide +kernel
theorem dX0_growUpwards_59 : decode cX0_growUpwards 59 = .ok (.if_icmp .gt 15, 3) := by decide +kernel
theorem dX0_growUpwards_62 : decode cX0_growUpwards 62 = .ok (.aload_n 0, 1) := by decide +kernel
theorem dX0_growUpwards_63 : decode cX0_growUpwards 63 = .ok (.getfield 12, 3) := by decide +kernel
theorem dX0_growUpwards_66 : decode cX0_growUpwards 66 = .ok (.iload 4, 2) := by decide +kernel
theorem dX0_growUpwards_68 : decode cX0_growUpwards 68 = .ok (.iload 5, 2) := by decide +kernel
theorem dX0_growUpwards_70 : decode cX0_growUpwards 70 = .ok (.invokevirtual 182, 3) := by decide +kernel
theorem dX0_growUpwards_73 : decode cX0_growUpwards 73 = .ok (.return_, 1) := by decide +kernel
theorem dX0_growUpwards_74 : decode cX0_growUpwards 74 = .ok (.aload_n 0, 1) := by decide +kernel
theorem dX0_growUpwards_75 : decode cX0_growUpwards 75 = .ok (.getfield 12, 3) := by decide +kernel
theorem dX0_growUpwards_78 : decode cX0_growUpwards 78 = .ok (.iload 4, 2) := by decide +kernel
theorem dX0_growUpwards_80 : decode cX0_growUpwards 80 = .ok (.iload_n 2, 1) := by decide +kernel
theorem dX0_growUpwards_81 : decode cX0_growUpwards 81 = .ok (.invokevirtual 182, 3) := by decide +kernel
theorem dX0_growUpwards_84 : decode cX0_growUpwards 84 = .ok (.aload_n 0, 1) := by decide +kernel
theorem dX0_growUpwards_85 : decode cX0_growUpwards 85 = .ok (.getfield 12, 3) := by decide +kernel
theorem dX0_growUpwards_88 : decode cX0_growUpwards 88 = .ok (.iload 4, 2) := by decide +kernel
theorem dX0_growUpwards_90 : decode cX0_growUpwards 90 = .ok (.iconst 1, 1) := by decide +kernel
theorem dX0_growUpwards_91 : decode cX0_growUpwards 91 = .ok (.iadd, 1) := by decide +kernel
theorem dX0_growUpwards_92 : decode cX0_growUpwards 92 = .ok (.iload 5, 2) := by decide +kernel
theorem dX0_growUpwards_94 : decode cX0_growUpwards 94 = .ok (.iload_n 2, 1) := by decide +kernel
theorem dX0_growUpwards_95 : decode cX0_growUpwards 95 = .ok (.isub, 1) := by decide +kernel
theorem dX0_growUpwards_96 : decode cX0_growUpwards 96 = .ok (.invokevirtual 170, 3) := by decide +kernel
theorem dX0_growUpwards_99 : decode cX0_growUpwards 99 = .ok (.iinc 3 1, 3) := by decide +kernel
theorem dX0_growUpwards_102 : decode cX0_growUpwards 102 = .ok (.goto (-80), 3) := by decide +kernel
theorem dX0_growUpwards_105 : decode cX0_growUpwards 105 = .ok (.aload_n 0, 1) := by decide +kernel
theorem dX0_growUpwards_106 : decode cX0_growUpwards 106 = .ok (.getfield 12, 3) := by decide +kernel
theorem dX0_growUpwards_109 : decode cX0_growUpwards 109 = .ok (.iconst 0, 1) := by decide +kernel
theorem dX0_growUpwards_110 : decode cX0_growUpwards 110 = .ok (.iconst 2, 1) := by decide +kernel
theorem dX0_growUpwards_111 : decode cX0_growUpwards 111 = .ok (.invokevirtual 170, 3) := by decide +kernel
theorem dX0_growUpwards_114 : decode cX0_growUpwards 114 = .ok (.aload_n 0, 1) := by decide +kernel
theorem dX0_growUpwards_115 : decode cX0_growUpwards 115 = .ok (.getfield 12, 3) := by decide +kernel
theorem dX0_growUpwards_118 : decode cX0_growUpwards 118 = .ok (.dup, 1) := by decide +kernel
theorem dX0_growUpwards_119 : decode cX0_growUpwards 119 = .ok (.getfield 134, 3) := by decide +kernel
theorem dX0_growUpwards_122 : decode cX0_growUpwards 122 = .ok (.iconst 1, 1) := by decide +kernel
theorem dX0_growUpwards_123 : decode cX0_growUpwards 123 = .ok (.iadd, 1) := by decide +kernel
theorem dX0_growUpwards_124 : decode cX0_growUpwards 124 = .ok (.putfield 134, 3) := by decide +kernel
theorem dX0_growUpwards_127 : decode cX0_growUpwards 127 = .ok (.return_, 1) := by decide +kernel
set_option maxRecDepth 20000 in
theorem ggX0_remove_X0_rank : GoodIn wsX0_remove wsX0_rank := goodIn_r _ [6, 1, 7, 8, 9, 10, 11, 12, 5, 13, 14, 15, 16, 17, 18, 19, 113, 114, 115, 116, 117, 118, 119, 120, 121, 122, 123, 124, 125, 126, 127, 128, 129, 130, 131] (by decide +kernel) (by decide +kernel)
set_option maxRecDepth 20000 in
theorem gX0_remove_X0_rank : GoodIn wsX0_remove (wsV RX0 162 RX0 yX0_rank wsX0_rank) := goodIn_app (goodIn_of _ (by decide +kernel)) ggX0_remove_X0_rank
set_option maxRecDepth 20000 in
theorem ggX0_remove_X3_removeWord : GoodIn wsX0_remove wsX3_removeWord := goodIn_r _ [24, 25, 26, 120, 121, 122, 123, 124, 125] (by decide +kernel) (by decide +kernel)
set_option maxRecDepth 20000 in
theorem gX0_remove_X3_removeWord : GoodIn wsX0_remove (wsV RX0 185 RX3 yX3_removeWord wsX3_removeWord) := goodIn_app (goodIn_of _ (by decide +kernel)) ggX0_remove_X3_removeWord
set_option maxRecDepth 20000 in
theorem ggX0_remove_X0_shrinkUpwards : GoodIn wsX0_remove wsX0_shrinkUpwards := goodIn_r _ [30, 1, 31, 8, 32, 10, 11, 12, 5, 13, 14, 33, 34, 35, 23, 36, 37, 38, 39, 40, 41, 42, 43, 44, 45, 46, 47, 48, 49, 50, 51, 52, 53, 54, 55, 113, 114, 115, 116, 117, 118, 119, 120, 121, 122, 123, 124, 125, 126, 127, 128, 129, 130, 131] (by decide +kernel) (by decide +kernel)
set_option maxRecDepth 20000 in
theorem gX0_remove_X0_shrinkUpwards : GoodIn wsX0_remove (wsV RX0 189 RX0 yX0_shrinkUpwards wsX0_shrinkUpwards) := goodIn_app (goodIn_of _ (by decide +kernel)) ggX0_remove_X0_shrinkUpwards
set_option maxRecDepth 20000 in
theorem ggX0_remove_X0_dropTops : GoodIn wsX0_remove wsX0_dropTops := goodIn_r _ [59, 1, 31, 60, 7, 33, 34, 35, 23, 36, 37, 38, 52, 53, 54, 55, 113, 114, 115, 116, 117, 118, 119, 120, 121, 122, 123, 124, 125] (by decide +kernel) (by decide +kernel)
set_option maxRecDepth 20000 in
theorem gX0_remove_X0_dropTops : GoodIn wsX0_remove (wsV RX0 192 RX0 yX0_dropTops wsX0_dropTops) := goodIn_app (goodIn_of _ (by decide +kernel)) ggX0_remove_X0_dropTops
set_option maxRecDepth 20000 in
theorem ggX0_remove_X0_settle : GoodIn wsX0_remove wsX0_settle := goodIn_r _ [64, 1, 7, 60, 65, 66, 67, 68, 5, 69, 70, 51, 33, 34, 35, 23, 36, 37, 38, 71, 72, 73, 74, 19, 75, 76, 77, 78, 79, 47, 48, 49, 50, 15, 16, 17, 18, 80, 81, 82, 83, 84, 85, 86, 87, 88, 89, 90, 91, 26, 92, 93, 94, 95, 96, 97, 98, 99, 100, 101, 102, 103, 104, 105, 106, 107, 108, 109, 110, 111, 112, 113, 114, 115, 116, 117, 118, 119, 120, 121, 122, 123, 124, 125, 132, 133, 134, 135, 136, 137, 138, 139, 140] (by decide +kernel) (by decide +kernel)
set_option maxRecDepth 20000 in
theorem gX0_remove_X0_settle : GoodIn wsX0_remove (wsV RX0 176 RX0 yX0_settle wsX0_settle) := goodIn_app (goodIn_of _ (by decide +kernel)) ggX0_remove_X0_settle
theorem dX0_remove_0 : decode cX0_remove 0 = .ok (.aload_n 0, 1) := by decide +kernel
theorem dX0_remove_1 : decode cX0_remove 1 = .ok (.getfield 12, 3) := by decide +kernel
theorem dX0_remove_4 : decode cX0_remove 4 = .ok (.aload_n 0, 1) := by decide +kernel
theorem dX0_remove_5 : decode cX0_remove 5 = .ok (.invokevirtual 162, 3) := by decide +kernel
theorem dX0_remove_8 : decode cX0_remove 8 = .ok (.iconst 1, 1) := by decide +kernel
theorem dX0_remove_9 : decode cX0_remove 9 = .ok (.isub, 1) := by decide +kernel
theorem dX0_remove_10 : decode cX0_remove 10 = .ok (.invokevirtual 185, 3) := by decide +kernel
theorem dX0_remove_13 : decode cX0_remove 13 = .ok (.aload_n 0, 1) := by decide +kernel
theorem dX0_remove_14 : decode cX0_remove 14 = .ok (.invokevirtual 189, 3) := by decide +kernel
theorem dX0_remove_17 : decode cX0_remove 17 = .ok (.aload_n 0, 1) := by decide +kernel
theorem dX0_remove_18 : decode cX0_remove 18 = .ok (.invokevirtual 192, 3) := by decide +kernel
theorem dX0_remove_21 : decode cX0_remove 21 = .ok (.aload_n 0, 1) := by decide +kernel
theorem dX0_remove_22 : decode cX0_remove 22 = .ok (.invokevirtual 176, 3) := by decide +kernel
theorem dX0_remove_25 : decode cX0_remove 25 = .ok (.return_, 1) := by decide +kernel
set_option maxRecDepth 20000 in
theorem ggX0_shrinkUpwards_X0_lookOf : GoodIn wsX0_shrinkUpwards wsX0_lookOf := goodIn_r _ [9, 10, 35, 36, 37, 38, 39, 40, 41] (by decide +kernel) (by decide +kernel)
set_option maxRecDepth 20000 in
theorem gX0_shrinkUpwards_X0_lookOf : GoodIn wsX0_shrinkUpwards (wsV RX0 137 RX0 yX0_lookOf wsX0_lookOf) := goodIn_app (goodIn_of _ (by decide +kernel)) ggX0_shrinkUpwards_X0_lookOf
set_option maxRecDepth 20000 in
theorem ggX0_shrinkUpwards_X3_entriesOf : GoodIn wsX0_shrinkUpwards wsX3_entriesOf := goodIn_r _ [15, 16, 17, 42, 43, 44, 45, 46, 47] (by decide +kernel) (by decide +kernel)
set_option maxRecDepth 20000 in
theorem gX0_shrinkUpwards_X3_entriesOf : GoodIn wsX0_shrinkUpwards (wsV RX0 79 RX3 yX3_entriesOf wsX3_entriesOf) := goodIn_app (goodIn_of _ (by decide +kernel)) ggX0_shrinkUpwards_X3_entriesOf
set_option maxRecDepth 20000 in
theorem ggX0_shrinkUpwards_X3_setEntries : GoodIn wsX0_shrinkUpwards wsX3_setEntries := goodIn_r _ [21, 16, 17, 42, 43, 44, 45, 46, 47] (by decide +kernel) (by decide +kernel)
set_option maxRecDepth 20000 in
theorem gX0_shrinkUpwards_X3_setEntries : GoodIn wsX0_shrinkUpwards (wsV RX0 182 RX3 yX3_setEntries wsX3_setEntries) := goodIn_app (goodIn_of _ (by decide +kernel)) ggX0_shrinkUpwards_X3_setEntries
set_option maxRecDepth 20000 in
theorem ggX0_shrinkUpwards_X0_joins : GoodIn wsX0_shrinkUpwards wsX0_joins := goodIn_r _ [25, 1, 4, 26, 27, 28, 8, 29, 30, 11, 12, 13, 14, 15, 16, 17, 18, 19, 20, 21, 31, 32, 33, 34, 35, 36, 37, 38, 39, 40, 41, 42, 43, 44, 45, 46, 47] (by decide +kernel) (by decide +kernel)
set_option maxRecDepth 20000 in
theorem gX0_shrinkUpwards_X0_joins : GoodIn wsX0_shrinkUpwards (wsV RX0 195 RX0 yX0_joins wsX0_joins) := goodIn_app (goodIn_of _ (by decide +kernel)) ggX0_shrinkUpwards_X0_joins
theorem dX0_shrinkUpwards_0 : decode cX0_shrinkUpwards 0 = .ok (.iconst 1, 1) := by decide +kernel
theorem dX0_shrinkUpwards_1 : decode cX0_shrinkUpwards 1 = .ok (.istore_n 1, 1) := by decide +kernel
theorem dX0_shrinkUpwards_2 : decode cX0_shrinkUpwards 2 = .ok (.iconst 0, 1) := by decide +kernel
theorem dX0_shrinkUpwards_3 : decode cX0_shrinkUpwards 3 = .ok (.istore_n 2, 1) := by decide +kernel
theorem dX0_shrinkUpwards_4 : decode cX0_shrinkUpwards 4 = .ok (.iload_n 2, 1) := by decide +kernel
theorem dX0_shrinkUpwards_5 : decode cX0_shrinkUpwards 5 = .ok (.aload_n 0, 1) := by decide +kernel
theorem dX0_shrinkUpwards_6 : decode cX0_shrinkUpwards 6 = .ok (.getfield 12, 3) := by decide +kernel
theorem dX0_shrinkUpwards_9 : decode cX0_shrinkUpwards 9 = .ok (.getfield 134, 3) := by decide +kernel
theorem dX0_shrinkUpwards_12 : decode cX0_shrinkUpwards 12 = .ok (.if_icmp .ge 107, 3) := by decide +kernel
theorem dX0_shrinkUpwards_15 : decode cX0_shrinkUpwards 15 = .ok (.iload_n 1, 1) := by decide +kernel
theorem dX0_shrinkUpwards_16 : decode cX0_shrinkUpwards 16 = .ok (.ifCond .eq 103, 3) := by decide +kernel
theorem dX0_shrinkUpwards_19 : decode cX0_shrinkUpwards 19 = .ok (.aload_n 0, 1) := by decide +kernel
theorem dX0_shrinkUpwards_20 : decode cX0_shrinkUpwards 20 = .ok (.iload_n 2, 1) := by decide +kernel
theorem dX0_shrinkUpwards_21 : decode cX0_shrinkUpwards 21 = .ok (.invokevirtual 137, 3) := by decide +kernel
theorem dX0_shrinkUpwards_24 : decode cX0_shrinkUpwards 24 = .ok (.getfield 104, 3) := by decide +kernel
theorem dX0_shrinkUpwards_27 : decode cX0_shrinkUpwards 27 = .ok (.istore_n 3, 1) := by decide +kernel
theorem dX0_shrinkUpwards_28 : decode cX0_shrinkUpwards 28 = .ok (.aload_n 0, 1) := by decide +kernel
theorem dX0_shrinkUpwards_29 : decode cX0_shrinkUpwards 29 = .ok (.getfield 12, 3) := by decide +kernel
theorem dX0_shrinkUpwards_32 : decode cX0_shrinkUpwards 32 = .ok (.iload_n 3, 1) := by decide +kernel
theorem dX0_shrinkUpwards_33 : decode cX0_shrinkUpwards 33 = .ok (.invokevirtual 79, 3) := by decide +kernel
theorem dX0_shrinkUpwards_36 : decode cX0_shrinkUpwards 36 = .ok (.iconst 1, 1) := by decide +kernel
theorem dX0_shrinkUpwards_37 : decode cX0_shrinkUpwards 37 = .ok (.isub, 1) := by decide +kernel
theorem dX0_shrinkUpwards_38 : decode cX0_shrinkUpwards 38 = .ok (.istore 4, 2) := by decide +kernel
theorem dX0_shrinkUpwards_40 : decode cX0_shrinkUpwards 40 = .ok (.aload_n 0, 1) := by decide +kernel
theorem dX0_shrinkUpwards_41 : decode cX0_shrinkUpwards 41 = .ok (.getfield 12, 3) := by decide +kernel
theorem dX0_shrinkUpwards_44 : decode cX0_shrinkUpwards 44 = .ok (.iload_n 3, 1) := by decide +kernel
theorem dX0_shrinkUpwards_45 : decode cX0_shrinkUpwards 45 = .ok (.iload 4, 2) := by decide +kernel
theorem dX0_shrinkUpwards_47 : decode cX0_shrinkUpwards 47 = .ok (.invokevirtual 182, 3) := by decide +kernel
theorem dX0_shrinkUpwards_50 : decode cX0_shrinkUpwards 50 = .ok (.iload_n 2, 1) := by decide +kernel
theorem dX0_shrinkUpwards_51 : decode cX0_shrinkUpwards 51 = .ok (.aload_n 0, 1) := by decide +kernel
theorem dX0_shrinkUpwards_52 : decode cX0_shrinkUpwards 52 = .ok (.getfield 12, 3) := by decide +kernel
theorem dX0_shrinkUpwards_55 : decode cX0_shrinkUpwards 55 = .ok (.getfield 134, 3) := by decide +kernel
theorem dX0_shrinkUpwards_58 : decode cX0_shrinkUpwards 58 = .ok (.iconst 1, 1) := by decide +kernel
theorem dX0_shrinkUpwards_59 : decode cX0_shrinkUpwards 59 = .ok (.isub, 1) := by decide +kernel
theorem dX0_shrinkUpwards_60 : decode cX0_shrinkUpwards 60 = .ok (.if_icmp .ne 7, 3) := by decide +kernel
theorem dX0_shrinkUpwards_63 : decode cX0_shrinkUpwards 63 = .ok (.iconst 1, 1) := by decide +kernel
theorem dX0_shrinkUpwards_64 : decode cX0_shrinkUpwards 64 = .ok (.goto 4, 3) := by decide +kernel
theorem dX0_shrinkUpwards_67 : decode cX0_shrinkUpwards 67 = .ok (.iconst 0, 1) := by decide +kernel
theorem dX0_shrinkUpwards_68 : decode cX0_shrinkUpwards 68 = .ok (.istore 5, 2) := by decide +kernel
theorem dX0_shrinkUpwards_70 : decode cX0_shrinkUpwards 70 = .ok (.iload 5, 2) := by decide +kernel
theorem dX0_shrinkUpwards_72 : decode cX0_shrinkUpwards 72 = .ok (.ifCond .ne 39, 3) := by decide +kernel
theorem dX0_shrinkUpwards_75 : decode cX0_shrinkUpwards 75 = .ok (.iload 4, 2) := by decide +kernel
theorem dX0_shrinkUpwards_77 : decode cX0_shrinkUpwards 77 = .ok (.aload_n 0, 1) := by decide +kernel
theorem dX0_shrinkUpwards_78 : decode cX0_shrinkUpwards 78 = .ok (.getfield 12, 3) := by decide +kernel
theorem dX0_shrinkUpwards_81 : decode cX0_shrinkUpwards 81 = .ok (.getfield 179, 3) := by decide +kernel
theorem dX0_shrinkUpwards_84 : decode cX0_shrinkUpwards 84 = .ok (.iconst 2, 1) := by decide +kernel
theorem dX0_shrinkUpwards_85 : decode cX0_shrinkUpwards 85 = .ok (.idiv, 1) := by decide +kernel
theorem dX0_shrinkUpwards_86 : decode cX0_shrinkUpwards 86 = .ok (.if_icmp .ge 25, 3) := by decide +kernel
theorem dX0_shrinkUpwards_89 : decode cX0_shrinkUpwards 89 = .ok (.aload_n 0, 1) := by decide +kernel
theorem dX0_shrinkUpwards_90 : decode cX0_shrinkUpwards 90 = .ok (.iload_n 3, 1) := by decide +kernel
theorem dX0_shrinkUpwards_91 : decode cX0_shrinkUpwards 91 = .ok (.aload_n 0, 1) := by decide +kernel
theorem dX0_shrinkUpwards_92 : decode cX0_shrinkUpwards 92 = .ok (.iload_n 2, 1) := by decide +kernel
theorem dX0_shrinkUpwards_93 : decode cX0_shrinkUpwards 93 = .ok (.iconst 1, 1) := by decide +kernel
theorem dX0_shrinkUpwards_94 : decode cX0_shrinkUpwards 94 = .ok (.iadd, 1) := by decide +kernel
theorem dX0_shrinkUpwards_95 : decode cX0_shrinkUpwards 95 = .ok (.invokevirtual 137, 3) := by decide +kernel
theorem dX0_shrinkUpwards_98 : decode cX0_shrinkUpwards 98 = .ok (.getfield 104, 3) := by decide +kernel
theorem dX0_shrinkUpwards_101 : decode cX0_shrinkUpwards 101 = .ok (.invokevirtual 195, 3) := by decide +kernel
theorem dX0_shrinkUpwards_104 : decode cX0_shrinkUpwards 104 = .ok (.ifCond .eq 7, 3) := by decide +kernel
theorem dX0_shrinkUpwards_107 : decode cX0_shrinkUpwards 107 = .ok (.iconst 1, 1) := by decide +kernel
theorem dX0_shrinkUpwards_108 : decode cX0_shrinkUpwards 108 = .ok (.goto 4, 3) := by decide +kernel
theorem dX0_shrinkUpwards_111 : decode cX0_shrinkUpwards 111 = .ok (.iconst 0, 1) := by decide +kernel
theorem dX0_shrinkUpwards_112 : decode cX0_shrinkUpwards 112 = .ok (.istore_n 1, 1) := by decide +kernel
theorem dX0_shrinkUpwards_113 : decode cX0_shrinkUpwards 113 = .ok (.iinc 2 1, 3) := by decide +kernel
theorem dX0_shrinkUpwards_116 : decode cX0_shrinkUpwards 116 = .ok (.goto (-112), 3) := by decide +kernel
theorem dX0_shrinkUpwards_119 : decode cX0_shrinkUpwards 119 = .ok (.return_, 1) := by decide +kernel
set_option maxRecDepth 20000 in
theorem ggX0_joins_X0_firstOf : GoodIn wsX0_joins wsX0_firstOf := goodIn_r _ [7, 8, 24, 25, 26, 27, 28, 29, 30] (by decide +kernel) (by decide +kernel)
set_option maxRecDepth 20000 in
theorem gX0_joins_X0_firstOf : GoodIn wsX0_joins (wsV RX0 88 RX0 yX0_firstOf wsX0_firstOf) := goodIn_app (goodIn_of _ (by decide +kernel)) ggX0_joins_X0_firstOf
set_option maxRecDepth 20000 in
theorem ggX0_joins_X3_entriesOf : GoodIn wsX0_joins wsX3_entriesOf := goodIn_r _ [13, 14, 15, 31, 32, 33, 34, 35, 36] (by decide +kernel) (by decide +kernel)
set_option maxRecDepth 20000 in
theorem gX0_joins_X3_entriesOf : GoodIn wsX0_joins (wsV RX0 79 RX3 yX3_entriesOf wsX3_entriesOf) := goodIn_app (goodIn_of _ (by decide +kernel)) ggX0_joins_X3_entriesOf
set_option maxRecDepth 20000 in
theorem ggX0_joins_X3_setEntries : GoodIn wsX0_joins wsX3_setEntries := goodIn_r _ [19, 14, 15, 31, 32, 33, 34, 35, 36] (by decide +kernel) (by decide +kernel)
set_option maxRecDepth 20000 in
theorem gX0_joins_X3_setEntries : GoodIn wsX0_joins (wsV RX0 182 RX3 yX3_setEntries wsX3_setEntries) := goodIn_app (goodIn_of _ (by decide +kernel)) ggX0_joins_X3_setEntries
set_option maxRecDepth 20000 in
theorem ggX0_joins_X3_removePage : GoodIn wsX0_joins wsX3_removePage := goodIn_r _ [23, 14, 15, 31, 32, 33, 34, 35, 36] (by decide +kernel) (by decide +kernel)
set_option maxRecDepth 20000 in
theorem gX0_joins_X3_removePage : GoodIn wsX0_joins (wsV RX0 199 RX3 yX3_removePage wsX3_removePage) := goodIn_app (goodIn_of _ (by decide +kernel)) ggX0_joins_X3_removePage
theorem dX0_joins_0 : decode cX0_joins 0 = .ok (.iload_n 1, 1) := by decide +kernel
theorem dX0_joins_1 : decode cX0_joins 1 = .ok (.aload_n 0, 1) := by decide +kernel
theorem dX0_joins_2 : decode cX0_joins 2 = .ok (.iload_n 2, 1) := by decide +kernel
theorem dX0_joins_3 : decode cX0_joins 3 = .ok (.invokevirtual 88, 3) := by decide +kernel
theorem dX0_joins_6 : decode cX0_joins 6 = .ok (.aload_n 0, 1) := by decide +kernel
theorem dX0_joins_7 : decode cX0_joins 7 = .ok (.getfield 12, 3) := by decide +kernel
theorem dX0_joins_10 : decode cX0_joins 10 = .ok (.iload_n 2, 1) := by decide +kernel
theorem dX0_joins_11 : decode cX0_joins 11 = .ok (.invokevirtual 79, 3) := by decide +kernel
theorem dX0_joins_14 : decode cX0_joins 14 = .ok (.iadd, 1) := by decide +kernel
theorem dX0_joins_15 : decode cX0_joins 15 = .ok (.iconst 1, 1) := by decide +kernel
theorem dX0_joins_16 : decode cX0_joins 16 = .ok (.isub, 1) := by decide +kernel
theorem dX0_joins_17 : decode cX0_joins 17 = .ok (.if_icmp .ne 7, 3) := by decide +kernel
theorem dX0_joins_20 : decode cX0_joins 20 = .ok (.iconst 1, 1) := by decide +kernel
theorem dX0_joins_21 : decode cX0_joins 21 = .ok (.goto 4, 3) := by decide +kernel
theorem dX0_joins_24 : decode cX0_joins 24 = .ok (.iconst 0, 1) := by decide +kernel
theorem dX0_joins_25 : decode cX0_joins 25 = .ok (.istore_n 3, 1) := by decide +kernel
theorem dX0_joins_26 : decode cX0_joins 26 = .ok (.iload_n 3, 1) := by decide +kernel
theorem dX0_joins_27 : decode cX0_joins 27 = .ok (.ifCond .eq 9, 3) := by decide +kernel
theorem dX0_joins_30 : decode cX0_joins 30 = .ok (.iload_n 1, 1) := by decide +kernel
theorem dX0_joins_31 : decode cX0_joins 31 = .ok (.iconst 1, 1) := by decide +kernel
theorem dX0_joins_32 : decode cX0_joins 32 = .ok (.isub, 1) := by decide +kernel
theorem dX0_joins_33 : decode cX0_joins 33 = .ok (.goto 4, 3) := by decide +kernel
theorem dX0_joins_36 : decode cX0_joins 36 = .ok (.iload_n 1, 1) := by decide +kernel
theorem dX0_joins_37 : decode cX0_joins 37 = .ok (.istore 4, 2) := by decide +kernel
theorem dX0_joins_39 : decode cX0_joins 39 = .ok (.aload_n 0, 1) := by decide +kernel
theorem dX0_joins_40 : decode cX0_joins 40 = .ok (.getfield 12, 3) := by decide +kernel
theorem dX0_joins_43 : decode cX0_joins 43 = .ok (.iload 4, 2) := by decide +kernel
theorem dX0_joins_45 : decode cX0_joins 45 = .ok (.invokevirtual 79, 3) := by decide +kernel
theorem dX0_joins_48 : decode cX0_joins 48 = .ok (.aload_n 0, 1) := by decide +kernel
theorem dX0_joins_49 : decode cX0_joins 49 = .ok (.getfield 12, 3) := by decide +kernel
theorem dX0_joins_52 : decode cX0_joins 52 = .ok (.iload 4, 2) := by decide +kernel
theorem dX0_joins_54 : decode cX0_joins 54 = .ok (.iconst 1, 1) := by decide +kernel
theorem dX0_joins_55 : decode cX0_joins 55 = .ok (.iadd, 1) := by decide +kernel
theorem dX0_joins_56 : decode cX0_joins 56 = .ok (.invokevirtual 79, 3) := by decide +kernel
theorem dX0_joins_59 : decode cX0_joins 59 = .ok (.iadd, 1) := by decide +kernel
theorem dX0_joins_60 : decode cX0_joins 60 = .ok (.istore 5, 2) := by decide +kernel
theorem dX0_joins_62 : decode cX0_joins 62 = .ok (.iload 5, 2) := by decide +kernel
theorem dX0_joins_64 : decode cX0_joins 64 = .ok (.aload_n 0, 1) := by decide +kernel
theorem dX0_joins_65 : decode cX0_joins 65 = .ok (.getfield 12, 3) := by decide +kernel
theorem dX0_joins_68 : decode cX0_joins 68 = .ok (.getfield 179, 3) := by decide +kernel
theorem dX0_joins_71 : decode cX0_joins 71 = .ok (.if_icmp .gt 27, 3) := by decide +kernel
theorem dX0_joins_74 : decode cX0_joins 74 = .ok (.aload_n 0, 1) := by decide +kernel
theorem dX0_joins_75 : decode cX0_joins 75 = .ok (.getfield 12, 3) := by decide +kernel
theorem dX0_joins_78 : decode cX0_joins 78 = .ok (.iload 4, 2) := by decide +kernel
theorem dX0_joins_80 : decode cX0_joins 80 = .ok (.iload 5, 2) := by decide +kernel
theorem dX0_joins_82 : decode cX0_joins 82 = .ok (.invokevirtual 182, 3) := by decide +kernel
theorem dX0_joins_85 : decode cX0_joins 85 = .ok (.aload_n 0, 1) := by decide +kernel
theorem dX0_joins_86 : decode cX0_joins 86 = .ok (.getfield 12, 3) := by decide +kernel
theorem dX0_joins_89 : decode cX0_joins 89 = .ok (.iload 4, 2) := by decide +kernel
theorem dX0_joins_91 : decode cX0_joins 91 = .ok (.iconst 1, 1) := by decide +kernel
theorem dX0_joins_92 : decode cX0_joins 92 = .ok (.iadd, 1) := by decide +kernel
theorem dX0_joins_93 : decode cX0_joins 93 = .ok (.invokevirtual 199, 3) := by decide +kernel
theorem dX0_joins_96 : decode cX0_joins 96 = .ok (.iconst 1, 1) := by decide +kernel
theorem dX0_joins_97 : decode cX0_joins 97 = .ok (.ireturn, 1) := by decide +kernel
theorem dX0_joins_98 : decode cX0_joins 98 = .ok (.aload_n 0, 1) := by decide +kernel
theorem dX0_joins_99 : decode cX0_joins 99 = .ok (.getfield 12, 3) := by decide +kernel
theorem dX0_joins_102 : decode cX0_joins 102 = .ok (.iload 4, 2) := by decide +kernel
theorem dX0_joins_104 : decode cX0_joins 104 = .ok (.iload 5, 2) := by decide +kernel
theorem dX0_joins_106 : decode cX0_joins 106 = .ok (.iload 5, 2) := by decide +kernel
theorem dX0_joins_108 : decode cX0_joins 108 = .ok (.iconst 2, 1) := by decide +kernel
theorem dX0_joins_109 : decode cX0_joins 109 = .ok (.idiv, 1) := by decide +kernel
theorem dX0_joins_110 : decode cX0_joins 110 = .ok (.isub, 1) := by decide +kernel
theorem dX0_joins_111 : decode cX0_joins 111 = .ok (.invokevirtual 182, 3) := by decide +kernel
theorem dX0_joins_114 : decode cX0_joins 114 = .ok (.aload_n 0, 1) := by decide +kernel
theorem dX0_joins_115 : decode cX0_joins 115 = .ok (.getfield 12, 3) := by decide +kernel
theorem dX0_joins_118 : decode cX0_joins 118 = .ok (.iload 4, 2) := by decide +kernel
theorem dX0_joins_120 : decode cX0_joins 120 = .ok (.iconst 1, 1) := by decide +kernel
theorem dX0_joins_121 : decode cX0_joins 121 = .ok (.iadd, 1) := by decide +kernel
theorem dX0_joins_122 : decode cX0_joins 122 = .ok (.iload 5, 2) := by decide +kernel
theorem dX0_joins_124 : decode cX0_joins 124 = .ok (.iconst 2, 1) := by decide +kernel
theorem dX0_joins_125 : decode cX0_joins 125 = .ok (.idiv, 1) := by decide +kernel
theorem dX0_joins_126 : decode cX0_joins 126 = .ok (.invokevirtual 182, 3) := by decide +kernel
theorem dX0_joins_129 : decode cX0_joins 129 = .ok (.iconst 0, 1) := by decide +kernel
theorem dX0_joins_130 : decode cX0_joins 130 = .ok (.ireturn, 1) := by decide +kernel
set_option maxRecDepth 20000 in
theorem ggX0_dropTops_X3_entriesOf : GoodIn wsX0_dropTops wsX3_entriesOf := goodIn_r _ [9, 10, 11, 23, 24, 25, 26, 27, 28] (by decide +kernel) (by decide +kernel)
set_option maxRecDepth 20000 in
theorem gX0_dropTops_X3_entriesOf : GoodIn wsX0_dropTops (wsV RX0 79 RX3 yX3_entriesOf wsX3_entriesOf) := goodIn_app (goodIn_of _ (by decide +kernel)) ggX0_dropTops_X3_entriesOf
set_option maxRecDepth 20000 in
theorem ggX0_dropTops_X3_removePage : GoodIn wsX0_dropTops wsX3_removePage := goodIn_r _ [15, 10, 11, 23, 24, 25, 26, 27, 28] (by decide +kernel) (by decide +kernel)
set_option maxRecDepth 20000 in
theorem gX0_dropTops_X3_removePage : GoodIn wsX0_dropTops (wsV RX0 199 RX3 yX3_removePage wsX3_removePage) := goodIn_app (goodIn_of _ (by decide +kernel)) ggX0_dropTops_X3_removePage
theorem dX0_dropTops_0 : decode cX0_dropTops 0 = .ok (.iconst 0, 1) := by decide +kernel
theorem dX0_dropTops_1 : decode cX0_dropTops 1 = .ok (.istore_n 1, 1) := by decide +kernel
theorem dX0_dropTops_2 : decode cX0_dropTops 2 = .ok (.iload_n 1, 1) := by decide +kernel
theorem dX0_dropTops_3 : decode cX0_dropTops 3 = .ok (.bipush 6, 2) := by decide +kernel
theorem dX0_dropTops_5 : decode cX0_dropTops 5 = .ok (.if_icmp .ge 53, 3) := by decide +kernel
theorem dX0_dropTops_8 : decode cX0_dropTops 8 = .ok (.aload_n 0, 1) := by decide +kernel
theorem dX0_dropTops_9 : decode cX0_dropTops 9 = .ok (.getfield 12, 3) := by decide +kernel
theorem dX0_dropTops_12 : decode cX0_dropTops 12 = .ok (.getfield 134, 3) := by decide +kernel
theorem dX0_dropTops_15 : decode cX0_dropTops 15 = .ok (.iconst 1, 1) := by decide +kernel
theorem dX0_dropTops_16 : decode cX0_dropTops 16 = .ok (.if_icmp .le 42, 3) := by decide +kernel
theorem dX0_dropTops_19 : decode cX0_dropTops 19 = .ok (.aload_n 0, 1) := by decide +kernel
theorem dX0_dropTops_20 : decode cX0_dropTops 20 = .ok (.getfield 12, 3) := by decide +kernel
theorem dX0_dropTops_23 : decode cX0_dropTops 23 = .ok (.iconst 0, 1) := by decide +kernel
theorem dX0_dropTops_24 : decode cX0_dropTops 24 = .ok (.invokevirtual 79, 3) := by decide +kernel
theorem dX0_dropTops_27 : decode cX0_dropTops 27 = .ok (.iconst 1, 1) := by decide +kernel
theorem dX0_dropTops_28 : decode cX0_dropTops 28 = .ok (.if_icmp .ne 30, 3) := by decide +kernel
theorem dX0_dropTops_31 : decode cX0_dropTops 31 = .ok (.aload_n 0, 1) := by decide +kernel
theorem dX0_dropTops_32 : decode cX0_dropTops 32 = .ok (.getfield 12, 3) := by decide +kernel
theorem dX0_dropTops_35 : decode cX0_dropTops 35 = .ok (.iconst 0, 1) := by decide +kernel
theorem dX0_dropTops_36 : decode cX0_dropTops 36 = .ok (.invokevirtual 199, 3) := by decide +kernel
theorem dX0_dropTops_39 : decode cX0_dropTops 39 = .ok (.aload_n 0, 1) := by decide +kernel
theorem dX0_dropTops_40 : decode cX0_dropTops 40 = .ok (.getfield 12, 3) := by decide +kernel
theorem dX0_dropTops_43 : decode cX0_dropTops 43 = .ok (.dup, 1) := by decide +kernel
theorem dX0_dropTops_44 : decode cX0_dropTops 44 = .ok (.getfield 134, 3) := by decide +kernel
theorem dX0_dropTops_47 : decode cX0_dropTops 47 = .ok (.iconst 1, 1) := by decide +kernel
theorem dX0_dropTops_48 : decode cX0_dropTops 48 = .ok (.isub, 1) := by decide +kernel
theorem dX0_dropTops_49 : decode cX0_dropTops 49 = .ok (.putfield 134, 3) := by decide +kernel
theorem dX0_dropTops_52 : decode cX0_dropTops 52 = .ok (.iinc 1 1, 3) := by decide +kernel
theorem dX0_dropTops_55 : decode cX0_dropTops 55 = .ok (.goto (-53), 3) := by decide +kernel
theorem dX0_dropTops_58 : decode cX0_dropTops 58 = .ok (.aload_n 0, 1) := by decide +kernel
theorem dX0_dropTops_59 : decode cX0_dropTops 59 = .ok (.getfield 12, 3) := by decide +kernel
theorem dX0_dropTops_62 : decode cX0_dropTops 62 = .ok (.getfield 63, 3) := by decide +kernel
theorem dX0_dropTops_65 : decode cX0_dropTops 65 = .ok (.ifCond .ne 19, 3) := by decide +kernel
theorem dX0_dropTops_68 : decode cX0_dropTops 68 = .ok (.aload_n 0, 1) := by decide +kernel
theorem dX0_dropTops_69 : decode cX0_dropTops 69 = .ok (.getfield 12, 3) := by decide +kernel
theorem dX0_dropTops_72 : decode cX0_dropTops 72 = .ok (.iconst 0, 1) := by decide +kernel
theorem dX0_dropTops_73 : decode cX0_dropTops 73 = .ok (.putfield 45, 3) := by decide +kernel
theorem dX0_dropTops_76 : decode cX0_dropTops 76 = .ok (.aload_n 0, 1) := by decide +kernel
theorem dX0_dropTops_77 : decode cX0_dropTops 77 = .ok (.getfield 12, 3) := by decide +kernel
theorem dX0_dropTops_80 : decode cX0_dropTops 80 = .ok (.iconst 0, 1) := by decide +kernel
theorem dX0_dropTops_81 : decode cX0_dropTops 81 = .ok (.putfield 134, 3) := by decide +kernel
theorem dX0_dropTops_84 : decode cX0_dropTops 84 = .ok (.return_, 1) := by decide +kernel
set_option maxRecDepth 20000 in
theorem ggX0_wholeFact_X0_costOfWords : GoodIn wsX0_wholeFact wsX0_costOfWords := goodIn_r _ [10, 1, 2, 11, 12, 13, 14, 15, 16, 17, 18, 19, 20, 21, 22, 23, 9, 24, 4, 25, 26, 27, 28, 29, 30, 31, 32, 33, 34, 35, 36, 37, 38, 39, 40, 41, 42, 43, 44, 45, 46, 47, 48, 49, 50, 51, 52, 53, 54, 55, 56, 57, 58, 59, 60, 61, 62, 63, 64, 65, 66, 67, 68, 69, 70, 71, 72, 73, 74, 75, 76, 77, 78, 79, 80, 81, 82, 83, 84, 85, 86, 87, 88, 89, 90, 91, 92, 93, 94, 95, 96, 97, 98, 99, 100, 101, 102, 103, 104, 105, 106, 107, 108, 109, 110, 111, 112, 113, 114, 115, 116, 117, 118, 119, 120, 125, 126, 127, 128, 129, 130, 131, 132, 133, 134, 135, 136, 137, 138, 139, 140, 141, 142, 143, 144, 145, 146, 147, 148, 149, 150, 151, 152] (by decide +kernel) (by decide +kernel)
set_option maxRecDepth 20000 in
theorem gX0_wholeFact_X0_costOfWords : GoodIn wsX0_wholeFact (wsV RX0 202 RX0 yX0_costOfWords wsX0_costOfWords) := goodIn_app (goodIn_of _ (by decide +kernel)) ggX0_wholeFact_X0_costOfWords
set_option maxRecDepth 20000 in
theorem ggX0_wholeFact_X0_fewestEntries : GoodIn wsX0_wholeFact wsX0_fewestEntries := goodIn_r _ [124, 1, 3, 52, 53, 54, 18, 55, 56, 57, 125, 126, 127, 128, 129, 130, 131, 132, 133, 134, 135, 136, 137] (by decide +kernel) (by decide +kernel)
set_option maxRecDepth 20000 in
theorem gX0_wholeFact_X0_fewestEntries : GoodIn wsX0_wholeFact (wsV RX0 206 RX0 yX0_fewestEntries wsX0_fewestEntries) := goodIn_app (goodIn_of _ (by decide +kernel)) ggX0_wholeFact_X0_fewestEntries
theorem dX0_wholeFact_0 : decode cX0_wholeFact 0 = .ok (.iload_n 1, 1) := by decide +kernel
theorem dX0_wholeFact_1 : decode cX0_wholeFact 1 = .ok (.tableswitch 83 0 5 #[39, 47, 55, 63, 71, 77], 39) := by decide +kernel
theorem dX0_wholeFact_40 : decode cX0_wholeFact 40 = .ok (.aload_n 0, 1) := by decide +kernel
theorem dX0_wholeFact_41 : decode cX0_wholeFact 41 = .ok (.getfield 12, 3) := by decide +kernel
theorem dX0_wholeFact_44 : decode cX0_wholeFact 44 = .ok (.getfield 63, 3) := by decide +kernel
theorem dX0_wholeFact_47 : decode cX0_wholeFact 47 = .ok (.ireturn, 1) := by decide +kernel
theorem dX0_wholeFact_48 : decode cX0_wholeFact 48 = .ok (.aload_n 0, 1) := by decide +kernel
theorem dX0_wholeFact_49 : decode cX0_wholeFact 49 = .ok (.getfield 12, 3) := by decide +kernel
theorem dX0_wholeFact_52 : decode cX0_wholeFact 52 = .ok (.getfield 45, 3) := by decide +kernel
theorem dX0_wholeFact_55 : decode cX0_wholeFact 55 = .ok (.ireturn, 1) := by decide +kernel
theorem dX0_wholeFact_56 : decode cX0_wholeFact 56 = .ok (.aload_n 0, 1) := by decide +kernel
theorem dX0_wholeFact_57 : decode cX0_wholeFact 57 = .ok (.getfield 12, 3) := by decide +kernel
theorem dX0_wholeFact_60 : decode cX0_wholeFact 60 = .ok (.getfield 134, 3) := by decide +kernel
theorem dX0_wholeFact_63 : decode cX0_wholeFact 63 = .ok (.ireturn, 1) := by decide +kernel
theorem dX0_wholeFact_64 : decode cX0_wholeFact 64 = .ok (.aload_n 0, 1) := by decide +kernel
theorem dX0_wholeFact_65 : decode cX0_wholeFact 65 = .ok (.getfield 12, 3) := by decide +kernel
theorem dX0_wholeFact_68 : decode cX0_wholeFact 68 = .ok (.getfield 179, 3) := by decide +kernel
theorem dX0_wholeFact_71 : decode cX0_wholeFact 71 = .ok (.ireturn, 1) := by decide +kernel
theorem dX0_wholeFact_72 : decode cX0_wholeFact 72 = .ok (.aload_n 0, 1) := by decide +kernel
theorem dX0_wholeFact_73 : decode cX0_wholeFact 73 = .ok (.iconst 0, 1) := by decide +kernel
theorem dX0_wholeFact_74 : decode cX0_wholeFact 74 = .ok (.invokevirtual 202, 3) := by decide +kernel
theorem dX0_wholeFact_77 : decode cX0_wholeFact 77 = .ok (.ireturn, 1) := by decide +kernel
theorem dX0_wholeFact_78 : decode cX0_wholeFact 78 = .ok (.aload_n 0, 1) := by decide +kernel
theorem dX0_wholeFact_79 : decode cX0_wholeFact 79 = .ok (.iconst 1, 1) := by decide +kernel
theorem dX0_wholeFact_80 : decode cX0_wholeFact 80 = .ok (.invokevirtual 202, 3) := by decide +kernel
theorem dX0_wholeFact_83 : decode cX0_wholeFact 83 = .ok (.ireturn, 1) := by decide +kernel
theorem dX0_wholeFact_84 : decode cX0_wholeFact 84 = .ok (.aload_n 0, 1) := by decide +kernel
theorem dX0_wholeFact_85 : decode cX0_wholeFact 85 = .ok (.invokevirtual 206, 3) := by decide +kernel
theorem dX0_wholeFact_88 : decode cX0_wholeFact 88 = .ok (.ireturn, 1) := by decide +kernel
set_option maxRecDepth 20000 in
theorem ggX0_costOfWords_X3_wordAt : GoodIn wsX0_costOfWords wsX3_wordAt := goodIn_r _ [11, 12, 122, 123, 124, 125, 126, 127] (by decide +kernel) (by decide +kernel)
set_option maxRecDepth 20000 in
theorem gX0_costOfWords_X3_wordAt : GoodIn wsX0_costOfWords (wsV RX0 53 RX3 yX3_wordAt wsX3_wordAt) := goodIn_app (goodIn_of _ (by decide +kernel)) ggX0_costOfWords_X3_wordAt
set_option maxRecDepth 20000 in
theorem ggX0_costOfWords_X0_walk : GoodIn wsX0_costOfWords wsX0_walk := goodIn_r _ [17, 1, 18, 19, 20, 5, 21, 22, 3, 4, 6, 23, 24, 25, 16, 26, 27, 28, 29, 30, 31, 32, 33, 34, 35, 36, 37, 38, 39, 40, 41, 42, 43, 44, 45, 46, 47, 48, 10, 49, 50, 51, 52, 53, 54, 55, 56, 57, 58, 59, 60, 61, 62, 63, 64, 65, 66, 67, 68, 69, 70, 71, 72, 73, 74, 75, 76, 77, 78, 79, 80, 81, 82, 83, 84, 85, 86, 87, 88, 89, 90, 7, 8, 9, 11, 12, 91, 92, 93, 94, 95, 96, 97, 98, 99, 100, 101, 102, 103, 104, 105, 106, 107, 108, 109, 110, 115, 116, 117, 118, 119, 120, 121, 122, 123, 124, 125, 126, 127, 128, 129, 130, 131, 132, 133, 134, 135, 136, 137, 138, 139, 140, 141, 142] (by decide +kernel) (by decide +kernel)
set_option maxRecDepth 20000 in
theorem gX0_costOfWords_X0_walk : GoodIn wsX0_costOfWords (wsV RX0 148 RX0 yX0_walk wsX0_walk) := goodIn_app (goodIn_of _ (by decide +kernel)) ggX0_costOfWords_X0_walk
set_option maxRecDepth 20000 in
theorem ggX0_costOfWords_X0_cost : GoodIn wsX0_costOfWords wsX0_cost := goodIn_r _ [114, 1, 18, 39, 23, 24, 25, 16, 26, 27, 115, 116, 117, 118, 119, 120, 121, 122, 123, 124, 125, 126, 127, 128, 129, 130, 131, 132, 133] (by decide +kernel) (by decide +kernel)
set_option maxRecDepth 20000 in
theorem gX0_costOfWords_X0_cost : GoodIn wsX0_costOfWords (wsV RX0 209 RX0 yX0_cost wsX0_cost) := goodIn_app (goodIn_of _ (by decide +kernel)) ggX0_costOfWords_X0_cost
theorem dX0_costOfWords_0 : decode cX0_costOfWords 0 = .ok (.iconst 0, 1) := by decide +kernel
theorem dX0_costOfWords_1 : decode cX0_costOfWords 1 = .ok (.istore_n 2, 1) := by decide +kernel
theorem dX0_costOfWords_2 : decode cX0_costOfWords 2 = .ok (.iconst 0, 1) := by decide +kernel
theorem dX0_costOfWords_3 : decode cX0_costOfWords 3 = .ok (.istore_n 3, 1) := by decide +kernel
theorem dX0_costOfWords_4 : decode cX0_costOfWords 4 = .ok (.iload_n 3, 1) := by decide +kernel
theorem dX0_costOfWords_5 : decode cX0_costOfWords 5 = .ok (.aload_n 0, 1) := by decide +kernel
theorem dX0_costOfWords_6 : decode cX0_costOfWords 6 = .ok (.getfield 12, 3) := by decide +kernel
theorem dX0_costOfWords_9 : decode cX0_costOfWords 9 = .ok (.getfield 63, 3) := by decide +kernel
theorem dX0_costOfWords_12 : decode cX0_costOfWords 12 = .ok (.if_icmp .ge 43, 3) := by decide +kernel
theorem dX0_costOfWords_15 : decode cX0_costOfWords 15 = .ok (.aload_n 0, 1) := by decide +kernel
theorem dX0_costOfWords_16 : decode cX0_costOfWords 16 = .ok (.aload_n 0, 1) := by decide +kernel
theorem dX0_costOfWords_17 : decode cX0_costOfWords 17 = .ok (.getfield 12, 3) := by decide +kernel
theorem dX0_costOfWords_20 : decode cX0_costOfWords 20 = .ok (.iload_n 3, 1) := by decide +kernel
theorem dX0_costOfWords_21 : decode cX0_costOfWords 21 = .ok (.invokevirtual 53, 3) := by decide +kernel
theorem dX0_costOfWords_24 : decode cX0_costOfWords 24 = .ok (.invokevirtual 148, 3) := by decide +kernel
theorem dX0_costOfWords_27 : decode cX0_costOfWords 27 = .ok (.iload_n 1, 1) := by decide +kernel
theorem dX0_costOfWords_28 : decode cX0_costOfWords 28 = .ok (.ifCond .eq 12, 3) := by decide +kernel
theorem dX0_costOfWords_31 : decode cX0_costOfWords 31 = .ok (.iload_n 2, 1) := by decide +kernel
theorem dX0_costOfWords_32 : decode cX0_costOfWords 32 = .ok (.aload_n 0, 1) := by decide +kernel
theorem dX0_costOfWords_33 : decode cX0_costOfWords 33 = .ok (.invokevirtual 209, 3) := by decide +kernel
theorem dX0_costOfWords_36 : decode cX0_costOfWords 36 = .ok (.iadd, 1) := by decide +kernel
theorem dX0_costOfWords_37 : decode cX0_costOfWords 37 = .ok (.goto 11, 3) := by decide +kernel
theorem dX0_costOfWords_40 : decode cX0_costOfWords 40 = .ok (.iload_n 2, 1) := by decide +kernel
theorem dX0_costOfWords_41 : decode cX0_costOfWords 41 = .ok (.aload_n 0, 1) := by decide +kernel
theorem dX0_costOfWords_42 : decode cX0_costOfWords 42 = .ok (.invokevirtual 209, 3) := by decide +kernel
theorem dX0_costOfWords_45 : decode cX0_costOfWords 45 = .ok (.invokestatic 119, 3) := by decide +kernel
theorem dX0_costOfWords_48 : decode cX0_costOfWords 48 = .ok (.istore_n 2, 1) := by decide +kernel
theorem dX0_costOfWords_49 : decode cX0_costOfWords 49 = .ok (.iinc 3 1, 3) := by decide +kernel
theorem dX0_costOfWords_52 : decode cX0_costOfWords 52 = .ok (.goto (-48), 3) := by decide +kernel
theorem dX0_costOfWords_55 : decode cX0_costOfWords 55 = .ok (.iload_n 2, 1) := by decide +kernel
theorem dX0_costOfWords_56 : decode cX0_costOfWords 56 = .ok (.ireturn, 1) := by decide +kernel
set_option maxRecDepth 20000 in
theorem ggX0_fewestEntries_X3_entriesOf : GoodIn wsX0_fewestEntries wsX3_entriesOf := goodIn_r _ [7, 8, 9, 17, 18, 19, 20, 21, 22] (by decide +kernel) (by decide +kernel)
set_option maxRecDepth 20000 in
theorem gX0_fewestEntries_X3_entriesOf : GoodIn wsX0_fewestEntries (wsV RX0 79 RX3 yX3_entriesOf wsX3_entriesOf) := goodIn_app (goodIn_of _ (by decide +kernel)) ggX0_fewestEntries_X3_entriesOf
theorem dX0_fewestEntries_0 : decode cX0_fewestEntries 0 = .ok (.iconst (-1), 1) := by decide +kernel
theorem dX0_fewestEntries_1 : decode cX0_fewestEntries 1 = .ok (.istore_n 1, 1) := by decide +kernel
theorem dX0_fewestEntries_2 : decode cX0_fewestEntries 2 = .ok (.iconst 1, 1) := by decide +kernel
theorem dX0_fewestEntries_3 : decode cX0_fewestEntries 3 = .ok (.istore_n 2, 1) := by decide +kernel
theorem dX0_fewestEntries_4 : decode cX0_fewestEntries 4 = .ok (.iload_n 2, 1) := by decide +kernel
theorem dX0_fewestEntries_5 : decode cX0_fewestEntries 5 = .ok (.aload_n 0, 1) := by decide +kernel
theorem dX0_fewestEntries_6 : decode cX0_fewestEntries 6 = .ok (.getfield 12, 3) := by decide +kernel
theorem dX0_fewestEntries_9 : decode cX0_fewestEntries 9 = .ok (.getfield 45, 3) := by decide +kernel
theorem dX0_fewestEntries_12 : decode cX0_fewestEntries 12 = .ok (.if_icmp .ge 30, 3) := by decide +kernel
theorem dX0_fewestEntries_15 : decode cX0_fewestEntries 15 = .ok (.aload_n 0, 1) := by decide +kernel
theorem dX0_fewestEntries_16 : decode cX0_fewestEntries 16 = .ok (.getfield 12, 3) := by decide +kernel
theorem dX0_fewestEntries_19 : decode cX0_fewestEntries 19 = .ok (.iload_n 2, 1) := by decide +kernel
theorem dX0_fewestEntries_20 : decode cX0_fewestEntries 20 = .ok (.invokevirtual 79, 3) := by decide +kernel
theorem dX0_fewestEntries_23 : decode cX0_fewestEntries 23 = .ok (.istore_n 3, 1) := by decide +kernel
theorem dX0_fewestEntries_24 : decode cX0_fewestEntries 24 = .ok (.iload_n 1, 1) := by decide +kernel
theorem dX0_fewestEntries_25 : decode cX0_fewestEntries 25 = .ok (.iconst (-1), 1) := by decide +kernel
theorem dX0_fewestEntries_26 : decode cX0_fewestEntries 26 = .ok (.if_icmp .eq 8, 3) := by decide +kernel
theorem dX0_fewestEntries_29 : decode cX0_fewestEntries 29 = .ok (.iload_n 3, 1) := by decide +kernel
theorem dX0_fewestEntries_30 : decode cX0_fewestEntries 30 = .ok (.iload_n 1, 1) := by decide +kernel
theorem dX0_fewestEntries_31 : decode cX0_fewestEntries 31 = .ok (.if_icmp .ge 5, 3) := by decide +kernel
theorem dX0_fewestEntries_34 : decode cX0_fewestEntries 34 = .ok (.iload_n 3, 1) := by decide +kernel
theorem dX0_fewestEntries_35 : decode cX0_fewestEntries 35 = .ok (.istore_n 1, 1) := by decide +kernel
theorem dX0_fewestEntries_36 : decode cX0_fewestEntries 36 = .ok (.iinc 2 1, 3) := by decide +kernel
theorem dX0_fewestEntries_39 : decode cX0_fewestEntries 39 = .ok (.goto (-35), 3) := by decide +kernel
theorem dX0_fewestEntries_42 : decode cX0_fewestEntries 42 = .ok (.iload_n 1, 1) := by decide +kernel
theorem dX0_fewestEntries_43 : decode cX0_fewestEntries 43 = .ok (.ireturn, 1) := by decide +kernel
set_option maxRecDepth 20000 in
theorem ggX0_pageFact_X0_levelAt : GoodIn wsX0_pageFact wsX0_levelAt := goodIn_r _ [7, 8, 80, 81, 82, 83, 84, 85, 86] (by decide +kernel) (by decide +kernel)
set_option maxRecDepth 20000 in
theorem gX0_pageFact_X0_levelAt : GoodIn wsX0_pageFact (wsV RX0 91 RX0 yX0_levelAt wsX0_levelAt) := goodIn_app (goodIn_of _ (by decide +kernel)) ggX0_pageFact_X0_levelAt
set_option maxRecDepth 20000 in
theorem ggX0_pageFact_X3_entriesOf : GoodIn wsX0_pageFact wsX3_entriesOf := goodIn_r _ [13, 14, 15, 87, 88, 89, 90, 91, 92] (by decide +kernel) (by decide +kernel)
set_option maxRecDepth 20000 in
theorem gX0_pageFact_X3_entriesOf : GoodIn wsX0_pageFact (wsV RX0 79 RX3 yX3_entriesOf wsX3_entriesOf) := goodIn_app (goodIn_of _ (by decide +kernel)) ggX0_pageFact_X3_entriesOf
set_option maxRecDepth 20000 in
theorem ggX0_pageFact_X0_endOf : GoodIn wsX0_pageFact wsX0_endOf := goodIn_r _ [19, 1, 20, 21, 3, 4, 5, 6, 7, 8, 22, 23, 24, 25, 26, 80, 81, 82, 83, 84, 85, 86, 87, 88, 89, 90, 91, 92] (by decide +kernel) (by decide +kernel)
set_option maxRecDepth 20000 in
theorem gX0_pageFact_X0_endOf : GoodIn wsX0_pageFact (wsV RX0 212 RX0 yX0_endOf wsX0_endOf) := goodIn_app (goodIn_of _ (by decide +kernel)) ggX0_pageFact_X0_endOf
set_option maxRecDepth 20000 in
theorem ggX0_pageFact_X0_headOf : GoodIn wsX0_pageFact wsX0_headOf := goodIn_r _ [25, 26, 80, 81, 82, 83, 84, 85, 86] (by decide +kernel) (by decide +kernel)
set_option maxRecDepth 20000 in
theorem gX0_pageFact_X0_headOf : GoodIn wsX0_pageFact (wsV RX0 49 RX0 yX0_headOf wsX0_headOf) := goodIn_app (goodIn_of _ (by decide +kernel)) ggX0_pageFact_X0_headOf
set_option maxRecDepth 20000 in
theorem ggX0_pageFact_X0_heightOf : GoodIn wsX0_pageFact wsX0_heightOf := goodIn_r _ [30, 1, 31, 32, 33, 34, 35, 36, 9, 10, 11, 12, 13, 14, 15, 37, 38, 39, 6, 40, 41, 42, 43, 44, 45, 46, 47, 48, 49, 50, 51, 52, 53, 54, 55, 56, 57, 58, 59, 60, 61, 62, 63, 64, 65, 80, 81, 82, 83, 84, 85, 86, 93, 94, 95, 96, 97, 98, 99, 87, 88, 89, 90, 91, 92] (by decide +kernel) (by decide +kernel)
set_option maxRecDepth 20000 in
theorem gX0_pageFact_X0_heightOf : GoodIn wsX0_pageFact (wsV RX0 215 RX0 yX0_heightOf wsX0_heightOf) := goodIn_app (goodIn_of _ (by decide +kernel)) ggX0_pageFact_X0_heightOf
set_option maxRecDepth 20000 in
theorem ggX0_pageFact_X0_weightOf : GoodIn wsX0_pageFact wsX0_weightOf := goodIn_r _ [69, 1, 70, 20, 22, 23, 24, 6, 25, 26, 16, 17, 18, 19, 21, 3, 4, 5, 7, 8, 71, 72, 73, 12, 74, 75, 37, 38, 39, 40, 41, 76, 77, 78, 79, 80, 81, 82, 83, 84, 85, 86, 100, 101, 87, 88, 89, 90, 91, 92] (by decide +kernel) (by decide +kernel)
set_option maxRecDepth 20000 in
theorem gX0_pageFact_X0_weightOf : GoodIn wsX0_pageFact (wsV RX0 218 RX0 yX0_weightOf wsX0_weightOf) := goodIn_app (goodIn_of _ (by decide +kernel)) ggX0_pageFact_X0_weightOf
theorem dX0_pageFact_0 : decode cX0_pageFact 0 = .ok (.iload_n 2, 1) := by decide +kernel
theorem dX0_pageFact_1 : decode cX0_pageFact 1 = .ok (.tableswitch 102 0 5 #[39, 45, 54, 66, 72, 96], 39) := by decide +kernel
theorem dX0_pageFact_40 : decode cX0_pageFact 40 = .ok (.aload_n 0, 1) := by decide +kernel
theorem dX0_pageFact_41 : decode cX0_pageFact 41 = .ok (.iload_n 1, 1) := by decide +kernel
theorem dX0_pageFact_42 : decode cX0_pageFact 42 = .ok (.invokevirtual 91, 3) := by decide +kernel
theorem dX0_pageFact_45 : decode cX0_pageFact 45 = .ok (.ireturn, 1) := by decide +kernel
theorem dX0_pageFact_46 : decode cX0_pageFact 46 = .ok (.aload_n 0, 1) := by decide +kernel
theorem dX0_pageFact_47 : decode cX0_pageFact 47 = .ok (.getfield 12, 3) := by decide +kernel
theorem dX0_pageFact_50 : decode cX0_pageFact 50 = .ok (.iload_n 1, 1) := by decide +kernel
theorem dX0_pageFact_51 : decode cX0_pageFact 51 = .ok (.invokevirtual 79, 3) := by decide +kernel
theorem dX0_pageFact_54 : decode cX0_pageFact 54 = .ok (.ireturn, 1) := by decide +kernel
theorem dX0_pageFact_55 : decode cX0_pageFact 55 = .ok (.aload_n 0, 1) := by decide +kernel
theorem dX0_pageFact_56 : decode cX0_pageFact 56 = .ok (.iload_n 1, 1) := by decide +kernel
theorem dX0_pageFact_57 : decode cX0_pageFact 57 = .ok (.invokevirtual 212, 3) := by decide +kernel
theorem dX0_pageFact_60 : decode cX0_pageFact 60 = .ok (.aload_n 0, 1) := by decide +kernel
theorem dX0_pageFact_61 : decode cX0_pageFact 61 = .ok (.iload_n 1, 1) := by decide +kernel
theorem dX0_pageFact_62 : decode cX0_pageFact 62 = .ok (.invokevirtual 49, 3) := by decide +kernel
theorem dX0_pageFact_65 : decode cX0_pageFact 65 = .ok (.isub, 1) := by decide +kernel
theorem dX0_pageFact_66 : decode cX0_pageFact 66 = .ok (.ireturn, 1) := by decide +kernel
theorem dX0_pageFact_67 : decode cX0_pageFact 67 = .ok (.aload_n 0, 1) := by decide +kernel
theorem dX0_pageFact_68 : decode cX0_pageFact 68 = .ok (.iload_n 1, 1) := by decide +kernel
theorem dX0_pageFact_69 : decode cX0_pageFact 69 = .ok (.invokevirtual 49, 3) := by decide +kernel
theorem dX0_pageFact_72 : decode cX0_pageFact 72 = .ok (.ireturn, 1) := by decide +kernel
theorem dX0_pageFact_73 : decode cX0_pageFact 73 = .ok (.iload_n 1, 1) := by decide +kernel
theorem dX0_pageFact_74 : decode cX0_pageFact 74 = .ok (.ifCond .lt 21, 3) := by decide +kernel
theorem dX0_pageFact_77 : decode cX0_pageFact 77 = .ok (.iload_n 1, 1) := by decide +kernel
theorem dX0_pageFact_78 : decode cX0_pageFact 78 = .ok (.aload_n 0, 1) := by decide +kernel
theorem dX0_pageFact_79 : decode cX0_pageFact 79 = .ok (.getfield 28, 3) := by decide +kernel
theorem dX0_pageFact_82 : decode cX0_pageFact 82 = .ok (.arraylength, 1) := by decide +kernel
theorem dX0_pageFact_83 : decode cX0_pageFact 83 = .ok (.if_icmp .ge 12, 3) := by decide +kernel
theorem dX0_pageFact_86 : decode cX0_pageFact 86 = .ok (.aload_n 0, 1) := by decide +kernel
theorem dX0_pageFact_87 : decode cX0_pageFact 87 = .ok (.getfield 28, 3) := by decide +kernel
theorem dX0_pageFact_90 : decode cX0_pageFact 90 = .ok (.iload_n 1, 1) := by decide +kernel
theorem dX0_pageFact_91 : decode cX0_pageFact 91 = .ok (.iaload, 1) := by decide +kernel
theorem dX0_pageFact_92 : decode cX0_pageFact 92 = .ok (.goto 4, 3) := by decide +kernel
theorem dX0_pageFact_95 : decode cX0_pageFact 95 = .ok (.iconst (-1), 1) := by decide +kernel
theorem dX0_pageFact_96 : decode cX0_pageFact 96 = .ok (.ireturn, 1) := by decide +kernel
theorem dX0_pageFact_97 : decode cX0_pageFact 97 = .ok (.aload_n 0, 1) := by decide +kernel
theorem dX0_pageFact_98 : decode cX0_pageFact 98 = .ok (.iload_n 1, 1) := by decide +kernel
theorem dX0_pageFact_99 : decode cX0_pageFact 99 = .ok (.invokevirtual 215, 3) := by decide +kernel
theorem dX0_pageFact_102 : decode cX0_pageFact 102 = .ok (.ireturn, 1) := by decide +kernel
theorem dX0_pageFact_103 : decode cX0_pageFact 103 = .ok (.aload_n 0, 1) := by decide +kernel
theorem dX0_pageFact_104 : decode cX0_pageFact 104 = .ok (.iload_n 1, 1) := by decide +kernel
theorem dX0_pageFact_105 : decode cX0_pageFact 105 = .ok (.invokevirtual 218, 3) := by decide +kernel
theorem dX0_pageFact_108 : decode cX0_pageFact 108 = .ok (.ireturn, 1) := by decide +kernel
set_option maxRecDepth 20000 in
theorem ggX0_endOf_X0_levelAt : GoodIn wsX0_endOf wsX0_levelAt := goodIn_r _ [8, 9, 15, 16, 17, 18, 19, 20, 21] (by decide +kernel) (by decide +kernel)
set_option maxRecDepth 20000 in
theorem gX0_endOf_X0_levelAt : GoodIn wsX0_endOf (wsV RX0 91 RX0 yX0_levelAt wsX0_levelAt) := goodIn_app (goodIn_of _ (by decide +kernel)) ggX0_endOf_X0_levelAt
set_option maxRecDepth 20000 in
theorem ggX0_endOf_X0_headOf : GoodIn wsX0_endOf wsX0_headOf := goodIn_r _ [13, 14, 15, 16, 17, 18, 19, 20, 21] (by decide +kernel) (by decide +kernel)
set_option maxRecDepth 20000 in
theorem gX0_endOf_X0_headOf : GoodIn wsX0_endOf (wsV RX0 49 RX0 yX0_headOf wsX0_headOf) := goodIn_app (goodIn_of _ (by decide +kernel)) ggX0_endOf_X0_headOf
theorem dX0_endOf_0 : decode cX0_endOf 0 = .ok (.iload_n 1, 1) := by decide +kernel
theorem dX0_endOf_1 : decode cX0_endOf 1 = .ok (.iconst 1, 1) := by decide +kernel
theorem dX0_endOf_2 : decode cX0_endOf 2 = .ok (.iadd, 1) := by decide +kernel
theorem dX0_endOf_3 : decode cX0_endOf 3 = .ok (.aload_n 0, 1) := by decide +kernel
theorem dX0_endOf_4 : decode cX0_endOf 4 = .ok (.getfield 12, 3) := by decide +kernel
theorem dX0_endOf_7 : decode cX0_endOf 7 = .ok (.getfield 45, 3) := by decide +kernel
theorem dX0_endOf_10 : decode cX0_endOf 10 = .ok (.if_icmp .ge 22, 3) := by decide +kernel
theorem dX0_endOf_13 : decode cX0_endOf 13 = .ok (.aload_n 0, 1) := by decide +kernel
theorem dX0_endOf_14 : decode cX0_endOf 14 = .ok (.iload_n 1, 1) := by decide +kernel
theorem dX0_endOf_15 : decode cX0_endOf 15 = .ok (.iconst 1, 1) := by decide +kernel
theorem dX0_endOf_16 : decode cX0_endOf 16 = .ok (.iadd, 1) := by decide +kernel
theorem dX0_endOf_17 : decode cX0_endOf 17 = .ok (.invokevirtual 91, 3) := by decide +kernel
theorem dX0_endOf_20 : decode cX0_endOf 20 = .ok (.aload_n 0, 1) := by decide +kernel
theorem dX0_endOf_21 : decode cX0_endOf 21 = .ok (.iload_n 1, 1) := by decide +kernel
theorem dX0_endOf_22 : decode cX0_endOf 22 = .ok (.invokevirtual 91, 3) := by decide +kernel
theorem dX0_endOf_25 : decode cX0_endOf 25 = .ok (.if_icmp .ne 7, 3) := by decide +kernel
theorem dX0_endOf_28 : decode cX0_endOf 28 = .ok (.iconst 1, 1) := by decide +kernel
theorem dX0_endOf_29 : decode cX0_endOf 29 = .ok (.goto 4, 3) := by decide +kernel
theorem dX0_endOf_32 : decode cX0_endOf 32 = .ok (.iconst 0, 1) := by decide +kernel
theorem dX0_endOf_33 : decode cX0_endOf 33 = .ok (.istore_n 2, 1) := by decide +kernel
theorem dX0_endOf_34 : decode cX0_endOf 34 = .ok (.iload_n 2, 1) := by decide +kernel
theorem dX0_endOf_35 : decode cX0_endOf 35 = .ok (.ifCond .eq 13, 3) := by decide +kernel
theorem dX0_endOf_38 : decode cX0_endOf 38 = .ok (.aload_n 0, 1) := by decide +kernel
theorem dX0_endOf_39 : decode cX0_endOf 39 = .ok (.iload_n 1, 1) := by decide +kernel
theorem dX0_endOf_40 : decode cX0_endOf 40 = .ok (.iconst 1, 1) := by decide +kernel
theorem dX0_endOf_41 : decode cX0_endOf 41 = .ok (.iadd, 1) := by decide +kernel
theorem dX0_endOf_42 : decode cX0_endOf 42 = .ok (.invokevirtual 49, 3) := by decide +kernel
theorem dX0_endOf_45 : decode cX0_endOf 45 = .ok (.goto 10, 3) := by decide +kernel
theorem dX0_endOf_48 : decode cX0_endOf 48 = .ok (.aload_n 0, 1) := by decide +kernel
theorem dX0_endOf_49 : decode cX0_endOf 49 = .ok (.getfield 12, 3) := by decide +kernel
theorem dX0_endOf_52 : decode cX0_endOf 52 = .ok (.getfield 63, 3) := by decide +kernel
theorem dX0_endOf_55 : decode cX0_endOf 55 = .ok (.ireturn, 1) := by decide +kernel
set_option maxRecDepth 20000 in
theorem ggX0_heightOf_X3_entriesOf : GoodIn wsX0_heightOf wsX3_entriesOf := goodIn_r _ [12, 13, 14, 59, 60, 61, 62, 63, 64] (by decide +kernel) (by decide +kernel)
set_option maxRecDepth 20000 in
theorem gX0_heightOf_X3_entriesOf : GoodIn wsX0_heightOf (wsV RX0 79 RX3 yX3_entriesOf wsX3_entriesOf) := goodIn_app (goodIn_of _ (by decide +kernel)) ggX0_heightOf_X3_entriesOf
set_option maxRecDepth 20000 in
theorem ggX0_heightOf_X0_firstOf : GoodIn wsX0_heightOf wsX0_firstOf := goodIn_r _ [19, 20, 45, 46, 47, 48, 49, 50, 51] (by decide +kernel) (by decide +kernel)
set_option maxRecDepth 20000 in
theorem gX0_heightOf_X0_firstOf : GoodIn wsX0_heightOf (wsV RX0 88 RX0 yX0_firstOf wsX0_firstOf) := goodIn_app (goodIn_of _ (by decide +kernel)) ggX0_heightOf_X0_firstOf
set_option maxRecDepth 20000 in
theorem ggX0_heightOf_X5_open : GoodIn wsX0_heightOf wsX5_open := goodIn_r _ [25, 26, 27, 28, 29, 30, 31, 32, 24, 33, 34, 35, 36, 52, 53, 54, 55, 56, 57, 58] (by decide +kernel) (by decide +kernel)
set_option maxRecDepth 20000 in
theorem gX0_heightOf_X5_open : GoodIn wsX0_heightOf (wsV RX0 94 RX5 yX5_open wsX5_open) := goodIn_app (goodIn_of _ (by decide +kernel)) ggX0_heightOf_X5_open
set_option maxRecDepth 20000 in
theorem ggX0_heightOf_X5_seek : GoodIn wsX0_heightOf wsX5_seek := goodIn_r _ [40, 27, 28, 35, 41, 42, 43, 24, 44, 29, 30, 31, 32, 33, 34, 26, 36, 52, 53, 54, 55, 56, 57, 58] (by decide +kernel) (by decide +kernel)
set_option maxRecDepth 20000 in
theorem gX0_heightOf_X5_seek : GoodIn wsX0_heightOf (wsV RX0 221 RX5 yX5_seek wsX5_seek) := goodIn_app (goodIn_of _ (by decide +kernel)) ggX0_heightOf_X5_seek
theorem dX0_heightOf_0 : decode cX0_heightOf 0 = .ok (.iconst 0, 1) := by decide +kernel
theorem dX0_heightOf_1 : decode cX0_heightOf 1 = .ok (.istore_n 2, 1) := by decide +kernel
theorem dX0_heightOf_2 : decode cX0_heightOf 2 = .ok (.iconst 0, 1) := by decide +kernel
theorem dX0_heightOf_3 : decode cX0_heightOf 3 = .ok (.istore_n 3, 1) := by decide +kernel
theorem dX0_heightOf_4 : decode cX0_heightOf 4 = .ok (.iload_n 3, 1) := by decide +kernel
theorem dX0_heightOf_5 : decode cX0_heightOf 5 = .ok (.aload_n 0, 1) := by decide +kernel
theorem dX0_heightOf_6 : decode cX0_heightOf 6 = .ok (.getfield 12, 3) := by decide +kernel
theorem dX0_heightOf_9 : decode cX0_heightOf 9 = .ok (.iload_n 1, 1) := by decide +kernel
theorem dX0_heightOf_10 : decode cX0_heightOf 10 = .ok (.invokevirtual 79, 3) := by decide +kernel
theorem dX0_heightOf_13 : decode cX0_heightOf 13 = .ok (.iconst 1, 1) := by decide +kernel
theorem dX0_heightOf_14 : decode cX0_heightOf 14 = .ok (.isub, 1) := by decide +kernel
theorem dX0_heightOf_15 : decode cX0_heightOf 15 = .ok (.if_icmp .ge 51, 3) := by decide +kernel
theorem dX0_heightOf_18 : decode cX0_heightOf 18 = .ok (.aload_n 0, 1) := by decide +kernel
theorem dX0_heightOf_19 : decode cX0_heightOf 19 = .ok (.getfield 34, 3) := by decide +kernel
theorem dX0_heightOf_22 : decode cX0_heightOf 22 = .ok (.aload_n 0, 1) := by decide +kernel
theorem dX0_heightOf_23 : decode cX0_heightOf 23 = .ok (.iload_n 1, 1) := by decide +kernel
theorem dX0_heightOf_24 : decode cX0_heightOf 24 = .ok (.invokevirtual 88, 3) := by decide +kernel
theorem dX0_heightOf_27 : decode cX0_heightOf 27 = .ok (.aload_n 0, 1) := by decide +kernel
theorem dX0_heightOf_28 : decode cX0_heightOf 28 = .ok (.getfield 12, 3) := by decide +kernel
theorem dX0_heightOf_31 : decode cX0_heightOf 31 = .ok (.iload_n 1, 1) := by decide +kernel
theorem dX0_heightOf_32 : decode cX0_heightOf 32 = .ok (.invokevirtual 79, 3) := by decide +kernel
theorem dX0_heightOf_35 : decode cX0_heightOf 35 = .ok (.invokevirtual 94, 3) := by decide +kernel
theorem dX0_heightOf_38 : decode cX0_heightOf 38 = .ok (.aload_n 0, 1) := by decide +kernel
theorem dX0_heightOf_39 : decode cX0_heightOf 39 = .ok (.getfield 34, 3) := by decide +kernel
theorem dX0_heightOf_42 : decode cX0_heightOf 42 = .ok (.iload_n 3, 1) := by decide +kernel
theorem dX0_heightOf_43 : decode cX0_heightOf 43 = .ok (.invokevirtual 221, 3) := by decide +kernel
theorem dX0_heightOf_46 : decode cX0_heightOf 46 = .ok (.iload_n 2, 1) := by decide +kernel
theorem dX0_heightOf_47 : decode cX0_heightOf 47 = .ok (.aload_n 0, 1) := by decide +kernel
theorem dX0_heightOf_48 : decode cX0_heightOf 48 = .ok (.getfield 34, 3) := by decide +kernel
theorem dX0_heightOf_51 : decode cX0_heightOf 51 = .ok (.getfield 224, 3) := by decide +kernel
theorem dX0_heightOf_54 : decode cX0_heightOf 54 = .ok (.iconst 1, 1) := by decide +kernel
theorem dX0_heightOf_55 : decode cX0_heightOf 55 = .ok (.iadd, 1) := by decide +kernel
theorem dX0_heightOf_56 : decode cX0_heightOf 56 = .ok (.invokestatic 119, 3) := by decide +kernel
theorem dX0_heightOf_59 : decode cX0_heightOf 59 = .ok (.istore_n 2, 1) := by decide +kernel
theorem dX0_heightOf_60 : decode cX0_heightOf 60 = .ok (.iinc 3 1, 3) := by decide +kernel
theorem dX0_heightOf_63 : decode cX0_heightOf 63 = .ok (.goto (-59), 3) := by decide +kernel
theorem dX0_heightOf_66 : decode cX0_heightOf 66 = .ok (.iload_n 2, 1) := by decide +kernel
theorem dX0_heightOf_67 : decode cX0_heightOf 67 = .ok (.ireturn, 1) := by decide +kernel
set_option maxRecDepth 20000 in
theorem ggX0_weightOf_X0_headOf : GoodIn wsX0_weightOf wsX0_headOf := goodIn_r _ [8, 9, 35, 36, 37, 38, 39, 40, 41] (by decide +kernel) (by decide +kernel)
set_option maxRecDepth 20000 in
theorem gX0_weightOf_X0_headOf : GoodIn wsX0_weightOf (wsV RX0 49 RX0 yX0_headOf wsX0_headOf) := goodIn_app (goodIn_of _ (by decide +kernel)) ggX0_weightOf_X0_headOf
set_option maxRecDepth 20000 in
theorem ggX0_weightOf_X0_endOf : GoodIn wsX0_weightOf wsX0_endOf := goodIn_r _ [13, 1, 3, 14, 15, 16, 17, 7, 18, 19, 4, 5, 6, 8, 9, 35, 36, 37, 38, 39, 40, 41, 44, 45, 46, 47, 48, 49] (by decide +kernel) (by decide +kernel)
set_option maxRecDepth 20000 in
theorem gX0_weightOf_X0_endOf : GoodIn wsX0_weightOf (wsV RX0 212 RX0 yX0_endOf wsX0_endOf) := goodIn_app (goodIn_of _ (by decide +kernel)) ggX0_weightOf_X0_endOf
set_option maxRecDepth 20000 in
theorem ggX0_weightOf_X3_wordAt : GoodIn wsX0_weightOf wsX3_wordAt := goodIn_r _ [24, 25, 44, 45, 46, 47, 48, 49] (by decide +kernel) (by decide +kernel)
set_option maxRecDepth 20000 in
theorem gX0_weightOf_X3_wordAt : GoodIn wsX0_weightOf (wsV RX0 53 RX3 yX3_wordAt wsX3_wordAt) := goodIn_app (goodIn_of _ (by decide +kernel)) ggX0_weightOf_X3_wordAt
set_option maxRecDepth 20000 in
theorem ggX0_weightOf_X0_firstOf : GoodIn wsX0_weightOf wsX0_firstOf := goodIn_r _ [29, 30, 35, 36, 37, 38, 39, 40, 41] (by decide +kernel) (by decide +kernel)
set_option maxRecDepth 20000 in
theorem gX0_weightOf_X0_firstOf : GoodIn wsX0_weightOf (wsV RX0 88 RX0 yX0_firstOf wsX0_firstOf) := goodIn_app (goodIn_of _ (by decide +kernel)) ggX0_weightOf_X0_firstOf
set_option maxRecDepth 20000 in
theorem ggX0_weightOf_X0_headWord : GoodIn wsX0_weightOf wsX0_headWord := goodIn_r _ [34, 1, 4, 5, 6, 7, 8, 9, 20, 21, 22, 23, 24, 25, 35, 36, 37, 38, 39, 40, 41, 44, 45, 46, 47, 48, 49] (by decide +kernel) (by decide +kernel)
set_option maxRecDepth 20000 in
theorem gX0_weightOf_X0_headWord : GoodIn wsX0_weightOf (wsV RX0 66 RX0 yX0_headWord wsX0_headWord) := goodIn_app (goodIn_of _ (by decide +kernel)) ggX0_weightOf_X0_headWord
theorem dX0_weightOf_0 : decode cX0_weightOf 0 = .ok (.aload_n 0, 1) := by decide +kernel
theorem dX0_weightOf_1 : decode cX0_weightOf 1 = .ok (.iload_n 1, 1) := by decide +kernel
theorem dX0_weightOf_2 : decode cX0_weightOf 2 = .ok (.invokevirtual 49, 3) := by decide +kernel
theorem dX0_weightOf_5 : decode cX0_weightOf 5 = .ok (.istore_n 2, 1) := by decide +kernel
theorem dX0_weightOf_6 : decode cX0_weightOf 6 = .ok (.aload_n 0, 1) := by decide +kernel
theorem dX0_weightOf_7 : decode cX0_weightOf 7 = .ok (.iload_n 1, 1) := by decide +kernel
theorem dX0_weightOf_8 : decode cX0_weightOf 8 = .ok (.invokevirtual 212, 3) := by decide +kernel
theorem dX0_weightOf_11 : decode cX0_weightOf 11 = .ok (.istore_n 3, 1) := by decide +kernel
theorem dX0_weightOf_12 : decode cX0_weightOf 12 = .ok (.iconst 0, 1) := by decide +kernel
theorem dX0_weightOf_13 : decode cX0_weightOf 13 = .ok (.istore 4, 2) := by decide +kernel
theorem dX0_weightOf_15 : decode cX0_weightOf 15 = .ok (.iload_n 2, 1) := by decide +kernel
theorem dX0_weightOf_16 : decode cX0_weightOf 16 = .ok (.istore 5, 2) := by decide +kernel
theorem dX0_weightOf_18 : decode cX0_weightOf 18 = .ok (.iload 5, 2) := by decide +kernel
theorem dX0_weightOf_20 : decode cX0_weightOf 20 = .ok (.iload_n 3, 1) := by decide +kernel
theorem dX0_weightOf_21 : decode cX0_weightOf 21 = .ok (.if_icmp .ge 26, 3) := by decide +kernel
theorem dX0_weightOf_24 : decode cX0_weightOf 24 = .ok (.iload 4, 2) := by decide +kernel
theorem dX0_weightOf_26 : decode cX0_weightOf 26 = .ok (.aload_n 0, 1) := by decide +kernel
theorem dX0_weightOf_27 : decode cX0_weightOf 27 = .ok (.getfield 12, 3) := by decide +kernel
theorem dX0_weightOf_30 : decode cX0_weightOf 30 = .ok (.iload 5, 2) := by decide +kernel
theorem dX0_weightOf_32 : decode cX0_weightOf 32 = .ok (.invokevirtual 53, 3) := by decide +kernel
theorem dX0_weightOf_35 : decode cX0_weightOf 35 = .ok (.getfield 116, 3) := by decide +kernel
theorem dX0_weightOf_38 : decode cX0_weightOf 38 = .ok (.iadd, 1) := by decide +kernel
theorem dX0_weightOf_39 : decode cX0_weightOf 39 = .ok (.istore 4, 2) := by decide +kernel
theorem dX0_weightOf_41 : decode cX0_weightOf 41 = .ok (.iinc 5 1, 3) := by decide +kernel
theorem dX0_weightOf_44 : decode cX0_weightOf 44 = .ok (.goto (-26), 3) := by decide +kernel
theorem dX0_weightOf_47 : decode cX0_weightOf 47 = .ok (.aload_n 0, 1) := by decide +kernel
theorem dX0_weightOf_48 : decode cX0_weightOf 48 = .ok (.iload_n 1, 1) := by decide +kernel
theorem dX0_weightOf_49 : decode cX0_weightOf 49 = .ok (.invokevirtual 88, 3) := by decide +kernel
theorem dX0_weightOf_52 : decode cX0_weightOf 52 = .ok (.istore 5, 2) := by decide +kernel
theorem dX0_weightOf_54 : decode cX0_weightOf 54 = .ok (.iload 5, 2) := by decide +kernel
theorem dX0_weightOf_56 : decode cX0_weightOf 56 = .ok (.aload_n 0, 1) := by decide +kernel
theorem dX0_weightOf_57 : decode cX0_weightOf 57 = .ok (.getfield 12, 3) := by decide +kernel
theorem dX0_weightOf_60 : decode cX0_weightOf 60 = .ok (.getfield 45, 3) := by decide +kernel
theorem dX0_weightOf_63 : decode cX0_weightOf 63 = .ok (.if_icmp .ge 43, 3) := by decide +kernel
theorem dX0_weightOf_66 : decode cX0_weightOf 66 = .ok (.aload_n 0, 1) := by decide +kernel
theorem dX0_weightOf_67 : decode cX0_weightOf 67 = .ok (.iload 5, 2) := by decide +kernel
theorem dX0_weightOf_69 : decode cX0_weightOf 69 = .ok (.invokevirtual 49, 3) := by decide +kernel
theorem dX0_weightOf_72 : decode cX0_weightOf 72 = .ok (.iload_n 2, 1) := by decide +kernel
theorem dX0_weightOf_73 : decode cX0_weightOf 73 = .ok (.if_icmp .lt 27, 3) := by decide +kernel
theorem dX0_weightOf_76 : decode cX0_weightOf 76 = .ok (.aload_n 0, 1) := by decide +kernel
theorem dX0_weightOf_77 : decode cX0_weightOf 77 = .ok (.iload 5, 2) := by decide +kernel
theorem dX0_weightOf_79 : decode cX0_weightOf 79 = .ok (.invokevirtual 49, 3) := by decide +kernel
theorem dX0_weightOf_82 : decode cX0_weightOf 82 = .ok (.iload_n 3, 1) := by decide +kernel
theorem dX0_weightOf_83 : decode cX0_weightOf 83 = .ok (.if_icmp .ge 17, 3) := by decide +kernel
theorem dX0_weightOf_86 : decode cX0_weightOf 86 = .ok (.iload 4, 2) := by decide +kernel
theorem dX0_weightOf_88 : decode cX0_weightOf 88 = .ok (.aload_n 0, 1) := by decide +kernel
theorem dX0_weightOf_89 : decode cX0_weightOf 89 = .ok (.iload 5, 2) := by decide +kernel
theorem dX0_weightOf_91 : decode cX0_weightOf 91 = .ok (.invokevirtual 66, 3) := by decide +kernel
theorem dX0_weightOf_94 : decode cX0_weightOf 94 = .ok (.getfield 116, 3) := by decide +kernel
theorem dX0_weightOf_97 : decode cX0_weightOf 97 = .ok (.iadd, 1) := by decide +kernel
theorem dX0_weightOf_98 : decode cX0_weightOf 98 = .ok (.istore 4, 2) := by decide +kernel
theorem dX0_weightOf_100 : decode cX0_weightOf 100 = .ok (.iinc 5 1, 3) := by decide +kernel
theorem dX0_weightOf_103 : decode cX0_weightOf 103 = .ok (.goto (-49), 3) := by decide +kernel
theorem dX0_weightOf_106 : decode cX0_weightOf 106 = .ok (.iload 4, 2) := by decide +kernel
theorem dX0_weightOf_108 : decode cX0_weightOf 108 = .ok (.ireturn, 1) := by decide +kernel
set_option maxRecDepth 20000 in
theorem ggX0_forkFact_X0_firstOf : GoodIn wsX0_forkFact wsX0_firstOf := goodIn_r _ [12, 13, 45, 46, 47, 48, 49, 50, 51] (by decide +kernel) (by decide +kernel)
set_option maxRecDepth 20000 in
theorem gX0_forkFact_X0_firstOf : GoodIn wsX0_forkFact (wsV RX0 88 RX0 yX0_firstOf wsX0_firstOf) := goodIn_app (goodIn_of _ (by decide +kernel)) ggX0_forkFact_X0_firstOf
set_option maxRecDepth 20000 in
theorem ggX0_forkFact_X3_entriesOf : GoodIn wsX0_forkFact wsX3_entriesOf := goodIn_r _ [18, 19, 20, 59, 60, 61, 62, 63, 64] (by decide +kernel) (by decide +kernel)
set_option maxRecDepth 20000 in
theorem gX0_forkFact_X3_entriesOf : GoodIn wsX0_forkFact (wsV RX0 79 RX3 yX3_entriesOf wsX3_entriesOf) := goodIn_app (goodIn_of _ (by decide +kernel)) ggX0_forkFact_X3_entriesOf
set_option maxRecDepth 20000 in
theorem ggX0_forkFact_X5_open : GoodIn wsX0_forkFact wsX5_open := goodIn_r _ [25, 26, 27, 28, 29, 30, 31, 32, 24, 33, 34, 35, 36, 52, 53, 54, 55, 56, 57, 58] (by decide +kernel) (by decide +kernel)
set_option maxRecDepth 20000 in
theorem gX0_forkFact_X5_open : GoodIn wsX0_forkFact (wsV RX0 94 RX5 yX5_open wsX5_open) := goodIn_app (goodIn_of _ (by decide +kernel)) ggX0_forkFact_X5_open
set_option maxRecDepth 20000 in
theorem ggX0_forkFact_X5_seek : GoodIn wsX0_forkFact wsX5_seek := goodIn_r _ [40, 27, 28, 35, 41, 42, 43, 24, 44, 29, 30, 31, 32, 33, 34, 26, 36, 52, 53, 54, 55, 56, 57, 58] (by decide +kernel) (by decide +kernel)
set_option maxRecDepth 20000 in
theorem gX0_forkFact_X5_seek : GoodIn wsX0_forkFact (wsV RX0 221 RX5 yX5_seek wsX5_seek) := goodIn_app (goodIn_of _ (by decide +kernel)) ggX0_forkFact_X5_seek
theorem dX0_forkFact_0 : decode cX0_forkFact 0 = .ok (.aload_n 0, 1) := by decide +kernel
theorem dX0_forkFact_1 : decode cX0_forkFact 1 = .ok (.getfield 34, 3) := by decide +kernel
theorem dX0_forkFact_4 : decode cX0_forkFact 4 = .ok (.aload_n 0, 1) := by decide +kernel
theorem dX0_forkFact_5 : decode cX0_forkFact 5 = .ok (.iload_n 1, 1) := by decide +kernel
theorem dX0_forkFact_6 : decode cX0_forkFact 6 = .ok (.invokevirtual 88, 3) := by decide +kernel
theorem dX0_forkFact_9 : decode cX0_forkFact 9 = .ok (.aload_n 0, 1) := by decide +kernel
theorem dX0_forkFact_10 : decode cX0_forkFact 10 = .ok (.getfield 12, 3) := by decide +kernel
theorem dX0_forkFact_13 : decode cX0_forkFact 13 = .ok (.iload_n 1, 1) := by decide +kernel
theorem dX0_forkFact_14 : decode cX0_forkFact 14 = .ok (.invokevirtual 79, 3) := by decide +kernel
theorem dX0_forkFact_17 : decode cX0_forkFact 17 = .ok (.invokevirtual 94, 3) := by decide +kernel
