theorem dX5_findFork_0 : decode cX5_findFork 0 = .ok (.aload_n 0, 1) := by decide +kernel
theorem dX5_findFork_1 : decode cX5_findFork 1 = .ok (.sipush 192, 3) := by decide +kernel
theorem dX5_findFork_4 : decode cX5_findFork 4 = .ok (.putfield 31, 3) := by decide +kernel
theorem dX5_findFork_7 : decode cX5_findFork 7 = .ok (.aload_n 0, 1) := by decide +kernel
theorem dX5_findFork_8 : decode cX5_findFork 8 = .ok (.aload_n 0, 1) := by decide +kernel
theorem dX5_findFork_9 : decode cX5_findFork 9 = .ok (.getfield 19, 3) := by decide +kernel
theorem dX5_findFork_12 : decode cX5_findFork 12 = .ok (.putfield 34, 3) := by decide +kernel
theorem dX5_findFork_15 : decode cX5_findFork 15 = .ok (.aload_n 0, 1) := by decide +kernel
theorem dX5_findFork_16 : decode cX5_findFork 16 = .ok (.getfield 19, 3) := by decide +kernel
theorem dX5_findFork_19 : decode cX5_findFork 19 = .ok (.istore_n 1, 1) := by decide +kernel
theorem dX5_findFork_20 : decode cX5_findFork 20 = .ok (.iload_n 1, 1) := by decide +kernel
theorem dX5_findFork_21 : decode cX5_findFork 21 = .ok (.aload_n 0, 1) := by decide +kernel
theorem dX5_findFork_22 : decode cX5_findFork 22 = .ok (.getfield 22, 3) := by decide +kernel
theorem dX5_findFork_25 : decode cX5_findFork 25 = .ok (.if_icmp .ge 57, 3) := by decide +kernel
theorem dX5_findFork_28 : decode cX5_findFork 28 = .ok (.aload_n 0, 1) := by decide +kernel
theorem dX5_findFork_29 : decode cX5_findFork 29 = .ok (.getfield 15, 3) := by decide +kernel
theorem dX5_findFork_32 : decode cX5_findFork 32 = .ok (.iload_n 1, 1) := by decide +kernel
theorem dX5_findFork_33 : decode cX5_findFork 33 = .ok (.iadd, 1) := by decide +kernel
theorem dX5_findFork_34 : decode cX5_findFork 34 = .ok (.istore_n 2, 1) := by decide +kernel
theorem dX5_findFork_35 : decode cX5_findFork 35 = .ok (.iload_n 2, 1) := by decide +kernel
theorem dX5_findFork_36 : decode cX5_findFork 36 = .ok (.ifCond .lt 40, 3) := by decide +kernel
theorem dX5_findFork_39 : decode cX5_findFork 39 = .ok (.iload_n 2, 1) := by decide +kernel
theorem dX5_findFork_40 : decode cX5_findFork 40 = .ok (.aload_n 0, 1) := by decide +kernel
theorem dX5_findFork_41 : decode cX5_findFork 41 = .ok (.getfield 9, 3) := by decide +kernel
theorem dX5_findFork_44 : decode cX5_findFork 44 = .ok (.arraylength, 1) := by decide +kernel
theorem dX5_findFork_45 : decode cX5_findFork 45 = .ok (.if_icmp .ge 31, 3) := by decide +kernel
theorem dX5_findFork_48 : decode cX5_findFork 48 = .ok (.aload_n 0, 1) := by decide +kernel
theorem dX5_findFork_49 : decode cX5_findFork 49 = .ok (.getfield 9, 3) := by decide +kernel
theorem dX5_findFork_52 : decode cX5_findFork 52 = .ok (.iload_n 2, 1) := by decide +kernel
theorem dX5_findFork_53 : decode cX5_findFork 53 = .ok (.iaload, 1) := by decide +kernel
theorem dX5_findFork_54 : decode cX5_findFork 54 = .ok (.aload_n 0, 1) := by decide +kernel
theorem dX5_findFork_55 : decode cX5_findFork 55 = .ok (.getfield 31, 3) := by decide +kernel
theorem dX5_findFork_58 : decode cX5_findFork 58 = .ok (.if_icmp .ge 18, 3) := by decide +kernel
theorem dX5_findFork_61 : decode cX5_findFork 61 = .ok (.aload_n 0, 1) := by decide +kernel
theorem dX5_findFork_62 : decode cX5_findFork 62 = .ok (.aload_n 0, 1) := by decide +kernel
theorem dX5_findFork_63 : decode cX5_findFork 63 = .ok (.getfield 9, 3) := by decide +kernel
theorem dX5_findFork_66 : decode cX5_findFork 66 = .ok (.iload_n 2, 1) := by decide +kernel
theorem dX5_findFork_67 : decode cX5_findFork 67 = .ok (.iaload, 1) := by decide +kernel
theorem dX5_findFork_68 : decode cX5_findFork 68 = .ok (.putfield 31, 3) := by decide +kernel
theorem dX5_findFork_71 : decode cX5_findFork 71 = .ok (.aload_n 0, 1) := by decide +kernel
theorem dX5_findFork_72 : decode cX5_findFork 72 = .ok (.iload_n 1, 1) := by decide +kernel
theorem dX5_findFork_73 : decode cX5_findFork 73 = .ok (.putfield 34, 3) := by decide +kernel
theorem dX5_findFork_76 : decode cX5_findFork 76 = .ok (.iinc 1 1, 3) := by decide +kernel
theorem dX5_findFork_79 : decode cX5_findFork 79 = .ok (.goto (-59), 3) := by decide +kernel
theorem dX5_findFork_82 : decode cX5_findFork 82 = .ok (.return_, 1) := by decide +kernel
theorem dX5_step_0 : decode cX5_step 0 = .ok (.iload_n 1, 1) := by decide +kernel
theorem dX5_step_1 : decode cX5_step 1 = .ok (.ifCond .eq 14, 3) := by decide +kernel
theorem dX5_step_4 : decode cX5_step 4 = .ok (.aload_n 0, 1) := by decide +kernel
theorem dX5_step_5 : decode cX5_step 5 = .ok (.aload_n 0, 1) := by decide +kernel
theorem dX5_step_6 : decode cX5_step 6 = .ok (.getfield 34, 3) := by decide +kernel
theorem dX5_step_9 : decode cX5_step 9 = .ok (.putfield 22, 3) := by decide +kernel
theorem dX5_step_12 : decode cX5_step 12 = .ok (.goto 13, 3) := by decide +kernel
theorem dX5_step_15 : decode cX5_step 15 = .ok (.aload_n 0, 1) := by decide +kernel
theorem dX5_step_16 : decode cX5_step 16 = .ok (.aload_n 0, 1) := by decide +kernel
theorem dX5_step_17 : decode cX5_step 17 = .ok (.getfield 34, 3) := by decide +kernel
theorem dX5_step_20 : decode cX5_step 20 = .ok (.iconst 1, 1) := by decide +kernel
theorem dX5_step_21 : decode cX5_step 21 = .ok (.iadd, 1) := by decide +kernel
theorem dX5_step_22 : decode cX5_step 22 = .ok (.putfield 19, 3) := by decide +kernel
theorem dX5_step_25 : decode cX5_step 25 = .ok (.aload_n 0, 1) := by decide +kernel
theorem dX5_step_26 : decode cX5_step 26 = .ok (.dup, 1) := by decide +kernel
theorem dX5_step_27 : decode cX5_step 27 = .ok (.getfield 25, 3) := by decide +kernel
theorem dX5_step_30 : decode cX5_step 30 = .ok (.iconst 1, 1) := by decide +kernel
theorem dX5_step_31 : decode cX5_step 31 = .ok (.iadd, 1) := by decide +kernel
theorem dX5_step_32 : decode cX5_step 32 = .ok (.putfield 25, 3) := by decide +kernel
theorem dX5_step_35 : decode cX5_step 35 = .ok (.return_, 1) := by decide +kernel
set_option maxRecDepth 20000 in
theorem ggX5_descend_X6_bitAt : GoodIn wsX5_descend wsX6_bitAt := goodIn_r _ [8, 9, 30, 31] (by decide +kernel) (by decide +kernel)
set_option maxRecDepth 20000 in
theorem gX5_descend_X6_bitAt : GoodIn wsX5_descend (wsV RX5 37 RX6 yX6_bitAt wsX6_bitAt) := goodIn_app (goodIn_of _ (by decide +kernel)) ggX5_descend_X6_bitAt
set_option maxRecDepth 20000 in
theorem ggX5_descend_X5_step : GoodIn wsX5_descend wsX5_step := goodIn_r _ [14, 15, 2, 1, 16, 23, 24, 25, 26, 27, 28, 29] (by decide +kernel) (by decide +kernel)
set_option maxRecDepth 20000 in
theorem gX5_descend_X5_step : GoodIn wsX5_descend (wsV RX5 43 RX5 yX5_step wsX5_step) := goodIn_app (goodIn_of _ (by decide +kernel)) ggX5_descend_X5_step
set_option maxRecDepth 20000 in
theorem ggX5_descend_X5_findFork : GoodIn wsX5_descend wsX5_findFork := goodIn_r _ [20, 3, 1, 15, 2, 21, 22, 23, 24, 25, 26, 27, 28, 29] (by decide +kernel) (by decide +kernel)
set_option maxRecDepth 20000 in
theorem gX5_descend_X5_findFork : GoodIn wsX5_descend (wsV RX5 28 RX5 yX5_findFork wsX5_findFork) := goodIn_app (goodIn_of _ (by decide +kernel)) ggX5_descend_X5_findFork
theorem dX5_descend_0 : decode cX5_descend 0 = .ok (.iconst 0, 1) := by decide +kernel
theorem dX5_descend_1 : decode cX5_descend 1 = .ok (.istore_n 3, 1) := by decide +kernel
theorem dX5_descend_2 : decode cX5_descend 2 = .ok (.iload_n 3, 1) := by decide +kernel
theorem dX5_descend_3 : decode cX5_descend 3 = .ok (.bipush 8, 2) := by decide +kernel
theorem dX5_descend_5 : decode cX5_descend 5 = .ok (.if_icmp .ge 52, 3) := by decide +kernel
theorem dX5_descend_8 : decode cX5_descend 8 = .ok (.aload_n 0, 1) := by decide +kernel
theorem dX5_descend_9 : decode cX5_descend 9 = .ok (.getfield 19, 3) := by decide +kernel
theorem dX5_descend_12 : decode cX5_descend 12 = .ok (.aload_n 0, 1) := by decide +kernel
theorem dX5_descend_13 : decode cX5_descend 13 = .ok (.getfield 22, 3) := by decide +kernel
theorem dX5_descend_16 : decode cX5_descend 16 = .ok (.if_icmp .ge 41, 3) := by decide +kernel
theorem dX5_descend_19 : decode cX5_descend 19 = .ok (.aload_n 0, 1) := by decide +kernel
theorem dX5_descend_20 : decode cX5_descend 20 = .ok (.getfield 31, 3) := by decide +kernel
theorem dX5_descend_23 : decode cX5_descend 23 = .ok (.iload_n 2, 1) := by decide +kernel
theorem dX5_descend_24 : decode cX5_descend 24 = .ok (.if_icmp .ge 33, 3) := by decide +kernel
theorem dX5_descend_27 : decode cX5_descend 27 = .ok (.aload_n 0, 1) := by decide +kernel
theorem dX5_descend_28 : decode cX5_descend 28 = .ok (.aload_n 1, 1) := by decide +kernel
theorem dX5_descend_29 : decode cX5_descend 29 = .ok (.aload_n 0, 1) := by decide +kernel
theorem dX5_descend_30 : decode cX5_descend 30 = .ok (.getfield 31, 3) := by decide +kernel
theorem dX5_descend_33 : decode cX5_descend 33 = .ok (.invokevirtual 37, 3) := by decide +kernel
theorem dX5_descend_36 : decode cX5_descend 36 = .ok (.ifCond .ne 7, 3) := by decide +kernel
theorem dX5_descend_39 : decode cX5_descend 39 = .ok (.iconst 1, 1) := by decide +kernel
theorem dX5_descend_40 : decode cX5_descend 40 = .ok (.goto 4, 3) := by decide +kernel
theorem dX5_descend_43 : decode cX5_descend 43 = .ok (.iconst 0, 1) := by decide +kernel
theorem dX5_descend_44 : decode cX5_descend 44 = .ok (.invokevirtual 43, 3) := by decide +kernel
theorem dX5_descend_47 : decode cX5_descend 47 = .ok (.aload_n 0, 1) := by decide +kernel
theorem dX5_descend_48 : decode cX5_descend 48 = .ok (.invokevirtual 28, 3) := by decide +kernel
theorem dX5_descend_51 : decode cX5_descend 51 = .ok (.iinc 3 1, 3) := by decide +kernel
theorem dX5_descend_54 : decode cX5_descend 54 = .ok (.goto (-52), 3) := by decide +kernel
theorem dX5_descend_57 : decode cX5_descend 57 = .ok (.return_, 1) := by decide +kernel
set_option maxRecDepth 20000 in
theorem ggX5_seek_X5_step : GoodIn wsX5_seek wsX5_step := goodIn_r _ [8, 3, 2, 1, 9, 17, 18, 19, 20, 21, 22, 23] (by decide +kernel) (by decide +kernel)
set_option maxRecDepth 20000 in
theorem gX5_seek_X5_step : GoodIn wsX5_seek (wsV RX5 43 RX5 yX5_step wsX5_step) := goodIn_app (goodIn_of _ (by decide +kernel)) ggX5_seek_X5_step
set_option maxRecDepth 20000 in
theorem ggX5_seek_X5_findFork : GoodIn wsX5_seek wsX5_findFork := goodIn_r _ [13, 14, 1, 3, 2, 15, 16, 17, 18, 19, 20, 21, 22, 23] (by decide +kernel) (by decide +kernel)
set_option maxRecDepth 20000 in
theorem gX5_seek_X5_findFork : GoodIn wsX5_seek (wsV RX5 28 RX5 yX5_findFork wsX5_findFork) := goodIn_app (goodIn_of _ (by decide +kernel)) ggX5_seek_X5_findFork
theorem dX5_seek_0 : decode cX5_seek 0 = .ok (.iload_n 1, 1) := by decide +kernel
theorem dX5_seek_1 : decode cX5_seek 1 = .ok (.istore_n 2, 1) := by decide +kernel
theorem dX5_seek_2 : decode cX5_seek 2 = .ok (.iconst 0, 1) := by decide +kernel
theorem dX5_seek_3 : decode cX5_seek 3 = .ok (.istore_n 3, 1) := by decide +kernel
theorem dX5_seek_4 : decode cX5_seek 4 = .ok (.iload_n 3, 1) := by decide +kernel
theorem dX5_seek_5 : decode cX5_seek 5 = .ok (.bipush 8, 2) := by decide +kernel
theorem dX5_seek_7 : decode cX5_seek 7 = .ok (.if_icmp .ge 76, 3) := by decide +kernel
theorem dX5_seek_10 : decode cX5_seek 10 = .ok (.aload_n 0, 1) := by decide +kernel
theorem dX5_seek_11 : decode cX5_seek 11 = .ok (.getfield 19, 3) := by decide +kernel
theorem dX5_seek_14 : decode cX5_seek 14 = .ok (.aload_n 0, 1) := by decide +kernel
theorem dX5_seek_15 : decode cX5_seek 15 = .ok (.getfield 22, 3) := by decide +kernel
theorem dX5_seek_18 : decode cX5_seek 18 = .ok (.if_icmp .ge 65, 3) := by decide +kernel
theorem dX5_seek_21 : decode cX5_seek 21 = .ok (.iload_n 2, 1) := by decide +kernel
theorem dX5_seek_22 : decode cX5_seek 22 = .ok (.ifCond .le 61, 3) := by decide +kernel
theorem dX5_seek_25 : decode cX5_seek 25 = .ok (.aload_n 0, 1) := by decide +kernel
theorem dX5_seek_26 : decode cX5_seek 26 = .ok (.getfield 34, 3) := by decide +kernel
theorem dX5_seek_29 : decode cX5_seek 29 = .ok (.aload_n 0, 1) := by decide +kernel
theorem dX5_seek_30 : decode cX5_seek 30 = .ok (.getfield 19, 3) := by decide +kernel
theorem dX5_seek_33 : decode cX5_seek 33 = .ok (.isub, 1) := by decide +kernel
theorem dX5_seek_34 : decode cX5_seek 34 = .ok (.istore 4, 2) := by decide +kernel
theorem dX5_seek_36 : decode cX5_seek 36 = .ok (.iload_n 2, 1) := by decide +kernel
theorem dX5_seek_37 : decode cX5_seek 37 = .ok (.iload 4, 2) := by decide +kernel
theorem dX5_seek_39 : decode cX5_seek 39 = .ok (.if_icmp .gt 7, 3) := by decide +kernel
theorem dX5_seek_42 : decode cX5_seek 42 = .ok (.iconst 1, 1) := by decide +kernel
theorem dX5_seek_43 : decode cX5_seek 43 = .ok (.goto 4, 3) := by decide +kernel
theorem dX5_seek_46 : decode cX5_seek 46 = .ok (.iconst 0, 1) := by decide +kernel
theorem dX5_seek_47 : decode cX5_seek 47 = .ok (.istore 5, 2) := by decide +kernel
theorem dX5_seek_49 : decode cX5_seek 49 = .ok (.iload 5, 2) := by decide +kernel
theorem dX5_seek_51 : decode cX5_seek 51 = .ok (.ifCond .eq 9, 3) := by decide +kernel
theorem dX5_seek_54 : decode cX5_seek 54 = .ok (.iload_n 2, 1) := by decide +kernel
theorem dX5_seek_55 : decode cX5_seek 55 = .ok (.iconst 1, 1) := by decide +kernel
theorem dX5_seek_56 : decode cX5_seek 56 = .ok (.isub, 1) := by decide +kernel
theorem dX5_seek_57 : decode cX5_seek 57 = .ok (.goto 9, 3) := by decide +kernel
theorem dX5_seek_60 : decode cX5_seek 60 = .ok (.iload_n 2, 1) := by decide +kernel
theorem dX5_seek_61 : decode cX5_seek 61 = .ok (.iconst 1, 1) := by decide +kernel
theorem dX5_seek_62 : decode cX5_seek 62 = .ok (.isub, 1) := by decide +kernel
theorem dX5_seek_63 : decode cX5_seek 63 = .ok (.iload 4, 2) := by decide +kernel
theorem dX5_seek_65 : decode cX5_seek 65 = .ok (.isub, 1) := by decide +kernel
theorem dX5_seek_66 : decode cX5_seek 66 = .ok (.istore_n 2, 1) := by decide +kernel
theorem dX5_seek_67 : decode cX5_seek 67 = .ok (.aload_n 0, 1) := by decide +kernel
theorem dX5_seek_68 : decode cX5_seek 68 = .ok (.iload 5, 2) := by decide +kernel
theorem dX5_seek_70 : decode cX5_seek 70 = .ok (.invokevirtual 43, 3) := by decide +kernel
theorem dX5_seek_73 : decode cX5_seek 73 = .ok (.aload_n 0, 1) := by decide +kernel
theorem dX5_seek_74 : decode cX5_seek 74 = .ok (.invokevirtual 28, 3) := by decide +kernel
theorem dX5_seek_77 : decode cX5_seek 77 = .ok (.iinc 3 1, 3) := by decide +kernel
theorem dX5_seek_80 : decode cX5_seek 80 = .ok (.goto (-76), 3) := by decide +kernel
theorem dX5_seek_83 : decode cX5_seek 83 = .ok (.return_, 1) := by decide +kernel
theorem dX6_init_0 : decode cX6_init 0 = .ok (.aload_n 0, 1) := by decide +kernel
theorem dX6_init_1 : decode cX6_init 1 = .ok (.invokespecial 3, 3) := by decide +kernel
theorem dX6_init_4 : decode cX6_init 4 = .ok (.aload_n 0, 1) := by decide +kernel
theorem dX6_init_5 : decode cX6_init 5 = .ok (.iconst 3, 1) := by decide +kernel
theorem dX6_init_6 : decode cX6_init 6 = .ok (.newarray .long, 2) := by decide +kernel
theorem dX6_init_8 : decode cX6_init 8 = .ok (.putfield 9, 3) := by decide +kernel
theorem dX6_init_11 : decode cX6_init 11 = .ok (.return_, 1) := by decide +kernel
theorem dX6_empty_0 : decode cX6_empty 0 = .ok (.iconst 0, 1) := by decide +kernel
theorem dX6_empty_1 : decode cX6_empty 1 = .ok (.istore_n 1, 1) := by decide +kernel
theorem dX6_empty_2 : decode cX6_empty 2 = .ok (.iload_n 1, 1) := by decide +kernel
theorem dX6_empty_3 : decode cX6_empty 3 = .ok (.aload_n 0, 1) := by decide +kernel
theorem dX6_empty_4 : decode cX6_empty 4 = .ok (.getfield 9, 3) := by decide +kernel
theorem dX6_empty_7 : decode cX6_empty 7 = .ok (.arraylength, 1) := by decide +kernel
theorem dX6_empty_8 : decode cX6_empty 8 = .ok (.if_icmp .ge 16, 3) := by decide +kernel
theorem dX6_empty_11 : decode cX6_empty 11 = .ok (.aload_n 0, 1) := by decide +kernel
theorem dX6_empty_12 : decode cX6_empty 12 = .ok (.getfield 9, 3) := by decide +kernel
theorem dX6_empty_15 : decode cX6_empty 15 = .ok (.iload_n 1, 1) := by decide +kernel
theorem dX6_empty_16 : decode cX6_empty 16 = .ok (.lconst 0, 1) := by decide +kernel
theorem dX6_empty_17 : decode cX6_empty 17 = .ok (.lastore, 1) := by decide +kernel
theorem dX6_empty_18 : decode cX6_empty 18 = .ok (.iinc 1 1, 3) := by decide +kernel
theorem dX6_empty_21 : decode cX6_empty 21 = .ok (.goto (-19), 3) := by decide +kernel
theorem dX6_empty_24 : decode cX6_empty 24 = .ok (.aload_n 0, 1) := by decide +kernel
theorem dX6_empty_25 : decode cX6_empty 25 = .ok (.iconst 0, 1) := by decide +kernel
theorem dX6_empty_26 : decode cX6_empty 26 = .ok (.putfield 15, 3) := by decide +kernel
theorem dX6_empty_29 : decode cX6_empty 29 = .ok (.return_, 1) := by decide +kernel
theorem dX6_append_0 : decode cX6_append 0 = .ok (.aload_n 0, 1) := by decide +kernel
theorem dX6_append_1 : decode cX6_append 1 = .ok (.getfield 15, 3) := by decide +kernel
theorem dX6_append_4 : decode cX6_append 4 = .ok (.iconst 3, 1) := by decide +kernel
theorem dX6_append_5 : decode cX6_append 5 = .ok (.ishr, 1) := by decide +kernel
theorem dX6_append_6 : decode cX6_append 6 = .ok (.istore_n 2, 1) := by decide +kernel
theorem dX6_append_7 : decode cX6_append 7 = .ok (.aload_n 0, 1) := by decide +kernel
theorem dX6_append_8 : decode cX6_append 8 = .ok (.getfield 15, 3) := by decide +kernel
theorem dX6_append_11 : decode cX6_append 11 = .ok (.bipush 24, 2) := by decide +kernel
theorem dX6_append_13 : decode cX6_append 13 = .ok (.if_icmp .ge 51, 3) := by decide +kernel
theorem dX6_append_16 : decode cX6_append 16 = .ok (.iload_n 2, 1) := by decide +kernel
theorem dX6_append_17 : decode cX6_append 17 = .ok (.ifCond .lt 47, 3) := by decide +kernel
theorem dX6_append_20 : decode cX6_append 20 = .ok (.iload_n 2, 1) := by decide +kernel
theorem dX6_append_21 : decode cX6_append 21 = .ok (.aload_n 0, 1) := by decide +kernel
theorem dX6_append_22 : decode cX6_append 22 = .ok (.getfield 9, 3) := by decide +kernel
theorem dX6_append_25 : decode cX6_append 25 = .ok (.arraylength, 1) := by decide +kernel
theorem dX6_append_26 : decode cX6_append 26 = .ok (.if_icmp .ge 38, 3) := by decide +kernel
theorem dX6_append_29 : decode cX6_append 29 = .ok (.aload_n 0, 1) := by decide +kernel
theorem dX6_append_30 : decode cX6_append 30 = .ok (.getfield 9, 3) := by decide +kernel
theorem dX6_append_33 : decode cX6_append 33 = .ok (.iload_n 2, 1) := by decide +kernel
theorem dX6_append_34 : decode cX6_append 34 = .ok (.dup2, 1) := by decide +kernel
theorem dX6_append_35 : decode cX6_append 35 = .ok (.laload, 1) := by decide +kernel
theorem dX6_append_36 : decode cX6_append 36 = .ok (.iload_n 1, 1) := by decide +kernel
theorem dX6_append_37 : decode cX6_append 37 = .ok (.i2l, 1) := by decide +kernel
theorem dX6_append_38 : decode cX6_append 38 = .ok (.bipush 56, 2) := by decide +kernel
theorem dX6_append_40 : decode cX6_append 40 = .ok (.bipush 8, 2) := by decide +kernel
theorem dX6_append_42 : decode cX6_append 42 = .ok (.aload_n 0, 1) := by decide +kernel
theorem dX6_append_43 : decode cX6_append 43 = .ok (.getfield 15, 3) := by decide +kernel
theorem dX6_append_46 : decode cX6_append 46 = .ok (.bipush 7, 2) := by decide +kernel
theorem dX6_append_48 : decode cX6_append 48 = .ok (.iand, 1) := by decide +kernel
theorem dX6_append_49 : decode cX6_append 49 = .ok (.imul, 1) := by decide +kernel
theorem dX6_append_50 : decode cX6_append 50 = .ok (.isub, 1) := by decide +kernel
theorem dX6_append_51 : decode cX6_append 51 = .ok (.lshl, 1) := by decide +kernel
theorem dX6_append_52 : decode cX6_append 52 = .ok (.lor, 1) := by decide +kernel
theorem dX6_append_53 : decode cX6_append 53 = .ok (.lastore, 1) := by decide +kernel
theorem dX6_append_54 : decode cX6_append 54 = .ok (.aload_n 0, 1) := by decide +kernel
theorem dX6_append_55 : decode cX6_append 55 = .ok (.dup, 1) := by decide +kernel
theorem dX6_append_56 : decode cX6_append 56 = .ok (.getfield 15, 3) := by decide +kernel
theorem dX6_append_59 : decode cX6_append 59 = .ok (.iconst 1, 1) := by decide +kernel
theorem dX6_append_60 : decode cX6_append 60 = .ok (.iadd, 1) := by decide +kernel
theorem dX6_append_61 : decode cX6_append 61 = .ok (.putfield 15, 3) := by decide +kernel
theorem dX6_append_64 : decode cX6_append 64 = .ok (.return_, 1) := by decide +kernel
theorem dX6_copyFrom_0 : decode cX6_copyFrom 0 = .ok (.iconst 0, 1) := by decide +kernel
theorem dX6_copyFrom_1 : decode cX6_copyFrom 1 = .ok (.istore_n 2, 1) := by decide +kernel
theorem dX6_copyFrom_2 : decode cX6_copyFrom 2 = .ok (.iload_n 2, 1) := by decide +kernel
theorem dX6_copyFrom_3 : decode cX6_copyFrom 3 = .ok (.aload_n 0, 1) := by decide +kernel
theorem dX6_copyFrom_4 : decode cX6_copyFrom 4 = .ok (.getfield 9, 3) := by decide +kernel
theorem dX6_copyFrom_7 : decode cX6_copyFrom 7 = .ok (.arraylength, 1) := by decide +kernel
theorem dX6_copyFrom_8 : decode cX6_copyFrom 8 = .ok (.if_icmp .ge 30, 3) := by decide +kernel
theorem dX6_copyFrom_11 : decode cX6_copyFrom 11 = .ok (.iload_n 2, 1) := by decide +kernel
theorem dX6_copyFrom_12 : decode cX6_copyFrom 12 = .ok (.aload_n 1, 1) := by decide +kernel
theorem dX6_copyFrom_13 : decode cX6_copyFrom 13 = .ok (.getfield 9, 3) := by decide +kernel
theorem dX6_copyFrom_16 : decode cX6_copyFrom 16 = .ok (.arraylength, 1) := by decide +kernel
theorem dX6_copyFrom_17 : decode cX6_copyFrom 17 = .ok (.if_icmp .ge 21, 3) := by decide +kernel
theorem dX6_copyFrom_20 : decode cX6_copyFrom 20 = .ok (.aload_n 0, 1) := by decide +kernel
theorem dX6_copyFrom_21 : decode cX6_copyFrom 21 = .ok (.getfield 9, 3) := by decide +kernel
theorem dX6_copyFrom_24 : decode cX6_copyFrom 24 = .ok (.iload_n 2, 1) := by decide +kernel
theorem dX6_copyFrom_25 : decode cX6_copyFrom 25 = .ok (.aload_n 1, 1) := by decide +kernel
theorem dX6_copyFrom_26 : decode cX6_copyFrom 26 = .ok (.getfield 9, 3) := by decide +kernel
theorem dX6_copyFrom_29 : decode cX6_copyFrom 29 = .ok (.iload_n 2, 1) := by decide +kernel
theorem dX6_copyFrom_30 : decode cX6_copyFrom 30 = .ok (.laload, 1) := by decide +kernel
theorem dX6_copyFrom_31 : decode cX6_copyFrom 31 = .ok (.lastore, 1) := by decide +kernel
theorem dX6_copyFrom_32 : decode cX6_copyFrom 32 = .ok (.iinc 2 1, 3) := by decide +kernel
theorem dX6_copyFrom_35 : decode cX6_copyFrom 35 = .ok (.goto (-33), 3) := by decide +kernel
theorem dX6_copyFrom_38 : decode cX6_copyFrom 38 = .ok (.aload_n 0, 1) := by decide +kernel
theorem dX6_copyFrom_39 : decode cX6_copyFrom 39 = .ok (.aload_n 1, 1) := by decide +kernel
theorem dX6_copyFrom_40 : decode cX6_copyFrom 40 = .ok (.getfield 15, 3) := by decide +kernel
theorem dX6_copyFrom_43 : decode cX6_copyFrom 43 = .ok (.putfield 15, 3) := by decide +kernel
theorem dX6_copyFrom_46 : decode cX6_copyFrom 46 = .ok (.return_, 1) := by decide +kernel
theorem dX6_bitAt_0 : decode cX6_bitAt 0 = .ok (.iload_n 1, 1) := by decide +kernel
theorem dX6_bitAt_1 : decode cX6_bitAt 1 = .ok (.bipush 6, 2) := by decide +kernel
theorem dX6_bitAt_3 : decode cX6_bitAt 3 = .ok (.ishr, 1) := by decide +kernel
theorem dX6_bitAt_4 : decode cX6_bitAt 4 = .ok (.istore_n 2, 1) := by decide +kernel
theorem dX6_bitAt_5 : decode cX6_bitAt 5 = .ok (.iload_n 2, 1) := by decide +kernel
theorem dX6_bitAt_6 : decode cX6_bitAt 6 = .ok (.ifCond .lt 32, 3) := by decide +kernel
theorem dX6_bitAt_9 : decode cX6_bitAt 9 = .ok (.iload_n 2, 1) := by decide +kernel
theorem dX6_bitAt_10 : decode cX6_bitAt 10 = .ok (.aload_n 0, 1) := by decide +kernel
theorem dX6_bitAt_11 : decode cX6_bitAt 11 = .ok (.getfield 9, 3) := by decide +kernel
theorem dX6_bitAt_14 : decode cX6_bitAt 14 = .ok (.arraylength, 1) := by decide +kernel
theorem dX6_bitAt_15 : decode cX6_bitAt 15 = .ok (.if_icmp .ge 23, 3) := by decide +kernel
theorem dX6_bitAt_18 : decode cX6_bitAt 18 = .ok (.aload_n 0, 1) := by decide +kernel
theorem dX6_bitAt_19 : decode cX6_bitAt 19 = .ok (.getfield 9, 3) := by decide +kernel
theorem dX6_bitAt_22 : decode cX6_bitAt 22 = .ok (.iload_n 2, 1) := by decide +kernel
theorem dX6_bitAt_23 : decode cX6_bitAt 23 = .ok (.laload, 1) := by decide +kernel
theorem dX6_bitAt_24 : decode cX6_bitAt 24 = .ok (.bipush 63, 2) := by decide +kernel
theorem dX6_bitAt_26 : decode cX6_bitAt 26 = .ok (.iload_n 1, 1) := by decide +kernel
theorem dX6_bitAt_27 : decode cX6_bitAt 27 = .ok (.bipush 63, 2) := by decide +kernel
theorem dX6_bitAt_29 : decode cX6_bitAt 29 = .ok (.iand, 1) := by decide +kernel
theorem dX6_bitAt_30 : decode cX6_bitAt 30 = .ok (.isub, 1) := by decide +kernel
theorem dX6_bitAt_31 : decode cX6_bitAt 31 = .ok (.lushr, 1) := by decide +kernel
theorem dX6_bitAt_32 : decode cX6_bitAt 32 = .ok (.l2i, 1) := by decide +kernel
theorem dX6_bitAt_33 : decode cX6_bitAt 33 = .ok (.iconst 1, 1) := by decide +kernel
theorem dX6_bitAt_34 : decode cX6_bitAt 34 = .ok (.iand, 1) := by decide +kernel
theorem dX6_bitAt_35 : decode cX6_bitAt 35 = .ok (.goto 4, 3) := by decide +kernel
theorem dX6_bitAt_38 : decode cX6_bitAt 38 = .ok (.iconst 0, 1) := by decide +kernel
theorem dX6_bitAt_39 : decode cX6_bitAt 39 = .ok (.ireturn, 1) := by decide +kernel
theorem dX6_signAt_0 : decode cX6_signAt 0 = .ok (.iload_n 1, 1) := by decide +kernel
theorem dX6_signAt_1 : decode cX6_signAt 1 = .ok (.iconst 3, 1) := by decide +kernel
theorem dX6_signAt_2 : decode cX6_signAt 2 = .ok (.ishr, 1) := by decide +kernel
theorem dX6_signAt_3 : decode cX6_signAt 3 = .ok (.istore_n 2, 1) := by decide +kernel
theorem dX6_signAt_4 : decode cX6_signAt 4 = .ok (.iload_n 2, 1) := by decide +kernel
theorem dX6_signAt_5 : decode cX6_signAt 5 = .ok (.ifCond .lt 36, 3) := by decide +kernel
theorem dX6_signAt_8 : decode cX6_signAt 8 = .ok (.iload_n 2, 1) := by decide +kernel
theorem dX6_signAt_9 : decode cX6_signAt 9 = .ok (.aload_n 0, 1) := by decide +kernel
theorem dX6_signAt_10 : decode cX6_signAt 10 = .ok (.getfield 9, 3) := by decide +kernel
theorem dX6_signAt_13 : decode cX6_signAt 13 = .ok (.arraylength, 1) := by decide +kernel
theorem dX6_signAt_14 : decode cX6_signAt 14 = .ok (.if_icmp .ge 27, 3) := by decide +kernel
theorem dX6_signAt_17 : decode cX6_signAt 17 = .ok (.aload_n 0, 1) := by decide +kernel
theorem dX6_signAt_18 : decode cX6_signAt 18 = .ok (.getfield 9, 3) := by decide +kernel
theorem dX6_signAt_21 : decode cX6_signAt 21 = .ok (.iload_n 2, 1) := by decide +kernel
theorem dX6_signAt_22 : decode cX6_signAt 22 = .ok (.laload, 1) := by decide +kernel
theorem dX6_signAt_23 : decode cX6_signAt 23 = .ok (.bipush 56, 2) := by decide +kernel
theorem dX6_signAt_25 : decode cX6_signAt 25 = .ok (.bipush 8, 2) := by decide +kernel
theorem dX6_signAt_27 : decode cX6_signAt 27 = .ok (.iload_n 1, 1) := by decide +kernel
theorem dX6_signAt_28 : decode cX6_signAt 28 = .ok (.bipush 7, 2) := by decide +kernel
theorem dX6_signAt_30 : decode cX6_signAt 30 = .ok (.iand, 1) := by decide +kernel
theorem dX6_signAt_31 : decode cX6_signAt 31 = .ok (.imul, 1) := by decide +kernel
theorem dX6_signAt_32 : decode cX6_signAt 32 = .ok (.isub, 1) := by decide +kernel
theorem dX6_signAt_33 : decode cX6_signAt 33 = .ok (.lushr, 1) := by decide +kernel
theorem dX6_signAt_34 : decode cX6_signAt 34 = .ok (.l2i, 1) := by decide +kernel
theorem dX6_signAt_35 : decode cX6_signAt 35 = .ok (.bipush 127, 2) := by decide +kernel
theorem dX6_signAt_37 : decode cX6_signAt 37 = .ok (.iand, 1) := by decide +kernel
theorem dX6_signAt_38 : decode cX6_signAt 38 = .ok (.goto 4, 3) := by decide +kernel
theorem dX6_signAt_41 : decode cX6_signAt 41 = .ok (.iconst 0, 1) := by decide +kernel
theorem dX6_signAt_42 : decode cX6_signAt 42 = .ok (.ireturn, 1) := by decide +kernel
set_option maxRecDepth 20000 in
theorem ggX6_partingFrom_J13_numberOfLeadingZeros_95d88 : GoodIn wsX6_partingFrom wsJ13_numberOfLeadingZeros_95d88 := goodIn_r _ [5, 6, 7, 8, 9, 10] (by decide +kernel) (by decide +kernel)
set_option maxRecDepth 20000 in
theorem gX6_partingFrom_J13_numberOfLeadingZeros_95d88 : GoodIn wsX6_partingFrom (va_wsS RX6 19 yJ13_numberOfLeadingZeros_95d88 wsJ13_numberOfLeadingZeros_95d88) := goodIn_app (goodIn_of _ (by decide +kernel)) ggX6_partingFrom_J13_numberOfLeadingZeros_95d88
theorem dX6_partingFrom_0 : decode cX6_partingFrom 0 = .ok (.iconst 0, 1) := by decide +kernel
theorem dX6_partingFrom_1 : decode cX6_partingFrom 1 = .ok (.istore_n 2, 1) := by decide +kernel
theorem dX6_partingFrom_2 : decode cX6_partingFrom 2 = .ok (.iload_n 2, 1) := by decide +kernel
theorem dX6_partingFrom_3 : decode cX6_partingFrom 3 = .ok (.aload_n 0, 1) := by decide +kernel
theorem dX6_partingFrom_4 : decode cX6_partingFrom 4 = .ok (.getfield 9, 3) := by decide +kernel
theorem dX6_partingFrom_7 : decode cX6_partingFrom 7 = .ok (.arraylength, 1) := by decide +kernel
theorem dX6_partingFrom_8 : decode cX6_partingFrom 8 = .ok (.if_icmp .ge 48, 3) := by decide +kernel
theorem dX6_partingFrom_11 : decode cX6_partingFrom 11 = .ok (.iload_n 2, 1) := by decide +kernel
theorem dX6_partingFrom_12 : decode cX6_partingFrom 12 = .ok (.aload_n 1, 1) := by decide +kernel
theorem dX6_partingFrom_13 : decode cX6_partingFrom 13 = .ok (.getfield 9, 3) := by decide +kernel
theorem dX6_partingFrom_16 : decode cX6_partingFrom 16 = .ok (.arraylength, 1) := by decide +kernel
theorem dX6_partingFrom_17 : decode cX6_partingFrom 17 = .ok (.if_icmp .ge 39, 3) := by decide +kernel
theorem dX6_partingFrom_20 : decode cX6_partingFrom 20 = .ok (.aload_n 0, 1) := by decide +kernel
theorem dX6_partingFrom_21 : decode cX6_partingFrom 21 = .ok (.getfield 9, 3) := by decide +kernel
theorem dX6_partingFrom_24 : decode cX6_partingFrom 24 = .ok (.iload_n 2, 1) := by decide +kernel
theorem dX6_partingFrom_25 : decode cX6_partingFrom 25 = .ok (.laload, 1) := by decide +kernel
theorem dX6_partingFrom_26 : decode cX6_partingFrom 26 = .ok (.aload_n 1, 1) := by decide +kernel
theorem dX6_partingFrom_27 : decode cX6_partingFrom 27 = .ok (.getfield 9, 3) := by decide +kernel
theorem dX6_partingFrom_30 : decode cX6_partingFrom 30 = .ok (.iload_n 2, 1) := by decide +kernel
theorem dX6_partingFrom_31 : decode cX6_partingFrom 31 = .ok (.laload, 1) := by decide +kernel
theorem dX6_partingFrom_32 : decode cX6_partingFrom 32 = .ok (.lxor, 1) := by decide +kernel
theorem dX6_partingFrom_33 : decode cX6_partingFrom 33 = .ok (.lstore_n 3, 1) := by decide +kernel
theorem dX6_partingFrom_34 : decode cX6_partingFrom 34 = .ok (.lload_n 3, 1) := by decide +kernel
theorem dX6_partingFrom_35 : decode cX6_partingFrom 35 = .ok (.lconst 0, 1) := by decide +kernel
theorem dX6_partingFrom_36 : decode cX6_partingFrom 36 = .ok (.lcmp, 1) := by decide +kernel
theorem dX6_partingFrom_37 : decode cX6_partingFrom 37 = .ok (.ifCond .eq 13, 3) := by decide +kernel
theorem dX6_partingFrom_40 : decode cX6_partingFrom 40 = .ok (.bipush 64, 2) := by decide +kernel
theorem dX6_partingFrom_42 : decode cX6_partingFrom 42 = .ok (.iload_n 2, 1) := by decide +kernel
theorem dX6_partingFrom_43 : decode cX6_partingFrom 43 = .ok (.imul, 1) := by decide +kernel
theorem dX6_partingFrom_44 : decode cX6_partingFrom 44 = .ok (.lload_n 3, 1) := by decide +kernel
theorem dX6_partingFrom_45 : decode cX6_partingFrom 45 = .ok (.invokestatic 19, 3) := by decide +kernel
theorem dX6_partingFrom_48 : decode cX6_partingFrom 48 = .ok (.iadd, 1) := by decide +kernel
theorem dX6_partingFrom_49 : decode cX6_partingFrom 49 = .ok (.ireturn, 1) := by decide +kernel
theorem dX6_partingFrom_50 : decode cX6_partingFrom 50 = .ok (.iinc 2 1, 3) := by decide +kernel
theorem dX6_partingFrom_53 : decode cX6_partingFrom 53 = .ok (.goto (-51), 3) := by decide +kernel
theorem dX6_partingFrom_56 : decode cX6_partingFrom 56 = .ok (.iconst (-1), 1) := by decide +kernel
theorem dX6_partingFrom_57 : decode cX6_partingFrom 57 = .ok (.ireturn, 1) := by decide +kernel
set_option maxRecDepth 20000 in
theorem ggX6_alike_X6_partingFrom : GoodIn wsX6_alike wsX6_partingFrom := goodIn_r _ [6, 7, 8, 9, 10, 11, 12, 13, 14, 15, 16, 17, 18] (by decide +kernel) (by decide +kernel)
set_option maxRecDepth 20000 in
theorem gX6_alike_X6_partingFrom : GoodIn wsX6_alike (wsV RX6 25 RX6 yX6_partingFrom wsX6_partingFrom) := goodIn_app (goodIn_of _ (by decide +kernel)) ggX6_alike_X6_partingFrom
theorem dX6_alike_0 : decode cX6_alike 0 = .ok (.aload_n 0, 1) := by decide +kernel
theorem dX6_alike_1 : decode cX6_alike 1 = .ok (.aload_n 1, 1) := by decide +kernel
theorem dX6_alike_2 : decode cX6_alike 2 = .ok (.invokevirtual 25, 3) := by decide +kernel
theorem dX6_alike_5 : decode cX6_alike 5 = .ok (.istore_n 2, 1) := by decide +kernel
theorem dX6_alike_6 : decode cX6_alike 6 = .ok (.iload_n 2, 1) := by decide +kernel
theorem dX6_alike_7 : decode cX6_alike 7 = .ok (.iconst (-1), 1) := by decide +kernel
theorem dX6_alike_8 : decode cX6_alike 8 = .ok (.if_icmp .ne 13, 3) := by decide +kernel
theorem dX6_alike_11 : decode cX6_alike 11 = .ok (.bipush 8, 2) := by decide +kernel
theorem dX6_alike_13 : decode cX6_alike 13 = .ok (.aload_n 0, 1) := by decide +kernel
theorem dX6_alike_14 : decode cX6_alike 14 = .ok (.getfield 15, 3) := by decide +kernel
theorem dX6_alike_17 : decode cX6_alike 17 = .ok (.imul, 1) := by decide +kernel
theorem dX6_alike_18 : decode cX6_alike 18 = .ok (.goto 4, 3) := by decide +kernel
theorem dX6_alike_21 : decode cX6_alike 21 = .ok (.iload_n 2, 1) := by decide +kernel
theorem dX6_alike_22 : decode cX6_alike 22 = .ok (.ireturn, 1) := by decide +kernel
set_option maxRecDepth 20000 in
theorem ggX7_init_X4_init : GoodIn wsX7_init wsX4_init := goodIn_r _ [25, 26, 2, 3, 27, 28, 75, 76] (by decide +kernel) (by decide +kernel)
set_option maxRecDepth 20000 in
theorem gX7_init_X4_init_n9 : GoodIn wsX7_init (wsX4_init) := ggX7_init_X4_init
set_option maxRecDepth 20000 in
theorem ggX7_init_X6_init : GoodIn wsX7_init wsX6_init := goodIn_r _ [30, 31, 2, 3, 32, 33, 85, 86] (by decide +kernel) (by decide +kernel)
set_option maxRecDepth 20000 in
theorem gX7_init_X6_init_n18 : GoodIn wsX7_init (wsX6_init) := ggX7_init_X6_init
set_option maxRecDepth 20000 in
theorem ggX7_init_X0_init : GoodIn wsX7_init wsX0_init := goodIn_r _ [36, 37, 2, 3, 38, 39, 40, 41, 42, 43, 44, 45, 46, 47, 48, 49, 50, 51, 52, 21, 22, 53, 54, 55, 56, 57, 58, 59, 60, 9, 10, 29, 30, 31, 32, 33, 61, 62, 63, 64, 65, 66, 67, 103, 104, 105, 106, 107, 108, 87, 88, 89, 90, 91, 92, 93, 109, 110, 111, 112, 113, 114, 115, 97, 98, 99, 100, 101, 102, 85, 86] (by decide +kernel) (by decide +kernel)
set_option maxRecDepth 20000 in
theorem gX7_init_X0_init : GoodIn wsX7_init (wsX0_init) := ggX7_init_X0_init
set_option maxRecDepth 20000 in
theorem ggX7_init_X2_init : GoodIn wsX7_init wsX2_init := goodIn_r _ [70, 71, 2, 3, 72, 73, 39, 40, 74, 54, 55, 56, 57, 58, 42, 59, 60, 9, 10, 29, 30, 31, 32, 33, 94, 95, 96, 103, 104, 105, 106, 107, 108, 85, 86] (by decide +kernel) (by decide +kernel)
set_option maxRecDepth 20000 in
theorem gX7_init_X2_init : GoodIn wsX7_init (wsX2_init) := ggX7_init_X2_init
set_option maxRecDepth 20000 in
theorem ggX7_init_X1_init : GoodIn wsX7_init wsX1_init := goodIn_r _ [66, 67, 2, 3] (by decide +kernel) (by decide +kernel)
set_option maxRecDepth 20000 in
theorem gX7_init_X1_init_n39 : GoodIn wsX7_init (wsX1_init) := ggX7_init_X1_init
theorem dX7_init_0 : decode cX7_init 0 = .ok (.aload_n 0, 1) := by decide +kernel
theorem dX7_init_1 : decode cX7_init 1 = .ok (.invokespecial 1, 3) := by decide +kernel
theorem dX7_init_4 : decode cX7_init 4 = .ok (.aload_n 0, 1) := by decide +kernel
theorem dX7_init_5 : decode cX7_init 5 = .ok (.new 7, 3) := by decide +kernel
theorem dX7_init_8 : decode cX7_init 8 = .ok (.dup, 1) := by decide +kernel
theorem dX7_init_9 : decode cX7_init 9 = .ok (.invokespecial 9, 3) := by decide +kernel
theorem dX7_init_12 : decode cX7_init 12 = .ok (.putfield 10, 3) := by decide +kernel
theorem dX7_init_15 : decode cX7_init 15 = .ok (.aload_n 0, 1) := by decide +kernel
theorem dX7_init_16 : decode cX7_init 16 = .ok (.new 16, 3) := by decide +kernel
theorem dX7_init_19 : decode cX7_init 19 = .ok (.dup, 1) := by decide +kernel
theorem dX7_init_20 : decode cX7_init 20 = .ok (.invokespecial 18, 3) := by decide +kernel
theorem dX7_init_23 : decode cX7_init 23 = .ok (.putfield 19, 3) := by decide +kernel
theorem dX7_init_26 : decode cX7_init 26 = .ok (.aload_n 0, 1) := by decide +kernel
theorem dX7_init_27 : decode cX7_init 27 = .ok (.new 23, 3) := by decide +kernel
theorem dX7_init_30 : decode cX7_init 30 = .ok (.dup, 1) := by decide +kernel
theorem dX7_init_31 : decode cX7_init 31 = .ok (.invokespecial 25, 3) := by decide +kernel
theorem dX7_init_34 : decode cX7_init 34 = .ok (.putfield 26, 3) := by decide +kernel
theorem dX7_init_37 : decode cX7_init 37 = .ok (.aload_n 0, 1) := by decide +kernel
theorem dX7_init_38 : decode cX7_init 38 = .ok (.new 30, 3) := by decide +kernel
theorem dX7_init_41 : decode cX7_init 41 = .ok (.dup, 1) := by decide +kernel
theorem dX7_init_42 : decode cX7_init 42 = .ok (.invokespecial 32, 3) := by decide +kernel
theorem dX7_init_45 : decode cX7_init 45 = .ok (.putfield 33, 3) := by decide +kernel
theorem dX7_init_48 : decode cX7_init 48 = .ok (.aload_n 0, 1) := by decide +kernel
theorem dX7_init_49 : decode cX7_init 49 = .ok (.new 37, 3) := by decide +kernel
theorem dX7_init_52 : decode cX7_init 52 = .ok (.dup, 1) := by decide +kernel
theorem dX7_init_53 : decode cX7_init 53 = .ok (.invokespecial 39, 3) := by decide +kernel
theorem dX7_init_56 : decode cX7_init 56 = .ok (.putfield 40, 3) := by decide +kernel
theorem dX7_init_59 : decode cX7_init 59 = .ok (.return_, 1) := by decide +kernel
set_option maxRecDepth 20000 in
theorem ggX7_type_X7_refuse : GoodIn wsX7_type wsX7_refuse := goodIn_r _ [7, 8, 9, 10, 18, 19, 20, 21, 22, 23, 24, 25] (by decide +kernel) (by decide +kernel)
set_option maxRecDepth 20000 in
theorem gX7_type_X7_refuse : GoodIn wsX7_type (wsV RX7 44 RX7 yX7_refuse wsX7_refuse) := goodIn_app (goodIn_of _ (by decide +kernel)) ggX7_type_X7_refuse
set_option maxRecDepth 20000 in
theorem ggX7_type_X4_append : GoodIn wsX7_type wsX4_append := goodIn_r _ [15, 16, 17, 26, 27] (by decide +kernel) (by decide +kernel)
set_option maxRecDepth 20000 in
theorem gX7_type_X4_append : GoodIn wsX7_type (wsV RX7 52 RX4 yX4_append wsX4_append) := goodIn_app (goodIn_of _ (by decide +kernel)) ggX7_type_X4_append
theorem dX7_type_0 : decode cX7_type 0 = .ok (.iload_n 1, 1) := by decide +kernel
theorem dX7_type_1 : decode cX7_type 1 = .ok (.ifCond .lt 9, 3) := by decide +kernel
theorem dX7_type_4 : decode cX7_type 4 = .ok (.iload_n 1, 1) := by decide +kernel
theorem dX7_type_5 : decode cX7_type 5 = .ok (.bipush 127, 2) := by decide +kernel
theorem dX7_type_7 : decode cX7_type 7 = .ok (.if_icmp .le 10, 3) := by decide +kernel
theorem dX7_type_10 : decode cX7_type 10 = .ok (.aload_n 0, 1) := by decide +kernel
theorem dX7_type_11 : decode cX7_type 11 = .ok (.bipush (-2), 2) := by decide +kernel
theorem dX7_type_13 : decode cX7_type 13 = .ok (.invokevirtual 44, 3) := by decide +kernel
theorem dX7_type_16 : decode cX7_type 16 = .ok (.ireturn, 1) := by decide +kernel
theorem dX7_type_17 : decode cX7_type 17 = .ok (.aload_n 0, 1) := by decide +kernel
theorem dX7_type_18 : decode cX7_type 18 = .ok (.getfield 10, 3) := by decide +kernel
theorem dX7_type_21 : decode cX7_type 21 = .ok (.getfield 48, 3) := by decide +kernel
theorem dX7_type_24 : decode cX7_type 24 = .ok (.bipush 120, 2) := by decide +kernel
theorem dX7_type_26 : decode cX7_type 26 = .ok (.if_icmp .lt 10, 3) := by decide +kernel
theorem dX7_type_29 : decode cX7_type 29 = .ok (.aload_n 0, 1) := by decide +kernel
theorem dX7_type_30 : decode cX7_type 30 = .ok (.bipush (-4), 2) := by decide +kernel
theorem dX7_type_32 : decode cX7_type 32 = .ok (.invokevirtual 44, 3) := by decide +kernel
theorem dX7_type_35 : decode cX7_type 35 = .ok (.ireturn, 1) := by decide +kernel
theorem dX7_type_36 : decode cX7_type 36 = .ok (.aload_n 0, 1) := by decide +kernel
theorem dX7_type_37 : decode cX7_type 37 = .ok (.getfield 10, 3) := by decide +kernel
theorem dX7_type_40 : decode cX7_type 40 = .ok (.iload_n 1, 1) := by decide +kernel
theorem dX7_type_41 : decode cX7_type 41 = .ok (.invokevirtual 52, 3) := by decide +kernel
theorem dX7_type_44 : decode cX7_type 44 = .ok (.aload_n 0, 1) := by decide +kernel
theorem dX7_type_45 : decode cX7_type 45 = .ok (.getfield 10, 3) := by decide +kernel
theorem dX7_type_48 : decode cX7_type 48 = .ok (.getfield 48, 3) := by decide +kernel
theorem dX7_type_51 : decode cX7_type 51 = .ok (.ireturn, 1) := by decide +kernel
theorem dX7_clear_0 : decode cX7_clear 0 = .ok (.aload_n 0, 1) := by decide +kernel
theorem dX7_clear_1 : decode cX7_clear 1 = .ok (.getfield 10, 3) := by decide +kernel
theorem dX7_clear_4 : decode cX7_clear 4 = .ok (.getfield 48, 3) := by decide +kernel
theorem dX7_clear_7 : decode cX7_clear 7 = .ok (.istore_n 1, 1) := by decide +kernel
theorem dX7_clear_8 : decode cX7_clear 8 = .ok (.aload_n 0, 1) := by decide +kernel
theorem dX7_clear_9 : decode cX7_clear 9 = .ok (.getfield 10, 3) := by decide +kernel
theorem dX7_clear_12 : decode cX7_clear 12 = .ok (.iconst 0, 1) := by decide +kernel
theorem dX7_clear_13 : decode cX7_clear 13 = .ok (.putfield 48, 3) := by decide +kernel
theorem dX7_clear_16 : decode cX7_clear 16 = .ok (.iload_n 1, 1) := by decide +kernel
theorem dX7_clear_17 : decode cX7_clear 17 = .ok (.ireturn, 1) := by decide +kernel
set_option maxRecDepth 20000 in
theorem ggX7_add_X4_readWord : GoodIn wsX7_add wsX4_readWord := goodIn_r _ [11, 12, 13, 14, 15, 10, 16, 17, 18, 19, 20, 21, 22, 23, 24, 25, 26, 27, 28, 29, 30, 31, 32, 33, 34, 35, 246, 247, 248, 249] (by decide +kernel) (by decide +kernel)
set_option maxRecDepth 20000 in
theorem gX7_add_X4_readWord : GoodIn wsX7_add (wsV RX7 56 RX4 yX4_readWord wsX4_readWord) := goodIn_app (goodIn_of _ (by decide +kernel)) ggX7_add_X4_readWord
set_option maxRecDepth 20000 in
theorem ggX7_add_X7_refuse : GoodIn wsX7_add wsX7_refuse := goodIn_r _ [39, 40, 41, 42, 225, 226, 227, 228, 229, 230, 231, 232] (by decide +kernel) (by decide +kernel)
set_option maxRecDepth 20000 in
theorem gX7_add_X7_refuse : GoodIn wsX7_add (wsV RX7 44 RX7 yX7_refuse wsX7_refuse) := goodIn_app (goodIn_of _ (by decide +kernel)) ggX7_add_X7_refuse
set_option maxRecDepth 20000 in
theorem ggX7_add_X0_walk : GoodIn wsX7_add wsX0_walk := goodIn_r _ [47, 48, 49, 50, 51, 52, 53, 54, 55, 56, 57, 58, 59, 60, 46, 61, 62, 63, 64, 65, 66, 67, 68, 69, 70, 71, 72, 73, 74, 75, 76, 77, 78, 79, 80, 81, 82, 83, 84, 85, 86, 87, 88, 89, 90, 91, 92, 93, 94, 95, 96, 97, 98, 99, 100, 101, 102, 103, 104, 105, 106, 107, 108, 109, 110, 20, 111, 22, 112, 113, 114, 115, 116, 117, 118, 119, 120, 121, 122, 123, 124, 125, 126, 127, 128, 129, 130, 131, 132, 133, 134, 135, 136, 137, 138, 139, 140, 141, 142, 143, 144, 145, 146, 147, 23, 148, 233, 234, 235, 236, 237, 238, 239, 240, 241, 242, 243, 244, 245, 250, 251, 252, 253, 254, 255, 256, 257, 258, 259, 260, 261, 262, 248, 249] (by decide +kernel) (by decide +kernel)
set_option maxRecDepth 20000 in
theorem gX7_add_X0_walk : GoodIn wsX7_add (wsV RX7 60 RX0 yX0_walk wsX0_walk) := goodIn_app (goodIn_of _ (by decide +kernel)) ggX7_add_X0_walk
set_option maxRecDepth 20000 in
theorem ggX7_add_X0_isThere : GoodIn wsX7_add wsX0_isThere := goodIn_r _ [152, 48, 153, 72, 58, 59, 60, 46, 61, 62, 233, 234, 235, 236, 237, 238, 239, 240, 241, 242, 243, 244, 245, 250, 251, 252, 253, 254, 255] (by decide +kernel) (by decide +kernel)
set_option maxRecDepth 20000 in
theorem gX7_add_X0_isThere : GoodIn wsX7_add (wsV RX7 64 RX0 yX0_isThere wsX0_isThere) := goodIn_app (goodIn_of _ (by decide +kernel)) ggX7_add_X0_isThere
set_option maxRecDepth 20000 in
theorem ggX7_add_X0_rank : GoodIn wsX7_add wsX0_rank := goodIn_r _ [157, 48, 153, 69, 54, 58, 59, 60, 46, 61, 62, 120, 121, 122, 123, 124, 233, 234, 235, 236, 237, 238, 239, 240, 241, 242, 243, 244, 245, 250, 251, 252, 253, 254, 255] (by decide +kernel) (by decide +kernel)
set_option maxRecDepth 20000 in
theorem gX7_add_X0_rank : GoodIn wsX7_add (wsV RX7 77 RX0 yX0_rank wsX0_rank) := goodIn_app (goodIn_of _ (by decide +kernel)) ggX7_add_X0_rank
set_option maxRecDepth 20000 in
theorem ggX7_add_X2_keep : GoodIn wsX7_add wsX2_keep := goodIn_r _ [162, 163, 164, 165, 166, 51, 52, 53, 167, 168, 169, 84, 170, 171, 129, 86, 87, 172, 173, 174, 126, 127, 128, 175, 176, 177, 20, 178, 22, 23, 179, 82, 83, 85, 263, 264, 265, 240, 241, 242, 243, 244, 245, 248, 249] (by decide +kernel) (by decide +kernel)
set_option maxRecDepth 20000 in
theorem gX7_add_X2_keep : GoodIn wsX7_add (wsV RX7 81 RX2 yX2_keep wsX2_keep) := goodIn_app (goodIn_of _ (by decide +kernel)) ggX7_add_X2_keep
set_option maxRecDepth 20000 in
theorem ggX7_add_X0_insert : GoodIn wsX7_add wsX0_insert := goodIn_r _ [183, 48, 153, 49, 184, 155, 156, 46, 157, 69, 54, 58, 59, 60, 61, 62, 120, 121, 122, 123, 124, 185, 186, 187, 84, 188, 171, 129, 175, 176, 177, 20, 178, 22, 23, 189, 190, 191, 192, 86, 87, 193, 194, 195, 196, 197, 81, 82, 83, 85, 198, 199, 200, 201, 202, 203, 204, 205, 206, 67, 207, 208, 209, 210, 211, 80, 212, 213, 214, 215, 50, 51, 52, 53, 216, 76, 77, 78, 79, 217, 218, 219, 220, 116, 117, 118, 119, 125, 126, 127, 128, 130, 131, 132, 133, 134, 135, 136, 137, 138, 139, 140, 141, 142, 221, 222, 223, 91, 224, 103, 233, 234, 235, 236, 237, 238, 239, 240, 241, 242, 243, 244, 245, 250, 251, 252, 253, 254, 255, 248, 249, 256, 257, 258, 259, 260, 261, 262] (by decide +kernel) (by decide +kernel)
set_option maxRecDepth 20000 in
theorem gX7_add_X0_insert : GoodIn wsX7_add (wsV RX7 85 RX0 yX0_insert wsX0_insert) := goodIn_app (goodIn_of _ (by decide +kernel)) ggX7_add_X0_insert
theorem dX7_add_0 : decode cX7_add 0 = .ok (.aload_n 0, 1) := by decide +kernel
theorem dX7_add_1 : decode cX7_add 1 = .ok (.getfield 10, 3) := by decide +kernel
theorem dX7_add_4 : decode cX7_add 4 = .ok (.aload_n 0, 1) := by decide +kernel
theorem dX7_add_5 : decode cX7_add 5 = .ok (.getfield 19, 3) := by decide +kernel
theorem dX7_add_8 : decode cX7_add 8 = .ok (.invokevirtual 56, 3) := by decide +kernel
theorem dX7_add_11 : decode cX7_add 11 = .ok (.ifCond .ne 10, 3) := by decide +kernel
theorem dX7_add_14 : decode cX7_add 14 = .ok (.aload_n 0, 1) := by decide +kernel
theorem dX7_add_15 : decode cX7_add 15 = .ok (.bipush (-3), 2) := by decide +kernel
theorem dX7_add_17 : decode cX7_add 17 = .ok (.invokevirtual 44, 3) := by decide +kernel
theorem dX7_add_20 : decode cX7_add 20 = .ok (.ireturn, 1) := by decide +kernel
theorem dX7_add_21 : decode cX7_add 21 = .ok (.aload_n 0, 1) := by decide +kernel
theorem dX7_add_22 : decode cX7_add 22 = .ok (.getfield 26, 3) := by decide +kernel
theorem dX7_add_25 : decode cX7_add 25 = .ok (.aload_n 0, 1) := by decide +kernel
theorem dX7_add_26 : decode cX7_add 26 = .ok (.getfield 19, 3) := by decide +kernel
theorem dX7_add_29 : decode cX7_add 29 = .ok (.invokevirtual 60, 3) := by decide +kernel
theorem dX7_add_32 : decode cX7_add 32 = .ok (.aload_n 0, 1) := by decide +kernel
theorem dX7_add_33 : decode cX7_add 33 = .ok (.getfield 26, 3) := by decide +kernel
theorem dX7_add_36 : decode cX7_add 36 = .ok (.invokevirtual 64, 3) := by decide +kernel
theorem dX7_add_39 : decode cX7_add 39 = .ok (.ifCond .eq 10, 3) := by decide +kernel
theorem dX7_add_42 : decode cX7_add 42 = .ok (.aload_n 0, 1) := by decide +kernel
theorem dX7_add_43 : decode cX7_add 43 = .ok (.bipush (-3), 2) := by decide +kernel
theorem dX7_add_45 : decode cX7_add 45 = .ok (.invokevirtual 44, 3) := by decide +kernel
theorem dX7_add_48 : decode cX7_add 48 = .ok (.ireturn, 1) := by decide +kernel
theorem dX7_add_49 : decode cX7_add 49 = .ok (.aload_n 0, 1) := by decide +kernel
theorem dX7_add_50 : decode cX7_add 50 = .ok (.getfield 26, 3) := by decide +kernel
theorem dX7_add_53 : decode cX7_add 53 = .ok (.getfield 68, 3) := by decide +kernel
theorem dX7_add_56 : decode cX7_add 56 = .ok (.getfield 72, 3) := by decide +kernel
theorem dX7_add_59 : decode cX7_add 59 = .ok (.bipush 48, 2) := by decide +kernel
theorem dX7_add_61 : decode cX7_add 61 = .ok (.if_icmp .lt 10, 3) := by decide +kernel
theorem dX7_add_64 : decode cX7_add 64 = .ok (.aload_n 0, 1) := by decide +kernel
theorem dX7_add_65 : decode cX7_add 65 = .ok (.bipush (-4), 2) := by decide +kernel
theorem dX7_add_67 : decode cX7_add 67 = .ok (.invokevirtual 44, 3) := by decide +kernel
theorem dX7_add_70 : decode cX7_add 70 = .ok (.ireturn, 1) := by decide +kernel
theorem dX7_add_71 : decode cX7_add 71 = .ok (.aload_n 0, 1) := by decide +kernel
theorem dX7_add_72 : decode cX7_add 72 = .ok (.getfield 26, 3) := by decide +kernel
theorem dX7_add_75 : decode cX7_add 75 = .ok (.invokevirtual 77, 3) := by decide +kernel
theorem dX7_add_78 : decode cX7_add 78 = .ok (.istore_n 1, 1) := by decide +kernel
theorem dX7_add_79 : decode cX7_add 79 = .ok (.aload_n 0, 1) := by decide +kernel
theorem dX7_add_80 : decode cX7_add 80 = .ok (.getfield 33, 3) := by decide +kernel
theorem dX7_add_83 : decode cX7_add 83 = .ok (.aload_n 0, 1) := by decide +kernel
theorem dX7_add_84 : decode cX7_add 84 = .ok (.getfield 26, 3) := by decide +kernel
theorem dX7_add_87 : decode cX7_add 87 = .ok (.getfield 68, 3) := by decide +kernel
theorem dX7_add_90 : decode cX7_add 90 = .ok (.invokevirtual 81, 3) := by decide +kernel
theorem dX7_add_93 : decode cX7_add 93 = .ok (.aload_n 0, 1) := by decide +kernel
theorem dX7_add_94 : decode cX7_add 94 = .ok (.getfield 26, 3) := by decide +kernel
theorem dX7_add_97 : decode cX7_add 97 = .ok (.aload_n 0, 1) := by decide +kernel
theorem dX7_add_98 : decode cX7_add 98 = .ok (.getfield 19, 3) := by decide +kernel
theorem dX7_add_101 : decode cX7_add 101 = .ok (.invokevirtual 85, 3) := by decide +kernel
theorem dX7_add_104 : decode cX7_add 104 = .ok (.iload_n 1, 1) := by decide +kernel
theorem dX7_add_105 : decode cX7_add 105 = .ok (.ireturn, 1) := by decide +kernel
set_option maxRecDepth 20000 in
theorem ggX7_takeOut_X4_readWord : GoodIn wsX7_takeOut wsX4_readWord := goodIn_r _ [11, 12, 13, 14, 15, 10, 16, 17, 18, 19, 20, 21, 22, 23, 24, 25, 26, 27, 28, 29, 30, 31, 32, 33, 34, 35, 253, 254, 255, 256] (by decide +kernel) (by decide +kernel)
set_option maxRecDepth 20000 in
theorem gX7_takeOut_X4_readWord : GoodIn wsX7_takeOut (wsV RX7 56 RX4 yX4_readWord wsX4_readWord) := goodIn_app (goodIn_of _ (by decide +kernel)) ggX7_takeOut_X4_readWord
set_option maxRecDepth 20000 in
theorem ggX7_takeOut_X7_refuse : GoodIn wsX7_takeOut wsX7_refuse := goodIn_r _ [39, 40, 41, 42, 232, 233, 234, 235, 236, 237, 238, 239] (by decide +kernel) (by decide +kernel)
set_option maxRecDepth 20000 in
theorem gX7_takeOut_X7_refuse : GoodIn wsX7_takeOut (wsV RX7 44 RX7 yX7_refuse wsX7_refuse) := goodIn_app (goodIn_of _ (by decide +kernel)) ggX7_takeOut_X7_refuse
set_option maxRecDepth 20000 in
theorem ggX7_takeOut_X0_walk : GoodIn wsX7_takeOut wsX0_walk := goodIn_r _ [47, 48, 49, 50, 51, 52, 53, 54, 55, 56, 57, 58, 59, 60, 46, 61, 62, 63, 64, 65, 66, 67, 68, 69, 70, 71, 72, 73, 74, 75, 76, 77, 78, 79, 80, 81, 82, 83, 84, 85, 86, 87, 88, 89, 90, 91, 92, 93, 94, 95, 96, 97, 98, 99, 100, 101, 102, 103, 104, 105, 106, 107, 108, 109, 110, 20, 111, 22, 112, 113, 114, 115, 116, 117, 118, 119, 120, 121, 122, 123, 124, 125, 126, 127, 128, 129, 130, 131, 132, 133, 134, 135, 136, 137, 138, 139, 140, 141, 142, 143, 144, 145, 146, 147, 23, 148, 240, 241, 242, 243, 244, 245, 246, 247, 248, 249, 250, 251, 252, 257, 258, 259, 260, 261, 262, 263, 264, 265, 266, 267, 268, 269, 255, 256] (by decide +kernel) (by decide +kernel)
set_option maxRecDepth 20000 in
theorem gX7_takeOut_X0_walk : GoodIn wsX7_takeOut (wsV RX7 60 RX0 yX0_walk wsX0_walk) := goodIn_app (goodIn_of _ (by decide +kernel)) ggX7_takeOut_X0_walk
set_option maxRecDepth 20000 in
theorem ggX7_takeOut_X0_isThere : GoodIn wsX7_takeOut wsX0_isThere := goodIn_r _ [152, 48, 153, 72, 58, 59, 60, 46, 61, 62, 240, 241, 242, 243, 244, 245, 246, 247, 248, 249, 250, 251, 252, 257, 258, 259, 260, 261, 262] (by decide +kernel) (by decide +kernel)
set_option maxRecDepth 20000 in
theorem gX7_takeOut_X0_isThere : GoodIn wsX7_takeOut (wsV RX7 64 RX0 yX0_isThere wsX0_isThere) := goodIn_app (goodIn_of _ (by decide +kernel)) ggX7_takeOut_X0_isThere
set_option maxRecDepth 20000 in
theorem ggX7_takeOut_X2_keep : GoodIn wsX7_takeOut wsX2_keep := goodIn_r _ [158, 159, 160, 161, 162, 51, 52, 53, 163, 164, 165, 84, 166, 167, 129, 86, 87, 168, 169, 170, 126, 127, 128, 171, 172, 173, 20, 174, 22, 23, 175, 82, 83, 85, 270, 271, 272, 247, 248, 249, 250, 251, 252, 255, 256] (by decide +kernel) (by decide +kernel)
set_option maxRecDepth 20000 in
theorem gX7_takeOut_X2_keep : GoodIn wsX7_takeOut (wsV RX7 81 RX2 yX2_keep wsX2_keep) := goodIn_app (goodIn_of _ (by decide +kernel)) ggX7_takeOut_X2_keep
set_option maxRecDepth 20000 in
theorem ggX7_takeOut_X0_remove : GoodIn wsX7_takeOut wsX0_remove := goodIn_r _ [179, 48, 180, 181, 182, 46, 183, 153, 69, 54, 58, 59, 60, 61, 62, 120, 121, 122, 123, 124, 184, 185, 186, 84, 187, 167, 129, 188, 189, 190, 191, 49, 192, 81, 82, 83, 85, 86, 87, 193, 194, 195, 196, 197, 198, 199, 200, 76, 77, 78, 79, 80, 201, 202, 203, 204, 205, 206, 207, 208, 209, 210, 211, 212, 213, 67, 214, 215, 216, 217, 218, 219, 220, 221, 222, 50, 51, 52, 53, 223, 224, 225, 226, 227, 116, 117, 118, 119, 125, 126, 127, 128, 130, 131, 132, 20, 133, 22, 134, 135, 136, 137, 138, 139, 140, 141, 142, 228, 229, 230, 91, 231, 103, 240, 241, 242, 243, 244, 245, 246, 247, 248, 249, 250, 251, 252, 257, 258, 259, 260, 261, 262, 255, 256, 263, 264, 265, 266, 267, 268, 269] (by decide +kernel) (by decide +kernel)
set_option maxRecDepth 20000 in
theorem gX7_takeOut_X0_remove : GoodIn wsX7_takeOut (wsV RX7 88 RX0 yX0_remove wsX0_remove) := goodIn_app (goodIn_of _ (by decide +kernel)) ggX7_takeOut_X0_remove
theorem dX7_takeOut_0 : decode cX7_takeOut 0 = .ok (.aload_n 0, 1) := by decide +kernel
theorem dX7_takeOut_1 : decode cX7_takeOut 1 = .ok (.getfield 10, 3) := by decide +kernel
theorem dX7_takeOut_4 : decode cX7_takeOut 4 = .ok (.aload_n 0, 1) := by decide +kernel
theorem dX7_takeOut_5 : decode cX7_takeOut 5 = .ok (.getfield 19, 3) := by decide +kernel
theorem dX7_takeOut_8 : decode cX7_takeOut 8 = .ok (.invokevirtual 56, 3) := by decide +kernel
theorem dX7_takeOut_11 : decode cX7_takeOut 11 = .ok (.ifCond .ne 10, 3) := by decide +kernel
theorem dX7_takeOut_14 : decode cX7_takeOut 14 = .ok (.aload_n 0, 1) := by decide +kernel
theorem dX7_takeOut_15 : decode cX7_takeOut 15 = .ok (.bipush (-3), 2) := by decide +kernel
theorem dX7_takeOut_17 : decode cX7_takeOut 17 = .ok (.invokevirtual 44, 3) := by decide +kernel
theorem dX7_takeOut_20 : decode cX7_takeOut 20 = .ok (.ireturn, 1) := by decide +kernel
theorem dX7_takeOut_21 : decode cX7_takeOut 21 = .ok (.aload_n 0, 1) := by decide +kernel
theorem dX7_takeOut_22 : decode cX7_takeOut 22 = .ok (.getfield 26, 3) := by decide +kernel
theorem dX7_takeOut_25 : decode cX7_takeOut 25 = .ok (.aload_n 0, 1) := by decide +kernel
theorem dX7_takeOut_26 : decode cX7_takeOut 26 = .ok (.getfield 19, 3) := by decide +kernel
theorem dX7_takeOut_29 : decode cX7_takeOut 29 = .ok (.invokevirtual 60, 3) := by decide +kernel
theorem dX7_takeOut_32 : decode cX7_takeOut 32 = .ok (.aload_n 0, 1) := by decide +kernel
theorem dX7_takeOut_33 : decode cX7_takeOut 33 = .ok (.getfield 26, 3) := by decide +kernel
theorem dX7_takeOut_36 : decode cX7_takeOut 36 = .ok (.invokevirtual 64, 3) := by decide +kernel
theorem dX7_takeOut_39 : decode cX7_takeOut 39 = .ok (.ifCond .ne 10, 3) := by decide +kernel
theorem dX7_takeOut_42 : decode cX7_takeOut 42 = .ok (.aload_n 0, 1) := by decide +kernel
theorem dX7_takeOut_43 : decode cX7_takeOut 43 = .ok (.bipush (-3), 2) := by decide +kernel
theorem dX7_takeOut_45 : decode cX7_takeOut 45 = .ok (.invokevirtual 44, 3) := by decide +kernel
theorem dX7_takeOut_48 : decode cX7_takeOut 48 = .ok (.ireturn, 1) := by decide +kernel
theorem dX7_takeOut_49 : decode cX7_takeOut 49 = .ok (.aload_n 0, 1) := by decide +kernel
theorem dX7_takeOut_50 : decode cX7_takeOut 50 = .ok (.getfield 33, 3) := by decide +kernel
theorem dX7_takeOut_53 : decode cX7_takeOut 53 = .ok (.aload_n 0, 1) := by decide +kernel
theorem dX7_takeOut_54 : decode cX7_takeOut 54 = .ok (.getfield 26, 3) := by decide +kernel
theorem dX7_takeOut_57 : decode cX7_takeOut 57 = .ok (.getfield 68, 3) := by decide +kernel
theorem dX7_takeOut_60 : decode cX7_takeOut 60 = .ok (.invokevirtual 81, 3) := by decide +kernel
theorem dX7_takeOut_63 : decode cX7_takeOut 63 = .ok (.aload_n 0, 1) := by decide +kernel
theorem dX7_takeOut_64 : decode cX7_takeOut 64 = .ok (.getfield 26, 3) := by decide +kernel
theorem dX7_takeOut_67 : decode cX7_takeOut 67 = .ok (.invokevirtual 88, 3) := by decide +kernel
theorem dX7_takeOut_70 : decode cX7_takeOut 70 = .ok (.aload_n 0, 1) := by decide +kernel
theorem dX7_takeOut_71 : decode cX7_takeOut 71 = .ok (.getfield 26, 3) := by decide +kernel
theorem dX7_takeOut_74 : decode cX7_takeOut 74 = .ok (.getfield 68, 3) := by decide +kernel
theorem dX7_takeOut_77 : decode cX7_takeOut 77 = .ok (.getfield 72, 3) := by decide +kernel
theorem dX7_takeOut_80 : decode cX7_takeOut 80 = .ok (.ireturn, 1) := by decide +kernel
set_option maxRecDepth 20000 in
theorem ggX7_does_X4_fault : GoodIn wsX7_does wsX4_fault := goodIn_r _ [11, 12, 13, 14, 15, 10, 16, 17, 18, 19, 20, 265, 266] (by decide +kernel) (by decide +kernel)
set_option maxRecDepth 20000 in
theorem gX7_does_X4_fault : GoodIn wsX7_does (wsV RX7 91 RX4 yX4_fault wsX4_fault) := goodIn_app (goodIn_of _ (by decide +kernel)) ggX7_does_X4_fault
set_option maxRecDepth 20000 in
theorem ggX7_does_X2_keep : GoodIn wsX7_does wsX2_keep := goodIn_r _ [25, 26, 27, 28, 29, 30, 31, 32, 33, 34, 35, 36, 37, 38, 39, 40, 41, 42, 43, 44, 45, 46, 47, 48, 49, 50, 51, 52, 53, 54, 55, 56, 57, 58, 267, 268, 269, 270, 271, 272, 273, 274, 275, 276, 277] (by decide +kernel) (by decide +kernel)
set_option maxRecDepth 20000 in
theorem gX7_does_X2_keep : GoodIn wsX7_does (wsV RX7 81 RX2 yX2_keep wsX2_keep) := goodIn_app (goodIn_of _ (by decide +kernel)) ggX7_does_X2_keep
set_option maxRecDepth 20000 in
theorem ggX7_does_X4_byteAt : GoodIn wsX7_does wsX4_byteAt := goodIn_r _ [16, 12, 17, 265, 266] (by decide +kernel) (by decide +kernel)
set_option maxRecDepth 20000 in
theorem gX7_does_X4_byteAt : GoodIn wsX7_does (wsV RX7 94 RX4 yX4_byteAt wsX4_byteAt) := goodIn_app (goodIn_of _ (by decide +kernel)) ggX7_does_X4_byteAt
set_option maxRecDepth 20000 in
theorem ggX7_does_X4_readSigns : GoodIn wsX7_does wsX4_readSigns := goodIn_r _ [63, 64, 65, 66, 51, 67, 53, 54, 13, 14, 15, 10, 16, 12, 17, 18, 19, 20, 68, 69, 70, 71, 276, 277, 265, 266] (by decide +kernel) (by decide +kernel)
set_option maxRecDepth 20000 in
theorem gX7_does_X4_readSigns : GoodIn wsX7_does (wsV RX7 97 RX4 yX4_readSigns wsX4_readSigns) := goodIn_app (goodIn_of _ (by decide +kernel)) ggX7_does_X4_readSigns
set_option maxRecDepth 20000 in
theorem ggX7_does_X0_insertIfNew : GoodIn wsX7_does wsX0_insertIfNew := goodIn_r _ [76, 77, 78, 79, 80, 81, 75, 82, 83, 84, 30, 31, 32, 85, 86, 87, 88, 89, 90, 91, 92, 93, 94, 95, 96, 97, 98, 99, 100, 101, 102, 103, 104, 105, 106, 107, 108, 109, 110, 111, 112, 56, 57, 36, 58, 40, 41, 113, 114, 115, 116, 117, 118, 119, 120, 121, 122, 123, 124, 125, 126, 127, 128, 129, 130, 131, 132, 133, 134, 135, 51, 136, 53, 137, 138, 139, 140, 141, 142, 143, 144, 145, 146, 147, 148, 149, 150, 45, 46, 47, 39, 151, 152, 153, 154, 155, 156, 157, 158, 159, 160, 161, 162, 163, 164, 165, 166, 167, 168, 54, 169, 170, 171, 172, 173, 174, 175, 176, 177, 178, 179, 180, 181, 182, 183, 184, 185, 186, 38, 48, 49, 50, 52, 187, 188, 189, 190, 191, 192, 193, 194, 195, 196, 197, 198, 199, 200, 201, 202, 203, 204, 205, 206, 207, 208, 209, 210, 211, 212, 213, 214, 215, 216, 217, 218, 219, 220, 221, 258, 259, 260, 261, 262, 263, 264, 270, 271, 272, 273, 274, 275, 278, 279, 280, 281, 282, 283, 284, 285, 286, 287, 288, 289, 290, 276, 277] (by decide +kernel) (by decide +kernel)
set_option maxRecDepth 20000 in
theorem gX7_does_X0_insertIfNew : GoodIn wsX7_does (wsV RX7 101 RX0 yX0_insertIfNew wsX0_insertIfNew) := goodIn_app (goodIn_of _ (by decide +kernel)) ggX7_does_X0_insertIfNew
set_option maxRecDepth 20000 in
theorem ggX7_does_X0_removeIfThere : GoodIn wsX7_does wsX0_removeIfThere := goodIn_r _ [225, 79, 80, 81, 75, 82, 77, 83, 84, 30, 31, 32, 85, 86, 87, 88, 89, 90, 91, 92, 93, 94, 95, 96, 97, 98, 99, 100, 101, 102, 103, 104, 105, 106, 107, 108, 109, 110, 111, 112, 56, 57, 36, 58, 40, 41, 113, 114, 115, 116, 117, 118, 119, 120, 121, 122, 123, 124, 125, 126, 127, 128, 129, 130, 131, 132, 133, 134, 135, 51, 136, 53, 137, 138, 139, 140, 141, 142, 143, 144, 145, 146, 147, 148, 149, 150, 45, 46, 47, 39, 151, 152, 153, 154, 155, 156, 157, 158, 159, 160, 161, 162, 163, 164, 165, 166, 167, 168, 54, 169, 170, 171, 172, 173, 174, 226, 227, 228, 229, 179, 180, 181, 182, 230, 231, 232, 233, 38, 234, 235, 236, 237, 195, 196, 197, 198, 199, 238, 239, 240, 241, 242, 243, 244, 245, 246, 247, 248, 249, 78, 200, 201, 202, 203, 204, 205, 206, 207, 208, 209, 210, 211, 212, 213, 214, 215, 216, 217, 218, 219, 220, 221, 258, 259, 260, 261, 262, 263, 264, 270, 271, 272, 273, 274, 275, 278, 279, 280, 281, 282, 283, 284, 285, 286, 287, 288, 289, 290, 276, 277] (by decide +kernel) (by decide +kernel)
set_option maxRecDepth 20000 in
theorem gX7_does_X0_removeIfThere : GoodIn wsX7_does (wsV RX7 104 RX0 yX0_removeIfThere wsX0_removeIfThere) := goodIn_app (goodIn_of _ (by decide +kernel)) ggX7_does_X0_removeIfThere
theorem dX7_does_0 : decode cX7_does 0 = .ok (.aload_n 0, 1) := by decide +kernel
theorem dX7_does_1 : decode cX7_does 1 = .ok (.getfield 10, 3) := by decide +kernel
theorem dX7_does_4 : decode cX7_does 4 = .ok (.invokevirtual 91, 3) := by decide +kernel
theorem dX7_does_7 : decode cX7_does 7 = .ok (.istore_n 1, 1) := by decide +kernel
theorem dX7_does_8 : decode cX7_does 8 = .ok (.iload_n 1, 1) := by decide +kernel
theorem dX7_does_9 : decode cX7_does 9 = .ok (.iconst (-1), 1) := by decide +kernel
theorem dX7_does_10 : decode cX7_does 10 = .ok (.if_icmp .eq 8, 3) := by decide +kernel
theorem dX7_does_13 : decode cX7_does 13 = .ok (.bipush (-10), 2) := by decide +kernel
theorem dX7_does_15 : decode cX7_does 15 = .ok (.iload_n 1, 1) := by decide +kernel
theorem dX7_does_16 : decode cX7_does 16 = .ok (.isub, 1) := by decide +kernel
theorem dX7_does_17 : decode cX7_does 17 = .ok (.ireturn, 1) := by decide +kernel
theorem dX7_does_18 : decode cX7_does 18 = .ok (.aload_n 0, 1) := by decide +kernel
theorem dX7_does_19 : decode cX7_does 19 = .ok (.getfield 33, 3) := by decide +kernel
theorem dX7_does_22 : decode cX7_does 22 = .ok (.aload_n 0, 1) := by decide +kernel
theorem dX7_does_23 : decode cX7_does 23 = .ok (.getfield 26, 3) := by decide +kernel
theorem dX7_does_26 : decode cX7_does 26 = .ok (.getfield 68, 3) := by decide +kernel
theorem dX7_does_29 : decode cX7_does 29 = .ok (.invokevirtual 81, 3) := by decide +kernel
theorem dX7_does_32 : decode cX7_does 32 = .ok (.iconst 0, 1) := by decide +kernel
theorem dX7_does_33 : decode cX7_does 33 = .ok (.istore_n 2, 1) := by decide +kernel
theorem dX7_does_34 : decode cX7_does 34 = .ok (.iconst 0, 1) := by decide +kernel
theorem dX7_does_35 : decode cX7_does 35 = .ok (.istore_n 3, 1) := by decide +kernel
theorem dX7_does_36 : decode cX7_does 36 = .ok (.iconst 0, 1) := by decide +kernel
theorem dX7_does_37 : decode cX7_does 37 = .ok (.istore 4, 2) := by decide +kernel
theorem dX7_does_39 : decode cX7_does 39 = .ok (.iload 4, 2) := by decide +kernel
theorem dX7_does_41 : decode cX7_does 41 = .ok (.bipush 120, 2) := by decide +kernel
theorem dX7_does_43 : decode cX7_does 43 = .ok (.if_icmp .ge 100, 3) := by decide +kernel
theorem dX7_does_46 : decode cX7_does 46 = .ok (.iload_n 3, 1) := by decide +kernel
theorem dX7_does_47 : decode cX7_does 47 = .ok (.aload_n 0, 1) := by decide +kernel
theorem dX7_does_48 : decode cX7_does 48 = .ok (.getfield 10, 3) := by decide +kernel
theorem dX7_does_51 : decode cX7_does 51 = .ok (.getfield 48, 3) := by decide +kernel
theorem dX7_does_54 : decode cX7_does 54 = .ok (.if_icmp .ge 89, 3) := by decide +kernel
theorem dX7_does_57 : decode cX7_does 57 = .ok (.aload_n 0, 1) := by decide +kernel
theorem dX7_does_58 : decode cX7_does 58 = .ok (.getfield 10, 3) := by decide +kernel
theorem dX7_does_61 : decode cX7_does 61 = .ok (.iload_n 3, 1) := by decide +kernel
theorem dX7_does_62 : decode cX7_does 62 = .ok (.invokevirtual 94, 3) := by decide +kernel
theorem dX7_does_65 : decode cX7_does 65 = .ok (.bipush 43, 2) := by decide +kernel
theorem dX7_does_67 : decode cX7_does 67 = .ok (.if_icmp .ne 7, 3) := by decide +kernel
theorem dX7_does_70 : decode cX7_does 70 = .ok (.iconst 1, 1) := by decide +kernel
theorem dX7_does_71 : decode cX7_does 71 = .ok (.goto 4, 3) := by decide +kernel
theorem dX7_does_74 : decode cX7_does 74 = .ok (.iconst 0, 1) := by decide +kernel
theorem dX7_does_75 : decode cX7_does 75 = .ok (.istore 5, 2) := by decide +kernel
theorem dX7_does_77 : decode cX7_does 77 = .ok (.aload_n 0, 1) := by decide +kernel
theorem dX7_does_78 : decode cX7_does 78 = .ok (.getfield 10, 3) := by decide +kernel
theorem dX7_does_81 : decode cX7_does 81 = .ok (.iload_n 3, 1) := by decide +kernel
theorem dX7_does_82 : decode cX7_does 82 = .ok (.iconst 1, 1) := by decide +kernel
theorem dX7_does_83 : decode cX7_does 83 = .ok (.iadd, 1) := by decide +kernel
theorem dX7_does_84 : decode cX7_does 84 = .ok (.aload_n 0, 1) := by decide +kernel
theorem dX7_does_85 : decode cX7_does 85 = .ok (.getfield 19, 3) := by decide +kernel
theorem dX7_does_88 : decode cX7_does 88 = .ok (.invokevirtual 97, 3) := by decide +kernel
theorem dX7_does_91 : decode cX7_does 91 = .ok (.istore 6, 2) := by decide +kernel
theorem dX7_does_93 : decode cX7_does 93 = .ok (.iload 5, 2) := by decide +kernel
theorem dX7_does_95 : decode cX7_does 95 = .ok (.ifCond .eq 20, 3) := by decide +kernel
theorem dX7_does_98 : decode cX7_does 98 = .ok (.aload_n 0, 1) := by decide +kernel
theorem dX7_does_99 : decode cX7_does 99 = .ok (.getfield 26, 3) := by decide +kernel
theorem dX7_does_102 : decode cX7_does 102 = .ok (.aload_n 0, 1) := by decide +kernel
theorem dX7_does_103 : decode cX7_does 103 = .ok (.getfield 19, 3) := by decide +kernel
theorem dX7_does_106 : decode cX7_does 106 = .ok (.invokevirtual 101, 3) := by decide +kernel
theorem dX7_does_109 : decode cX7_does 109 = .ok (.ifCond .eq 23, 3) := by decide +kernel
theorem dX7_does_112 : decode cX7_does 112 = .ok (.goto 17, 3) := by decide +kernel
theorem dX7_does_115 : decode cX7_does 115 = .ok (.aload_n 0, 1) := by decide +kernel
theorem dX7_does_116 : decode cX7_does 116 = .ok (.getfield 26, 3) := by decide +kernel
theorem dX7_does_119 : decode cX7_does 119 = .ok (.aload_n 0, 1) := by decide +kernel
theorem dX7_does_120 : decode cX7_does 120 = .ok (.getfield 19, 3) := by decide +kernel
theorem dX7_does_123 : decode cX7_does 123 = .ok (.invokevirtual 104, 3) := by decide +kernel
theorem dX7_does_126 : decode cX7_does 126 = .ok (.ifCond .eq 6, 3) := by decide +kernel
theorem dX7_does_129 : decode cX7_does 129 = .ok (.iinc 2 1, 3) := by decide +kernel
theorem dX7_does_132 : decode cX7_does 132 = .ok (.iload 6, 2) := by decide +kernel
theorem dX7_does_134 : decode cX7_does 134 = .ok (.iconst 1, 1) := by decide +kernel
theorem dX7_does_135 : decode cX7_does 135 = .ok (.iadd, 1) := by decide +kernel
theorem dX7_does_136 : decode cX7_does 136 = .ok (.istore_n 3, 1) := by decide +kernel
theorem dX7_does_137 : decode cX7_does 137 = .ok (.iinc 4 1, 3) := by decide +kernel
theorem dX7_does_140 : decode cX7_does 140 = .ok (.goto (-101), 3) := by decide +kernel
theorem dX7_does_143 : decode cX7_does 143 = .ok (.iload_n 2, 1) := by decide +kernel
theorem dX7_does_144 : decode cX7_does 144 = .ok (.ireturn, 1) := by decide +kernel
set_option maxRecDepth 20000 in
theorem ggX7_draw_X7_refuse : GoodIn wsX7_draw wsX7_refuse := goodIn_r _ [10, 11, 12, 13, 221, 222, 223, 224, 225, 226, 227, 228] (by decide +kernel) (by decide +kernel)
set_option maxRecDepth 20000 in
theorem gX7_draw_X7_refuse : GoodIn wsX7_draw (wsV RX7 44 RX7 yX7_refuse wsX7_refuse) := goodIn_app (goodIn_of _ (by decide +kernel)) ggX7_draw_X7_refuse
set_option maxRecDepth 20000 in
theorem ggX7_draw_X2_keep : GoodIn wsX7_draw wsX2_keep := goodIn_r _ [18, 19, 20, 21, 22, 23, 24, 25, 26, 27, 28, 29, 30, 31, 32, 33, 34, 35, 36, 37, 38, 39, 40, 41, 42, 43, 44, 45, 46, 47, 48, 49, 50, 51, 236, 237, 238, 239, 240, 241, 242, 243, 244, 245, 246] (by decide +kernel) (by decide +kernel)
set_option maxRecDepth 20000 in
theorem gX7_draw_X2_keep : GoodIn wsX7_draw (wsV RX7 81 RX2 yX2_keep wsX2_keep) := goodIn_app (goodIn_of _ (by decide +kernel)) ggX7_draw_X2_keep
set_option maxRecDepth 20000 in
theorem ggX7_draw_X7_drawWord : GoodIn wsX7_draw wsX7_drawWord := goodIn_r _ [55, 5, 56, 57, 58, 59, 44, 60, 46, 47, 61, 62, 9, 63, 64, 65, 66, 67, 68, 69, 70, 221, 222, 223, 224, 225, 226, 227, 228, 245, 246] (by decide +kernel) (by decide +kernel)
set_option maxRecDepth 20000 in
theorem gX7_draw_X7_drawWord : GoodIn wsX7_draw (wsV RX7 108 RX7 yX7_drawWord wsX7_drawWord) := goodIn_app (goodIn_of _ (by decide +kernel)) ggX7_draw_X7_drawWord
set_option maxRecDepth 20000 in
theorem ggX7_draw_X0_insertIfNew : GoodIn wsX7_draw wsX0_insertIfNew := goodIn_r _ [75, 76, 77, 78, 79, 80, 74, 81, 82, 83, 23, 24, 25, 84, 85, 86, 87, 88, 89, 90, 91, 92, 93, 94, 95, 96, 97, 98, 99, 100, 101, 102, 103, 104, 105, 106, 107, 108, 109, 110, 111, 49, 50, 29, 51, 33, 34, 112, 113, 114, 115, 116, 117, 118, 119, 120, 121, 122, 123, 124, 125, 126, 127, 128, 129, 130, 131, 132, 133, 134, 44, 135, 46, 136, 137, 138, 139, 140, 141, 142, 143, 144, 145, 146, 147, 148, 149, 38, 39, 40, 32, 150, 151, 152, 153, 154, 155, 156, 157, 158, 159, 160, 161, 162, 163, 164, 165, 166, 167, 47, 168, 169, 170, 171, 172, 173, 174, 175, 176, 177, 178, 179, 180, 181, 182, 183, 184, 185, 31, 41, 42, 43, 45, 186, 187, 188, 189, 190, 191, 192, 193, 194, 195, 196, 197, 198, 199, 200, 201, 202, 203, 204, 205, 206, 207, 208, 209, 210, 211, 212, 213, 214, 215, 216, 217, 218, 219, 220, 229, 230, 231, 232, 233, 234, 235, 239, 240, 241, 242, 243, 244, 247, 248, 249, 250, 251, 252, 253, 254, 255, 256, 257, 258, 259, 245, 246] (by decide +kernel) (by decide +kernel)
set_option maxRecDepth 20000 in
theorem gX7_draw_X0_insertIfNew : GoodIn wsX7_draw (wsV RX7 101 RX0 yX0_insertIfNew wsX0_insertIfNew) := goodIn_app (goodIn_of _ (by decide +kernel)) ggX7_draw_X0_insertIfNew
theorem dX7_draw_0 : decode cX7_draw 0 = .ok (.iload_n 1, 1) := by decide +kernel
theorem dX7_draw_1 : decode cX7_draw 1 = .ok (.ifCond .lt 20, 3) := by decide +kernel
theorem dX7_draw_4 : decode cX7_draw 4 = .ok (.iload_n 1, 1) := by decide +kernel
theorem dX7_draw_5 : decode cX7_draw 5 = .ok (.ldc 107, 2) := by decide +kernel
theorem dX7_draw_7 : decode cX7_draw 7 = .ok (.if_icmp .gt 14, 3) := by decide +kernel
theorem dX7_draw_10 : decode cX7_draw 10 = .ok (.iload_n 2, 1) := by decide +kernel
theorem dX7_draw_11 : decode cX7_draw 11 = .ok (.iconst 1, 1) := by decide +kernel
theorem dX7_draw_12 : decode cX7_draw 12 = .ok (.if_icmp .lt 9, 3) := by decide +kernel
theorem dX7_draw_15 : decode cX7_draw 15 = .ok (.iload_n 2, 1) := by decide +kernel
theorem dX7_draw_16 : decode cX7_draw 16 = .ok (.bipush 8, 2) := by decide +kernel
theorem dX7_draw_18 : decode cX7_draw 18 = .ok (.if_icmp .le 10, 3) := by decide +kernel
theorem dX7_draw_21 : decode cX7_draw 21 = .ok (.aload_n 0, 1) := by decide +kernel
theorem dX7_draw_22 : decode cX7_draw 22 = .ok (.bipush (-2), 2) := by decide +kernel
theorem dX7_draw_24 : decode cX7_draw 24 = .ok (.invokevirtual 44, 3) := by decide +kernel
theorem dX7_draw_27 : decode cX7_draw 27 = .ok (.ireturn, 1) := by decide +kernel
theorem dX7_draw_28 : decode cX7_draw 28 = .ok (.iload_n 3, 1) := by decide +kernel
theorem dX7_draw_29 : decode cX7_draw 29 = .ok (.iconst 1, 1) := by decide +kernel
theorem dX7_draw_30 : decode cX7_draw 30 = .ok (.if_icmp .lt 22, 3) := by decide +kernel
theorem dX7_draw_33 : decode cX7_draw 33 = .ok (.iload_n 3, 1) := by decide +kernel
theorem dX7_draw_34 : decode cX7_draw 34 = .ok (.bipush 24, 2) := by decide +kernel
theorem dX7_draw_36 : decode cX7_draw 36 = .ok (.if_icmp .gt 16, 3) := by decide +kernel
theorem dX7_draw_39 : decode cX7_draw 39 = .ok (.iload 4, 2) := by decide +kernel
theorem dX7_draw_41 : decode cX7_draw 41 = .ok (.iconst 1, 1) := by decide +kernel
theorem dX7_draw_42 : decode cX7_draw 42 = .ok (.if_icmp .lt 10, 3) := by decide +kernel
theorem dX7_draw_45 : decode cX7_draw 45 = .ok (.iload 4, 2) := by decide +kernel
theorem dX7_draw_47 : decode cX7_draw 47 = .ok (.bipush 26, 2) := by decide +kernel
theorem dX7_draw_49 : decode cX7_draw 49 = .ok (.if_icmp .le 10, 3) := by decide +kernel
theorem dX7_draw_52 : decode cX7_draw 52 = .ok (.aload_n 0, 1) := by decide +kernel
theorem dX7_draw_53 : decode cX7_draw 53 = .ok (.bipush (-2), 2) := by decide +kernel
theorem dX7_draw_55 : decode cX7_draw 55 = .ok (.invokevirtual 44, 3) := by decide +kernel
theorem dX7_draw_58 : decode cX7_draw 58 = .ok (.ireturn, 1) := by decide +kernel
theorem dX7_draw_59 : decode cX7_draw 59 = .ok (.aload_n 0, 1) := by decide +kernel
theorem dX7_draw_60 : decode cX7_draw 60 = .ok (.getfield 33, 3) := by decide +kernel
theorem dX7_draw_63 : decode cX7_draw 63 = .ok (.aload_n 0, 1) := by decide +kernel
theorem dX7_draw_64 : decode cX7_draw 64 = .ok (.getfield 26, 3) := by decide +kernel
theorem dX7_draw_67 : decode cX7_draw 67 = .ok (.getfield 68, 3) := by decide +kernel
theorem dX7_draw_70 : decode cX7_draw 70 = .ok (.invokevirtual 81, 3) := by decide +kernel
theorem dX7_draw_73 : decode cX7_draw 73 = .ok (.iconst 0, 1) := by decide +kernel
theorem dX7_draw_74 : decode cX7_draw 74 = .ok (.istore 5, 2) := by decide +kernel
theorem dX7_draw_76 : decode cX7_draw 76 = .ok (.iload_n 1, 1) := by decide +kernel
theorem dX7_draw_77 : decode cX7_draw 77 = .ok (.i2l, 1) := by decide +kernel
theorem dX7_draw_78 : decode cX7_draw 78 = .ok (.lstore 6, 2) := by decide +kernel
theorem dX7_draw_80 : decode cX7_draw 80 = .ok (.iconst 0, 1) := by decide +kernel
theorem dX7_draw_81 : decode cX7_draw 81 = .ok (.istore 8, 2) := by decide +kernel
theorem dX7_draw_83 : decode cX7_draw 83 = .ok (.iload 8, 2) := by decide +kernel
theorem dX7_draw_85 : decode cX7_draw 85 = .ok (.iload_n 2, 1) := by decide +kernel
theorem dX7_draw_86 : decode cX7_draw 86 = .ok (.if_icmp .ge 37, 3) := by decide +kernel
theorem dX7_draw_89 : decode cX7_draw 89 = .ok (.aload_n 0, 1) := by decide +kernel
theorem dX7_draw_90 : decode cX7_draw 90 = .ok (.lload 6, 2) := by decide +kernel
theorem dX7_draw_92 : decode cX7_draw 92 = .ok (.iload_n 3, 1) := by decide +kernel
theorem dX7_draw_93 : decode cX7_draw 93 = .ok (.iload 4, 2) := by decide +kernel
theorem dX7_draw_95 : decode cX7_draw 95 = .ok (.invokevirtual 108, 3) := by decide +kernel
theorem dX7_draw_98 : decode cX7_draw 98 = .ok (.lstore 6, 2) := by decide +kernel
theorem dX7_draw_100 : decode cX7_draw 100 = .ok (.aload_n 0, 1) := by decide +kernel
theorem dX7_draw_101 : decode cX7_draw 101 = .ok (.getfield 26, 3) := by decide +kernel
theorem dX7_draw_104 : decode cX7_draw 104 = .ok (.aload_n 0, 1) := by decide +kernel
theorem dX7_draw_105 : decode cX7_draw 105 = .ok (.getfield 19, 3) := by decide +kernel
theorem dX7_draw_108 : decode cX7_draw 108 = .ok (.invokevirtual 101, 3) := by decide +kernel
theorem dX7_draw_111 : decode cX7_draw 111 = .ok (.ifCond .eq 6, 3) := by decide +kernel
theorem dX7_draw_114 : decode cX7_draw 114 = .ok (.iinc 5 1, 3) := by decide +kernel
theorem dX7_draw_117 : decode cX7_draw 117 = .ok (.iinc 8 1, 3) := by decide +kernel
theorem dX7_draw_120 : decode cX7_draw 120 = .ok (.goto (-37), 3) := by decide +kernel
theorem dX7_draw_123 : decode cX7_draw 123 = .ok (.iload 5, 2) := by decide +kernel
theorem dX7_draw_125 : decode cX7_draw 125 = .ok (.ireturn, 1) := by decide +kernel
set_option maxRecDepth 20000 in
theorem ggX7_deals_X7_refuse : GoodIn wsX7_deals wsX7_refuse := goodIn_r _ [9, 10, 11, 12, 122, 123, 124, 125, 126, 127, 128, 129] (by decide +kernel) (by decide +kernel)
set_option maxRecDepth 20000 in
theorem gX7_deals_X7_refuse : GoodIn wsX7_deals (wsV RX7 44 RX7 yX7_refuse wsX7_refuse) := goodIn_app (goodIn_of _ (by decide +kernel)) ggX7_deals_X7_refuse
set_option maxRecDepth 20000 in
theorem ggX7_deals_X2_keep : GoodIn wsX7_deals wsX2_keep := goodIn_r _ [17, 18, 19, 20, 21, 22, 23, 24, 25, 26, 27, 28, 29, 30, 31, 32, 33, 34, 35, 36, 37, 38, 39, 40, 41, 42, 43, 44, 45, 46, 47, 48, 49, 50, 143, 144, 145, 137, 138, 139, 140, 141, 142, 146, 147] (by decide +kernel) (by decide +kernel)
set_option maxRecDepth 20000 in
theorem gX7_deals_X2_keep : GoodIn wsX7_deals (wsV RX7 81 RX2 yX2_keep wsX2_keep) := goodIn_app (goodIn_of _ (by decide +kernel)) ggX7_deals_X2_keep
set_option maxRecDepth 20000 in
theorem ggX7_deals_X3_deal : GoodIn wsX7_deals wsX3_deal := goodIn_r _ [54, 35, 32, 34, 30, 55, 56, 57, 28, 58, 59, 60, 61, 62, 33, 137, 138, 139, 140, 141, 142] (by decide +kernel) (by decide +kernel)
set_option maxRecDepth 20000 in
theorem gX7_deals_X3_deal : GoodIn wsX7_deals (wsV RX7 112 RX3 yX3_deal wsX3_deal) := goodIn_app (goodIn_of _ (by decide +kernel)) ggX7_deals_X3_deal
set_option maxRecDepth 20000 in
theorem ggX7_deals_X0_settle : GoodIn wsX7_deals wsX0_settle := goodIn_r _ [67, 68, 69, 70, 71, 72, 73, 74, 66, 75, 76, 77, 78, 48, 49, 28, 50, 32, 33, 79, 80, 81, 82, 83, 84, 22, 23, 24, 85, 86, 87, 88, 89, 90, 91, 92, 93, 94, 95, 96, 97, 98, 99, 100, 101, 102, 37, 38, 39, 31, 103, 104, 105, 43, 106, 45, 107, 108, 109, 110, 111, 112, 113, 114, 115, 116, 117, 118, 119, 120, 121, 130, 131, 132, 133, 134, 135, 136, 137, 138, 139, 140, 141, 142, 146, 147, 148, 149, 150, 151, 152, 153, 154] (by decide +kernel) (by decide +kernel)
set_option maxRecDepth 20000 in
theorem gX7_deals_X0_settle : GoodIn wsX7_deals (wsV RX7 115 RX0 yX0_settle wsX0_settle) := goodIn_app (goodIn_of _ (by decide +kernel)) ggX7_deals_X0_settle
theorem dX7_deals_0 : decode cX7_deals 0 = .ok (.iload_n 1, 1) := by decide +kernel
theorem dX7_deals_1 : decode cX7_deals 1 = .ok (.iconst 4, 1) := by decide +kernel
theorem dX7_deals_2 : decode cX7_deals 2 = .ok (.if_icmp .lt 9, 3) := by decide +kernel
theorem dX7_deals_5 : decode cX7_deals 5 = .ok (.iload_n 1, 1) := by decide +kernel
theorem dX7_deals_6 : decode cX7_deals 6 = .ok (.bipush 8, 2) := by decide +kernel
theorem dX7_deals_8 : decode cX7_deals 8 = .ok (.if_icmp .le 10, 3) := by decide +kernel
theorem dX7_deals_11 : decode cX7_deals 11 = .ok (.aload_n 0, 1) := by decide +kernel
theorem dX7_deals_12 : decode cX7_deals 12 = .ok (.bipush (-2), 2) := by decide +kernel
theorem dX7_deals_14 : decode cX7_deals 14 = .ok (.invokevirtual 44, 3) := by decide +kernel
theorem dX7_deals_17 : decode cX7_deals 17 = .ok (.ireturn, 1) := by decide +kernel
theorem dX7_deals_18 : decode cX7_deals 18 = .ok (.aload_n 0, 1) := by decide +kernel
theorem dX7_deals_19 : decode cX7_deals 19 = .ok (.getfield 33, 3) := by decide +kernel
theorem dX7_deals_22 : decode cX7_deals 22 = .ok (.aload_n 0, 1) := by decide +kernel
theorem dX7_deals_23 : decode cX7_deals 23 = .ok (.getfield 26, 3) := by decide +kernel
theorem dX7_deals_26 : decode cX7_deals 26 = .ok (.getfield 68, 3) := by decide +kernel
theorem dX7_deals_29 : decode cX7_deals 29 = .ok (.invokevirtual 81, 3) := by decide +kernel
theorem dX7_deals_32 : decode cX7_deals 32 = .ok (.aload_n 0, 1) := by decide +kernel
theorem dX7_deals_33 : decode cX7_deals 33 = .ok (.getfield 26, 3) := by decide +kernel
theorem dX7_deals_36 : decode cX7_deals 36 = .ok (.getfield 68, 3) := by decide +kernel
theorem dX7_deals_39 : decode cX7_deals 39 = .ok (.iload_n 1, 1) := by decide +kernel
theorem dX7_deals_40 : decode cX7_deals 40 = .ok (.invokevirtual 112, 3) := by decide +kernel
theorem dX7_deals_43 : decode cX7_deals 43 = .ok (.aload_n 0, 1) := by decide +kernel
theorem dX7_deals_44 : decode cX7_deals 44 = .ok (.getfield 26, 3) := by decide +kernel
theorem dX7_deals_47 : decode cX7_deals 47 = .ok (.invokevirtual 115, 3) := by decide +kernel
theorem dX7_deals_50 : decode cX7_deals 50 = .ok (.aload_n 0, 1) := by decide +kernel
theorem dX7_deals_51 : decode cX7_deals 51 = .ok (.getfield 26, 3) := by decide +kernel
theorem dX7_deals_54 : decode cX7_deals 54 = .ok (.getfield 68, 3) := by decide +kernel
theorem dX7_deals_57 : decode cX7_deals 57 = .ok (.getfield 118, 3) := by decide +kernel
theorem dX7_deals_60 : decode cX7_deals 60 = .ok (.ireturn, 1) := by decide +kernel
set_option maxRecDepth 20000 in
theorem ggX7_anew_X2_keep : GoodIn wsX7_anew wsX2_keep := goodIn_r _ [9, 10, 11, 12, 13, 14, 15, 16, 17, 18, 19, 20, 21, 22, 23, 24, 25, 26, 27, 28, 29, 30, 31, 32, 33, 34, 35, 36, 37, 38, 39, 40, 41, 42, 127, 128, 129, 121, 122, 123, 124, 125, 126, 130, 131] (by decide +kernel) (by decide +kernel)
set_option maxRecDepth 20000 in
theorem gX7_anew_X2_keep : GoodIn wsX7_anew (wsV RX7 81 RX2 yX2_keep wsX2_keep) := goodIn_app (goodIn_of _ (by decide +kernel)) ggX7_anew_X2_keep
set_option maxRecDepth 20000 in
theorem ggX7_anew_X3_empty : GoodIn wsX7_anew wsX3_empty := goodIn_r _ [46, 22, 24, 26, 27, 121, 122, 123, 124, 125, 126] (by decide +kernel) (by decide +kernel)
set_option maxRecDepth 20000 in
theorem gX7_anew_X3_empty : GoodIn wsX7_anew (wsV RX7 121 RX3 yX3_empty wsX3_empty) := goodIn_app (goodIn_of _ (by decide +kernel)) ggX7_anew_X3_empty
set_option maxRecDepth 20000 in
theorem ggX7_anew_X0_settle : GoodIn wsX7_anew wsX0_settle := goodIn_r _ [51, 52, 53, 54, 55, 56, 57, 58, 50, 59, 60, 61, 62, 40, 41, 20, 42, 24, 25, 63, 64, 65, 66, 67, 68, 14, 15, 16, 69, 70, 71, 72, 73, 74, 75, 76, 77, 78, 79, 80, 81, 82, 83, 84, 85, 86, 29, 30, 31, 23, 87, 88, 89, 35, 90, 37, 91, 92, 93, 94, 95, 96, 97, 98, 99, 100, 101, 102, 103, 104, 105, 114, 115, 116, 117, 118, 119, 120, 121, 122, 123, 124, 125, 126, 130, 131, 132, 133, 134, 135, 136, 137, 138] (by decide +kernel) (by decide +kernel)
set_option maxRecDepth 20000 in
theorem gX7_anew_X0_settle : GoodIn wsX7_anew (wsV RX7 115 RX0 yX0_settle wsX0_settle) := goodIn_app (goodIn_of _ (by decide +kernel)) ggX7_anew_X0_settle
theorem dX7_anew_0 : decode cX7_anew 0 = .ok (.aload_n 0, 1) := by decide +kernel
theorem dX7_anew_1 : decode cX7_anew 1 = .ok (.getfield 26, 3) := by decide +kernel
theorem dX7_anew_4 : decode cX7_anew 4 = .ok (.getfield 68, 3) := by decide +kernel
theorem dX7_anew_7 : decode cX7_anew 7 = .ok (.getfield 72, 3) := by decide +kernel
theorem dX7_anew_10 : decode cX7_anew 10 = .ok (.istore_n 1, 1) := by decide +kernel
theorem dX7_anew_11 : decode cX7_anew 11 = .ok (.aload_n 0, 1) := by decide +kernel
theorem dX7_anew_12 : decode cX7_anew 12 = .ok (.getfield 33, 3) := by decide +kernel
theorem dX7_anew_15 : decode cX7_anew 15 = .ok (.aload_n 0, 1) := by decide +kernel
theorem dX7_anew_16 : decode cX7_anew 16 = .ok (.getfield 26, 3) := by decide +kernel
theorem dX7_anew_19 : decode cX7_anew 19 = .ok (.getfield 68, 3) := by decide +kernel
theorem dX7_anew_22 : decode cX7_anew 22 = .ok (.invokevirtual 81, 3) := by decide +kernel
theorem dX7_anew_25 : decode cX7_anew 25 = .ok (.aload_n 0, 1) := by decide +kernel
theorem dX7_anew_26 : decode cX7_anew 26 = .ok (.getfield 26, 3) := by decide +kernel
theorem dX7_anew_29 : decode cX7_anew 29 = .ok (.getfield 68, 3) := by decide +kernel
theorem dX7_anew_32 : decode cX7_anew 32 = .ok (.invokevirtual 121, 3) := by decide +kernel
