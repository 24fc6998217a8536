theorem dX0_forkFact_20 : decode cX0_forkFact 20 = .ok (.aload_n 0, 1) := by decide +kernel
theorem dX0_forkFact_21 : decode cX0_forkFact 21 = .ok (.getfield 34, 3) := by decide +kernel
theorem dX0_forkFact_24 : decode cX0_forkFact 24 = .ok (.iload_n 2, 1) := by decide +kernel
theorem dX0_forkFact_25 : decode cX0_forkFact 25 = .ok (.invokevirtual 221, 3) := by decide +kernel
theorem dX0_forkFact_28 : decode cX0_forkFact 28 = .ok (.iload_n 3, 1) := by decide +kernel
theorem dX0_forkFact_29 : decode cX0_forkFact 29 = .ok (.tableswitch 69 0 2 #[27, 35, 53], 27) := by decide +kernel
theorem dX0_forkFact_56 : decode cX0_forkFact 56 = .ok (.aload_n 0, 1) := by decide +kernel
theorem dX0_forkFact_57 : decode cX0_forkFact 57 = .ok (.getfield 34, 3) := by decide +kernel
theorem dX0_forkFact_60 : decode cX0_forkFact 60 = .ok (.getfield 227, 3) := by decide +kernel
theorem dX0_forkFact_63 : decode cX0_forkFact 63 = .ok (.ireturn, 1) := by decide +kernel
theorem dX0_forkFact_64 : decode cX0_forkFact 64 = .ok (.aload_n 0, 1) := by decide +kernel
theorem dX0_forkFact_65 : decode cX0_forkFact 65 = .ok (.getfield 34, 3) := by decide +kernel
theorem dX0_forkFact_68 : decode cX0_forkFact 68 = .ok (.getfield 230, 3) := by decide +kernel
theorem dX0_forkFact_71 : decode cX0_forkFact 71 = .ok (.aload_n 0, 1) := by decide +kernel
theorem dX0_forkFact_72 : decode cX0_forkFact 72 = .ok (.getfield 34, 3) := by decide +kernel
theorem dX0_forkFact_75 : decode cX0_forkFact 75 = .ok (.getfield 101, 3) := by decide +kernel
theorem dX0_forkFact_78 : decode cX0_forkFact 78 = .ok (.isub, 1) := by decide +kernel
theorem dX0_forkFact_79 : decode cX0_forkFact 79 = .ok (.iconst 1, 1) := by decide +kernel
theorem dX0_forkFact_80 : decode cX0_forkFact 80 = .ok (.iadd, 1) := by decide +kernel
theorem dX0_forkFact_81 : decode cX0_forkFact 81 = .ok (.ireturn, 1) := by decide +kernel
theorem dX0_forkFact_82 : decode cX0_forkFact 82 = .ok (.aload_n 0, 1) := by decide +kernel
theorem dX0_forkFact_83 : decode cX0_forkFact 83 = .ok (.getfield 34, 3) := by decide +kernel
theorem dX0_forkFact_86 : decode cX0_forkFact 86 = .ok (.getfield 131, 3) := by decide +kernel
theorem dX0_forkFact_89 : decode cX0_forkFact 89 = .ok (.aload_n 0, 1) := by decide +kernel
theorem dX0_forkFact_90 : decode cX0_forkFact 90 = .ok (.getfield 34, 3) := by decide +kernel
theorem dX0_forkFact_93 : decode cX0_forkFact 93 = .ok (.getfield 230, 3) := by decide +kernel
theorem dX0_forkFact_96 : decode cX0_forkFact 96 = .ok (.isub, 1) := by decide +kernel
theorem dX0_forkFact_97 : decode cX0_forkFact 97 = .ok (.ireturn, 1) := by decide +kernel
theorem dX0_forkFact_98 : decode cX0_forkFact 98 = .ok (.aload_n 0, 1) := by decide +kernel
theorem dX0_forkFact_99 : decode cX0_forkFact 99 = .ok (.getfield 34, 3) := by decide +kernel
theorem dX0_forkFact_102 : decode cX0_forkFact 102 = .ok (.getfield 224, 3) := by decide +kernel
theorem dX0_forkFact_105 : decode cX0_forkFact 105 = .ok (.ireturn, 1) := by decide +kernel
theorem dX1_init_0 : decode cX1_init 0 = .ok (.aload_n 0, 1) := by decide +kernel
theorem dX1_init_1 : decode cX1_init 1 = .ok (.invokespecial 1, 3) := by decide +kernel
theorem dX1_init_4 : decode cX1_init 4 = .ok (.return_, 1) := by decide +kernel
set_option maxRecDepth 20000 in
theorem ggX2_init_X3_init : GoodIn wsX2_init wsX3_init := goodIn_r _ [10, 11, 2, 3, 12, 13, 14, 15, 16, 17, 18, 19, 20, 21, 22, 23, 27, 28, 29, 30, 31, 32, 33, 34] (by decide +kernel) (by decide +kernel)
set_option maxRecDepth 20000 in
theorem gX2_init_X3_init : GoodIn wsX2_init (wsX3_init) := ggX2_init_X3_init
theorem dX2_init_0 : decode cX2_init 0 = .ok (.aload_n 0, 1) := by decide +kernel
theorem dX2_init_1 : decode cX2_init 1 = .ok (.invokespecial 3, 3) := by decide +kernel
theorem dX2_init_4 : decode cX2_init 4 = .ok (.aload_n 0, 1) := by decide +kernel
theorem dX2_init_5 : decode cX2_init 5 = .ok (.bipush 6, 2) := by decide +kernel
theorem dX2_init_7 : decode cX2_init 7 = .ok (.anewarray 9, 3) := by decide +kernel
theorem dX2_init_10 : decode cX2_init 10 = .ok (.putfield 11, 3) := by decide +kernel
theorem dX2_init_13 : decode cX2_init 13 = .ok (.iconst 0, 1) := by decide +kernel
theorem dX2_init_14 : decode cX2_init 14 = .ok (.istore_n 1, 1) := by decide +kernel
theorem dX2_init_15 : decode cX2_init 15 = .ok (.iload_n 1, 1) := by decide +kernel
theorem dX2_init_16 : decode cX2_init 16 = .ok (.aload_n 0, 1) := by decide +kernel
theorem dX2_init_17 : decode cX2_init 17 = .ok (.getfield 11, 3) := by decide +kernel
theorem dX2_init_20 : decode cX2_init 20 = .ok (.arraylength, 1) := by decide +kernel
theorem dX2_init_21 : decode cX2_init 21 = .ok (.if_icmp .ge 22, 3) := by decide +kernel
theorem dX2_init_24 : decode cX2_init 24 = .ok (.aload_n 0, 1) := by decide +kernel
theorem dX2_init_25 : decode cX2_init 25 = .ok (.getfield 11, 3) := by decide +kernel
theorem dX2_init_28 : decode cX2_init 28 = .ok (.iload_n 1, 1) := by decide +kernel
theorem dX2_init_29 : decode cX2_init 29 = .ok (.new 9, 3) := by decide +kernel
theorem dX2_init_32 : decode cX2_init 32 = .ok (.dup, 1) := by decide +kernel
theorem dX2_init_33 : decode cX2_init 33 = .ok (.invokespecial 17, 3) := by decide +kernel
theorem dX2_init_36 : decode cX2_init 36 = .ok (.aastore, 1) := by decide +kernel
theorem dX2_init_37 : decode cX2_init 37 = .ok (.iinc 1 1, 3) := by decide +kernel
theorem dX2_init_40 : decode cX2_init 40 = .ok (.goto (-25), 3) := by decide +kernel
theorem dX2_init_43 : decode cX2_init 43 = .ok (.return_, 1) := by decide +kernel
set_option maxRecDepth 20000 in
theorem ggX2_keep_X3_copyFrom : GoodIn wsX2_keep wsX3_copyFrom := goodIn_r _ [12, 13, 14, 15, 16, 17, 18, 19, 20, 21, 11, 22, 23, 24, 25, 26, 27, 28, 29, 30, 31, 32, 33, 37, 38, 39, 40, 41, 42, 43, 44] (by decide +kernel) (by decide +kernel)
set_option maxRecDepth 20000 in
theorem gX2_keep_X3_copyFrom : GoodIn wsX2_keep (wsV RX2 22 RX3 yX3_copyFrom wsX3_copyFrom) := goodIn_app (goodIn_of _ (by decide +kernel)) ggX2_keep_X3_copyFrom
theorem dX2_keep_0 : decode cX2_keep 0 = .ok (.aload_n 0, 1) := by decide +kernel
theorem dX2_keep_1 : decode cX2_keep 1 = .ok (.getfield 18, 3) := by decide +kernel
theorem dX2_keep_4 : decode cX2_keep 4 = .ok (.ifCond .lt 15, 3) := by decide +kernel
theorem dX2_keep_7 : decode cX2_keep 7 = .ok (.aload_n 0, 1) := by decide +kernel
theorem dX2_keep_8 : decode cX2_keep 8 = .ok (.getfield 18, 3) := by decide +kernel
theorem dX2_keep_11 : decode cX2_keep 11 = .ok (.aload_n 0, 1) := by decide +kernel
theorem dX2_keep_12 : decode cX2_keep 12 = .ok (.getfield 11, 3) := by decide +kernel
theorem dX2_keep_15 : decode cX2_keep 15 = .ok (.arraylength, 1) := by decide +kernel
theorem dX2_keep_16 : decode cX2_keep 16 = .ok (.if_icmp .lt 4, 3) := by decide +kernel
theorem dX2_keep_19 : decode cX2_keep 19 = .ok (.return_, 1) := by decide +kernel
theorem dX2_keep_20 : decode cX2_keep 20 = .ok (.aload_n 0, 1) := by decide +kernel
theorem dX2_keep_21 : decode cX2_keep 21 = .ok (.getfield 11, 3) := by decide +kernel
theorem dX2_keep_24 : decode cX2_keep 24 = .ok (.aload_n 0, 1) := by decide +kernel
theorem dX2_keep_25 : decode cX2_keep 25 = .ok (.getfield 18, 3) := by decide +kernel
theorem dX2_keep_28 : decode cX2_keep 28 = .ok (.aaload, 1) := by decide +kernel
theorem dX2_keep_29 : decode cX2_keep 29 = .ok (.aload_n 1, 1) := by decide +kernel
theorem dX2_keep_30 : decode cX2_keep 30 = .ok (.invokevirtual 22, 3) := by decide +kernel
theorem dX2_keep_33 : decode cX2_keep 33 = .ok (.aload_n 0, 1) := by decide +kernel
theorem dX2_keep_34 : decode cX2_keep 34 = .ok (.aload_n 0, 1) := by decide +kernel
theorem dX2_keep_35 : decode cX2_keep 35 = .ok (.getfield 18, 3) := by decide +kernel
theorem dX2_keep_38 : decode cX2_keep 38 = .ok (.iconst 1, 1) := by decide +kernel
theorem dX2_keep_39 : decode cX2_keep 39 = .ok (.iadd, 1) := by decide +kernel
theorem dX2_keep_40 : decode cX2_keep 40 = .ok (.aload_n 0, 1) := by decide +kernel
theorem dX2_keep_41 : decode cX2_keep 41 = .ok (.getfield 11, 3) := by decide +kernel
theorem dX2_keep_44 : decode cX2_keep 44 = .ok (.arraylength, 1) := by decide +kernel
theorem dX2_keep_45 : decode cX2_keep 45 = .ok (.if_icmp .ge 12, 3) := by decide +kernel
theorem dX2_keep_48 : decode cX2_keep 48 = .ok (.aload_n 0, 1) := by decide +kernel
theorem dX2_keep_49 : decode cX2_keep 49 = .ok (.getfield 18, 3) := by decide +kernel
theorem dX2_keep_52 : decode cX2_keep 52 = .ok (.iconst 1, 1) := by decide +kernel
theorem dX2_keep_53 : decode cX2_keep 53 = .ok (.iadd, 1) := by decide +kernel
theorem dX2_keep_54 : decode cX2_keep 54 = .ok (.goto 4, 3) := by decide +kernel
theorem dX2_keep_57 : decode cX2_keep 57 = .ok (.iconst 0, 1) := by decide +kernel
theorem dX2_keep_58 : decode cX2_keep 58 = .ok (.putfield 18, 3) := by decide +kernel
theorem dX2_keep_61 : decode cX2_keep 61 = .ok (.aload_n 0, 1) := by decide +kernel
theorem dX2_keep_62 : decode cX2_keep 62 = .ok (.aload_n 0, 1) := by decide +kernel
theorem dX2_keep_63 : decode cX2_keep 63 = .ok (.getfield 26, 3) := by decide +kernel
theorem dX2_keep_66 : decode cX2_keep 66 = .ok (.iconst 1, 1) := by decide +kernel
theorem dX2_keep_67 : decode cX2_keep 67 = .ok (.iadd, 1) := by decide +kernel
theorem dX2_keep_68 : decode cX2_keep 68 = .ok (.aload_n 0, 1) := by decide +kernel
theorem dX2_keep_69 : decode cX2_keep 69 = .ok (.getfield 11, 3) := by decide +kernel
theorem dX2_keep_72 : decode cX2_keep 72 = .ok (.arraylength, 1) := by decide +kernel
theorem dX2_keep_73 : decode cX2_keep 73 = .ok (.invokestatic 29, 3) := by decide +kernel
theorem dX2_keep_76 : decode cX2_keep 76 = .ok (.putfield 26, 3) := by decide +kernel
theorem dX2_keep_79 : decode cX2_keep 79 = .ok (.return_, 1) := by decide +kernel
set_option maxRecDepth 20000 in
theorem ggX2_restore_X3_copyFrom : GoodIn wsX2_restore wsX3_copyFrom := goodIn_r _ [8, 9, 10, 11, 12, 13, 14, 15, 16, 17, 7, 18, 19, 20, 21, 22, 23, 24, 25, 26, 27, 28, 29, 33, 34, 35, 36, 37, 38, 39, 40] (by decide +kernel) (by decide +kernel)
set_option maxRecDepth 20000 in
theorem gX2_restore_X3_copyFrom : GoodIn wsX2_restore (wsV RX2 22 RX3 yX3_copyFrom wsX3_copyFrom) := goodIn_app (goodIn_of _ (by decide +kernel)) ggX2_restore_X3_copyFrom
theorem dX2_restore_0 : decode cX2_restore 0 = .ok (.aload_n 0, 1) := by decide +kernel
theorem dX2_restore_1 : decode cX2_restore 1 = .ok (.getfield 18, 3) := by decide +kernel
theorem dX2_restore_4 : decode cX2_restore 4 = .ok (.ifCond .le 12, 3) := by decide +kernel
theorem dX2_restore_7 : decode cX2_restore 7 = .ok (.aload_n 0, 1) := by decide +kernel
theorem dX2_restore_8 : decode cX2_restore 8 = .ok (.getfield 18, 3) := by decide +kernel
theorem dX2_restore_11 : decode cX2_restore 11 = .ok (.iconst 1, 1) := by decide +kernel
theorem dX2_restore_12 : decode cX2_restore 12 = .ok (.isub, 1) := by decide +kernel
theorem dX2_restore_13 : decode cX2_restore 13 = .ok (.goto 10, 3) := by decide +kernel
theorem dX2_restore_16 : decode cX2_restore 16 = .ok (.aload_n 0, 1) := by decide +kernel
theorem dX2_restore_17 : decode cX2_restore 17 = .ok (.getfield 11, 3) := by decide +kernel
theorem dX2_restore_20 : decode cX2_restore 20 = .ok (.arraylength, 1) := by decide +kernel
theorem dX2_restore_21 : decode cX2_restore 21 = .ok (.iconst 1, 1) := by decide +kernel
theorem dX2_restore_22 : decode cX2_restore 22 = .ok (.isub, 1) := by decide +kernel
theorem dX2_restore_23 : decode cX2_restore 23 = .ok (.istore_n 2, 1) := by decide +kernel
theorem dX2_restore_24 : decode cX2_restore 24 = .ok (.aload_n 0, 1) := by decide +kernel
theorem dX2_restore_25 : decode cX2_restore 25 = .ok (.getfield 26, 3) := by decide +kernel
theorem dX2_restore_28 : decode cX2_restore 28 = .ok (.iconst 1, 1) := by decide +kernel
theorem dX2_restore_29 : decode cX2_restore 29 = .ok (.if_icmp .lt 16, 3) := by decide +kernel
theorem dX2_restore_32 : decode cX2_restore 32 = .ok (.iload_n 2, 1) := by decide +kernel
theorem dX2_restore_33 : decode cX2_restore 33 = .ok (.ifCond .lt 12, 3) := by decide +kernel
theorem dX2_restore_36 : decode cX2_restore 36 = .ok (.iload_n 2, 1) := by decide +kernel
theorem dX2_restore_37 : decode cX2_restore 37 = .ok (.aload_n 0, 1) := by decide +kernel
theorem dX2_restore_38 : decode cX2_restore 38 = .ok (.getfield 11, 3) := by decide +kernel
theorem dX2_restore_41 : decode cX2_restore 41 = .ok (.arraylength, 1) := by decide +kernel
theorem dX2_restore_42 : decode cX2_restore 42 = .ok (.if_icmp .lt 4, 3) := by decide +kernel
theorem dX2_restore_45 : decode cX2_restore 45 = .ok (.return_, 1) := by decide +kernel
theorem dX2_restore_46 : decode cX2_restore 46 = .ok (.aload_n 1, 1) := by decide +kernel
theorem dX2_restore_47 : decode cX2_restore 47 = .ok (.aload_n 0, 1) := by decide +kernel
theorem dX2_restore_48 : decode cX2_restore 48 = .ok (.getfield 11, 3) := by decide +kernel
theorem dX2_restore_51 : decode cX2_restore 51 = .ok (.iload_n 2, 1) := by decide +kernel
theorem dX2_restore_52 : decode cX2_restore 52 = .ok (.aaload, 1) := by decide +kernel
theorem dX2_restore_53 : decode cX2_restore 53 = .ok (.invokevirtual 22, 3) := by decide +kernel
theorem dX2_restore_56 : decode cX2_restore 56 = .ok (.aload_n 0, 1) := by decide +kernel
theorem dX2_restore_57 : decode cX2_restore 57 = .ok (.iload_n 2, 1) := by decide +kernel
theorem dX2_restore_58 : decode cX2_restore 58 = .ok (.putfield 18, 3) := by decide +kernel
theorem dX2_restore_61 : decode cX2_restore 61 = .ok (.aload_n 0, 1) := by decide +kernel
theorem dX2_restore_62 : decode cX2_restore 62 = .ok (.dup, 1) := by decide +kernel
theorem dX2_restore_63 : decode cX2_restore 63 = .ok (.getfield 26, 3) := by decide +kernel
theorem dX2_restore_66 : decode cX2_restore 66 = .ok (.iconst 1, 1) := by decide +kernel
theorem dX2_restore_67 : decode cX2_restore 67 = .ok (.isub, 1) := by decide +kernel
theorem dX2_restore_68 : decode cX2_restore 68 = .ok (.putfield 26, 3) := by decide +kernel
theorem dX2_restore_71 : decode cX2_restore 71 = .ok (.return_, 1) := by decide +kernel
set_option maxRecDepth 20000 in
theorem ggX3_init_X6_init : GoodIn wsX3_init wsX6_init := goodIn_r _ [12, 13, 2, 3, 14, 15, 22, 23] (by decide +kernel) (by decide +kernel)
set_option maxRecDepth 20000 in
theorem gX3_init_X6_init_n25 : GoodIn wsX3_init (wsX6_init) := ggX3_init_X6_init
theorem dX3_init_0 : decode cX3_init 0 = .ok (.aload_n 0, 1) := by decide +kernel
theorem dX3_init_1 : decode cX3_init 1 = .ok (.invokespecial 3, 3) := by decide +kernel
theorem dX3_init_4 : decode cX3_init 4 = .ok (.aload_n 0, 1) := by decide +kernel
theorem dX3_init_5 : decode cX3_init 5 = .ok (.bipush 48, 2) := by decide +kernel
theorem dX3_init_7 : decode cX3_init 7 = .ok (.anewarray 9, 3) := by decide +kernel
theorem dX3_init_10 : decode cX3_init 10 = .ok (.putfield 11, 3) := by decide +kernel
theorem dX3_init_13 : decode cX3_init 13 = .ok (.aload_n 0, 1) := by decide +kernel
theorem dX3_init_14 : decode cX3_init 14 = .ok (.bipush 48, 2) := by decide +kernel
theorem dX3_init_16 : decode cX3_init 16 = .ok (.newarray .int, 2) := by decide +kernel
theorem dX3_init_18 : decode cX3_init 18 = .ok (.putfield 17, 3) := by decide +kernel
theorem dX3_init_21 : decode cX3_init 21 = .ok (.aload_n 0, 1) := by decide +kernel
theorem dX3_init_22 : decode cX3_init 22 = .ok (.iconst 4, 1) := by decide +kernel
theorem dX3_init_23 : decode cX3_init 23 = .ok (.putfield 21, 3) := by decide +kernel
theorem dX3_init_26 : decode cX3_init 26 = .ok (.iconst 0, 1) := by decide +kernel
theorem dX3_init_27 : decode cX3_init 27 = .ok (.istore_n 1, 1) := by decide +kernel
theorem dX3_init_28 : decode cX3_init 28 = .ok (.iload_n 1, 1) := by decide +kernel
theorem dX3_init_29 : decode cX3_init 29 = .ok (.aload_n 0, 1) := by decide +kernel
theorem dX3_init_30 : decode cX3_init 30 = .ok (.getfield 11, 3) := by decide +kernel
theorem dX3_init_33 : decode cX3_init 33 = .ok (.arraylength, 1) := by decide +kernel
theorem dX3_init_34 : decode cX3_init 34 = .ok (.if_icmp .ge 22, 3) := by decide +kernel
theorem dX3_init_37 : decode cX3_init 37 = .ok (.aload_n 0, 1) := by decide +kernel
theorem dX3_init_38 : decode cX3_init 38 = .ok (.getfield 11, 3) := by decide +kernel
theorem dX3_init_41 : decode cX3_init 41 = .ok (.iload_n 1, 1) := by decide +kernel
theorem dX3_init_42 : decode cX3_init 42 = .ok (.new 9, 3) := by decide +kernel
theorem dX3_init_45 : decode cX3_init 45 = .ok (.dup, 1) := by decide +kernel
theorem dX3_init_46 : decode cX3_init 46 = .ok (.invokespecial 25, 3) := by decide +kernel
theorem dX3_init_49 : decode cX3_init 49 = .ok (.aastore, 1) := by decide +kernel
theorem dX3_init_50 : decode cX3_init 50 = .ok (.iinc 1 1, 3) := by decide +kernel
theorem dX3_init_53 : decode cX3_init 53 = .ok (.goto (-25), 3) := by decide +kernel
theorem dX3_init_56 : decode cX3_init 56 = .ok (.return_, 1) := by decide +kernel
theorem dX3_empty_0 : decode cX3_empty 0 = .ok (.aload_n 0, 1) := by decide +kernel
theorem dX3_empty_1 : decode cX3_empty 1 = .ok (.iconst 0, 1) := by decide +kernel
theorem dX3_empty_2 : decode cX3_empty 2 = .ok (.putfield 26, 3) := by decide +kernel
theorem dX3_empty_5 : decode cX3_empty 5 = .ok (.aload_n 0, 1) := by decide +kernel
theorem dX3_empty_6 : decode cX3_empty 6 = .ok (.iconst 0, 1) := by decide +kernel
theorem dX3_empty_7 : decode cX3_empty 7 = .ok (.putfield 29, 3) := by decide +kernel
theorem dX3_empty_10 : decode cX3_empty 10 = .ok (.aload_n 0, 1) := by decide +kernel
theorem dX3_empty_11 : decode cX3_empty 11 = .ok (.iconst 0, 1) := by decide +kernel
theorem dX3_empty_12 : decode cX3_empty 12 = .ok (.putfield 32, 3) := by decide +kernel
theorem dX3_empty_15 : decode cX3_empty 15 = .ok (.aload_n 0, 1) := by decide +kernel
theorem dX3_empty_16 : decode cX3_empty 16 = .ok (.iconst 4, 1) := by decide +kernel
theorem dX3_empty_17 : decode cX3_empty 17 = .ok (.putfield 21, 3) := by decide +kernel
theorem dX3_empty_20 : decode cX3_empty 20 = .ok (.return_, 1) := by decide +kernel
set_option maxRecDepth 20000 in
theorem ggX3_copyFrom_X3_wordAt : GoodIn wsX3_copyFrom wsX3_wordAt := goodIn_r _ [11, 2, 23, 24, 25, 26, 27, 28] (by decide +kernel) (by decide +kernel)
set_option maxRecDepth 20000 in
theorem gX3_copyFrom_X3_wordAt : GoodIn wsX3_copyFrom (wsV RX3 35 RX3 yX3_wordAt wsX3_wordAt) := goodIn_app (goodIn_of _ (by decide +kernel)) ggX3_copyFrom_X3_wordAt
set_option maxRecDepth 20000 in
theorem ggX3_copyFrom_X6_copyFrom : GoodIn wsX3_copyFrom wsX6_copyFrom := goodIn_r _ [16, 17, 18, 29, 30] (by decide +kernel) (by decide +kernel)
set_option maxRecDepth 20000 in
theorem gX3_copyFrom_X6_copyFrom : GoodIn wsX3_copyFrom (wsV RX3 39 RX6 yX6_copyFrom wsX6_copyFrom) := goodIn_app (goodIn_of _ (by decide +kernel)) ggX3_copyFrom_X6_copyFrom
set_option maxRecDepth 20000 in
theorem ggX3_copyFrom_X3_entriesOf : GoodIn wsX3_copyFrom wsX3_entriesOf := goodIn_r _ [22, 3, 4, 23, 24, 25, 26, 27, 28] (by decide +kernel) (by decide +kernel)
set_option maxRecDepth 20000 in
theorem gX3_copyFrom_X3_entriesOf : GoodIn wsX3_copyFrom (wsV RX3 43 RX3 yX3_entriesOf wsX3_entriesOf) := goodIn_app (goodIn_of _ (by decide +kernel)) ggX3_copyFrom_X3_entriesOf
theorem dX3_copyFrom_0 : decode cX3_copyFrom 0 = .ok (.iconst 0, 1) := by decide +kernel
theorem dX3_copyFrom_1 : decode cX3_copyFrom 1 = .ok (.istore_n 2, 1) := by decide +kernel
theorem dX3_copyFrom_2 : decode cX3_copyFrom 2 = .ok (.iload_n 2, 1) := by decide +kernel
theorem dX3_copyFrom_3 : decode cX3_copyFrom 3 = .ok (.aload_n 1, 1) := by decide +kernel
theorem dX3_copyFrom_4 : decode cX3_copyFrom 4 = .ok (.getfield 26, 3) := by decide +kernel
theorem dX3_copyFrom_7 : decode cX3_copyFrom 7 = .ok (.if_icmp .ge 32, 3) := by decide +kernel
theorem dX3_copyFrom_10 : decode cX3_copyFrom 10 = .ok (.iload_n 2, 1) := by decide +kernel
theorem dX3_copyFrom_11 : decode cX3_copyFrom 11 = .ok (.aload_n 0, 1) := by decide +kernel
theorem dX3_copyFrom_12 : decode cX3_copyFrom 12 = .ok (.getfield 11, 3) := by decide +kernel
theorem dX3_copyFrom_15 : decode cX3_copyFrom 15 = .ok (.arraylength, 1) := by decide +kernel
theorem dX3_copyFrom_16 : decode cX3_copyFrom 16 = .ok (.if_icmp .ge 23, 3) := by decide +kernel
theorem dX3_copyFrom_19 : decode cX3_copyFrom 19 = .ok (.aload_n 0, 1) := by decide +kernel
theorem dX3_copyFrom_20 : decode cX3_copyFrom 20 = .ok (.getfield 11, 3) := by decide +kernel
theorem dX3_copyFrom_23 : decode cX3_copyFrom 23 = .ok (.iload_n 2, 1) := by decide +kernel
theorem dX3_copyFrom_24 : decode cX3_copyFrom 24 = .ok (.aaload, 1) := by decide +kernel
theorem dX3_copyFrom_25 : decode cX3_copyFrom 25 = .ok (.aload_n 1, 1) := by decide +kernel
theorem dX3_copyFrom_26 : decode cX3_copyFrom 26 = .ok (.iload_n 2, 1) := by decide +kernel
theorem dX3_copyFrom_27 : decode cX3_copyFrom 27 = .ok (.invokevirtual 35, 3) := by decide +kernel
theorem dX3_copyFrom_30 : decode cX3_copyFrom 30 = .ok (.invokevirtual 39, 3) := by decide +kernel
theorem dX3_copyFrom_33 : decode cX3_copyFrom 33 = .ok (.iinc 2 1, 3) := by decide +kernel
theorem dX3_copyFrom_36 : decode cX3_copyFrom 36 = .ok (.goto (-34), 3) := by decide +kernel
theorem dX3_copyFrom_39 : decode cX3_copyFrom 39 = .ok (.iconst 0, 1) := by decide +kernel
theorem dX3_copyFrom_40 : decode cX3_copyFrom 40 = .ok (.istore_n 2, 1) := by decide +kernel
theorem dX3_copyFrom_41 : decode cX3_copyFrom 41 = .ok (.iload_n 2, 1) := by decide +kernel
theorem dX3_copyFrom_42 : decode cX3_copyFrom 42 = .ok (.aload_n 1, 1) := by decide +kernel
theorem dX3_copyFrom_43 : decode cX3_copyFrom 43 = .ok (.getfield 29, 3) := by decide +kernel
theorem dX3_copyFrom_46 : decode cX3_copyFrom 46 = .ok (.if_icmp .ge 29, 3) := by decide +kernel
theorem dX3_copyFrom_49 : decode cX3_copyFrom 49 = .ok (.iload_n 2, 1) := by decide +kernel
theorem dX3_copyFrom_50 : decode cX3_copyFrom 50 = .ok (.aload_n 0, 1) := by decide +kernel
theorem dX3_copyFrom_51 : decode cX3_copyFrom 51 = .ok (.getfield 17, 3) := by decide +kernel
theorem dX3_copyFrom_54 : decode cX3_copyFrom 54 = .ok (.arraylength, 1) := by decide +kernel
theorem dX3_copyFrom_55 : decode cX3_copyFrom 55 = .ok (.if_icmp .ge 20, 3) := by decide +kernel
theorem dX3_copyFrom_58 : decode cX3_copyFrom 58 = .ok (.aload_n 0, 1) := by decide +kernel
theorem dX3_copyFrom_59 : decode cX3_copyFrom 59 = .ok (.getfield 17, 3) := by decide +kernel
theorem dX3_copyFrom_62 : decode cX3_copyFrom 62 = .ok (.iload_n 2, 1) := by decide +kernel
theorem dX3_copyFrom_63 : decode cX3_copyFrom 63 = .ok (.aload_n 1, 1) := by decide +kernel
theorem dX3_copyFrom_64 : decode cX3_copyFrom 64 = .ok (.iload_n 2, 1) := by decide +kernel
theorem dX3_copyFrom_65 : decode cX3_copyFrom 65 = .ok (.invokevirtual 43, 3) := by decide +kernel
theorem dX3_copyFrom_68 : decode cX3_copyFrom 68 = .ok (.iastore, 1) := by decide +kernel
theorem dX3_copyFrom_69 : decode cX3_copyFrom 69 = .ok (.iinc 2 1, 3) := by decide +kernel
theorem dX3_copyFrom_72 : decode cX3_copyFrom 72 = .ok (.goto (-31), 3) := by decide +kernel
theorem dX3_copyFrom_75 : decode cX3_copyFrom 75 = .ok (.aload_n 0, 1) := by decide +kernel
theorem dX3_copyFrom_76 : decode cX3_copyFrom 76 = .ok (.aload_n 1, 1) := by decide +kernel
theorem dX3_copyFrom_77 : decode cX3_copyFrom 77 = .ok (.getfield 26, 3) := by decide +kernel
theorem dX3_copyFrom_80 : decode cX3_copyFrom 80 = .ok (.putfield 26, 3) := by decide +kernel
theorem dX3_copyFrom_83 : decode cX3_copyFrom 83 = .ok (.aload_n 0, 1) := by decide +kernel
theorem dX3_copyFrom_84 : decode cX3_copyFrom 84 = .ok (.aload_n 1, 1) := by decide +kernel
theorem dX3_copyFrom_85 : decode cX3_copyFrom 85 = .ok (.getfield 29, 3) := by decide +kernel
theorem dX3_copyFrom_88 : decode cX3_copyFrom 88 = .ok (.putfield 29, 3) := by decide +kernel
theorem dX3_copyFrom_91 : decode cX3_copyFrom 91 = .ok (.aload_n 0, 1) := by decide +kernel
theorem dX3_copyFrom_92 : decode cX3_copyFrom 92 = .ok (.aload_n 1, 1) := by decide +kernel
theorem dX3_copyFrom_93 : decode cX3_copyFrom 93 = .ok (.getfield 32, 3) := by decide +kernel
theorem dX3_copyFrom_96 : decode cX3_copyFrom 96 = .ok (.putfield 32, 3) := by decide +kernel
theorem dX3_copyFrom_99 : decode cX3_copyFrom 99 = .ok (.aload_n 0, 1) := by decide +kernel
theorem dX3_copyFrom_100 : decode cX3_copyFrom 100 = .ok (.aload_n 1, 1) := by decide +kernel
theorem dX3_copyFrom_101 : decode cX3_copyFrom 101 = .ok (.getfield 21, 3) := by decide +kernel
theorem dX3_copyFrom_104 : decode cX3_copyFrom 104 = .ok (.putfield 21, 3) := by decide +kernel
theorem dX3_copyFrom_107 : decode cX3_copyFrom 107 = .ok (.return_, 1) := by decide +kernel
theorem dX3_wordAt_0 : decode cX3_wordAt 0 = .ok (.aload_n 0, 1) := by decide +kernel
theorem dX3_wordAt_1 : decode cX3_wordAt 1 = .ok (.getfield 11, 3) := by decide +kernel
theorem dX3_wordAt_4 : decode cX3_wordAt 4 = .ok (.iload_n 1, 1) := by decide +kernel
theorem dX3_wordAt_5 : decode cX3_wordAt 5 = .ok (.ifCond .lt 16, 3) := by decide +kernel
theorem dX3_wordAt_8 : decode cX3_wordAt 8 = .ok (.iload_n 1, 1) := by decide +kernel
theorem dX3_wordAt_9 : decode cX3_wordAt 9 = .ok (.aload_n 0, 1) := by decide +kernel
theorem dX3_wordAt_10 : decode cX3_wordAt 10 = .ok (.getfield 11, 3) := by decide +kernel
theorem dX3_wordAt_13 : decode cX3_wordAt 13 = .ok (.arraylength, 1) := by decide +kernel
theorem dX3_wordAt_14 : decode cX3_wordAt 14 = .ok (.if_icmp .ge 7, 3) := by decide +kernel
theorem dX3_wordAt_17 : decode cX3_wordAt 17 = .ok (.iload_n 1, 1) := by decide +kernel
theorem dX3_wordAt_18 : decode cX3_wordAt 18 = .ok (.goto 4, 3) := by decide +kernel
theorem dX3_wordAt_21 : decode cX3_wordAt 21 = .ok (.iconst 0, 1) := by decide +kernel
theorem dX3_wordAt_22 : decode cX3_wordAt 22 = .ok (.aaload, 1) := by decide +kernel
theorem dX3_wordAt_23 : decode cX3_wordAt 23 = .ok (.areturn, 1) := by decide +kernel
theorem dX3_entriesOf_0 : decode cX3_entriesOf 0 = .ok (.iload_n 1, 1) := by decide +kernel
theorem dX3_entriesOf_1 : decode cX3_entriesOf 1 = .ok (.ifCond .lt 29, 3) := by decide +kernel
theorem dX3_entriesOf_4 : decode cX3_entriesOf 4 = .ok (.iload_n 1, 1) := by decide +kernel
theorem dX3_entriesOf_5 : decode cX3_entriesOf 5 = .ok (.aload_n 0, 1) := by decide +kernel
theorem dX3_entriesOf_6 : decode cX3_entriesOf 6 = .ok (.getfield 29, 3) := by decide +kernel
theorem dX3_entriesOf_9 : decode cX3_entriesOf 9 = .ok (.if_icmp .ge 21, 3) := by decide +kernel
theorem dX3_entriesOf_12 : decode cX3_entriesOf 12 = .ok (.iload_n 1, 1) := by decide +kernel
theorem dX3_entriesOf_13 : decode cX3_entriesOf 13 = .ok (.aload_n 0, 1) := by decide +kernel
theorem dX3_entriesOf_14 : decode cX3_entriesOf 14 = .ok (.getfield 17, 3) := by decide +kernel
theorem dX3_entriesOf_17 : decode cX3_entriesOf 17 = .ok (.arraylength, 1) := by decide +kernel
theorem dX3_entriesOf_18 : decode cX3_entriesOf 18 = .ok (.if_icmp .ge 12, 3) := by decide +kernel
theorem dX3_entriesOf_21 : decode cX3_entriesOf 21 = .ok (.aload_n 0, 1) := by decide +kernel
theorem dX3_entriesOf_22 : decode cX3_entriesOf 22 = .ok (.getfield 17, 3) := by decide +kernel
theorem dX3_entriesOf_25 : decode cX3_entriesOf 25 = .ok (.iload_n 1, 1) := by decide +kernel
theorem dX3_entriesOf_26 : decode cX3_entriesOf 26 = .ok (.iaload, 1) := by decide +kernel
theorem dX3_entriesOf_27 : decode cX3_entriesOf 27 = .ok (.goto 4, 3) := by decide +kernel
theorem dX3_entriesOf_30 : decode cX3_entriesOf 30 = .ok (.iconst 0, 1) := by decide +kernel
theorem dX3_entriesOf_31 : decode cX3_entriesOf 31 = .ok (.ireturn, 1) := by decide +kernel
theorem dX3_setEntries_0 : decode cX3_setEntries 0 = .ok (.iload_n 1, 1) := by decide +kernel
theorem dX3_setEntries_1 : decode cX3_setEntries 1 = .ok (.ifCond .lt 27, 3) := by decide +kernel
theorem dX3_setEntries_4 : decode cX3_setEntries 4 = .ok (.iload_n 1, 1) := by decide +kernel
theorem dX3_setEntries_5 : decode cX3_setEntries 5 = .ok (.aload_n 0, 1) := by decide +kernel
theorem dX3_setEntries_6 : decode cX3_setEntries 6 = .ok (.getfield 29, 3) := by decide +kernel
theorem dX3_setEntries_9 : decode cX3_setEntries 9 = .ok (.if_icmp .ge 19, 3) := by decide +kernel
theorem dX3_setEntries_12 : decode cX3_setEntries 12 = .ok (.iload_n 1, 1) := by decide +kernel
theorem dX3_setEntries_13 : decode cX3_setEntries 13 = .ok (.aload_n 0, 1) := by decide +kernel
theorem dX3_setEntries_14 : decode cX3_setEntries 14 = .ok (.getfield 17, 3) := by decide +kernel
theorem dX3_setEntries_17 : decode cX3_setEntries 17 = .ok (.arraylength, 1) := by decide +kernel
theorem dX3_setEntries_18 : decode cX3_setEntries 18 = .ok (.if_icmp .ge 10, 3) := by decide +kernel
theorem dX3_setEntries_21 : decode cX3_setEntries 21 = .ok (.aload_n 0, 1) := by decide +kernel
theorem dX3_setEntries_22 : decode cX3_setEntries 22 = .ok (.getfield 17, 3) := by decide +kernel
theorem dX3_setEntries_25 : decode cX3_setEntries 25 = .ok (.iload_n 1, 1) := by decide +kernel
theorem dX3_setEntries_26 : decode cX3_setEntries 26 = .ok (.iload_n 2, 1) := by decide +kernel
theorem dX3_setEntries_27 : decode cX3_setEntries 27 = .ok (.iastore, 1) := by decide +kernel
theorem dX3_setEntries_28 : decode cX3_setEntries 28 = .ok (.return_, 1) := by decide +kernel
set_option maxRecDepth 20000 in
theorem ggX3_insertWord_X6_copyFrom : GoodIn wsX3_insertWord wsX6_copyFrom := goodIn_r _ [7, 8, 9, 16, 17] (by decide +kernel) (by decide +kernel)
set_option maxRecDepth 20000 in
theorem gX3_insertWord_X6_copyFrom : GoodIn wsX3_insertWord (wsV RX3 39 RX6 yX6_copyFrom wsX6_copyFrom) := goodIn_app (goodIn_of _ (by decide +kernel)) ggX3_insertWord_X6_copyFrom
theorem dX3_insertWord_0 : decode cX3_insertWord 0 = .ok (.iload_n 1, 1) := by decide +kernel
theorem dX3_insertWord_1 : decode cX3_insertWord 1 = .ok (.ifCond .lt 23, 3) := by decide +kernel
theorem dX3_insertWord_4 : decode cX3_insertWord 4 = .ok (.iload_n 1, 1) := by decide +kernel
theorem dX3_insertWord_5 : decode cX3_insertWord 5 = .ok (.aload_n 0, 1) := by decide +kernel
theorem dX3_insertWord_6 : decode cX3_insertWord 6 = .ok (.getfield 26, 3) := by decide +kernel
theorem dX3_insertWord_9 : decode cX3_insertWord 9 = .ok (.if_icmp .gt 15, 3) := by decide +kernel
theorem dX3_insertWord_12 : decode cX3_insertWord 12 = .ok (.aload_n 0, 1) := by decide +kernel
theorem dX3_insertWord_13 : decode cX3_insertWord 13 = .ok (.getfield 26, 3) := by decide +kernel
theorem dX3_insertWord_16 : decode cX3_insertWord 16 = .ok (.aload_n 0, 1) := by decide +kernel
theorem dX3_insertWord_17 : decode cX3_insertWord 17 = .ok (.getfield 11, 3) := by decide +kernel
theorem dX3_insertWord_20 : decode cX3_insertWord 20 = .ok (.arraylength, 1) := by decide +kernel
theorem dX3_insertWord_21 : decode cX3_insertWord 21 = .ok (.if_icmp .lt 4, 3) := by decide +kernel
theorem dX3_insertWord_24 : decode cX3_insertWord 24 = .ok (.return_, 1) := by decide +kernel
theorem dX3_insertWord_25 : decode cX3_insertWord 25 = .ok (.aload_n 0, 1) := by decide +kernel
theorem dX3_insertWord_26 : decode cX3_insertWord 26 = .ok (.getfield 11, 3) := by decide +kernel
theorem dX3_insertWord_29 : decode cX3_insertWord 29 = .ok (.aload_n 0, 1) := by decide +kernel
theorem dX3_insertWord_30 : decode cX3_insertWord 30 = .ok (.getfield 26, 3) := by decide +kernel
theorem dX3_insertWord_33 : decode cX3_insertWord 33 = .ok (.aaload, 1) := by decide +kernel
theorem dX3_insertWord_34 : decode cX3_insertWord 34 = .ok (.astore_n 3, 1) := by decide +kernel
theorem dX3_insertWord_35 : decode cX3_insertWord 35 = .ok (.aload_n 0, 1) := by decide +kernel
theorem dX3_insertWord_36 : decode cX3_insertWord 36 = .ok (.getfield 26, 3) := by decide +kernel
theorem dX3_insertWord_39 : decode cX3_insertWord 39 = .ok (.istore 4, 2) := by decide +kernel
theorem dX3_insertWord_41 : decode cX3_insertWord 41 = .ok (.iload 4, 2) := by decide +kernel
theorem dX3_insertWord_43 : decode cX3_insertWord 43 = .ok (.iload_n 1, 1) := by decide +kernel
theorem dX3_insertWord_44 : decode cX3_insertWord 44 = .ok (.if_icmp .le 25, 3) := by decide +kernel
theorem dX3_insertWord_47 : decode cX3_insertWord 47 = .ok (.aload_n 0, 1) := by decide +kernel
theorem dX3_insertWord_48 : decode cX3_insertWord 48 = .ok (.getfield 11, 3) := by decide +kernel
theorem dX3_insertWord_51 : decode cX3_insertWord 51 = .ok (.iload 4, 2) := by decide +kernel
theorem dX3_insertWord_53 : decode cX3_insertWord 53 = .ok (.aload_n 0, 1) := by decide +kernel
theorem dX3_insertWord_54 : decode cX3_insertWord 54 = .ok (.getfield 11, 3) := by decide +kernel
theorem dX3_insertWord_57 : decode cX3_insertWord 57 = .ok (.iload 4, 2) := by decide +kernel
theorem dX3_insertWord_59 : decode cX3_insertWord 59 = .ok (.iconst 1, 1) := by decide +kernel
theorem dX3_insertWord_60 : decode cX3_insertWord 60 = .ok (.isub, 1) := by decide +kernel
theorem dX3_insertWord_61 : decode cX3_insertWord 61 = .ok (.aaload, 1) := by decide +kernel
theorem dX3_insertWord_62 : decode cX3_insertWord 62 = .ok (.aastore, 1) := by decide +kernel
theorem dX3_insertWord_63 : decode cX3_insertWord 63 = .ok (.iinc 4 (-1), 3) := by decide +kernel
theorem dX3_insertWord_66 : decode cX3_insertWord 66 = .ok (.goto (-25), 3) := by decide +kernel
theorem dX3_insertWord_69 : decode cX3_insertWord 69 = .ok (.aload_n 3, 1) := by decide +kernel
theorem dX3_insertWord_70 : decode cX3_insertWord 70 = .ok (.aload_n 2, 1) := by decide +kernel
theorem dX3_insertWord_71 : decode cX3_insertWord 71 = .ok (.invokevirtual 39, 3) := by decide +kernel
theorem dX3_insertWord_74 : decode cX3_insertWord 74 = .ok (.aload_n 0, 1) := by decide +kernel
theorem dX3_insertWord_75 : decode cX3_insertWord 75 = .ok (.getfield 11, 3) := by decide +kernel
theorem dX3_insertWord_78 : decode cX3_insertWord 78 = .ok (.iload_n 1, 1) := by decide +kernel
theorem dX3_insertWord_79 : decode cX3_insertWord 79 = .ok (.aload_n 3, 1) := by decide +kernel
theorem dX3_insertWord_80 : decode cX3_insertWord 80 = .ok (.aastore, 1) := by decide +kernel
theorem dX3_insertWord_81 : decode cX3_insertWord 81 = .ok (.aload_n 0, 1) := by decide +kernel
theorem dX3_insertWord_82 : decode cX3_insertWord 82 = .ok (.dup, 1) := by decide +kernel
theorem dX3_insertWord_83 : decode cX3_insertWord 83 = .ok (.getfield 26, 3) := by decide +kernel
theorem dX3_insertWord_86 : decode cX3_insertWord 86 = .ok (.iconst 1, 1) := by decide +kernel
theorem dX3_insertWord_87 : decode cX3_insertWord 87 = .ok (.iadd, 1) := by decide +kernel
theorem dX3_insertWord_88 : decode cX3_insertWord 88 = .ok (.putfield 26, 3) := by decide +kernel
theorem dX3_insertWord_91 : decode cX3_insertWord 91 = .ok (.return_, 1) := by decide +kernel
theorem dX3_removeWord_0 : decode cX3_removeWord 0 = .ok (.iload_n 1, 1) := by decide +kernel
theorem dX3_removeWord_1 : decode cX3_removeWord 1 = .ok (.ifCond .lt 23, 3) := by decide +kernel
theorem dX3_removeWord_4 : decode cX3_removeWord 4 = .ok (.iload_n 1, 1) := by decide +kernel
theorem dX3_removeWord_5 : decode cX3_removeWord 5 = .ok (.aload_n 0, 1) := by decide +kernel
theorem dX3_removeWord_6 : decode cX3_removeWord 6 = .ok (.getfield 26, 3) := by decide +kernel
theorem dX3_removeWord_9 : decode cX3_removeWord 9 = .ok (.if_icmp .ge 15, 3) := by decide +kernel
theorem dX3_removeWord_12 : decode cX3_removeWord 12 = .ok (.aload_n 0, 1) := by decide +kernel
theorem dX3_removeWord_13 : decode cX3_removeWord 13 = .ok (.getfield 26, 3) := by decide +kernel
theorem dX3_removeWord_16 : decode cX3_removeWord 16 = .ok (.aload_n 0, 1) := by decide +kernel
theorem dX3_removeWord_17 : decode cX3_removeWord 17 = .ok (.getfield 11, 3) := by decide +kernel
theorem dX3_removeWord_20 : decode cX3_removeWord 20 = .ok (.arraylength, 1) := by decide +kernel
theorem dX3_removeWord_21 : decode cX3_removeWord 21 = .ok (.if_icmp .le 4, 3) := by decide +kernel
theorem dX3_removeWord_24 : decode cX3_removeWord 24 = .ok (.return_, 1) := by decide +kernel
theorem dX3_removeWord_25 : decode cX3_removeWord 25 = .ok (.aload_n 0, 1) := by decide +kernel
theorem dX3_removeWord_26 : decode cX3_removeWord 26 = .ok (.getfield 11, 3) := by decide +kernel
theorem dX3_removeWord_29 : decode cX3_removeWord 29 = .ok (.iload_n 1, 1) := by decide +kernel
theorem dX3_removeWord_30 : decode cX3_removeWord 30 = .ok (.aaload, 1) := by decide +kernel
theorem dX3_removeWord_31 : decode cX3_removeWord 31 = .ok (.astore_n 2, 1) := by decide +kernel
theorem dX3_removeWord_32 : decode cX3_removeWord 32 = .ok (.iload_n 1, 1) := by decide +kernel
theorem dX3_removeWord_33 : decode cX3_removeWord 33 = .ok (.istore_n 3, 1) := by decide +kernel
theorem dX3_removeWord_34 : decode cX3_removeWord 34 = .ok (.iload_n 3, 1) := by decide +kernel
theorem dX3_removeWord_35 : decode cX3_removeWord 35 = .ok (.aload_n 0, 1) := by decide +kernel
theorem dX3_removeWord_36 : decode cX3_removeWord 36 = .ok (.getfield 26, 3) := by decide +kernel
theorem dX3_removeWord_39 : decode cX3_removeWord 39 = .ok (.iconst 1, 1) := by decide +kernel
theorem dX3_removeWord_40 : decode cX3_removeWord 40 = .ok (.isub, 1) := by decide +kernel
theorem dX3_removeWord_41 : decode cX3_removeWord 41 = .ok (.if_icmp .ge 23, 3) := by decide +kernel
theorem dX3_removeWord_44 : decode cX3_removeWord 44 = .ok (.aload_n 0, 1) := by decide +kernel
theorem dX3_removeWord_45 : decode cX3_removeWord 45 = .ok (.getfield 11, 3) := by decide +kernel
theorem dX3_removeWord_48 : decode cX3_removeWord 48 = .ok (.iload_n 3, 1) := by decide +kernel
theorem dX3_removeWord_49 : decode cX3_removeWord 49 = .ok (.aload_n 0, 1) := by decide +kernel
theorem dX3_removeWord_50 : decode cX3_removeWord 50 = .ok (.getfield 11, 3) := by decide +kernel
theorem dX3_removeWord_53 : decode cX3_removeWord 53 = .ok (.iload_n 3, 1) := by decide +kernel
theorem dX3_removeWord_54 : decode cX3_removeWord 54 = .ok (.iconst 1, 1) := by decide +kernel
theorem dX3_removeWord_55 : decode cX3_removeWord 55 = .ok (.iadd, 1) := by decide +kernel
theorem dX3_removeWord_56 : decode cX3_removeWord 56 = .ok (.aaload, 1) := by decide +kernel
theorem dX3_removeWord_57 : decode cX3_removeWord 57 = .ok (.aastore, 1) := by decide +kernel
theorem dX3_removeWord_58 : decode cX3_removeWord 58 = .ok (.iinc 3 1, 3) := by decide +kernel
theorem dX3_removeWord_61 : decode cX3_removeWord 61 = .ok (.goto (-27), 3) := by decide +kernel
theorem dX3_removeWord_64 : decode cX3_removeWord 64 = .ok (.aload_n 0, 1) := by decide +kernel
theorem dX3_removeWord_65 : decode cX3_removeWord 65 = .ok (.getfield 11, 3) := by decide +kernel
theorem dX3_removeWord_68 : decode cX3_removeWord 68 = .ok (.aload_n 0, 1) := by decide +kernel
theorem dX3_removeWord_69 : decode cX3_removeWord 69 = .ok (.getfield 26, 3) := by decide +kernel
theorem dX3_removeWord_72 : decode cX3_removeWord 72 = .ok (.iconst 1, 1) := by decide +kernel
theorem dX3_removeWord_73 : decode cX3_removeWord 73 = .ok (.isub, 1) := by decide +kernel
theorem dX3_removeWord_74 : decode cX3_removeWord 74 = .ok (.aload_n 2, 1) := by decide +kernel
theorem dX3_removeWord_75 : decode cX3_removeWord 75 = .ok (.aastore, 1) := by decide +kernel
theorem dX3_removeWord_76 : decode cX3_removeWord 76 = .ok (.aload_n 0, 1) := by decide +kernel
theorem dX3_removeWord_77 : decode cX3_removeWord 77 = .ok (.dup, 1) := by decide +kernel
theorem dX3_removeWord_78 : decode cX3_removeWord 78 = .ok (.getfield 26, 3) := by decide +kernel
theorem dX3_removeWord_81 : decode cX3_removeWord 81 = .ok (.iconst 1, 1) := by decide +kernel
theorem dX3_removeWord_82 : decode cX3_removeWord 82 = .ok (.isub, 1) := by decide +kernel
theorem dX3_removeWord_83 : decode cX3_removeWord 83 = .ok (.putfield 26, 3) := by decide +kernel
theorem dX3_removeWord_86 : decode cX3_removeWord 86 = .ok (.return_, 1) := by decide +kernel
theorem dX3_insertPage_0 : decode cX3_insertPage 0 = .ok (.iload_n 1, 1) := by decide +kernel
theorem dX3_insertPage_1 : decode cX3_insertPage 1 = .ok (.ifCond .lt 23, 3) := by decide +kernel
theorem dX3_insertPage_4 : decode cX3_insertPage 4 = .ok (.iload_n 1, 1) := by decide +kernel
theorem dX3_insertPage_5 : decode cX3_insertPage 5 = .ok (.aload_n 0, 1) := by decide +kernel
theorem dX3_insertPage_6 : decode cX3_insertPage 6 = .ok (.getfield 29, 3) := by decide +kernel
theorem dX3_insertPage_9 : decode cX3_insertPage 9 = .ok (.if_icmp .gt 15, 3) := by decide +kernel
theorem dX3_insertPage_12 : decode cX3_insertPage 12 = .ok (.aload_n 0, 1) := by decide +kernel
theorem dX3_insertPage_13 : decode cX3_insertPage 13 = .ok (.getfield 29, 3) := by decide +kernel
theorem dX3_insertPage_16 : decode cX3_insertPage 16 = .ok (.aload_n 0, 1) := by decide +kernel
theorem dX3_insertPage_17 : decode cX3_insertPage 17 = .ok (.getfield 17, 3) := by decide +kernel
theorem dX3_insertPage_20 : decode cX3_insertPage 20 = .ok (.arraylength, 1) := by decide +kernel
theorem dX3_insertPage_21 : decode cX3_insertPage 21 = .ok (.if_icmp .lt 4, 3) := by decide +kernel
theorem dX3_insertPage_24 : decode cX3_insertPage 24 = .ok (.return_, 1) := by decide +kernel
theorem dX3_insertPage_25 : decode cX3_insertPage 25 = .ok (.aload_n 0, 1) := by decide +kernel
theorem dX3_insertPage_26 : decode cX3_insertPage 26 = .ok (.getfield 29, 3) := by decide +kernel
theorem dX3_insertPage_29 : decode cX3_insertPage 29 = .ok (.istore_n 3, 1) := by decide +kernel
theorem dX3_insertPage_30 : decode cX3_insertPage 30 = .ok (.iload_n 3, 1) := by decide +kernel
theorem dX3_insertPage_31 : decode cX3_insertPage 31 = .ok (.iload_n 1, 1) := by decide +kernel
theorem dX3_insertPage_32 : decode cX3_insertPage 32 = .ok (.if_icmp .le 23, 3) := by decide +kernel
theorem dX3_insertPage_35 : decode cX3_insertPage 35 = .ok (.aload_n 0, 1) := by decide +kernel
theorem dX3_insertPage_36 : decode cX3_insertPage 36 = .ok (.getfield 17, 3) := by decide +kernel
theorem dX3_insertPage_39 : decode cX3_insertPage 39 = .ok (.iload_n 3, 1) := by decide +kernel
theorem dX3_insertPage_40 : decode cX3_insertPage 40 = .ok (.aload_n 0, 1) := by decide +kernel
theorem dX3_insertPage_41 : decode cX3_insertPage 41 = .ok (.getfield 17, 3) := by decide +kernel
theorem dX3_insertPage_44 : decode cX3_insertPage 44 = .ok (.iload_n 3, 1) := by decide +kernel
theorem dX3_insertPage_45 : decode cX3_insertPage 45 = .ok (.iconst 1, 1) := by decide +kernel
theorem dX3_insertPage_46 : decode cX3_insertPage 46 = .ok (.isub, 1) := by decide +kernel
theorem dX3_insertPage_47 : decode cX3_insertPage 47 = .ok (.iaload, 1) := by decide +kernel
theorem dX3_insertPage_48 : decode cX3_insertPage 48 = .ok (.iastore, 1) := by decide +kernel
theorem dX3_insertPage_49 : decode cX3_insertPage 49 = .ok (.iinc 3 (-1), 3) := by decide +kernel
theorem dX3_insertPage_52 : decode cX3_insertPage 52 = .ok (.goto (-22), 3) := by decide +kernel
theorem dX3_insertPage_55 : decode cX3_insertPage 55 = .ok (.aload_n 0, 1) := by decide +kernel
theorem dX3_insertPage_56 : decode cX3_insertPage 56 = .ok (.getfield 17, 3) := by decide +kernel
theorem dX3_insertPage_59 : decode cX3_insertPage 59 = .ok (.iload_n 1, 1) := by decide +kernel
theorem dX3_insertPage_60 : decode cX3_insertPage 60 = .ok (.iload_n 2, 1) := by decide +kernel
theorem dX3_insertPage_61 : decode cX3_insertPage 61 = .ok (.iastore, 1) := by decide +kernel
theorem dX3_insertPage_62 : decode cX3_insertPage 62 = .ok (.aload_n 0, 1) := by decide +kernel
theorem dX3_insertPage_63 : decode cX3_insertPage 63 = .ok (.dup, 1) := by decide +kernel
theorem dX3_insertPage_64 : decode cX3_insertPage 64 = .ok (.getfield 29, 3) := by decide +kernel
theorem dX3_insertPage_67 : decode cX3_insertPage 67 = .ok (.iconst 1, 1) := by decide +kernel
theorem dX3_insertPage_68 : decode cX3_insertPage 68 = .ok (.iadd, 1) := by decide +kernel
theorem dX3_insertPage_69 : decode cX3_insertPage 69 = .ok (.putfield 29, 3) := by decide +kernel
theorem dX3_insertPage_72 : decode cX3_insertPage 72 = .ok (.return_, 1) := by decide +kernel
theorem dX3_removePage_0 : decode cX3_removePage 0 = .ok (.iload_n 1, 1) := by decide +kernel
theorem dX3_removePage_1 : decode cX3_removePage 1 = .ok (.ifCond .lt 23, 3) := by decide +kernel
theorem dX3_removePage_4 : decode cX3_removePage 4 = .ok (.iload_n 1, 1) := by decide +kernel
theorem dX3_removePage_5 : decode cX3_removePage 5 = .ok (.aload_n 0, 1) := by decide +kernel
theorem dX3_removePage_6 : decode cX3_removePage 6 = .ok (.getfield 29, 3) := by decide +kernel
theorem dX3_removePage_9 : decode cX3_removePage 9 = .ok (.if_icmp .ge 15, 3) := by decide +kernel
theorem dX3_removePage_12 : decode cX3_removePage 12 = .ok (.aload_n 0, 1) := by decide +kernel
theorem dX3_removePage_13 : decode cX3_removePage 13 = .ok (.getfield 29, 3) := by decide +kernel
theorem dX3_removePage_16 : decode cX3_removePage 16 = .ok (.aload_n 0, 1) := by decide +kernel
theorem dX3_removePage_17 : decode cX3_removePage 17 = .ok (.getfield 17, 3) := by decide +kernel
theorem dX3_removePage_20 : decode cX3_removePage 20 = .ok (.arraylength, 1) := by decide +kernel
theorem dX3_removePage_21 : decode cX3_removePage 21 = .ok (.if_icmp .le 4, 3) := by decide +kernel
theorem dX3_removePage_24 : decode cX3_removePage 24 = .ok (.return_, 1) := by decide +kernel
theorem dX3_removePage_25 : decode cX3_removePage 25 = .ok (.iload_n 1, 1) := by decide +kernel
theorem dX3_removePage_26 : decode cX3_removePage 26 = .ok (.istore_n 2, 1) := by decide +kernel
theorem dX3_removePage_27 : decode cX3_removePage 27 = .ok (.iload_n 2, 1) := by decide +kernel
theorem dX3_removePage_28 : decode cX3_removePage 28 = .ok (.aload_n 0, 1) := by decide +kernel
theorem dX3_removePage_29 : decode cX3_removePage 29 = .ok (.getfield 29, 3) := by decide +kernel
theorem dX3_removePage_32 : decode cX3_removePage 32 = .ok (.iconst 1, 1) := by decide +kernel
theorem dX3_removePage_33 : decode cX3_removePage 33 = .ok (.isub, 1) := by decide +kernel
theorem dX3_removePage_34 : decode cX3_removePage 34 = .ok (.if_icmp .ge 23, 3) := by decide +kernel
theorem dX3_removePage_37 : decode cX3_removePage 37 = .ok (.aload_n 0, 1) := by decide +kernel
theorem dX3_removePage_38 : decode cX3_removePage 38 = .ok (.getfield 17, 3) := by decide +kernel
theorem dX3_removePage_41 : decode cX3_removePage 41 = .ok (.iload_n 2, 1) := by decide +kernel
theorem dX3_removePage_42 : decode cX3_removePage 42 = .ok (.aload_n 0, 1) := by decide +kernel
theorem dX3_removePage_43 : decode cX3_removePage 43 = .ok (.getfield 17, 3) := by decide +kernel
theorem dX3_removePage_46 : decode cX3_removePage 46 = .ok (.iload_n 2, 1) := by decide +kernel
theorem dX3_removePage_47 : decode cX3_removePage 47 = .ok (.iconst 1, 1) := by decide +kernel
theorem dX3_removePage_48 : decode cX3_removePage 48 = .ok (.iadd, 1) := by decide +kernel
theorem dX3_removePage_49 : decode cX3_removePage 49 = .ok (.iaload, 1) := by decide +kernel
theorem dX3_removePage_50 : decode cX3_removePage 50 = .ok (.iastore, 1) := by decide +kernel
theorem dX3_removePage_51 : decode cX3_removePage 51 = .ok (.iinc 2 1, 3) := by decide +kernel
theorem dX3_removePage_54 : decode cX3_removePage 54 = .ok (.goto (-27), 3) := by decide +kernel
theorem dX3_removePage_57 : decode cX3_removePage 57 = .ok (.aload_n 0, 1) := by decide +kernel
theorem dX3_removePage_58 : decode cX3_removePage 58 = .ok (.dup, 1) := by decide +kernel
theorem dX3_removePage_59 : decode cX3_removePage 59 = .ok (.getfield 29, 3) := by decide +kernel
theorem dX3_removePage_62 : decode cX3_removePage 62 = .ok (.iconst 1, 1) := by decide +kernel
theorem dX3_removePage_63 : decode cX3_removePage 63 = .ok (.isub, 1) := by decide +kernel
theorem dX3_removePage_64 : decode cX3_removePage 64 = .ok (.putfield 29, 3) := by decide +kernel
theorem dX3_removePage_67 : decode cX3_removePage 67 = .ok (.return_, 1) := by decide +kernel
set_option maxRecDepth 20000 in
theorem ggX3_deal_X3_dealLevel : GoodIn wsX3_deal wsX3_dealLevel := goodIn_r _ [9, 10, 11, 12, 8, 13, 2, 14, 15, 16, 17, 18, 19, 20] (by decide +kernel) (by decide +kernel)
set_option maxRecDepth 20000 in
theorem gX3_deal_X3_dealLevel : GoodIn wsX3_deal (wsV RX3 47 RX3 yX3_dealLevel wsX3_dealLevel) := goodIn_app (goodIn_of _ (by decide +kernel)) ggX3_deal_X3_dealLevel
theorem dX3_deal_0 : decode cX3_deal 0 = .ok (.iload_n 1, 1) := by decide +kernel
theorem dX3_deal_1 : decode cX3_deal 1 = .ok (.iconst 1, 1) := by decide +kernel
theorem dX3_deal_2 : decode cX3_deal 2 = .ok (.if_icmp .ge 4, 3) := by decide +kernel
theorem dX3_deal_5 : decode cX3_deal 5 = .ok (.return_, 1) := by decide +kernel
theorem dX3_deal_6 : decode cX3_deal 6 = .ok (.aload_n 0, 1) := by decide +kernel
theorem dX3_deal_7 : decode cX3_deal 7 = .ok (.iload_n 1, 1) := by decide +kernel
theorem dX3_deal_8 : decode cX3_deal 8 = .ok (.putfield 21, 3) := by decide +kernel
theorem dX3_deal_11 : decode cX3_deal 11 = .ok (.aload_n 0, 1) := by decide +kernel
theorem dX3_deal_12 : decode cX3_deal 12 = .ok (.iconst 0, 1) := by decide +kernel
theorem dX3_deal_13 : decode cX3_deal 13 = .ok (.putfield 29, 3) := by decide +kernel
theorem dX3_deal_16 : decode cX3_deal 16 = .ok (.aload_n 0, 1) := by decide +kernel
theorem dX3_deal_17 : decode cX3_deal 17 = .ok (.iconst 0, 1) := by decide +kernel
theorem dX3_deal_18 : decode cX3_deal 18 = .ok (.putfield 32, 3) := by decide +kernel
theorem dX3_deal_21 : decode cX3_deal 21 = .ok (.aload_n 0, 1) := by decide +kernel
theorem dX3_deal_22 : decode cX3_deal 22 = .ok (.getfield 26, 3) := by decide +kernel
theorem dX3_deal_25 : decode cX3_deal 25 = .ok (.istore_n 2, 1) := by decide +kernel
theorem dX3_deal_26 : decode cX3_deal 26 = .ok (.iconst 0, 1) := by decide +kernel
theorem dX3_deal_27 : decode cX3_deal 27 = .ok (.istore_n 3, 1) := by decide +kernel
theorem dX3_deal_28 : decode cX3_deal 28 = .ok (.iload_n 3, 1) := by decide +kernel
theorem dX3_deal_29 : decode cX3_deal 29 = .ok (.bipush 6, 2) := by decide +kernel
theorem dX3_deal_31 : decode cX3_deal 31 = .ok (.if_icmp .ge 51, 3) := by decide +kernel
theorem dX3_deal_34 : decode cX3_deal 34 = .ok (.iload_n 2, 1) := by decide +kernel
theorem dX3_deal_35 : decode cX3_deal 35 = .ok (.ifCond .le 47, 3) := by decide +kernel
theorem dX3_deal_38 : decode cX3_deal 38 = .ok (.iload_n 3, 1) := by decide +kernel
theorem dX3_deal_39 : decode cX3_deal 39 = .ok (.ifCond .eq 8, 3) := by decide +kernel
theorem dX3_deal_42 : decode cX3_deal 42 = .ok (.iload_n 2, 1) := by decide +kernel
theorem dX3_deal_43 : decode cX3_deal 43 = .ok (.iconst 1, 1) := by decide +kernel
theorem dX3_deal_44 : decode cX3_deal 44 = .ok (.if_icmp .le 38, 3) := by decide +kernel
theorem dX3_deal_47 : decode cX3_deal 47 = .ok (.iload_n 2, 1) := by decide +kernel
theorem dX3_deal_48 : decode cX3_deal 48 = .ok (.iload_n 1, 1) := by decide +kernel
theorem dX3_deal_49 : decode cX3_deal 49 = .ok (.iadd, 1) := by decide +kernel
theorem dX3_deal_50 : decode cX3_deal 50 = .ok (.iconst 1, 1) := by decide +kernel
theorem dX3_deal_51 : decode cX3_deal 51 = .ok (.isub, 1) := by decide +kernel
theorem dX3_deal_52 : decode cX3_deal 52 = .ok (.iload_n 1, 1) := by decide +kernel
theorem dX3_deal_53 : decode cX3_deal 53 = .ok (.idiv, 1) := by decide +kernel
theorem dX3_deal_54 : decode cX3_deal 54 = .ok (.istore 4, 2) := by decide +kernel
theorem dX3_deal_56 : decode cX3_deal 56 = .ok (.aload_n 0, 1) := by decide +kernel
theorem dX3_deal_57 : decode cX3_deal 57 = .ok (.iload_n 2, 1) := by decide +kernel
theorem dX3_deal_58 : decode cX3_deal 58 = .ok (.iload 4, 2) := by decide +kernel
theorem dX3_deal_60 : decode cX3_deal 60 = .ok (.invokevirtual 47, 3) := by decide +kernel
theorem dX3_deal_63 : decode cX3_deal 63 = .ok (.aload_n 0, 1) := by decide +kernel
theorem dX3_deal_64 : decode cX3_deal 64 = .ok (.dup, 1) := by decide +kernel
theorem dX3_deal_65 : decode cX3_deal 65 = .ok (.getfield 32, 3) := by decide +kernel
theorem dX3_deal_68 : decode cX3_deal 68 = .ok (.iconst 1, 1) := by decide +kernel
theorem dX3_deal_69 : decode cX3_deal 69 = .ok (.iadd, 1) := by decide +kernel
theorem dX3_deal_70 : decode cX3_deal 70 = .ok (.putfield 32, 3) := by decide +kernel
theorem dX3_deal_73 : decode cX3_deal 73 = .ok (.iload 4, 2) := by decide +kernel
theorem dX3_deal_75 : decode cX3_deal 75 = .ok (.istore_n 2, 1) := by decide +kernel
theorem dX3_deal_76 : decode cX3_deal 76 = .ok (.iinc 3 1, 3) := by decide +kernel
theorem dX3_deal_79 : decode cX3_deal 79 = .ok (.goto (-51), 3) := by decide +kernel
theorem dX3_deal_82 : decode cX3_deal 82 = .ok (.return_, 1) := by decide +kernel
set_option maxRecDepth 20000 in
theorem ggX3_dealLevel_X3_insertPage : GoodIn wsX3_dealLevel wsX3_insertPage := goodIn_r _ [5, 6, 7, 8, 9, 10, 11, 12, 13] (by decide +kernel) (by decide +kernel)
set_option maxRecDepth 20000 in
theorem gX3_dealLevel_X3_insertPage : GoodIn wsX3_dealLevel (wsV RX3 51 RX3 yX3_insertPage wsX3_insertPage) := goodIn_app (goodIn_of _ (by decide +kernel)) ggX3_dealLevel_X3_insertPage
theorem dX3_dealLevel_0 : decode cX3_dealLevel 0 = .ok (.iload_n 2, 1) := by decide +kernel
theorem dX3_dealLevel_1 : decode cX3_dealLevel 1 = .ok (.iconst 1, 1) := by decide +kernel
theorem dX3_dealLevel_2 : decode cX3_dealLevel 2 = .ok (.if_icmp .ge 4, 3) := by decide +kernel
theorem dX3_dealLevel_5 : decode cX3_dealLevel 5 = .ok (.return_, 1) := by decide +kernel
theorem dX3_dealLevel_6 : decode cX3_dealLevel 6 = .ok (.iconst 0, 1) := by decide +kernel
theorem dX3_dealLevel_7 : decode cX3_dealLevel 7 = .ok (.istore_n 3, 1) := by decide +kernel
theorem dX3_dealLevel_8 : decode cX3_dealLevel 8 = .ok (.iload_n 3, 1) := by decide +kernel
theorem dX3_dealLevel_9 : decode cX3_dealLevel 9 = .ok (.iload_n 2, 1) := by decide +kernel
theorem dX3_dealLevel_10 : decode cX3_dealLevel 10 = .ok (.if_icmp .ge 30, 3) := by decide +kernel
theorem dX3_dealLevel_13 : decode cX3_dealLevel 13 = .ok (.aload_n 0, 1) := by decide +kernel
theorem dX3_dealLevel_14 : decode cX3_dealLevel 14 = .ok (.iload_n 3, 1) := by decide +kernel
theorem dX3_dealLevel_15 : decode cX3_dealLevel 15 = .ok (.iload_n 1, 1) := by decide +kernel
theorem dX3_dealLevel_16 : decode cX3_dealLevel 16 = .ok (.iload_n 2, 1) := by decide +kernel
theorem dX3_dealLevel_17 : decode cX3_dealLevel 17 = .ok (.idiv, 1) := by decide +kernel
theorem dX3_dealLevel_18 : decode cX3_dealLevel 18 = .ok (.iload_n 3, 1) := by decide +kernel
theorem dX3_dealLevel_19 : decode cX3_dealLevel 19 = .ok (.iload_n 1, 1) := by decide +kernel
theorem dX3_dealLevel_20 : decode cX3_dealLevel 20 = .ok (.iload_n 2, 1) := by decide +kernel
theorem dX3_dealLevel_21 : decode cX3_dealLevel 21 = .ok (.irem, 1) := by decide +kernel
theorem dX3_dealLevel_22 : decode cX3_dealLevel 22 = .ok (.if_icmp .ge 7, 3) := by decide +kernel
theorem dX3_dealLevel_25 : decode cX3_dealLevel 25 = .ok (.iconst 1, 1) := by decide +kernel
theorem dX3_dealLevel_26 : decode cX3_dealLevel 26 = .ok (.goto 4, 3) := by decide +kernel
theorem dX3_dealLevel_29 : decode cX3_dealLevel 29 = .ok (.iconst 0, 1) := by decide +kernel
theorem dX3_dealLevel_30 : decode cX3_dealLevel 30 = .ok (.iadd, 1) := by decide +kernel
theorem dX3_dealLevel_31 : decode cX3_dealLevel 31 = .ok (.invokevirtual 51, 3) := by decide +kernel
theorem dX3_dealLevel_34 : decode cX3_dealLevel 34 = .ok (.iinc 3 1, 3) := by decide +kernel
theorem dX3_dealLevel_37 : decode cX3_dealLevel 37 = .ok (.goto (-29), 3) := by decide +kernel
theorem dX3_dealLevel_40 : decode cX3_dealLevel 40 = .ok (.return_, 1) := by decide +kernel
set_option maxRecDepth 20000 in
theorem ggX3_beginning_X3_wordAt : GoodIn wsX3_beginning wsX3_wordAt := goodIn_r _ [7, 8, 24, 25, 26, 27, 28, 29] (by decide +kernel) (by decide +kernel)
set_option maxRecDepth 20000 in
theorem gX3_beginning_X3_wordAt : GoodIn wsX3_beginning (wsV RX3 35 RX3 yX3_wordAt wsX3_wordAt) := goodIn_app (goodIn_of _ (by decide +kernel)) ggX3_beginning_X3_wordAt
set_option maxRecDepth 20000 in
theorem ggX3_beginning_X6_partingFrom : GoodIn wsX3_beginning wsX6_partingFrom := goodIn_r _ [13, 14, 15, 16, 17, 18, 19, 20, 21, 22, 23, 30, 31] (by decide +kernel) (by decide +kernel)
set_option maxRecDepth 20000 in
theorem gX3_beginning_X6_partingFrom : GoodIn wsX3_beginning (wsV RX3 54 RX6 yX6_partingFrom wsX6_partingFrom) := goodIn_app (goodIn_of _ (by decide +kernel)) ggX3_beginning_X6_partingFrom
theorem dX3_beginning_0 : decode cX3_beginning 0 = .ok (.iconst 0, 1) := by decide +kernel
theorem dX3_beginning_1 : decode cX3_beginning 1 = .ok (.istore_n 2, 1) := by decide +kernel
theorem dX3_beginning_2 : decode cX3_beginning 2 = .ok (.iconst 0, 1) := by decide +kernel
theorem dX3_beginning_3 : decode cX3_beginning 3 = .ok (.istore_n 3, 1) := by decide +kernel
theorem dX3_beginning_4 : decode cX3_beginning 4 = .ok (.iload_n 3, 1) := by decide +kernel
theorem dX3_beginning_5 : decode cX3_beginning 5 = .ok (.aload_n 0, 1) := by decide +kernel
theorem dX3_beginning_6 : decode cX3_beginning 6 = .ok (.getfield 26, 3) := by decide +kernel
theorem dX3_beginning_9 : decode cX3_beginning 9 = .ok (.if_icmp .ge 41, 3) := by decide +kernel
theorem dX3_beginning_12 : decode cX3_beginning 12 = .ok (.aload_n 1, 1) := by decide +kernel
theorem dX3_beginning_13 : decode cX3_beginning 13 = .ok (.aload_n 0, 1) := by decide +kernel
theorem dX3_beginning_14 : decode cX3_beginning 14 = .ok (.iload_n 3, 1) := by decide +kernel
theorem dX3_beginning_15 : decode cX3_beginning 15 = .ok (.invokevirtual 35, 3) := by decide +kernel
theorem dX3_beginning_18 : decode cX3_beginning 18 = .ok (.invokevirtual 54, 3) := by decide +kernel
theorem dX3_beginning_21 : decode cX3_beginning 21 = .ok (.istore 4, 2) := by decide +kernel
theorem dX3_beginning_23 : decode cX3_beginning 23 = .ok (.iload 4, 2) := by decide +kernel
theorem dX3_beginning_25 : decode cX3_beginning 25 = .ok (.iconst (-1), 1) := by decide +kernel
theorem dX3_beginning_26 : decode cX3_beginning 26 = .ok (.if_icmp .eq 15, 3) := by decide +kernel
theorem dX3_beginning_29 : decode cX3_beginning 29 = .ok (.iload 4, 2) := by decide +kernel
theorem dX3_beginning_31 : decode cX3_beginning 31 = .ok (.bipush 8, 2) := by decide +kernel
theorem dX3_beginning_33 : decode cX3_beginning 33 = .ok (.aload_n 1, 1) := by decide +kernel
theorem dX3_beginning_34 : decode cX3_beginning 34 = .ok (.getfield 58, 3) := by decide +kernel
theorem dX3_beginning_37 : decode cX3_beginning 37 = .ok (.imul, 1) := by decide +kernel
theorem dX3_beginning_38 : decode cX3_beginning 38 = .ok (.if_icmp .lt 6, 3) := by decide +kernel
theorem dX3_beginning_41 : decode cX3_beginning 41 = .ok (.iinc 2 1, 3) := by decide +kernel
theorem dX3_beginning_44 : decode cX3_beginning 44 = .ok (.iinc 3 1, 3) := by decide +kernel
theorem dX3_beginning_47 : decode cX3_beginning 47 = .ok (.goto (-43), 3) := by decide +kernel
theorem dX3_beginning_50 : decode cX3_beginning 50 = .ok (.iload_n 2, 1) := by decide +kernel
theorem dX3_beginning_51 : decode cX3_beginning 51 = .ok (.ireturn, 1) := by decide +kernel
theorem dX4_init_0 : decode cX4_init 0 = .ok (.aload_n 0, 1) := by decide +kernel
theorem dX4_init_1 : decode cX4_init 1 = .ok (.invokespecial 3, 3) := by decide +kernel
theorem dX4_init_4 : decode cX4_init 4 = .ok (.aload_n 0, 1) := by decide +kernel
theorem dX4_init_5 : decode cX4_init 5 = .ok (.bipush 120, 2) := by decide +kernel
theorem dX4_init_7 : decode cX4_init 7 = .ok (.newarray .byte, 2) := by decide +kernel
theorem dX4_init_9 : decode cX4_init 9 = .ok (.putfield 9, 3) := by decide +kernel
theorem dX4_init_12 : decode cX4_init 12 = .ok (.return_, 1) := by decide +kernel
theorem dX4_append_0 : decode cX4_append 0 = .ok (.aload_n 0, 1) := by decide +kernel
theorem dX4_append_1 : decode cX4_append 1 = .ok (.getfield 15, 3) := by decide +kernel
theorem dX4_append_4 : decode cX4_append 4 = .ok (.ifCond .lt 36, 3) := by decide +kernel
theorem dX4_append_7 : decode cX4_append 7 = .ok (.aload_n 0, 1) := by decide +kernel
theorem dX4_append_8 : decode cX4_append 8 = .ok (.getfield 15, 3) := by decide +kernel
theorem dX4_append_11 : decode cX4_append 11 = .ok (.aload_n 0, 1) := by decide +kernel
theorem dX4_append_12 : decode cX4_append 12 = .ok (.getfield 9, 3) := by decide +kernel
theorem dX4_append_15 : decode cX4_append 15 = .ok (.arraylength, 1) := by decide +kernel
theorem dX4_append_16 : decode cX4_append 16 = .ok (.if_icmp .ge 24, 3) := by decide +kernel
theorem dX4_append_19 : decode cX4_append 19 = .ok (.aload_n 0, 1) := by decide +kernel
theorem dX4_append_20 : decode cX4_append 20 = .ok (.getfield 9, 3) := by decide +kernel
theorem dX4_append_23 : decode cX4_append 23 = .ok (.aload_n 0, 1) := by decide +kernel
theorem dX4_append_24 : decode cX4_append 24 = .ok (.getfield 15, 3) := by decide +kernel
theorem dX4_append_27 : decode cX4_append 27 = .ok (.iload_n 1, 1) := by decide +kernel
theorem dX4_append_28 : decode cX4_append 28 = .ok (.i2b, 1) := by decide +kernel
theorem dX4_append_29 : decode cX4_append 29 = .ok (.bastore, 1) := by decide +kernel
theorem dX4_append_30 : decode cX4_append 30 = .ok (.aload_n 0, 1) := by decide +kernel
theorem dX4_append_31 : decode cX4_append 31 = .ok (.dup, 1) := by decide +kernel
theorem dX4_append_32 : decode cX4_append 32 = .ok (.getfield 15, 3) := by decide +kernel
theorem dX4_append_35 : decode cX4_append 35 = .ok (.iconst 1, 1) := by decide +kernel
theorem dX4_append_36 : decode cX4_append 36 = .ok (.iadd, 1) := by decide +kernel
theorem dX4_append_37 : decode cX4_append 37 = .ok (.putfield 15, 3) := by decide +kernel
theorem dX4_append_40 : decode cX4_append 40 = .ok (.return_, 1) := by decide +kernel
theorem dX4_byteAt_0 : decode cX4_byteAt 0 = .ok (.iload_n 1, 1) := by decide +kernel
theorem dX4_byteAt_1 : decode cX4_byteAt 1 = .ok (.ifCond .lt 29, 3) := by decide +kernel
theorem dX4_byteAt_4 : decode cX4_byteAt 4 = .ok (.iload_n 1, 1) := by decide +kernel
theorem dX4_byteAt_5 : decode cX4_byteAt 5 = .ok (.aload_n 0, 1) := by decide +kernel
theorem dX4_byteAt_6 : decode cX4_byteAt 6 = .ok (.getfield 15, 3) := by decide +kernel
theorem dX4_byteAt_9 : decode cX4_byteAt 9 = .ok (.if_icmp .ge 21, 3) := by decide +kernel
theorem dX4_byteAt_12 : decode cX4_byteAt 12 = .ok (.iload_n 1, 1) := by decide +kernel
theorem dX4_byteAt_13 : decode cX4_byteAt 13 = .ok (.aload_n 0, 1) := by decide +kernel
theorem dX4_byteAt_14 : decode cX4_byteAt 14 = .ok (.getfield 9, 3) := by decide +kernel
theorem dX4_byteAt_17 : decode cX4_byteAt 17 = .ok (.arraylength, 1) := by decide +kernel
theorem dX4_byteAt_18 : decode cX4_byteAt 18 = .ok (.if_icmp .ge 12, 3) := by decide +kernel
theorem dX4_byteAt_21 : decode cX4_byteAt 21 = .ok (.aload_n 0, 1) := by decide +kernel
theorem dX4_byteAt_22 : decode cX4_byteAt 22 = .ok (.getfield 9, 3) := by decide +kernel
theorem dX4_byteAt_25 : decode cX4_byteAt 25 = .ok (.iload_n 1, 1) := by decide +kernel
theorem dX4_byteAt_26 : decode cX4_byteAt 26 = .ok (.baload, 1) := by decide +kernel
theorem dX4_byteAt_27 : decode cX4_byteAt 27 = .ok (.goto 4, 3) := by decide +kernel
theorem dX4_byteAt_30 : decode cX4_byteAt 30 = .ok (.iconst (-1), 1) := by decide +kernel
theorem dX4_byteAt_31 : decode cX4_byteAt 31 = .ok (.ireturn, 1) := by decide +kernel
set_option maxRecDepth 20000 in
theorem ggX4_readSigns_X6_empty : GoodIn wsX4_readSigns wsX6_empty := goodIn_r _ [5, 6, 7, 22, 23] (by decide +kernel) (by decide +kernel)
set_option maxRecDepth 20000 in
theorem gX4_readSigns_X6_empty : GoodIn wsX4_readSigns (wsV RX4 19 RX6 yX6_empty wsX6_empty) := goodIn_app (goodIn_of _ (by decide +kernel)) ggX4_readSigns_X6_empty
set_option maxRecDepth 20000 in
theorem ggX4_readSigns_X4_byteAt : GoodIn wsX4_readSigns wsX4_byteAt := goodIn_r _ [12, 13, 14, 24, 25] (by decide +kernel) (by decide +kernel)
set_option maxRecDepth 20000 in
theorem gX4_readSigns_X4_byteAt : GoodIn wsX4_readSigns (wsV RX4 24 RX4 yX4_byteAt wsX4_byteAt) := goodIn_app (goodIn_of _ (by decide +kernel)) ggX4_readSigns_X4_byteAt
set_option maxRecDepth 20000 in
theorem ggX4_readSigns_X7_isSign : GoodIn wsX4_readSigns wsX7_isSign := goodIn_r _ [17] (by decide +kernel) (by decide +kernel)
set_option maxRecDepth 20000 in
theorem gX4_readSigns_X7_isSign_n28 : GoodIn wsX4_readSigns (wsX7_isSign) := ggX4_readSigns_X7_isSign
set_option maxRecDepth 20000 in
theorem ggX4_readSigns_X6_append : GoodIn wsX4_readSigns wsX6_append := goodIn_r _ [21, 7, 6, 22, 23] (by decide +kernel) (by decide +kernel)
set_option maxRecDepth 20000 in
theorem gX4_readSigns_X6_append : GoodIn wsX4_readSigns (wsV RX4 32 RX6 yX6_append wsX6_append) := goodIn_app (goodIn_of _ (by decide +kernel)) ggX4_readSigns_X6_append
theorem dX4_readSigns_0 : decode cX4_readSigns 0 = .ok (.aload_n 2, 1) := by decide +kernel
theorem dX4_readSigns_1 : decode cX4_readSigns 1 = .ok (.invokevirtual 19, 3) := by decide +kernel
theorem dX4_readSigns_4 : decode cX4_readSigns 4 = .ok (.iload_n 1, 1) := by decide +kernel
theorem dX4_readSigns_5 : decode cX4_readSigns 5 = .ok (.istore_n 3, 1) := by decide +kernel
theorem dX4_readSigns_6 : decode cX4_readSigns 6 = .ok (.iconst 0, 1) := by decide +kernel
theorem dX4_readSigns_7 : decode cX4_readSigns 7 = .ok (.istore 4, 2) := by decide +kernel
theorem dX4_readSigns_9 : decode cX4_readSigns 9 = .ok (.iload 4, 2) := by decide +kernel
theorem dX4_readSigns_11 : decode cX4_readSigns 11 = .ok (.bipush 24, 2) := by decide +kernel
theorem dX4_readSigns_13 : decode cX4_readSigns 13 = .ok (.if_icmp .ge 32, 3) := by decide +kernel
theorem dX4_readSigns_16 : decode cX4_readSigns 16 = .ok (.aload_n 0, 1) := by decide +kernel
theorem dX4_readSigns_17 : decode cX4_readSigns 17 = .ok (.iload_n 3, 1) := by decide +kernel
theorem dX4_readSigns_18 : decode cX4_readSigns 18 = .ok (.invokevirtual 24, 3) := by decide +kernel
theorem dX4_readSigns_21 : decode cX4_readSigns 21 = .ok (.invokestatic 28, 3) := by decide +kernel
theorem dX4_readSigns_24 : decode cX4_readSigns 24 = .ok (.ifCond .eq 21, 3) := by decide +kernel
theorem dX4_readSigns_27 : decode cX4_readSigns 27 = .ok (.aload_n 2, 1) := by decide +kernel
theorem dX4_readSigns_28 : decode cX4_readSigns 28 = .ok (.aload_n 0, 1) := by decide +kernel
theorem dX4_readSigns_29 : decode cX4_readSigns 29 = .ok (.iload_n 3, 1) := by decide +kernel
theorem dX4_readSigns_30 : decode cX4_readSigns 30 = .ok (.invokevirtual 24, 3) := by decide +kernel
theorem dX4_readSigns_33 : decode cX4_readSigns 33 = .ok (.invokevirtual 32, 3) := by decide +kernel
theorem dX4_readSigns_36 : decode cX4_readSigns 36 = .ok (.iinc 3 1, 3) := by decide +kernel
theorem dX4_readSigns_39 : decode cX4_readSigns 39 = .ok (.iinc 4 1, 3) := by decide +kernel
theorem dX4_readSigns_42 : decode cX4_readSigns 42 = .ok (.goto (-33), 3) := by decide +kernel
theorem dX4_readSigns_45 : decode cX4_readSigns 45 = .ok (.iload_n 3, 1) := by decide +kernel
theorem dX4_readSigns_46 : decode cX4_readSigns 46 = .ok (.ireturn, 1) := by decide +kernel
set_option maxRecDepth 20000 in
theorem ggX4_readWord_X4_readSigns : GoodIn wsX4_readWord wsX4_readSigns := goodIn_r _ [6, 7, 8, 9, 10, 11, 12, 13, 14, 15, 16, 5, 17, 1, 18, 19, 20, 21, 22, 23, 24, 25, 28, 29, 26, 27] (by decide +kernel) (by decide +kernel)
set_option maxRecDepth 20000 in
theorem gX4_readWord_X4_readSigns : GoodIn wsX4_readWord (wsV RX4 36 RX4 yX4_readSigns wsX4_readSigns) := goodIn_app (goodIn_of _ (by decide +kernel)) ggX4_readWord_X4_readSigns
theorem dX4_readWord_0 : decode cX4_readWord 0 = .ok (.aload_n 0, 1) := by decide +kernel
theorem dX4_readWord_1 : decode cX4_readWord 1 = .ok (.iconst 0, 1) := by decide +kernel
theorem dX4_readWord_2 : decode cX4_readWord 2 = .ok (.aload_n 1, 1) := by decide +kernel
theorem dX4_readWord_3 : decode cX4_readWord 3 = .ok (.invokevirtual 36, 3) := by decide +kernel
theorem dX4_readWord_6 : decode cX4_readWord 6 = .ok (.aload_n 0, 1) := by decide +kernel
theorem dX4_readWord_7 : decode cX4_readWord 7 = .ok (.getfield 15, 3) := by decide +kernel
theorem dX4_readWord_10 : decode cX4_readWord 10 = .ok (.if_icmp .ne 14, 3) := by decide +kernel
theorem dX4_readWord_13 : decode cX4_readWord 13 = .ok (.aload_n 0, 1) := by decide +kernel
theorem dX4_readWord_14 : decode cX4_readWord 14 = .ok (.getfield 15, 3) := by decide +kernel
theorem dX4_readWord_17 : decode cX4_readWord 17 = .ok (.ifCond .le 7, 3) := by decide +kernel
theorem dX4_readWord_20 : decode cX4_readWord 20 = .ok (.iconst 1, 1) := by decide +kernel
theorem dX4_readWord_21 : decode cX4_readWord 21 = .ok (.goto 4, 3) := by decide +kernel
theorem dX4_readWord_24 : decode cX4_readWord 24 = .ok (.iconst 0, 1) := by decide +kernel
theorem dX4_readWord_25 : decode cX4_readWord 25 = .ok (.ireturn, 1) := by decide +kernel
set_option maxRecDepth 20000 in
theorem ggX4_fault_X4_byteAt : GoodIn wsX4_fault wsX4_byteAt := goodIn_r _ [6, 1, 7, 11, 12] (by decide +kernel) (by decide +kernel)
set_option maxRecDepth 20000 in
theorem gX4_fault_X4_byteAt : GoodIn wsX4_fault (wsV RX4 24 RX4 yX4_byteAt wsX4_byteAt) := goodIn_app (goodIn_of _ (by decide +kernel)) ggX4_fault_X4_byteAt
set_option maxRecDepth 20000 in
theorem ggX4_fault_X7_isSign : GoodIn wsX4_fault wsX7_isSign := goodIn_r _ [10] (by decide +kernel) (by decide +kernel)
set_option maxRecDepth 20000 in
theorem gX4_fault_X7_isSign_n28 : GoodIn wsX4_fault (wsX7_isSign) := ggX4_fault_X7_isSign
theorem dX4_fault_0 : decode cX4_fault 0 = .ok (.iconst 0, 1) := by decide +kernel
theorem dX4_fault_1 : decode cX4_fault 1 = .ok (.istore_n 1, 1) := by decide +kernel
theorem dX4_fault_2 : decode cX4_fault 2 = .ok (.iconst 0, 1) := by decide +kernel
theorem dX4_fault_3 : decode cX4_fault 3 = .ok (.istore_n 2, 1) := by decide +kernel
theorem dX4_fault_4 : decode cX4_fault 4 = .ok (.iconst 0, 1) := by decide +kernel
theorem dX4_fault_5 : decode cX4_fault 5 = .ok (.istore_n 3, 1) := by decide +kernel
theorem dX4_fault_6 : decode cX4_fault 6 = .ok (.iload_n 3, 1) := by decide +kernel
theorem dX4_fault_7 : decode cX4_fault 7 = .ok (.aload_n 0, 1) := by decide +kernel
theorem dX4_fault_8 : decode cX4_fault 8 = .ok (.getfield 15, 3) := by decide +kernel
theorem dX4_fault_11 : decode cX4_fault 11 = .ok (.if_icmp .ge 81, 3) := by decide +kernel
theorem dX4_fault_14 : decode cX4_fault 14 = .ok (.aload_n 0, 1) := by decide +kernel
theorem dX4_fault_15 : decode cX4_fault 15 = .ok (.iload_n 3, 1) := by decide +kernel
theorem dX4_fault_16 : decode cX4_fault 16 = .ok (.invokevirtual 24, 3) := by decide +kernel
theorem dX4_fault_19 : decode cX4_fault 19 = .ok (.istore 4, 2) := by decide +kernel
theorem dX4_fault_21 : decode cX4_fault 21 = .ok (.iload_n 1, 1) := by decide +kernel
theorem dX4_fault_22 : decode cX4_fault 22 = .ok (.ifCond .ne 26, 3) := by decide +kernel
theorem dX4_fault_25 : decode cX4_fault 25 = .ok (.iload 4, 2) := by decide +kernel
theorem dX4_fault_27 : decode cX4_fault 27 = .ok (.bipush 43, 2) := by decide +kernel
theorem dX4_fault_29 : decode cX4_fault 29 = .ok (.if_icmp .eq 12, 3) := by decide +kernel
theorem dX4_fault_32 : decode cX4_fault 32 = .ok (.iload 4, 2) := by decide +kernel
theorem dX4_fault_34 : decode cX4_fault 34 = .ok (.bipush 45, 2) := by decide +kernel
theorem dX4_fault_36 : decode cX4_fault 36 = .ok (.if_icmp .eq 5, 3) := by decide +kernel
theorem dX4_fault_39 : decode cX4_fault 39 = .ok (.iload_n 3, 1) := by decide +kernel
theorem dX4_fault_40 : decode cX4_fault 40 = .ok (.ireturn, 1) := by decide +kernel
theorem dX4_fault_41 : decode cX4_fault 41 = .ok (.iconst 1, 1) := by decide +kernel
theorem dX4_fault_42 : decode cX4_fault 42 = .ok (.istore_n 1, 1) := by decide +kernel
theorem dX4_fault_43 : decode cX4_fault 43 = .ok (.iconst 0, 1) := by decide +kernel
theorem dX4_fault_44 : decode cX4_fault 44 = .ok (.istore_n 2, 1) := by decide +kernel
theorem dX4_fault_45 : decode cX4_fault 45 = .ok (.goto 41, 3) := by decide +kernel
theorem dX4_fault_48 : decode cX4_fault 48 = .ok (.iload 4, 2) := by decide +kernel
theorem dX4_fault_50 : decode cX4_fault 50 = .ok (.bipush 59, 2) := by decide +kernel
theorem dX4_fault_52 : decode cX4_fault 52 = .ok (.if_icmp .ne 12, 3) := by decide +kernel
theorem dX4_fault_55 : decode cX4_fault 55 = .ok (.iload_n 2, 1) := by decide +kernel
theorem dX4_fault_56 : decode cX4_fault 56 = .ok (.ifCond .le 8, 3) := by decide +kernel
theorem dX4_fault_59 : decode cX4_fault 59 = .ok (.iconst 0, 1) := by decide +kernel
theorem dX4_fault_60 : decode cX4_fault 60 = .ok (.istore_n 1, 1) := by decide +kernel
theorem dX4_fault_61 : decode cX4_fault 61 = .ok (.goto 25, 3) := by decide +kernel
theorem dX4_fault_64 : decode cX4_fault 64 = .ok (.iload 4, 2) := by decide +kernel
theorem dX4_fault_66 : decode cX4_fault 66 = .ok (.invokestatic 28, 3) := by decide +kernel
theorem dX4_fault_69 : decode cX4_fault 69 = .ok (.ifCond .eq 15, 3) := by decide +kernel
theorem dX4_fault_72 : decode cX4_fault 72 = .ok (.iload_n 2, 1) := by decide +kernel
theorem dX4_fault_73 : decode cX4_fault 73 = .ok (.bipush 24, 2) := by decide +kernel
theorem dX4_fault_75 : decode cX4_fault 75 = .ok (.if_icmp .ge 9, 3) := by decide +kernel
theorem dX4_fault_78 : decode cX4_fault 78 = .ok (.iinc 2 1, 3) := by decide +kernel
theorem dX4_fault_81 : decode cX4_fault 81 = .ok (.goto 5, 3) := by decide +kernel
theorem dX4_fault_84 : decode cX4_fault 84 = .ok (.iload_n 3, 1) := by decide +kernel
theorem dX4_fault_85 : decode cX4_fault 85 = .ok (.ireturn, 1) := by decide +kernel
theorem dX4_fault_86 : decode cX4_fault 86 = .ok (.iinc 3 1, 3) := by decide +kernel
theorem dX4_fault_89 : decode cX4_fault 89 = .ok (.goto (-83), 3) := by decide +kernel
theorem dX4_fault_92 : decode cX4_fault 92 = .ok (.iload_n 1, 1) := by decide +kernel
theorem dX4_fault_93 : decode cX4_fault 93 = .ok (.ifCond .ne 10, 3) := by decide +kernel
theorem dX4_fault_96 : decode cX4_fault 96 = .ok (.aload_n 0, 1) := by decide +kernel
theorem dX4_fault_97 : decode cX4_fault 97 = .ok (.getfield 15, 3) := by decide +kernel
theorem dX4_fault_100 : decode cX4_fault 100 = .ok (.ifCond .ne 10, 3) := by decide +kernel
theorem dX4_fault_103 : decode cX4_fault 103 = .ok (.aload_n 0, 1) := by decide +kernel
theorem dX4_fault_104 : decode cX4_fault 104 = .ok (.getfield 15, 3) := by decide +kernel
theorem dX4_fault_107 : decode cX4_fault 107 = .ok (.goto 4, 3) := by decide +kernel
theorem dX4_fault_110 : decode cX4_fault 110 = .ok (.iconst (-1), 1) := by decide +kernel
theorem dX4_fault_111 : decode cX4_fault 111 = .ok (.ireturn, 1) := by decide +kernel
theorem dX5_init_0 : decode cX5_init 0 = .ok (.aload_n 0, 1) := by decide +kernel
theorem dX5_init_1 : decode cX5_init 1 = .ok (.invokespecial 3, 3) := by decide +kernel
theorem dX5_init_4 : decode cX5_init 4 = .ok (.aload_n 0, 1) := by decide +kernel
theorem dX5_init_5 : decode cX5_init 5 = .ok (.bipush 96, 2) := by decide +kernel
theorem dX5_init_7 : decode cX5_init 7 = .ok (.newarray .int, 2) := by decide +kernel
theorem dX5_init_9 : decode cX5_init 9 = .ok (.putfield 9, 3) := by decide +kernel
theorem dX5_init_12 : decode cX5_init 12 = .ok (.return_, 1) := by decide +kernel
theorem dX5_setParting_0 : decode cX5_setParting 0 = .ok (.iload_n 1, 1) := by decide +kernel
theorem dX5_setParting_1 : decode cX5_setParting 1 = .ok (.ifCond .lt 19, 3) := by decide +kernel
theorem dX5_setParting_4 : decode cX5_setParting 4 = .ok (.iload_n 1, 1) := by decide +kernel
theorem dX5_setParting_5 : decode cX5_setParting 5 = .ok (.aload_n 0, 1) := by decide +kernel
theorem dX5_setParting_6 : decode cX5_setParting 6 = .ok (.getfield 9, 3) := by decide +kernel
theorem dX5_setParting_9 : decode cX5_setParting 9 = .ok (.arraylength, 1) := by decide +kernel
theorem dX5_setParting_10 : decode cX5_setParting 10 = .ok (.if_icmp .ge 10, 3) := by decide +kernel
theorem dX5_setParting_13 : decode cX5_setParting 13 = .ok (.aload_n 0, 1) := by decide +kernel
theorem dX5_setParting_14 : decode cX5_setParting 14 = .ok (.getfield 9, 3) := by decide +kernel
theorem dX5_setParting_17 : decode cX5_setParting 17 = .ok (.iload_n 1, 1) := by decide +kernel
theorem dX5_setParting_18 : decode cX5_setParting 18 = .ok (.iload_n 2, 1) := by decide +kernel
theorem dX5_setParting_19 : decode cX5_setParting 19 = .ok (.iastore, 1) := by decide +kernel
theorem dX5_setParting_20 : decode cX5_setParting 20 = .ok (.return_, 1) := by decide +kernel
set_option maxRecDepth 20000 in
theorem ggX5_open_X5_findFork : GoodIn wsX5_open wsX5_findFork := goodIn_r _ [9, 10, 2, 11, 3, 1, 12, 13, 14, 15, 16, 17, 18, 19] (by decide +kernel) (by decide +kernel)
set_option maxRecDepth 20000 in
theorem gX5_open_X5_findFork : GoodIn wsX5_open (wsV RX5 28 RX5 yX5_findFork wsX5_findFork) := goodIn_app (goodIn_of _ (by decide +kernel)) ggX5_open_X5_findFork
theorem dX5_open_0 : decode cX5_open 0 = .ok (.aload_n 0, 1) := by decide +kernel
theorem dX5_open_1 : decode cX5_open 1 = .ok (.iload_n 1, 1) := by decide +kernel
theorem dX5_open_2 : decode cX5_open 2 = .ok (.putfield 15, 3) := by decide +kernel
theorem dX5_open_5 : decode cX5_open 5 = .ok (.aload_n 0, 1) := by decide +kernel
theorem dX5_open_6 : decode cX5_open 6 = .ok (.iconst 0, 1) := by decide +kernel
theorem dX5_open_7 : decode cX5_open 7 = .ok (.putfield 19, 3) := by decide +kernel
theorem dX5_open_10 : decode cX5_open 10 = .ok (.aload_n 0, 1) := by decide +kernel
theorem dX5_open_11 : decode cX5_open 11 = .ok (.iload_n 2, 1) := by decide +kernel
theorem dX5_open_12 : decode cX5_open 12 = .ok (.iconst 1, 1) := by decide +kernel
theorem dX5_open_13 : decode cX5_open 13 = .ok (.isub, 1) := by decide +kernel
theorem dX5_open_14 : decode cX5_open 14 = .ok (.putfield 22, 3) := by decide +kernel
theorem dX5_open_17 : decode cX5_open 17 = .ok (.aload_n 0, 1) := by decide +kernel
theorem dX5_open_18 : decode cX5_open 18 = .ok (.iconst 0, 1) := by decide +kernel
theorem dX5_open_19 : decode cX5_open 19 = .ok (.putfield 25, 3) := by decide +kernel
theorem dX5_open_22 : decode cX5_open 22 = .ok (.aload_n 0, 1) := by decide +kernel
theorem dX5_open_23 : decode cX5_open 23 = .ok (.invokevirtual 28, 3) := by decide +kernel
theorem dX5_open_26 : decode cX5_open 26 = .ok (.return_, 1) := by decide +kernel
