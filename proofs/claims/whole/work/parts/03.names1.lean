set_option maxRecDepth 20000 in
theorem ggX0_init_X5_init : GoodIn wsX0_init wsX5_init := goodIn_r _ [18, 19, 2, 3] (by decide +kernel) (by decide +kernel)
set_option maxRecDepth 20000 in
theorem gX0_init_X5_init_n40 : GoodIn wsX0_init (wsX5_init) := ggX0_init_X5_init
theorem dX0_init_0 : decode cX0_init 0 = .ok (.aload_n 0, 1) := by decide +kernel
theorem dX0_init_1 : decode cX0_init 1 = .ok (.invokespecial 3, 3) := by decide +kernel
theorem dX0_init_4 : decode cX0_init 4 = .ok (.aload_n 0, 1) := by decide +kernel
theorem dX0_init_5 : decode cX0_init 5 = .ok (.bipush 24, 2) := by decide +kernel
theorem dX0_init_7 : decode cX0_init 7 = .ok (.newarray .int, 2) := by decide +kernel
theorem dX0_init_9 : decode cX0_init 9 = .ok (.putfield 9, 3) := by decide +kernel
theorem dX0_init_12 : decode cX0_init 12 = .ok (.aload_n 0, 1) := by decide +kernel
theorem dX0_init_13 : decode cX0_init 13 = .ok (.bipush 24, 2) := by decide +kernel
theorem dX0_init_15 : decode cX0_init 15 = .ok (.newarray .int, 2) := by decide +kernel
theorem dX0_init_17 : decode cX0_init 17 = .ok (.putfield 15, 3) := by decide +kernel
theorem dX0_init_20 : decode cX0_init 20 = .ok (.aload_n 0, 1) := by decide +kernel
theorem dX0_init_21 : decode cX0_init 21 = .ok (.bipush 24, 2) := by decide +kernel
theorem dX0_init_23 : decode cX0_init 23 = .ok (.newarray .int, 2) := by decide +kernel
theorem dX0_init_25 : decode cX0_init 25 = .ok (.putfield 18, 3) := by decide +kernel
theorem dX0_init_28 : decode cX0_init 28 = .ok (.aload_n 0, 1) := by decide +kernel
theorem dX0_init_29 : decode cX0_init 29 = .ok (.bipush 24, 2) := by decide +kernel
theorem dX0_init_31 : decode cX0_init 31 = .ok (.newarray .long, 2) := by decide +kernel
theorem dX0_init_33 : decode cX0_init 33 = .ok (.putfield 21, 3) := by decide +kernel
theorem dX0_init_36 : decode cX0_init 36 = .ok (.aload_n 0, 1) := by decide +kernel
theorem dX0_init_37 : decode cX0_init 37 = .ok (.bipush 24, 2) := by decide +kernel
theorem dX0_init_39 : decode cX0_init 39 = .ok (.newarray .long, 2) := by decide +kernel
theorem dX0_init_41 : decode cX0_init 41 = .ok (.putfield 25, 3) := by decide +kernel
theorem dX0_init_44 : decode cX0_init 44 = .ok (.aload_n 0, 1) := by decide +kernel
theorem dX0_init_45 : decode cX0_init 45 = .ok (.bipush 24, 2) := by decide +kernel
theorem dX0_init_47 : decode cX0_init 47 = .ok (.anewarray 28, 3) := by decide +kernel
theorem dX0_init_50 : decode cX0_init 50 = .ok (.putfield 30, 3) := by decide +kernel
theorem dX0_init_53 : decode cX0_init 53 = .ok (.aload_n 0, 1) := by decide +kernel
theorem dX0_init_54 : decode cX0_init 54 = .ok (.sipush 12000, 3) := by decide +kernel
theorem dX0_init_57 : decode cX0_init 57 = .ok (.newarray .int, 2) := by decide +kernel
theorem dX0_init_59 : decode cX0_init 59 = .ok (.putfield 34, 3) := by decide +kernel
theorem dX0_init_62 : decode cX0_init 62 = .ok (.aload_n 0, 1) := by decide +kernel
theorem dX0_init_63 : decode cX0_init 63 = .ok (.sipush 500, 3) := by decide +kernel
theorem dX0_init_66 : decode cX0_init 66 = .ok (.anewarray 28, 3) := by decide +kernel
theorem dX0_init_69 : decode cX0_init 69 = .ok (.putfield 37, 3) := by decide +kernel
theorem dX0_init_72 : decode cX0_init 72 = .ok (.iconst 0, 1) := by decide +kernel
theorem dX0_init_73 : decode cX0_init 73 = .ok (.istore_n 1, 1) := by decide +kernel
theorem dX0_init_74 : decode cX0_init 74 = .ok (.iload_n 1, 1) := by decide +kernel
theorem dX0_init_75 : decode cX0_init 75 = .ok (.bipush 24, 2) := by decide +kernel
theorem dX0_init_77 : decode cX0_init 77 = .ok (.if_icmp .ge 22, 3) := by decide +kernel
theorem dX0_init_80 : decode cX0_init 80 = .ok (.aload_n 0, 1) := by decide +kernel
theorem dX0_init_81 : decode cX0_init 81 = .ok (.getfield 30, 3) := by decide +kernel
theorem dX0_init_84 : decode cX0_init 84 = .ok (.iload_n 1, 1) := by decide +kernel
theorem dX0_init_85 : decode cX0_init 85 = .ok (.new 28, 3) := by decide +kernel
theorem dX0_init_88 : decode cX0_init 88 = .ok (.dup, 1) := by decide +kernel
theorem dX0_init_89 : decode cX0_init 89 = .ok (.invokespecial 40, 3) := by decide +kernel
theorem dX0_init_92 : decode cX0_init 92 = .ok (.aastore, 1) := by decide +kernel
theorem dX0_init_93 : decode cX0_init 93 = .ok (.iinc 1 1, 3) := by decide +kernel
theorem dX0_init_96 : decode cX0_init 96 = .ok (.goto (-22), 3) := by decide +kernel
theorem dX0_init_99 : decode cX0_init 99 = .ok (.iconst 0, 1) := by decide +kernel
theorem dX0_init_100 : decode cX0_init 100 = .ok (.istore_n 1, 1) := by decide +kernel
theorem dX0_init_101 : decode cX0_init 101 = .ok (.iload_n 1, 1) := by decide +kernel
theorem dX0_init_102 : decode cX0_init 102 = .ok (.sipush 500, 3) := by decide +kernel
theorem dX0_init_105 : decode cX0_init 105 = .ok (.if_icmp .ge 22, 3) := by decide +kernel
theorem dX0_init_108 : decode cX0_init 108 = .ok (.aload_n 0, 1) := by decide +kernel
theorem dX0_init_109 : decode cX0_init 109 = .ok (.getfield 37, 3) := by decide +kernel
theorem dX0_init_112 : decode cX0_init 112 = .ok (.iload_n 1, 1) := by decide +kernel
theorem dX0_init_113 : decode cX0_init 113 = .ok (.new 28, 3) := by decide +kernel
theorem dX0_init_116 : decode cX0_init 116 = .ok (.dup, 1) := by decide +kernel
theorem dX0_init_117 : decode cX0_init 117 = .ok (.invokespecial 40, 3) := by decide +kernel
theorem dX0_init_120 : decode cX0_init 120 = .ok (.aastore, 1) := by decide +kernel
theorem dX0_init_121 : decode cX0_init 121 = .ok (.iinc 1 1, 3) := by decide +kernel
theorem dX0_init_124 : decode cX0_init 124 = .ok (.goto (-23), 3) := by decide +kernel
theorem dX0_init_127 : decode cX0_init 127 = .ok (.return_, 1) := by decide +kernel
theorem dX0_stands_0 : decode cX0_stands 0 = .ok (.aload_n 0, 1) := by decide +kernel
theorem dX0_stands_1 : decode cX0_stands 1 = .ok (.getfield 41, 3) := by decide +kernel
theorem dX0_stands_4 : decode cX0_stands 4 = .ok (.ifCond .eq 14, 3) := by decide +kernel
theorem dX0_stands_7 : decode cX0_stands 7 = .ok (.aload_n 0, 1) := by decide +kernel
theorem dX0_stands_8 : decode cX0_stands 8 = .ok (.getfield 45, 3) := by decide +kernel
theorem dX0_stands_11 : decode cX0_stands 11 = .ok (.ifCond .ne 7, 3) := by decide +kernel
theorem dX0_stands_14 : decode cX0_stands 14 = .ok (.iconst 1, 1) := by decide +kernel
theorem dX0_stands_15 : decode cX0_stands 15 = .ok (.goto 4, 3) := by decide +kernel
theorem dX0_stands_18 : decode cX0_stands 18 = .ok (.iconst 0, 1) := by decide +kernel
theorem dX0_stands_19 : decode cX0_stands 19 = .ok (.ireturn, 1) := by decide +kernel
theorem dX0_begin_0 : decode cX0_begin 0 = .ok (.aload_n 0, 1) := by decide +kernel
theorem dX0_begin_1 : decode cX0_begin 1 = .ok (.iconst 1, 1) := by decide +kernel
theorem dX0_begin_2 : decode cX0_begin 2 = .ok (.putfield 41, 3) := by decide +kernel
theorem dX0_begin_5 : decode cX0_begin 5 = .ok (.aload_n 0, 1) := by decide +kernel
theorem dX0_begin_6 : decode cX0_begin 6 = .ok (.iconst 0, 1) := by decide +kernel
theorem dX0_begin_7 : decode cX0_begin 7 = .ok (.putfield 45, 3) := by decide +kernel
theorem dX0_begin_10 : decode cX0_begin 10 = .ok (.aload_n 0, 1) := by decide +kernel
theorem dX0_begin_11 : decode cX0_begin 11 = .ok (.iload_n 1, 1) := by decide +kernel
theorem dX0_begin_12 : decode cX0_begin 12 = .ok (.putfield 48, 3) := by decide +kernel
theorem dX0_begin_15 : decode cX0_begin 15 = .ok (.aload_n 0, 1) := by decide +kernel
theorem dX0_begin_16 : decode cX0_begin 16 = .ok (.iconst 0, 1) := by decide +kernel
theorem dX0_begin_17 : decode cX0_begin 17 = .ok (.putfield 52, 3) := by decide +kernel
theorem dX0_begin_20 : decode cX0_begin 20 = .ok (.aload_n 0, 1) := by decide +kernel
theorem dX0_begin_21 : decode cX0_begin 21 = .ok (.iconst 0, 1) := by decide +kernel
theorem dX0_begin_22 : decode cX0_begin 22 = .ok (.putfield 55, 3) := by decide +kernel
theorem dX0_begin_25 : decode cX0_begin 25 = .ok (.return_, 1) := by decide +kernel
theorem dX0_put_0 : decode cX0_put 0 = .ok (.aload_n 0, 1) := by decide +kernel
theorem dX0_put_1 : decode cX0_put 1 = .ok (.getfield 9, 3) := by decide +kernel
theorem dX0_put_4 : decode cX0_put 4 = .ok (.iload_n 1, 1) := by decide +kernel
theorem dX0_put_5 : decode cX0_put 5 = .ok (.iload_n 2, 1) := by decide +kernel
theorem dX0_put_6 : decode cX0_put 6 = .ok (.iastore, 1) := by decide +kernel
theorem dX0_put_7 : decode cX0_put 7 = .ok (.aload_n 0, 1) := by decide +kernel
theorem dX0_put_8 : decode cX0_put 8 = .ok (.getfield 15, 3) := by decide +kernel
theorem dX0_put_11 : decode cX0_put 11 = .ok (.iload_n 1, 1) := by decide +kernel
theorem dX0_put_12 : decode cX0_put 12 = .ok (.iload_n 3, 1) := by decide +kernel
theorem dX0_put_13 : decode cX0_put 13 = .ok (.iastore, 1) := by decide +kernel
theorem dX0_put_14 : decode cX0_put 14 = .ok (.return_, 1) := by decide +kernel
set_option maxRecDepth 20000 in
theorem ggX0_seek_X5_span : GoodIn wsX0_seek wsX5_span := goodIn_r _ [13, 14, 15, 16, 17, 95, 96, 97, 98] (by decide +kernel) (by decide +kernel)
set_option maxRecDepth 20000 in
theorem gX0_seek_X5_span : GoodIn wsX0_seek (wsV RX0 58 RX5 yX5_span wsX5_span) := goodIn_app (goodIn_of _ (by decide +kernel)) ggX0_seek_X5_span
set_option maxRecDepth 20000 in
theorem ggX0_seek_X0_open : GoodIn wsX0_seek wsX0_open := goodIn_r _ [22, 23, 24, 5, 1, 2, 25, 26, 27, 28, 6, 29, 30, 31, 21, 32, 33, 34, 35, 36, 37, 38, 39, 40, 12, 41, 17, 16, 42, 43, 44, 45, 46, 47, 48, 49, 50, 51, 52, 53, 54, 15, 14, 55, 56, 57, 82, 83, 84, 85, 86, 87, 88, 89, 90, 91, 92, 93, 94, 95, 96, 97, 98] (by decide +kernel) (by decide +kernel)
set_option maxRecDepth 20000 in
theorem gX0_seek_X0_open : GoodIn wsX0_seek (wsV RX0 62 RX0 yX0_open wsX0_open) := goodIn_app (goodIn_of _ (by decide +kernel)) ggX0_seek_X0_open
set_option maxRecDepth 20000 in
theorem ggX0_seek_X0_tryNext : GoodIn wsX0_seek wsX0_tryNext := goodIn_r _ [61, 62, 4, 1, 5, 2, 23, 24, 29, 30, 31, 21, 32, 33, 34, 35, 36, 37, 63, 64, 65, 12, 66, 15, 14, 17, 16, 67, 68, 69, 70, 82, 83, 84, 85, 86, 87, 88, 89, 90, 91, 92, 93, 94, 95, 96, 97, 98] (by decide +kernel) (by decide +kernel)
set_option maxRecDepth 20000 in
theorem gX0_seek_X0_tryNext : GoodIn wsX0_seek (wsV RX0 67 RX0 yX0_tryNext wsX0_tryNext) := goodIn_app (goodIn_of _ (by decide +kernel)) ggX0_seek_X0_tryNext
set_option maxRecDepth 20000 in
theorem ggX0_seek_X0_keep : GoodIn wsX0_seek wsX0_keep := goodIn_r _ [74, 8, 4, 1, 75, 7, 76, 77, 78, 79, 80, 2, 81, 68, 69, 12, 70, 14, 15, 16, 17, 82, 83, 84, 85, 86, 87, 88, 89, 90, 91, 92, 93, 94, 95, 96, 97, 98] (by decide +kernel) (by decide +kernel)
set_option maxRecDepth 20000 in
theorem gX0_seek_X0_keep : GoodIn wsX0_seek (wsV RX0 71 RX0 yX0_keep wsX0_keep) := goodIn_app (goodIn_of _ (by decide +kernel)) ggX0_seek_X0_keep
theorem dX0_seek_0 : decode cX0_seek 0 = .ok (.aload_n 0, 1) := by decide +kernel
theorem dX0_seek_1 : decode cX0_seek 1 = .ok (.getfield 18, 3) := by decide +kernel
theorem dX0_seek_4 : decode cX0_seek 4 = .ok (.iconst 0, 1) := by decide +kernel
theorem dX0_seek_5 : decode cX0_seek 5 = .ok (.iconst 0, 1) := by decide +kernel
theorem dX0_seek_6 : decode cX0_seek 6 = .ok (.iastore, 1) := by decide +kernel
theorem dX0_seek_7 : decode cX0_seek 7 = .ok (.aload_n 0, 1) := by decide +kernel
theorem dX0_seek_8 : decode cX0_seek 8 = .ok (.getfield 30, 3) := by decide +kernel
theorem dX0_seek_11 : decode cX0_seek 11 = .ok (.iconst 0, 1) := by decide +kernel
theorem dX0_seek_12 : decode cX0_seek 12 = .ok (.aaload, 1) := by decide +kernel
theorem dX0_seek_13 : decode cX0_seek 13 = .ok (.iload_n 1, 1) := by decide +kernel
theorem dX0_seek_14 : decode cX0_seek 14 = .ok (.iload_n 2, 1) := by decide +kernel
theorem dX0_seek_15 : decode cX0_seek 15 = .ok (.invokevirtual 58, 3) := by decide +kernel
theorem dX0_seek_18 : decode cX0_seek 18 = .ok (.iconst 1, 1) := by decide +kernel
theorem dX0_seek_19 : decode cX0_seek 19 = .ok (.istore_n 3, 1) := by decide +kernel
theorem dX0_seek_20 : decode cX0_seek 20 = .ok (.aload_n 0, 1) := by decide +kernel
theorem dX0_seek_21 : decode cX0_seek 21 = .ok (.iload_n 3, 1) := by decide +kernel
theorem dX0_seek_22 : decode cX0_seek 22 = .ok (.invokevirtual 62, 3) := by decide +kernel
theorem dX0_seek_25 : decode cX0_seek 25 = .ok (.iconst 0, 1) := by decide +kernel
theorem dX0_seek_26 : decode cX0_seek 26 = .ok (.istore 4, 2) := by decide +kernel
theorem dX0_seek_28 : decode cX0_seek 28 = .ok (.iload 4, 2) := by decide +kernel
theorem dX0_seek_30 : decode cX0_seek 30 = .ok (.ldc 66, 2) := by decide +kernel
theorem dX0_seek_32 : decode cX0_seek 32 = .ok (.if_icmp .ge 75, 3) := by decide +kernel
theorem dX0_seek_35 : decode cX0_seek 35 = .ok (.iload_n 3, 1) := by decide +kernel
theorem dX0_seek_36 : decode cX0_seek 36 = .ok (.ifCond .le 71, 3) := by decide +kernel
theorem dX0_seek_39 : decode cX0_seek 39 = .ok (.aload_n 0, 1) := by decide +kernel
theorem dX0_seek_40 : decode cX0_seek 40 = .ok (.getfield 45, 3) := by decide +kernel
theorem dX0_seek_43 : decode cX0_seek 43 = .ok (.ifCond .ne 64, 3) := by decide +kernel
theorem dX0_seek_46 : decode cX0_seek 46 = .ok (.aload_n 0, 1) := by decide +kernel
theorem dX0_seek_47 : decode cX0_seek 47 = .ok (.getfield 21, 3) := by decide +kernel
theorem dX0_seek_50 : decode cX0_seek 50 = .ok (.iload_n 3, 1) := by decide +kernel
theorem dX0_seek_51 : decode cX0_seek 51 = .ok (.laload, 1) := by decide +kernel
theorem dX0_seek_52 : decode cX0_seek 52 = .ok (.aload_n 0, 1) := by decide +kernel
theorem dX0_seek_53 : decode cX0_seek 53 = .ok (.getfield 25, 3) := by decide +kernel
theorem dX0_seek_56 : decode cX0_seek 56 = .ok (.iload_n 3, 1) := by decide +kernel
theorem dX0_seek_57 : decode cX0_seek 57 = .ok (.laload, 1) := by decide +kernel
theorem dX0_seek_58 : decode cX0_seek 58 = .ok (.lcmp, 1) := by decide +kernel
theorem dX0_seek_59 : decode cX0_seek 59 = .ok (.ifCond .le 9, 3) := by decide +kernel
theorem dX0_seek_62 : decode cX0_seek 62 = .ok (.iinc 3 (-1), 3) := by decide +kernel
theorem dX0_seek_65 : decode cX0_seek 65 = .ok (.goto 36, 3) := by decide +kernel
theorem dX0_seek_68 : decode cX0_seek 68 = .ok (.aload_n 0, 1) := by decide +kernel
theorem dX0_seek_69 : decode cX0_seek 69 = .ok (.iload_n 3, 1) := by decide +kernel
theorem dX0_seek_70 : decode cX0_seek 70 = .ok (.invokevirtual 67, 3) := by decide +kernel
theorem dX0_seek_73 : decode cX0_seek 73 = .ok (.ifCond .eq 28, 3) := by decide +kernel
theorem dX0_seek_76 : decode cX0_seek 76 = .ok (.iload_n 3, 1) := by decide +kernel
theorem dX0_seek_77 : decode cX0_seek 77 = .ok (.aload_n 0, 1) := by decide +kernel
theorem dX0_seek_78 : decode cX0_seek 78 = .ok (.getfield 48, 3) := by decide +kernel
theorem dX0_seek_81 : decode cX0_seek 81 = .ok (.iconst 1, 1) := by decide +kernel
theorem dX0_seek_82 : decode cX0_seek 82 = .ok (.isub, 1) := by decide +kernel
theorem dX0_seek_83 : decode cX0_seek 83 = .ok (.if_icmp .ge 14, 3) := by decide +kernel
theorem dX0_seek_86 : decode cX0_seek 86 = .ok (.iinc 3 1, 3) := by decide +kernel
theorem dX0_seek_89 : decode cX0_seek 89 = .ok (.aload_n 0, 1) := by decide +kernel
theorem dX0_seek_90 : decode cX0_seek 90 = .ok (.iload_n 3, 1) := by decide +kernel
theorem dX0_seek_91 : decode cX0_seek 91 = .ok (.invokevirtual 62, 3) := by decide +kernel
theorem dX0_seek_94 : decode cX0_seek 94 = .ok (.goto 7, 3) := by decide +kernel
theorem dX0_seek_97 : decode cX0_seek 97 = .ok (.aload_n 0, 1) := by decide +kernel
theorem dX0_seek_98 : decode cX0_seek 98 = .ok (.invokevirtual 71, 3) := by decide +kernel
theorem dX0_seek_101 : decode cX0_seek 101 = .ok (.iinc 4 1, 3) := by decide +kernel
theorem dX0_seek_104 : decode cX0_seek 104 = .ok (.goto (-76), 3) := by decide +kernel
theorem dX0_seek_107 : decode cX0_seek 107 = .ok (.aload_n 0, 1) := by decide +kernel
theorem dX0_seek_108 : decode cX0_seek 108 = .ok (.getfield 45, 3) := by decide +kernel
theorem dX0_seek_111 : decode cX0_seek 111 = .ok (.ifCond .eq 11, 3) := by decide +kernel
theorem dX0_seek_114 : decode cX0_seek 114 = .ok (.aload_n 0, 1) := by decide +kernel
theorem dX0_seek_115 : decode cX0_seek 115 = .ok (.iconst 0, 1) := by decide +kernel
theorem dX0_seek_116 : decode cX0_seek 116 = .ok (.putfield 52, 3) := by decide +kernel
theorem dX0_seek_119 : decode cX0_seek 119 = .ok (.bipush (-5), 2) := by decide +kernel
theorem dX0_seek_121 : decode cX0_seek 121 = .ok (.ireturn, 1) := by decide +kernel
theorem dX0_seek_122 : decode cX0_seek 122 = .ok (.aload_n 0, 1) := by decide +kernel
theorem dX0_seek_123 : decode cX0_seek 123 = .ok (.getfield 52, 3) := by decide +kernel
theorem dX0_seek_126 : decode cX0_seek 126 = .ok (.ireturn, 1) := by decide +kernel
set_option maxRecDepth 20000 in
theorem ggX0_open_X0_lowest : GoodIn wsX0_open wsX0_lowest := goodIn_r _ [15, 16, 1, 2, 46, 47, 48, 49, 50, 51, 52, 53, 54, 55, 56, 57, 58] (by decide +kernel) (by decide +kernel)
set_option maxRecDepth 20000 in
theorem gX0_open_X0_lowest : GoodIn wsX0_open (wsV RX0 74 RX0 yX0_lowest wsX0_lowest) := goodIn_app (goodIn_of _ (by decide +kernel)) ggX0_open_X0_lowest
set_option maxRecDepth 20000 in
theorem ggX0_open_X0_highest : GoodIn wsX0_open wsX0_highest := goodIn_r _ [20, 16, 1, 2, 46, 47, 48, 49, 50, 51, 52, 53, 54, 55, 56, 57, 58] (by decide +kernel) (by decide +kernel)
set_option maxRecDepth 20000 in
theorem gX0_open_X0_highest : GoodIn wsX0_open (wsV RX0 78 RX0 yX0_highest wsX0_highest) := goodIn_app (goodIn_of _ (by decide +kernel)) ggX0_open_X0_highest
set_option maxRecDepth 20000 in
theorem ggX0_open_X5_leastCount : GoodIn wsX0_open wsX5_leastCount := goodIn_r _ [25, 26, 27, 28, 29, 30, 31, 32, 7, 8, 9, 33, 34, 35, 36, 59, 60, 61, 62] (by decide +kernel) (by decide +kernel)
set_option maxRecDepth 20000 in
theorem gX0_open_X5_leastCount : GoodIn wsX0_open (wsV RX0 81 RX5 yX5_leastCount wsX5_leastCount) := goodIn_app (goodIn_of _ (by decide +kernel)) ggX0_open_X5_leastCount
set_option maxRecDepth 20000 in
theorem ggX0_open_X5_greatestCount : GoodIn wsX0_open wsX5_greatestCount := goodIn_r _ [40, 41, 42, 43, 44, 30, 45, 32, 7, 8, 9, 33, 34, 35, 36, 59, 60, 61, 62] (by decide +kernel) (by decide +kernel)
set_option maxRecDepth 20000 in
theorem gX0_open_X5_greatestCount : GoodIn wsX0_open (wsV RX0 91 RX5 yX5_greatestCount wsX5_greatestCount) := goodIn_app (goodIn_of _ (by decide +kernel)) ggX0_open_X5_greatestCount
theorem dX0_open_0 : decode cX0_open 0 = .ok (.aload_n 0, 1) := by decide +kernel
theorem dX0_open_1 : decode cX0_open 1 = .ok (.aload_n 0, 1) := by decide +kernel
theorem dX0_open_2 : decode cX0_open 2 = .ok (.getfield 9, 3) := by decide +kernel
theorem dX0_open_5 : decode cX0_open 5 = .ok (.iload_n 1, 1) := by decide +kernel
theorem dX0_open_6 : decode cX0_open 6 = .ok (.iaload, 1) := by decide +kernel
theorem dX0_open_7 : decode cX0_open 7 = .ok (.aload_n 0, 1) := by decide +kernel
theorem dX0_open_8 : decode cX0_open 8 = .ok (.getfield 15, 3) := by decide +kernel
theorem dX0_open_11 : decode cX0_open 11 = .ok (.iload_n 1, 1) := by decide +kernel
theorem dX0_open_12 : decode cX0_open 12 = .ok (.iaload, 1) := by decide +kernel
theorem dX0_open_13 : decode cX0_open 13 = .ok (.invokevirtual 74, 3) := by decide +kernel
theorem dX0_open_16 : decode cX0_open 16 = .ok (.lstore_n 2, 1) := by decide +kernel
theorem dX0_open_17 : decode cX0_open 17 = .ok (.aload_n 0, 1) := by decide +kernel
theorem dX0_open_18 : decode cX0_open 18 = .ok (.aload_n 0, 1) := by decide +kernel
theorem dX0_open_19 : decode cX0_open 19 = .ok (.getfield 9, 3) := by decide +kernel
theorem dX0_open_22 : decode cX0_open 22 = .ok (.iload_n 1, 1) := by decide +kernel
theorem dX0_open_23 : decode cX0_open 23 = .ok (.iaload, 1) := by decide +kernel
theorem dX0_open_24 : decode cX0_open 24 = .ok (.aload_n 0, 1) := by decide +kernel
theorem dX0_open_25 : decode cX0_open 25 = .ok (.getfield 15, 3) := by decide +kernel
theorem dX0_open_28 : decode cX0_open 28 = .ok (.iload_n 1, 1) := by decide +kernel
theorem dX0_open_29 : decode cX0_open 29 = .ok (.iaload, 1) := by decide +kernel
theorem dX0_open_30 : decode cX0_open 30 = .ok (.invokevirtual 78, 3) := by decide +kernel
theorem dX0_open_33 : decode cX0_open 33 = .ok (.lstore 4, 2) := by decide +kernel
theorem dX0_open_35 : decode cX0_open 35 = .ok (.aload_n 0, 1) := by decide +kernel
theorem dX0_open_36 : decode cX0_open 36 = .ok (.getfield 21, 3) := by decide +kernel
theorem dX0_open_39 : decode cX0_open 39 = .ok (.iload_n 1, 1) := by decide +kernel
theorem dX0_open_40 : decode cX0_open 40 = .ok (.aload_n 0, 1) := by decide +kernel
theorem dX0_open_41 : decode cX0_open 41 = .ok (.getfield 18, 3) := by decide +kernel
theorem dX0_open_44 : decode cX0_open 44 = .ok (.iload_n 1, 1) := by decide +kernel
theorem dX0_open_45 : decode cX0_open 45 = .ok (.iconst 1, 1) := by decide +kernel
theorem dX0_open_46 : decode cX0_open 46 = .ok (.isub, 1) := by decide +kernel
theorem dX0_open_47 : decode cX0_open 47 = .ok (.iaload, 1) := by decide +kernel
theorem dX0_open_48 : decode cX0_open 48 = .ok (.i2l, 1) := by decide +kernel
theorem dX0_open_49 : decode cX0_open 49 = .ok (.lconst 1, 1) := by decide +kernel
theorem dX0_open_50 : decode cX0_open 50 = .ok (.ladd, 1) := by decide +kernel
theorem dX0_open_51 : decode cX0_open 51 = .ok (.aload_n 0, 1) := by decide +kernel
theorem dX0_open_52 : decode cX0_open 52 = .ok (.getfield 30, 3) := by decide +kernel
theorem dX0_open_55 : decode cX0_open 55 = .ok (.iload_n 1, 1) := by decide +kernel
theorem dX0_open_56 : decode cX0_open 56 = .ok (.iconst 1, 1) := by decide +kernel
theorem dX0_open_57 : decode cX0_open 57 = .ok (.isub, 1) := by decide +kernel
theorem dX0_open_58 : decode cX0_open 58 = .ok (.aaload, 1) := by decide +kernel
theorem dX0_open_59 : decode cX0_open 59 = .ok (.lload_n 2, 1) := by decide +kernel
theorem dX0_open_60 : decode cX0_open 60 = .ok (.invokevirtual 81, 3) := by decide +kernel
theorem dX0_open_63 : decode cX0_open 63 = .ok (.invokestatic 85, 3) := by decide +kernel
theorem dX0_open_66 : decode cX0_open 66 = .ok (.lastore, 1) := by decide +kernel
theorem dX0_open_67 : decode cX0_open 67 = .ok (.aload_n 0, 1) := by decide +kernel
theorem dX0_open_68 : decode cX0_open 68 = .ok (.getfield 25, 3) := by decide +kernel
theorem dX0_open_71 : decode cX0_open 71 = .ok (.iload_n 1, 1) := by decide +kernel
theorem dX0_open_72 : decode cX0_open 72 = .ok (.aload_n 0, 1) := by decide +kernel
theorem dX0_open_73 : decode cX0_open 73 = .ok (.getfield 30, 3) := by decide +kernel
theorem dX0_open_76 : decode cX0_open 76 = .ok (.iload_n 1, 1) := by decide +kernel
theorem dX0_open_77 : decode cX0_open 77 = .ok (.iconst 1, 1) := by decide +kernel
theorem dX0_open_78 : decode cX0_open 78 = .ok (.isub, 1) := by decide +kernel
theorem dX0_open_79 : decode cX0_open 79 = .ok (.aaload, 1) := by decide +kernel
theorem dX0_open_80 : decode cX0_open 80 = .ok (.lload 4, 2) := by decide +kernel
theorem dX0_open_82 : decode cX0_open 82 = .ok (.invokevirtual 91, 3) := by decide +kernel
theorem dX0_open_85 : decode cX0_open 85 = .ok (.lastore, 1) := by decide +kernel
theorem dX0_open_86 : decode cX0_open 86 = .ok (.return_, 1) := by decide +kernel
set_option maxRecDepth 20000 in
theorem ggX0_tryNext_X0_lowest : GoodIn wsX0_tryNext wsX0_lowest := goodIn_r _ [12, 13, 6, 7, 31, 32, 33, 34, 35, 36, 37, 38, 39, 40, 41, 42, 43] (by decide +kernel) (by decide +kernel)
set_option maxRecDepth 20000 in
theorem gX0_tryNext_X0_lowest : GoodIn wsX0_tryNext (wsV RX0 74 RX0 yX0_lowest wsX0_lowest) := goodIn_app (goodIn_of _ (by decide +kernel)) ggX0_tryNext_X0_lowest
set_option maxRecDepth 20000 in
theorem ggX0_tryNext_X0_highest : GoodIn wsX0_tryNext wsX0_highest := goodIn_r _ [17, 13, 6, 7, 31, 32, 33, 34, 35, 36, 37, 38, 39, 40, 41, 42, 43] (by decide +kernel) (by decide +kernel)
set_option maxRecDepth 20000 in
theorem gX0_tryNext_X0_highest : GoodIn wsX0_tryNext (wsV RX0 78 RX0 yX0_highest wsX0_highest) := goodIn_app (goodIn_of _ (by decide +kernel)) ggX0_tryNext_X0_highest
set_option maxRecDepth 20000 in
theorem ggX0_tryNext_X5_narrow : GoodIn wsX0_tryNext wsX5_narrow := goodIn_r _ [22, 23, 24, 25, 26, 27, 28, 29, 21, 30, 44, 45, 46, 47] (by decide +kernel) (by decide +kernel)
set_option maxRecDepth 20000 in
theorem gX0_tryNext_X5_narrow : GoodIn wsX0_tryNext (wsV RX0 94 RX5 yX5_narrow wsX5_narrow) := goodIn_app (goodIn_of _ (by decide +kernel)) ggX0_tryNext_X5_narrow
theorem dX0_tryNext_0 : decode cX0_tryNext 0 = .ok (.aload_n 0, 1) := by decide +kernel
theorem dX0_tryNext_1 : decode cX0_tryNext 1 = .ok (.dup, 1) := by decide +kernel
theorem dX0_tryNext_2 : decode cX0_tryNext 2 = .ok (.getfield 55, 3) := by decide +kernel
theorem dX0_tryNext_5 : decode cX0_tryNext 5 = .ok (.iconst 1, 1) := by decide +kernel
theorem dX0_tryNext_6 : decode cX0_tryNext 6 = .ok (.iadd, 1) := by decide +kernel
theorem dX0_tryNext_7 : decode cX0_tryNext 7 = .ok (.putfield 55, 3) := by decide +kernel
theorem dX0_tryNext_10 : decode cX0_tryNext 10 = .ok (.aload_n 0, 1) := by decide +kernel
theorem dX0_tryNext_11 : decode cX0_tryNext 11 = .ok (.getfield 55, 3) := by decide +kernel
theorem dX0_tryNext_14 : decode cX0_tryNext 14 = .ok (.sipush 20000, 3) := by decide +kernel
theorem dX0_tryNext_17 : decode cX0_tryNext 17 = .ok (.if_icmp .le 10, 3) := by decide +kernel
theorem dX0_tryNext_20 : decode cX0_tryNext 20 = .ok (.aload_n 0, 1) := by decide +kernel
theorem dX0_tryNext_21 : decode cX0_tryNext 21 = .ok (.iconst 1, 1) := by decide +kernel
theorem dX0_tryNext_22 : decode cX0_tryNext 22 = .ok (.putfield 45, 3) := by decide +kernel
theorem dX0_tryNext_25 : decode cX0_tryNext 25 = .ok (.iconst 0, 1) := by decide +kernel
theorem dX0_tryNext_26 : decode cX0_tryNext 26 = .ok (.ireturn, 1) := by decide +kernel
theorem dX0_tryNext_27 : decode cX0_tryNext 27 = .ok (.aload_n 0, 1) := by decide +kernel
theorem dX0_tryNext_28 : decode cX0_tryNext 28 = .ok (.getfield 18, 3) := by decide +kernel
theorem dX0_tryNext_31 : decode cX0_tryNext 31 = .ok (.iload_n 1, 1) := by decide +kernel
theorem dX0_tryNext_32 : decode cX0_tryNext 32 = .ok (.aload_n 0, 1) := by decide +kernel
theorem dX0_tryNext_33 : decode cX0_tryNext 33 = .ok (.getfield 21, 3) := by decide +kernel
theorem dX0_tryNext_36 : decode cX0_tryNext 36 = .ok (.iload_n 1, 1) := by decide +kernel
theorem dX0_tryNext_37 : decode cX0_tryNext 37 = .ok (.laload, 1) := by decide +kernel
theorem dX0_tryNext_38 : decode cX0_tryNext 38 = .ok (.l2i, 1) := by decide +kernel
theorem dX0_tryNext_39 : decode cX0_tryNext 39 = .ok (.iastore, 1) := by decide +kernel
theorem dX0_tryNext_40 : decode cX0_tryNext 40 = .ok (.aload_n 0, 1) := by decide +kernel
theorem dX0_tryNext_41 : decode cX0_tryNext 41 = .ok (.getfield 21, 3) := by decide +kernel
theorem dX0_tryNext_44 : decode cX0_tryNext 44 = .ok (.iload_n 1, 1) := by decide +kernel
theorem dX0_tryNext_45 : decode cX0_tryNext 45 = .ok (.dup2, 1) := by decide +kernel
theorem dX0_tryNext_46 : decode cX0_tryNext 46 = .ok (.laload, 1) := by decide +kernel
theorem dX0_tryNext_47 : decode cX0_tryNext 47 = .ok (.lconst 1, 1) := by decide +kernel
theorem dX0_tryNext_48 : decode cX0_tryNext 48 = .ok (.ladd, 1) := by decide +kernel
theorem dX0_tryNext_49 : decode cX0_tryNext 49 = .ok (.lastore, 1) := by decide +kernel
theorem dX0_tryNext_50 : decode cX0_tryNext 50 = .ok (.aload_n 0, 1) := by decide +kernel
theorem dX0_tryNext_51 : decode cX0_tryNext 51 = .ok (.getfield 30, 3) := by decide +kernel
theorem dX0_tryNext_54 : decode cX0_tryNext 54 = .ok (.iload_n 1, 1) := by decide +kernel
theorem dX0_tryNext_55 : decode cX0_tryNext 55 = .ok (.aaload, 1) := by decide +kernel
theorem dX0_tryNext_56 : decode cX0_tryNext 56 = .ok (.aload_n 0, 1) := by decide +kernel
theorem dX0_tryNext_57 : decode cX0_tryNext 57 = .ok (.getfield 30, 3) := by decide +kernel
theorem dX0_tryNext_60 : decode cX0_tryNext 60 = .ok (.iload_n 1, 1) := by decide +kernel
theorem dX0_tryNext_61 : decode cX0_tryNext 61 = .ok (.iconst 1, 1) := by decide +kernel
theorem dX0_tryNext_62 : decode cX0_tryNext 62 = .ok (.isub, 1) := by decide +kernel
theorem dX0_tryNext_63 : decode cX0_tryNext 63 = .ok (.aaload, 1) := by decide +kernel
theorem dX0_tryNext_64 : decode cX0_tryNext 64 = .ok (.aload_n 0, 1) := by decide +kernel
theorem dX0_tryNext_65 : decode cX0_tryNext 65 = .ok (.aload_n 0, 1) := by decide +kernel
theorem dX0_tryNext_66 : decode cX0_tryNext 66 = .ok (.getfield 9, 3) := by decide +kernel
theorem dX0_tryNext_69 : decode cX0_tryNext 69 = .ok (.iload_n 1, 1) := by decide +kernel
theorem dX0_tryNext_70 : decode cX0_tryNext 70 = .ok (.iaload, 1) := by decide +kernel
theorem dX0_tryNext_71 : decode cX0_tryNext 71 = .ok (.aload_n 0, 1) := by decide +kernel
theorem dX0_tryNext_72 : decode cX0_tryNext 72 = .ok (.getfield 15, 3) := by decide +kernel
theorem dX0_tryNext_75 : decode cX0_tryNext 75 = .ok (.iload_n 1, 1) := by decide +kernel
theorem dX0_tryNext_76 : decode cX0_tryNext 76 = .ok (.iaload, 1) := by decide +kernel
theorem dX0_tryNext_77 : decode cX0_tryNext 77 = .ok (.invokevirtual 74, 3) := by decide +kernel
theorem dX0_tryNext_80 : decode cX0_tryNext 80 = .ok (.aload_n 0, 1) := by decide +kernel
theorem dX0_tryNext_81 : decode cX0_tryNext 81 = .ok (.aload_n 0, 1) := by decide +kernel
theorem dX0_tryNext_82 : decode cX0_tryNext 82 = .ok (.getfield 9, 3) := by decide +kernel
theorem dX0_tryNext_85 : decode cX0_tryNext 85 = .ok (.iload_n 1, 1) := by decide +kernel
theorem dX0_tryNext_86 : decode cX0_tryNext 86 = .ok (.iaload, 1) := by decide +kernel
theorem dX0_tryNext_87 : decode cX0_tryNext 87 = .ok (.aload_n 0, 1) := by decide +kernel
theorem dX0_tryNext_88 : decode cX0_tryNext 88 = .ok (.getfield 15, 3) := by decide +kernel
theorem dX0_tryNext_91 : decode cX0_tryNext 91 = .ok (.iload_n 1, 1) := by decide +kernel
theorem dX0_tryNext_92 : decode cX0_tryNext 92 = .ok (.iaload, 1) := by decide +kernel
theorem dX0_tryNext_93 : decode cX0_tryNext 93 = .ok (.invokevirtual 78, 3) := by decide +kernel
theorem dX0_tryNext_96 : decode cX0_tryNext 96 = .ok (.aload_n 0, 1) := by decide +kernel
theorem dX0_tryNext_97 : decode cX0_tryNext 97 = .ok (.getfield 18, 3) := by decide +kernel
theorem dX0_tryNext_100 : decode cX0_tryNext 100 = .ok (.iload_n 1, 1) := by decide +kernel
theorem dX0_tryNext_101 : decode cX0_tryNext 101 = .ok (.iaload, 1) := by decide +kernel
theorem dX0_tryNext_102 : decode cX0_tryNext 102 = .ok (.i2l, 1) := by decide +kernel
theorem dX0_tryNext_103 : decode cX0_tryNext 103 = .ok (.invokevirtual 94, 3) := by decide +kernel
theorem dX0_tryNext_106 : decode cX0_tryNext 106 = .ok (.iconst 1, 1) := by decide +kernel
theorem dX0_tryNext_107 : decode cX0_tryNext 107 = .ok (.ireturn, 1) := by decide +kernel
set_option maxRecDepth 20000 in
theorem ggX0_keep_X5_copy : GoodIn wsX0_keep wsX5_copy := goodIn_r _ [16, 17, 18, 19, 20, 34, 35, 36, 37] (by decide +kernel) (by decide +kernel)
set_option maxRecDepth 20000 in
theorem gX0_keep_X5_copy : GoodIn wsX0_keep (wsV RX0 104 RX5 yX5_copy wsX5_copy) := goodIn_app (goodIn_of _ (by decide +kernel)) ggX0_keep_X5_copy
theorem dX0_keep_0 : decode cX0_keep 0 = .ok (.aload_n 0, 1) := by decide +kernel
theorem dX0_keep_1 : decode cX0_keep 1 = .ok (.getfield 52, 3) := by decide +kernel
theorem dX0_keep_4 : decode cX0_keep 4 = .ok (.sipush 500, 3) := by decide +kernel
theorem dX0_keep_7 : decode cX0_keep 7 = .ok (.if_icmp .lt 9, 3) := by decide +kernel
theorem dX0_keep_10 : decode cX0_keep 10 = .ok (.aload_n 0, 1) := by decide +kernel
theorem dX0_keep_11 : decode cX0_keep 11 = .ok (.iconst 1, 1) := by decide +kernel
theorem dX0_keep_12 : decode cX0_keep 12 = .ok (.putfield 45, 3) := by decide +kernel
theorem dX0_keep_15 : decode cX0_keep 15 = .ok (.return_, 1) := by decide +kernel
theorem dX0_keep_16 : decode cX0_keep 16 = .ok (.aload_n 0, 1) := by decide +kernel
theorem dX0_keep_17 : decode cX0_keep 17 = .ok (.getfield 18, 3) := by decide +kernel
theorem dX0_keep_20 : decode cX0_keep 20 = .ok (.iconst 0, 1) := by decide +kernel
theorem dX0_keep_21 : decode cX0_keep 21 = .ok (.aload_n 0, 1) := by decide +kernel
theorem dX0_keep_22 : decode cX0_keep 22 = .ok (.getfield 34, 3) := by decide +kernel
theorem dX0_keep_25 : decode cX0_keep 25 = .ok (.aload_n 0, 1) := by decide +kernel
theorem dX0_keep_26 : decode cX0_keep 26 = .ok (.getfield 52, 3) := by decide +kernel
theorem dX0_keep_29 : decode cX0_keep 29 = .ok (.bipush 24, 2) := by decide +kernel
theorem dX0_keep_31 : decode cX0_keep 31 = .ok (.imul, 1) := by decide +kernel
theorem dX0_keep_32 : decode cX0_keep 32 = .ok (.aload_n 0, 1) := by decide +kernel
theorem dX0_keep_33 : decode cX0_keep 33 = .ok (.getfield 48, 3) := by decide +kernel
theorem dX0_keep_36 : decode cX0_keep 36 = .ok (.invokestatic 98, 3) := by decide +kernel
theorem dX0_keep_39 : decode cX0_keep 39 = .ok (.aload_n 0, 1) := by decide +kernel
theorem dX0_keep_40 : decode cX0_keep 40 = .ok (.getfield 37, 3) := by decide +kernel
theorem dX0_keep_43 : decode cX0_keep 43 = .ok (.aload_n 0, 1) := by decide +kernel
theorem dX0_keep_44 : decode cX0_keep 44 = .ok (.getfield 52, 3) := by decide +kernel
theorem dX0_keep_47 : decode cX0_keep 47 = .ok (.aaload, 1) := by decide +kernel
theorem dX0_keep_48 : decode cX0_keep 48 = .ok (.aload_n 0, 1) := by decide +kernel
theorem dX0_keep_49 : decode cX0_keep 49 = .ok (.getfield 30, 3) := by decide +kernel
theorem dX0_keep_52 : decode cX0_keep 52 = .ok (.aload_n 0, 1) := by decide +kernel
theorem dX0_keep_53 : decode cX0_keep 53 = .ok (.getfield 48, 3) := by decide +kernel
theorem dX0_keep_56 : decode cX0_keep 56 = .ok (.iconst 1, 1) := by decide +kernel
theorem dX0_keep_57 : decode cX0_keep 57 = .ok (.isub, 1) := by decide +kernel
theorem dX0_keep_58 : decode cX0_keep 58 = .ok (.aaload, 1) := by decide +kernel
theorem dX0_keep_59 : decode cX0_keep 59 = .ok (.invokevirtual 104, 3) := by decide +kernel
theorem dX0_keep_62 : decode cX0_keep 62 = .ok (.aload_n 0, 1) := by decide +kernel
theorem dX0_keep_63 : decode cX0_keep 63 = .ok (.dup, 1) := by decide +kernel
theorem dX0_keep_64 : decode cX0_keep 64 = .ok (.getfield 52, 3) := by decide +kernel
theorem dX0_keep_67 : decode cX0_keep 67 = .ok (.iconst 1, 1) := by decide +kernel
theorem dX0_keep_68 : decode cX0_keep 68 = .ok (.iadd, 1) := by decide +kernel
theorem dX0_keep_69 : decode cX0_keep 69 = .ok (.putfield 52, 3) := by decide +kernel
theorem dX0_keep_72 : decode cX0_keep 72 = .ok (.return_, 1) := by decide +kernel
theorem dX0_lowest_0 : decode cX0_lowest 0 = .ok (.ldc2_w 108, 3) := by decide +kernel
theorem dX0_lowest_3 : decode cX0_lowest 3 = .ok (.iload_n 1, 1) := by decide +kernel
theorem dX0_lowest_4 : decode cX0_lowest 4 = .ok (.aload_n 0, 1) := by decide +kernel
theorem dX0_lowest_5 : decode cX0_lowest 5 = .ok (.getfield 9, 3) := by decide +kernel
theorem dX0_lowest_8 : decode cX0_lowest 8 = .ok (.iconst 0, 1) := by decide +kernel
theorem dX0_lowest_9 : decode cX0_lowest 9 = .ok (.iaload, 1) := by decide +kernel
theorem dX0_lowest_10 : decode cX0_lowest 10 = .ok (.isub, 1) := by decide +kernel
theorem dX0_lowest_11 : decode cX0_lowest 11 = .ok (.iload_n 2, 1) := by decide +kernel
theorem dX0_lowest_12 : decode cX0_lowest 12 = .ok (.isub, 1) := by decide +kernel
theorem dX0_lowest_13 : decode cX0_lowest 13 = .ok (.aload_n 0, 1) := by decide +kernel
theorem dX0_lowest_14 : decode cX0_lowest 14 = .ok (.getfield 15, 3) := by decide +kernel
theorem dX0_lowest_17 : decode cX0_lowest 17 = .ok (.iconst 0, 1) := by decide +kernel
theorem dX0_lowest_18 : decode cX0_lowest 18 = .ok (.iaload, 1) := by decide +kernel
theorem dX0_lowest_19 : decode cX0_lowest 19 = .ok (.isub, 1) := by decide +kernel
theorem dX0_lowest_20 : decode cX0_lowest 20 = .ok (.i2l, 1) := by decide +kernel
theorem dX0_lowest_21 : decode cX0_lowest 21 = .ok (.lmul, 1) := by decide +kernel
theorem dX0_lowest_22 : decode cX0_lowest 22 = .ok (.lreturn, 1) := by decide +kernel
theorem dX0_highest_0 : decode cX0_highest 0 = .ok (.ldc2_w 108, 3) := by decide +kernel
theorem dX0_highest_3 : decode cX0_highest 3 = .ok (.iload_n 1, 1) := by decide +kernel
theorem dX0_highest_4 : decode cX0_highest 4 = .ok (.aload_n 0, 1) := by decide +kernel
theorem dX0_highest_5 : decode cX0_highest 5 = .ok (.getfield 9, 3) := by decide +kernel
theorem dX0_highest_8 : decode cX0_highest 8 = .ok (.iconst 0, 1) := by decide +kernel
theorem dX0_highest_9 : decode cX0_highest 9 = .ok (.iaload, 1) := by decide +kernel
theorem dX0_highest_10 : decode cX0_highest 10 = .ok (.isub, 1) := by decide +kernel
theorem dX0_highest_11 : decode cX0_highest 11 = .ok (.iload_n 2, 1) := by decide +kernel
theorem dX0_highest_12 : decode cX0_highest 12 = .ok (.iadd, 1) := by decide +kernel
theorem dX0_highest_13 : decode cX0_highest 13 = .ok (.aload_n 0, 1) := by decide +kernel
theorem dX0_highest_14 : decode cX0_highest 14 = .ok (.getfield 15, 3) := by decide +kernel
theorem dX0_highest_17 : decode cX0_highest 17 = .ok (.iconst 0, 1) := by decide +kernel
theorem dX0_highest_18 : decode cX0_highest 18 = .ok (.iaload, 1) := by decide +kernel
theorem dX0_highest_19 : decode cX0_highest 19 = .ok (.iadd, 1) := by decide +kernel
theorem dX0_highest_20 : decode cX0_highest 20 = .ok (.i2l, 1) := by decide +kernel
theorem dX0_highest_21 : decode cX0_highest 21 = .ok (.lmul, 1) := by decide +kernel
theorem dX0_highest_22 : decode cX0_highest 22 = .ok (.lreturn, 1) := by decide +kernel
theorem dX0_countOf_0 : decode cX0_countOf 0 = .ok (.aload_n 0, 1) := by decide +kernel
theorem dX0_countOf_1 : decode cX0_countOf 1 = .ok (.getfield 34, 3) := by decide +kernel
theorem dX0_countOf_4 : decode cX0_countOf 4 = .ok (.iload_n 1, 1) := by decide +kernel
theorem dX0_countOf_5 : decode cX0_countOf 5 = .ok (.bipush 24, 2) := by decide +kernel
theorem dX0_countOf_7 : decode cX0_countOf 7 = .ok (.imul, 1) := by decide +kernel
theorem dX0_countOf_8 : decode cX0_countOf 8 = .ok (.iload_n 2, 1) := by decide +kernel
theorem dX0_countOf_9 : decode cX0_countOf 9 = .ok (.iadd, 1) := by decide +kernel
theorem dX0_countOf_10 : decode cX0_countOf 10 = .ok (.iaload, 1) := by decide +kernel
theorem dX0_countOf_11 : decode cX0_countOf 11 = .ok (.ireturn, 1) := by decide +kernel
set_option maxRecDepth 20000 in
theorem ggX0_oneCount_X0_countOf : GoodIn wsX0_oneCount wsX0_countOf := goodIn_r _ [6, 7, 8, 9, 10, 11, 12, 13, 14, 15, 16, 17, 18, 19, 20] (by decide +kernel) (by decide +kernel)
set_option maxRecDepth 20000 in
theorem gX0_oneCount_X0_countOf : GoodIn wsX0_oneCount (wsV RX0 110 RX0 yX0_countOf wsX0_countOf) := goodIn_app (goodIn_of _ (by decide +kernel)) ggX0_oneCount_X0_countOf
theorem dX0_oneCount_0 : decode cX0_oneCount 0 = .ok (.iconst 1, 1) := by decide +kernel
theorem dX0_oneCount_1 : decode cX0_oneCount 1 = .ok (.istore_n 2, 1) := by decide +kernel
theorem dX0_oneCount_2 : decode cX0_oneCount 2 = .ok (.iload_n 2, 1) := by decide +kernel
theorem dX0_oneCount_3 : decode cX0_oneCount 3 = .ok (.aload_n 0, 1) := by decide +kernel
theorem dX0_oneCount_4 : decode cX0_oneCount 4 = .ok (.getfield 52, 3) := by decide +kernel
theorem dX0_oneCount_7 : decode cX0_oneCount 7 = .ok (.if_icmp .ge 27, 3) := by decide +kernel
theorem dX0_oneCount_10 : decode cX0_oneCount 10 = .ok (.aload_n 0, 1) := by decide +kernel
theorem dX0_oneCount_11 : decode cX0_oneCount 11 = .ok (.iload_n 2, 1) := by decide +kernel
theorem dX0_oneCount_12 : decode cX0_oneCount 12 = .ok (.iload_n 1, 1) := by decide +kernel
theorem dX0_oneCount_13 : decode cX0_oneCount 13 = .ok (.invokevirtual 110, 3) := by decide +kernel
theorem dX0_oneCount_16 : decode cX0_oneCount 16 = .ok (.aload_n 0, 1) := by decide +kernel
theorem dX0_oneCount_17 : decode cX0_oneCount 17 = .ok (.iconst 0, 1) := by decide +kernel
theorem dX0_oneCount_18 : decode cX0_oneCount 18 = .ok (.iload_n 1, 1) := by decide +kernel
theorem dX0_oneCount_19 : decode cX0_oneCount 19 = .ok (.invokevirtual 110, 3) := by decide +kernel
theorem dX0_oneCount_22 : decode cX0_oneCount 22 = .ok (.if_icmp .eq 6, 3) := by decide +kernel
theorem dX0_oneCount_25 : decode cX0_oneCount 25 = .ok (.bipush (-4), 2) := by decide +kernel
theorem dX0_oneCount_27 : decode cX0_oneCount 27 = .ok (.ireturn, 1) := by decide +kernel
theorem dX0_oneCount_28 : decode cX0_oneCount 28 = .ok (.iinc 2 1, 3) := by decide +kernel
theorem dX0_oneCount_31 : decode cX0_oneCount 31 = .ok (.goto (-29), 3) := by decide +kernel
theorem dX0_oneCount_34 : decode cX0_oneCount 34 = .ok (.aload_n 0, 1) := by decide +kernel
theorem dX0_oneCount_35 : decode cX0_oneCount 35 = .ok (.getfield 52, 3) := by decide +kernel
theorem dX0_oneCount_38 : decode cX0_oneCount 38 = .ok (.ifCond .ne 8, 3) := by decide +kernel
theorem dX0_oneCount_41 : decode cX0_oneCount 41 = .ok (.bipush (-4), 2) := by decide +kernel
theorem dX0_oneCount_43 : decode cX0_oneCount 43 = .ok (.goto 9, 3) := by decide +kernel
theorem dX0_oneCount_46 : decode cX0_oneCount 46 = .ok (.aload_n 0, 1) := by decide +kernel
theorem dX0_oneCount_47 : decode cX0_oneCount 47 = .ok (.iconst 0, 1) := by decide +kernel
theorem dX0_oneCount_48 : decode cX0_oneCount 48 = .ok (.iload_n 1, 1) := by decide +kernel
theorem dX0_oneCount_49 : decode cX0_oneCount 49 = .ok (.invokevirtual 110, 3) := by decide +kernel
theorem dX0_oneCount_52 : decode cX0_oneCount 52 = .ok (.ireturn, 1) := by decide +kernel
set_option maxRecDepth 20000 in
theorem ggX0_canLook_X0_stands : GoodIn wsX0_canLook wsX0_stands := goodIn_r _ [7, 8, 9, 10, 11, 12, 13, 14, 15, 16, 17, 18, 19, 20, 21, 22] (by decide +kernel) (by decide +kernel)
set_option maxRecDepth 20000 in
theorem gX0_canLook_X0_stands : GoodIn wsX0_canLook (wsV RX0 114 RX0 yX0_stands wsX0_stands) := goodIn_app (goodIn_of _ (by decide +kernel)) ggX0_canLook_X0_stands
theorem dX0_canLook_0 : decode cX0_canLook 0 = .ok (.aload_n 0, 1) := by decide +kernel
theorem dX0_canLook_1 : decode cX0_canLook 1 = .ok (.invokevirtual 114, 3) := by decide +kernel
theorem dX0_canLook_4 : decode cX0_canLook 4 = .ok (.ifCond .eq 22, 3) := by decide +kernel
theorem dX0_canLook_7 : decode cX0_canLook 7 = .ok (.iload_n 1, 1) := by decide +kernel
theorem dX0_canLook_8 : decode cX0_canLook 8 = .ok (.aload_n 0, 1) := by decide +kernel
theorem dX0_canLook_9 : decode cX0_canLook 9 = .ok (.getfield 9, 3) := by decide +kernel
theorem dX0_canLook_12 : decode cX0_canLook 12 = .ok (.aload_n 0, 1) := by decide +kernel
theorem dX0_canLook_13 : decode cX0_canLook 13 = .ok (.getfield 48, 3) := by decide +kernel
theorem dX0_canLook_16 : decode cX0_canLook 16 = .ok (.iconst 1, 1) := by decide +kernel
theorem dX0_canLook_17 : decode cX0_canLook 17 = .ok (.isub, 1) := by decide +kernel
theorem dX0_canLook_18 : decode cX0_canLook 18 = .ok (.iaload, 1) := by decide +kernel
theorem dX0_canLook_19 : decode cX0_canLook 19 = .ok (.if_icmp .lt 7, 3) := by decide +kernel
theorem dX0_canLook_22 : decode cX0_canLook 22 = .ok (.iconst 1, 1) := by decide +kernel
theorem dX0_canLook_23 : decode cX0_canLook 23 = .ok (.goto 4, 3) := by decide +kernel
theorem dX0_canLook_26 : decode cX0_canLook 26 = .ok (.iconst 0, 1) := by decide +kernel
theorem dX0_canLook_27 : decode cX0_canLook 27 = .ok (.ireturn, 1) := by decide +kernel
set_option maxRecDepth 20000 in
theorem ggX0_goOn_X0_countOf : GoodIn wsX0_goOn wsX0_countOf := goodIn_r _ [12, 13, 50, 51, 52, 53, 54, 55, 56, 57, 58, 59, 60, 61, 62] (by decide +kernel) (by decide +kernel)
set_option maxRecDepth 20000 in
theorem gX0_goOn_X0_countOf : GoodIn wsX0_goOn (wsV RX0 110 RX0 yX0_countOf wsX0_countOf) := goodIn_app (goodIn_of _ (by decide +kernel)) ggX0_goOn_X0_countOf
set_option maxRecDepth 20000 in
theorem ggX0_goOn_X0_lowest : GoodIn wsX0_goOn wsX0_lowest := goodIn_r _ [17, 18, 19, 20, 50, 51, 52, 53, 54, 55, 56, 57, 58, 59, 60, 61, 62] (by decide +kernel) (by decide +kernel)
set_option maxRecDepth 20000 in
theorem gX0_goOn_X0_lowest : GoodIn wsX0_goOn (wsV RX0 74 RX0 yX0_lowest wsX0_lowest) := goodIn_app (goodIn_of _ (by decide +kernel)) ggX0_goOn_X0_lowest
set_option maxRecDepth 20000 in
theorem ggX0_goOn_X5_leastCount : GoodIn wsX0_goOn wsX5_leastCount := goodIn_r _ [25, 26, 27, 28, 29, 30, 31, 32, 5, 6, 7, 33, 34, 35, 36, 63, 64, 65, 66] (by decide +kernel) (by decide +kernel)
set_option maxRecDepth 20000 in
theorem gX0_goOn_X5_leastCount : GoodIn wsX0_goOn (wsV RX0 81 RX5 yX5_leastCount wsX5_leastCount) := goodIn_app (goodIn_of _ (by decide +kernel)) ggX0_goOn_X5_leastCount
set_option maxRecDepth 20000 in
theorem ggX0_goOn_X0_highest : GoodIn wsX0_goOn wsX0_highest := goodIn_r _ [40, 18, 19, 20, 50, 51, 52, 53, 54, 55, 56, 57, 58, 59, 60, 61, 62] (by decide +kernel) (by decide +kernel)
set_option maxRecDepth 20000 in
theorem gX0_goOn_X0_highest : GoodIn wsX0_goOn (wsV RX0 78 RX0 yX0_highest wsX0_highest) := goodIn_app (goodIn_of _ (by decide +kernel)) ggX0_goOn_X0_highest
set_option maxRecDepth 20000 in
theorem ggX0_goOn_X5_greatestCount : GoodIn wsX0_goOn wsX5_greatestCount := goodIn_r _ [44, 45, 46, 47, 48, 30, 49, 32, 5, 6, 7, 33, 34, 35, 36, 63, 64, 65, 66] (by decide +kernel) (by decide +kernel)
set_option maxRecDepth 20000 in
theorem gX0_goOn_X5_greatestCount : GoodIn wsX0_goOn (wsV RX0 91 RX5 yX5_greatestCount wsX5_greatestCount) := goodIn_app (goodIn_of _ (by decide +kernel)) ggX0_goOn_X5_greatestCount
theorem dX0_goOn_0 : decode cX0_goOn 0 = .ok (.iconst 0, 1) := by decide +kernel
theorem dX0_goOn_1 : decode cX0_goOn 1 = .ok (.istore_n 3, 1) := by decide +kernel
theorem dX0_goOn_2 : decode cX0_goOn 2 = .ok (.iconst 0, 1) := by decide +kernel
theorem dX0_goOn_3 : decode cX0_goOn 3 = .ok (.istore 4, 2) := by decide +kernel
theorem dX0_goOn_5 : decode cX0_goOn 5 = .ok (.iload 4, 2) := by decide +kernel
theorem dX0_goOn_7 : decode cX0_goOn 7 = .ok (.aload_n 0, 1) := by decide +kernel
theorem dX0_goOn_8 : decode cX0_goOn 8 = .ok (.getfield 52, 3) := by decide +kernel
theorem dX0_goOn_11 : decode cX0_goOn 11 = .ok (.if_icmp .ge 70, 3) := by decide +kernel
theorem dX0_goOn_14 : decode cX0_goOn 14 = .ok (.aload_n 0, 1) := by decide +kernel
theorem dX0_goOn_15 : decode cX0_goOn 15 = .ok (.iload 4, 2) := by decide +kernel
theorem dX0_goOn_17 : decode cX0_goOn 17 = .ok (.aload_n 0, 1) := by decide +kernel
theorem dX0_goOn_18 : decode cX0_goOn 18 = .ok (.getfield 48, 3) := by decide +kernel
theorem dX0_goOn_21 : decode cX0_goOn 21 = .ok (.iconst 1, 1) := by decide +kernel
theorem dX0_goOn_22 : decode cX0_goOn 22 = .ok (.isub, 1) := by decide +kernel
theorem dX0_goOn_23 : decode cX0_goOn 23 = .ok (.invokevirtual 110, 3) := by decide +kernel
theorem dX0_goOn_26 : decode cX0_goOn 26 = .ok (.i2l, 1) := by decide +kernel
theorem dX0_goOn_27 : decode cX0_goOn 27 = .ok (.lconst 1, 1) := by decide +kernel
theorem dX0_goOn_28 : decode cX0_goOn 28 = .ok (.ladd, 1) := by decide +kernel
theorem dX0_goOn_29 : decode cX0_goOn 29 = .ok (.aload_n 0, 1) := by decide +kernel
theorem dX0_goOn_30 : decode cX0_goOn 30 = .ok (.getfield 37, 3) := by decide +kernel
theorem dX0_goOn_33 : decode cX0_goOn 33 = .ok (.iload 4, 2) := by decide +kernel
theorem dX0_goOn_35 : decode cX0_goOn 35 = .ok (.aaload, 1) := by decide +kernel
theorem dX0_goOn_36 : decode cX0_goOn 36 = .ok (.aload_n 0, 1) := by decide +kernel
theorem dX0_goOn_37 : decode cX0_goOn 37 = .ok (.iload_n 1, 1) := by decide +kernel
theorem dX0_goOn_38 : decode cX0_goOn 38 = .ok (.iload_n 2, 1) := by decide +kernel
theorem dX0_goOn_39 : decode cX0_goOn 39 = .ok (.invokevirtual 74, 3) := by decide +kernel
theorem dX0_goOn_42 : decode cX0_goOn 42 = .ok (.invokevirtual 81, 3) := by decide +kernel
theorem dX0_goOn_45 : decode cX0_goOn 45 = .ok (.invokestatic 85, 3) := by decide +kernel
theorem dX0_goOn_48 : decode cX0_goOn 48 = .ok (.lstore 5, 2) := by decide +kernel
theorem dX0_goOn_50 : decode cX0_goOn 50 = .ok (.lload 5, 2) := by decide +kernel
theorem dX0_goOn_52 : decode cX0_goOn 52 = .ok (.aload_n 0, 1) := by decide +kernel
theorem dX0_goOn_53 : decode cX0_goOn 53 = .ok (.getfield 37, 3) := by decide +kernel
theorem dX0_goOn_56 : decode cX0_goOn 56 = .ok (.iload 4, 2) := by decide +kernel
theorem dX0_goOn_58 : decode cX0_goOn 58 = .ok (.aaload, 1) := by decide +kernel
theorem dX0_goOn_59 : decode cX0_goOn 59 = .ok (.aload_n 0, 1) := by decide +kernel
theorem dX0_goOn_60 : decode cX0_goOn 60 = .ok (.iload_n 1, 1) := by decide +kernel
theorem dX0_goOn_61 : decode cX0_goOn 61 = .ok (.iload_n 2, 1) := by decide +kernel
theorem dX0_goOn_62 : decode cX0_goOn 62 = .ok (.invokevirtual 78, 3) := by decide +kernel
theorem dX0_goOn_65 : decode cX0_goOn 65 = .ok (.invokevirtual 91, 3) := by decide +kernel
theorem dX0_goOn_68 : decode cX0_goOn 68 = .ok (.lcmp, 1) := by decide +kernel
theorem dX0_goOn_69 : decode cX0_goOn 69 = .ok (.ifCond .gt 6, 3) := by decide +kernel
theorem dX0_goOn_72 : decode cX0_goOn 72 = .ok (.iinc 3 1, 3) := by decide +kernel
theorem dX0_goOn_75 : decode cX0_goOn 75 = .ok (.iinc 4 1, 3) := by decide +kernel
theorem dX0_goOn_78 : decode cX0_goOn 78 = .ok (.goto (-73), 3) := by decide +kernel
theorem dX0_goOn_81 : decode cX0_goOn 81 = .ok (.iload_n 3, 1) := by decide +kernel
theorem dX0_goOn_82 : decode cX0_goOn 82 = .ok (.ireturn, 1) := by decide +kernel
set_option maxRecDepth 20000 in
theorem ggX0_bestLook_X0_goOn : GoodIn wsX0_bestLook wsX0_goOn := goodIn_r _ [5, 6, 7, 8, 9, 10, 11, 12, 13, 14, 15, 4, 16, 17, 18, 19, 20, 21, 22, 23, 24, 25, 26, 27, 28, 29, 30, 31, 32, 33, 34, 35, 36, 37, 38, 39, 40, 41, 42, 43, 44, 45, 46, 47, 48, 49, 50, 51, 52, 53, 54, 55, 56, 57, 58, 59, 60, 61, 62, 63, 64, 65, 66, 67, 68, 69, 70] (by decide +kernel) (by decide +kernel)
set_option maxRecDepth 20000 in
theorem gX0_bestLook_X0_goOn : GoodIn wsX0_bestLook (wsV RX0 118 RX0 yX0_goOn wsX0_goOn) := goodIn_app (goodIn_of _ (by decide +kernel)) ggX0_bestLook_X0_goOn
theorem dX0_bestLook_0 : decode cX0_bestLook 0 = .ok (.bipush (-4), 2) := by decide +kernel
theorem dX0_bestLook_2 : decode cX0_bestLook 2 = .ok (.istore 5, 2) := by decide +kernel
theorem dX0_bestLook_4 : decode cX0_bestLook 4 = .ok (.sipush 501, 3) := by decide +kernel
theorem dX0_bestLook_7 : decode cX0_bestLook 7 = .ok (.istore 6, 2) := by decide +kernel
theorem dX0_bestLook_9 : decode cX0_bestLook 9 = .ok (.iconst 0, 1) := by decide +kernel
theorem dX0_bestLook_10 : decode cX0_bestLook 10 = .ok (.istore 7, 2) := by decide +kernel
theorem dX0_bestLook_12 : decode cX0_bestLook 12 = .ok (.iload 7, 2) := by decide +kernel
theorem dX0_bestLook_14 : decode cX0_bestLook 14 = .ok (.iload_n 3, 1) := by decide +kernel
theorem dX0_bestLook_15 : decode cX0_bestLook 15 = .ok (.if_icmp .ge 47, 3) := by decide +kernel
theorem dX0_bestLook_18 : decode cX0_bestLook 18 = .ok (.aload_n 0, 1) := by decide +kernel
theorem dX0_bestLook_19 : decode cX0_bestLook 19 = .ok (.iload_n 1, 1) := by decide +kernel
theorem dX0_bestLook_20 : decode cX0_bestLook 20 = .ok (.iload 7, 2) := by decide +kernel
theorem dX0_bestLook_22 : decode cX0_bestLook 22 = .ok (.iload_n 2, 1) := by decide +kernel
theorem dX0_bestLook_23 : decode cX0_bestLook 23 = .ok (.imul, 1) := by decide +kernel
theorem dX0_bestLook_24 : decode cX0_bestLook 24 = .ok (.iadd, 1) := by decide +kernel
theorem dX0_bestLook_25 : decode cX0_bestLook 25 = .ok (.iload 4, 2) := by decide +kernel
theorem dX0_bestLook_27 : decode cX0_bestLook 27 = .ok (.invokevirtual 118, 3) := by decide +kernel
theorem dX0_bestLook_30 : decode cX0_bestLook 30 = .ok (.istore 8, 2) := by decide +kernel
theorem dX0_bestLook_32 : decode cX0_bestLook 32 = .ok (.iload 8, 2) := by decide +kernel
theorem dX0_bestLook_34 : decode cX0_bestLook 34 = .ok (.ifCond .le 22, 3) := by decide +kernel
theorem dX0_bestLook_37 : decode cX0_bestLook 37 = .ok (.iload 8, 2) := by decide +kernel
theorem dX0_bestLook_39 : decode cX0_bestLook 39 = .ok (.iload 6, 2) := by decide +kernel
theorem dX0_bestLook_41 : decode cX0_bestLook 41 = .ok (.if_icmp .ge 15, 3) := by decide +kernel
theorem dX0_bestLook_44 : decode cX0_bestLook 44 = .ok (.iload 8, 2) := by decide +kernel
theorem dX0_bestLook_46 : decode cX0_bestLook 46 = .ok (.istore 6, 2) := by decide +kernel
theorem dX0_bestLook_48 : decode cX0_bestLook 48 = .ok (.iload_n 1, 1) := by decide +kernel
theorem dX0_bestLook_49 : decode cX0_bestLook 49 = .ok (.iload 7, 2) := by decide +kernel
theorem dX0_bestLook_51 : decode cX0_bestLook 51 = .ok (.iload_n 2, 1) := by decide +kernel
theorem dX0_bestLook_52 : decode cX0_bestLook 52 = .ok (.imul, 1) := by decide +kernel
theorem dX0_bestLook_53 : decode cX0_bestLook 53 = .ok (.iadd, 1) := by decide +kernel
theorem dX0_bestLook_54 : decode cX0_bestLook 54 = .ok (.istore 5, 2) := by decide +kernel
theorem dX0_bestLook_56 : decode cX0_bestLook 56 = .ok (.iinc 7 1, 3) := by decide +kernel
theorem dX0_bestLook_59 : decode cX0_bestLook 59 = .ok (.goto (-47), 3) := by decide +kernel
theorem dX0_bestLook_62 : decode cX0_bestLook 62 = .ok (.iload 5, 2) := by decide +kernel
theorem dX0_bestLook_64 : decode cX0_bestLook 64 = .ok (.ireturn, 1) := by decide +kernel
set_option maxRecDepth 20000 in
theorem ggX0_fitted_X0_countOf : GoodIn wsX0_fitted wsX0_countOf := goodIn_r _ [7, 8, 26, 27, 28, 29, 30, 31, 32, 33, 34, 35, 36, 37, 38] (by decide +kernel) (by decide +kernel)
set_option maxRecDepth 20000 in
theorem gX0_fitted_X0_countOf : GoodIn wsX0_fitted (wsV RX0 110 RX0 yX0_countOf wsX0_countOf) := goodIn_app (goodIn_of _ (by decide +kernel)) ggX0_fitted_X0_countOf
set_option maxRecDepth 20000 in
theorem ggX0_fitted_X1_commonDivisor : GoodIn wsX0_fitted wsX1_commonDivisor := goodIn_r _ [12, 13, 14, 15, 16, 17, 18, 19] (by decide +kernel) (by decide +kernel)
set_option maxRecDepth 20000 in
theorem gX0_fitted_X1_commonDivisor : GoodIn wsX0_fitted (va_wsS RX0 121 yX1_commonDivisor wsX1_commonDivisor) := goodIn_app (goodIn_of _ (by decide +kernel)) ggX0_fitted_X1_commonDivisor
set_option maxRecDepth 20000 in
theorem ggX0_fitted_X0_outside : GoodIn wsX0_fitted wsX0_outside := goodIn_r _ [23, 1, 2, 24, 14, 15, 16, 25, 3, 4, 5, 6, 7, 8, 26, 27, 28, 29, 30, 31, 32, 33, 34, 35, 36, 37, 38] (by decide +kernel) (by decide +kernel)
set_option maxRecDepth 20000 in
theorem gX0_fitted_X0_outside : GoodIn wsX0_fitted (wsV RX0 126 RX0 yX0_outside wsX0_outside) := goodIn_app (goodIn_of _ (by decide +kernel)) ggX0_fitted_X0_outside
theorem dX0_fitted_0 : decode cX0_fitted 0 = .ok (.lconst 0, 1) := by decide +kernel
theorem dX0_fitted_1 : decode cX0_fitted 1 = .ok (.lstore_n 3, 1) := by decide +kernel
theorem dX0_fitted_2 : decode cX0_fitted 2 = .ok (.lconst 0, 1) := by decide +kernel
theorem dX0_fitted_3 : decode cX0_fitted 3 = .ok (.lstore 5, 2) := by decide +kernel
theorem dX0_fitted_5 : decode cX0_fitted 5 = .ok (.lconst 0, 1) := by decide +kernel
theorem dX0_fitted_6 : decode cX0_fitted 6 = .ok (.lstore 7, 2) := by decide +kernel
theorem dX0_fitted_8 : decode cX0_fitted 8 = .ok (.lconst 0, 1) := by decide +kernel
theorem dX0_fitted_9 : decode cX0_fitted 9 = .ok (.lstore 9, 2) := by decide +kernel
theorem dX0_fitted_11 : decode cX0_fitted 11 = .ok (.iconst 0, 1) := by decide +kernel
theorem dX0_fitted_12 : decode cX0_fitted 12 = .ok (.istore 11, 2) := by decide +kernel
theorem dX0_fitted_14 : decode cX0_fitted 14 = .ok (.iload 11, 2) := by decide +kernel
theorem dX0_fitted_16 : decode cX0_fitted 16 = .ok (.aload_n 0, 1) := by decide +kernel
theorem dX0_fitted_17 : decode cX0_fitted 17 = .ok (.getfield 48, 3) := by decide +kernel
theorem dX0_fitted_20 : decode cX0_fitted 20 = .ok (.if_icmp .ge 63, 3) := by decide +kernel
theorem dX0_fitted_23 : decode cX0_fitted 23 = .ok (.aload_n 0, 1) := by decide +kernel
theorem dX0_fitted_24 : decode cX0_fitted 24 = .ok (.iload_n 1, 1) := by decide +kernel
theorem dX0_fitted_25 : decode cX0_fitted 25 = .ok (.iload 11, 2) := by decide +kernel
theorem dX0_fitted_27 : decode cX0_fitted 27 = .ok (.invokevirtual 110, 3) := by decide +kernel
theorem dX0_fitted_30 : decode cX0_fitted 30 = .ok (.i2l, 1) := by decide +kernel
theorem dX0_fitted_31 : decode cX0_fitted 31 = .ok (.lstore 12, 2) := by decide +kernel
theorem dX0_fitted_33 : decode cX0_fitted 33 = .ok (.lload_n 3, 1) := by decide +kernel
theorem dX0_fitted_34 : decode cX0_fitted 34 = .ok (.lload 12, 2) := by decide +kernel
theorem dX0_fitted_36 : decode cX0_fitted 36 = .ok (.ladd, 1) := by decide +kernel
theorem dX0_fitted_37 : decode cX0_fitted 37 = .ok (.lstore_n 3, 1) := by decide +kernel
theorem dX0_fitted_38 : decode cX0_fitted 38 = .ok (.lload 5, 2) := by decide +kernel
theorem dX0_fitted_40 : decode cX0_fitted 40 = .ok (.aload_n 0, 1) := by decide +kernel
theorem dX0_fitted_41 : decode cX0_fitted 41 = .ok (.getfield 9, 3) := by decide +kernel
theorem dX0_fitted_44 : decode cX0_fitted 44 = .ok (.iload 11, 2) := by decide +kernel
theorem dX0_fitted_46 : decode cX0_fitted 46 = .ok (.iaload, 1) := by decide +kernel
theorem dX0_fitted_47 : decode cX0_fitted 47 = .ok (.i2l, 1) := by decide +kernel
theorem dX0_fitted_48 : decode cX0_fitted 48 = .ok (.ladd, 1) := by decide +kernel
theorem dX0_fitted_49 : decode cX0_fitted 49 = .ok (.lstore 5, 2) := by decide +kernel
theorem dX0_fitted_51 : decode cX0_fitted 51 = .ok (.lload 7, 2) := by decide +kernel
theorem dX0_fitted_53 : decode cX0_fitted 53 = .ok (.lload 12, 2) := by decide +kernel
theorem dX0_fitted_55 : decode cX0_fitted 55 = .ok (.lload 12, 2) := by decide +kernel
theorem dX0_fitted_57 : decode cX0_fitted 57 = .ok (.lmul, 1) := by decide +kernel
theorem dX0_fitted_58 : decode cX0_fitted 58 = .ok (.ladd, 1) := by decide +kernel
theorem dX0_fitted_59 : decode cX0_fitted 59 = .ok (.lstore 7, 2) := by decide +kernel
theorem dX0_fitted_61 : decode cX0_fitted 61 = .ok (.lload 9, 2) := by decide +kernel
theorem dX0_fitted_63 : decode cX0_fitted 63 = .ok (.lload 12, 2) := by decide +kernel
theorem dX0_fitted_65 : decode cX0_fitted 65 = .ok (.aload_n 0, 1) := by decide +kernel
theorem dX0_fitted_66 : decode cX0_fitted 66 = .ok (.getfield 9, 3) := by decide +kernel
theorem dX0_fitted_69 : decode cX0_fitted 69 = .ok (.iload 11, 2) := by decide +kernel
theorem dX0_fitted_71 : decode cX0_fitted 71 = .ok (.iaload, 1) := by decide +kernel
theorem dX0_fitted_72 : decode cX0_fitted 72 = .ok (.i2l, 1) := by decide +kernel
theorem dX0_fitted_73 : decode cX0_fitted 73 = .ok (.lmul, 1) := by decide +kernel
theorem dX0_fitted_74 : decode cX0_fitted 74 = .ok (.ladd, 1) := by decide +kernel
theorem dX0_fitted_75 : decode cX0_fitted 75 = .ok (.lstore 9, 2) := by decide +kernel
theorem dX0_fitted_77 : decode cX0_fitted 77 = .ok (.iinc 11 1, 3) := by decide +kernel
theorem dX0_fitted_80 : decode cX0_fitted 80 = .ok (.goto (-66), 3) := by decide +kernel
theorem dX0_fitted_83 : decode cX0_fitted 83 = .ok (.aload_n 0, 1) := by decide +kernel
theorem dX0_fitted_84 : decode cX0_fitted 84 = .ok (.getfield 48, 3) := by decide +kernel
theorem dX0_fitted_87 : decode cX0_fitted 87 = .ok (.i2l, 1) := by decide +kernel
theorem dX0_fitted_88 : decode cX0_fitted 88 = .ok (.lload 7, 2) := by decide +kernel
theorem dX0_fitted_90 : decode cX0_fitted 90 = .ok (.lmul, 1) := by decide +kernel
theorem dX0_fitted_91 : decode cX0_fitted 91 = .ok (.lload_n 3, 1) := by decide +kernel
theorem dX0_fitted_92 : decode cX0_fitted 92 = .ok (.lload_n 3, 1) := by decide +kernel
theorem dX0_fitted_93 : decode cX0_fitted 93 = .ok (.lmul, 1) := by decide +kernel
theorem dX0_fitted_94 : decode cX0_fitted 94 = .ok (.lsub, 1) := by decide +kernel
theorem dX0_fitted_95 : decode cX0_fitted 95 = .ok (.lstore 11, 2) := by decide +kernel
theorem dX0_fitted_97 : decode cX0_fitted 97 = .ok (.lload 5, 2) := by decide +kernel
theorem dX0_fitted_99 : decode cX0_fitted 99 = .ok (.lload 7, 2) := by decide +kernel
theorem dX0_fitted_101 : decode cX0_fitted 101 = .ok (.lmul, 1) := by decide +kernel
theorem dX0_fitted_102 : decode cX0_fitted 102 = .ok (.lload_n 3, 1) := by decide +kernel
theorem dX0_fitted_103 : decode cX0_fitted 103 = .ok (.lload 9, 2) := by decide +kernel
theorem dX0_fitted_105 : decode cX0_fitted 105 = .ok (.lmul, 1) := by decide +kernel
theorem dX0_fitted_106 : decode cX0_fitted 106 = .ok (.lsub, 1) := by decide +kernel
theorem dX0_fitted_107 : decode cX0_fitted 107 = .ok (.lstore 13, 2) := by decide +kernel
theorem dX0_fitted_109 : decode cX0_fitted 109 = .ok (.aload_n 0, 1) := by decide +kernel
theorem dX0_fitted_110 : decode cX0_fitted 110 = .ok (.getfield 48, 3) := by decide +kernel
theorem dX0_fitted_113 : decode cX0_fitted 113 = .ok (.i2l, 1) := by decide +kernel
theorem dX0_fitted_114 : decode cX0_fitted 114 = .ok (.lload 9, 2) := by decide +kernel
theorem dX0_fitted_116 : decode cX0_fitted 116 = .ok (.lmul, 1) := by decide +kernel
theorem dX0_fitted_117 : decode cX0_fitted 117 = .ok (.lload_n 3, 1) := by decide +kernel
theorem dX0_fitted_118 : decode cX0_fitted 118 = .ok (.lload 5, 2) := by decide +kernel
theorem dX0_fitted_120 : decode cX0_fitted 120 = .ok (.lmul, 1) := by decide +kernel
theorem dX0_fitted_121 : decode cX0_fitted 121 = .ok (.lsub, 1) := by decide +kernel
theorem dX0_fitted_122 : decode cX0_fitted 122 = .ok (.lstore 15, 2) := by decide +kernel
theorem dX0_fitted_124 : decode cX0_fitted 124 = .ok (.iload_n 2, 1) := by decide +kernel
theorem dX0_fitted_125 : decode cX0_fitted 125 = .ok (.tableswitch 75 0 3 #[31, 42, 53, 64], 31) := by decide +kernel
theorem dX0_fitted_156 : decode cX0_fitted 156 = .ok (.lload 13, 2) := by decide +kernel
theorem dX0_fitted_158 : decode cX0_fitted 158 = .ok (.lload 13, 2) := by decide +kernel
theorem dX0_fitted_160 : decode cX0_fitted 160 = .ok (.lload 11, 2) := by decide +kernel
theorem dX0_fitted_162 : decode cX0_fitted 162 = .ok (.invokestatic 121, 3) := by decide +kernel
theorem dX0_fitted_165 : decode cX0_fitted 165 = .ok (.ldiv, 1) := by decide +kernel
theorem dX0_fitted_166 : decode cX0_fitted 166 = .ok (.lreturn, 1) := by decide +kernel
theorem dX0_fitted_167 : decode cX0_fitted 167 = .ok (.lload 11, 2) := by decide +kernel
theorem dX0_fitted_169 : decode cX0_fitted 169 = .ok (.lload 13, 2) := by decide +kernel
theorem dX0_fitted_171 : decode cX0_fitted 171 = .ok (.lload 11, 2) := by decide +kernel
theorem dX0_fitted_173 : decode cX0_fitted 173 = .ok (.invokestatic 121, 3) := by decide +kernel
theorem dX0_fitted_176 : decode cX0_fitted 176 = .ok (.ldiv, 1) := by decide +kernel
theorem dX0_fitted_177 : decode cX0_fitted 177 = .ok (.lreturn, 1) := by decide +kernel
theorem dX0_fitted_178 : decode cX0_fitted 178 = .ok (.lload 15, 2) := by decide +kernel
theorem dX0_fitted_180 : decode cX0_fitted 180 = .ok (.lload 15, 2) := by decide +kernel
theorem dX0_fitted_182 : decode cX0_fitted 182 = .ok (.lload 11, 2) := by decide +kernel
theorem dX0_fitted_184 : decode cX0_fitted 184 = .ok (.invokestatic 121, 3) := by decide +kernel
theorem dX0_fitted_187 : decode cX0_fitted 187 = .ok (.ldiv, 1) := by decide +kernel
theorem dX0_fitted_188 : decode cX0_fitted 188 = .ok (.lreturn, 1) := by decide +kernel
theorem dX0_fitted_189 : decode cX0_fitted 189 = .ok (.lload 11, 2) := by decide +kernel
theorem dX0_fitted_191 : decode cX0_fitted 191 = .ok (.lload 15, 2) := by decide +kernel
theorem dX0_fitted_193 : decode cX0_fitted 193 = .ok (.lload 11, 2) := by decide +kernel
theorem dX0_fitted_195 : decode cX0_fitted 195 = .ok (.invokestatic 121, 3) := by decide +kernel
theorem dX0_fitted_198 : decode cX0_fitted 198 = .ok (.ldiv, 1) := by decide +kernel
theorem dX0_fitted_199 : decode cX0_fitted 199 = .ok (.lreturn, 1) := by decide +kernel
theorem dX0_fitted_200 : decode cX0_fitted 200 = .ok (.aload_n 0, 1) := by decide +kernel
theorem dX0_fitted_201 : decode cX0_fitted 201 = .ok (.iload_n 1, 1) := by decide +kernel
theorem dX0_fitted_202 : decode cX0_fitted 202 = .ok (.lload 13, 2) := by decide +kernel
theorem dX0_fitted_204 : decode cX0_fitted 204 = .ok (.lload 15, 2) := by decide +kernel
theorem dX0_fitted_206 : decode cX0_fitted 206 = .ok (.lload 11, 2) := by decide +kernel
theorem dX0_fitted_208 : decode cX0_fitted 208 = .ok (.invokevirtual 126, 3) := by decide +kernel
theorem dX0_fitted_211 : decode cX0_fitted 211 = .ok (.i2l, 1) := by decide +kernel
theorem dX0_fitted_212 : decode cX0_fitted 212 = .ok (.lreturn, 1) := by decide +kernel
set_option maxRecDepth 20000 in
theorem ggX0_outside_X0_countOf : GoodIn wsX0_outside wsX0_countOf := goodIn_r _ [12, 13, 14, 15, 16, 17, 18, 19, 20, 21, 22, 23, 24, 25, 26] (by decide +kernel) (by decide +kernel)
set_option maxRecDepth 20000 in
theorem gX0_outside_X0_countOf : GoodIn wsX0_outside (wsV RX0 110 RX0 yX0_countOf wsX0_countOf) := goodIn_app (goodIn_of _ (by decide +kernel)) ggX0_outside_X0_countOf
theorem dX0_outside_0 : decode cX0_outside 0 = .ok (.iconst 0, 1) := by decide +kernel
theorem dX0_outside_1 : decode cX0_outside 1 = .ok (.istore 8, 2) := by decide +kernel
theorem dX0_outside_3 : decode cX0_outside 3 = .ok (.iconst 0, 1) := by decide +kernel
theorem dX0_outside_4 : decode cX0_outside 4 = .ok (.istore 9, 2) := by decide +kernel
theorem dX0_outside_6 : decode cX0_outside 6 = .ok (.iload 9, 2) := by decide +kernel
theorem dX0_outside_8 : decode cX0_outside 8 = .ok (.aload_n 0, 1) := by decide +kernel
theorem dX0_outside_9 : decode cX0_outside 9 = .ok (.getfield 48, 3) := by decide +kernel
theorem dX0_outside_12 : decode cX0_outside 12 = .ok (.if_icmp .ge 55, 3) := by decide +kernel
theorem dX0_outside_15 : decode cX0_outside 15 = .ok (.aload_n 0, 1) := by decide +kernel
theorem dX0_outside_16 : decode cX0_outside 16 = .ok (.getfield 9, 3) := by decide +kernel
theorem dX0_outside_19 : decode cX0_outside 19 = .ok (.iload 9, 2) := by decide +kernel
theorem dX0_outside_21 : decode cX0_outside 21 = .ok (.iaload, 1) := by decide +kernel
theorem dX0_outside_22 : decode cX0_outside 22 = .ok (.i2l, 1) := by decide +kernel
theorem dX0_outside_23 : decode cX0_outside 23 = .ok (.lload 6, 2) := by decide +kernel
theorem dX0_outside_25 : decode cX0_outside 25 = .ok (.lmul, 1) := by decide +kernel
theorem dX0_outside_26 : decode cX0_outside 26 = .ok (.lload_n 2, 1) := by decide +kernel
theorem dX0_outside_27 : decode cX0_outside 27 = .ok (.lsub, 1) := by decide +kernel
theorem dX0_outside_28 : decode cX0_outside 28 = .ok (.aload_n 0, 1) := by decide +kernel
theorem dX0_outside_29 : decode cX0_outside 29 = .ok (.iload_n 1, 1) := by decide +kernel
theorem dX0_outside_30 : decode cX0_outside 30 = .ok (.iload 9, 2) := by decide +kernel
theorem dX0_outside_32 : decode cX0_outside 32 = .ok (.invokevirtual 110, 3) := by decide +kernel
theorem dX0_outside_35 : decode cX0_outside 35 = .ok (.i2l, 1) := by decide +kernel
theorem dX0_outside_36 : decode cX0_outside 36 = .ok (.lload 4, 2) := by decide +kernel
theorem dX0_outside_38 : decode cX0_outside 38 = .ok (.lmul, 1) := by decide +kernel
theorem dX0_outside_39 : decode cX0_outside 39 = .ok (.lsub, 1) := by decide +kernel
theorem dX0_outside_40 : decode cX0_outside 40 = .ok (.invokestatic 130, 3) := by decide +kernel
theorem dX0_outside_43 : decode cX0_outside 43 = .ok (.aload_n 0, 1) := by decide +kernel
theorem dX0_outside_44 : decode cX0_outside 44 = .ok (.getfield 15, 3) := by decide +kernel
theorem dX0_outside_47 : decode cX0_outside 47 = .ok (.iload 9, 2) := by decide +kernel
theorem dX0_outside_49 : decode cX0_outside 49 = .ok (.iaload, 1) := by decide +kernel
theorem dX0_outside_50 : decode cX0_outside 50 = .ok (.i2l, 1) := by decide +kernel
theorem dX0_outside_51 : decode cX0_outside 51 = .ok (.lload 6, 2) := by decide +kernel
theorem dX0_outside_53 : decode cX0_outside 53 = .ok (.lmul, 1) := by decide +kernel
theorem dX0_outside_54 : decode cX0_outside 54 = .ok (.lcmp, 1) := by decide +kernel
theorem dX0_outside_55 : decode cX0_outside 55 = .ok (.ifCond .le 6, 3) := by decide +kernel
theorem dX0_outside_58 : decode cX0_outside 58 = .ok (.iinc 8 1, 3) := by decide +kernel
theorem dX0_outside_61 : decode cX0_outside 61 = .ok (.iinc 9 1, 3) := by decide +kernel
theorem dX0_outside_64 : decode cX0_outside 64 = .ok (.goto (-58), 3) := by decide +kernel
theorem dX0_outside_67 : decode cX0_outside 67 = .ok (.iload 8, 2) := by decide +kernel
theorem dX0_outside_69 : decode cX0_outside 69 = .ok (.ireturn, 1) := by decide +kernel
set_option maxRecDepth 20000 in
theorem ggX1_floor_J9_floorDiv_f86c9 : GoodIn wsX1_floor wsJ9_floorDiv_f86c9 := goodIn_r _ [8] (by decide +kernel) (by decide +kernel)
set_option maxRecDepth 20000 in
theorem gX1_floor_J9_floorDiv_f86c9 : GoodIn wsX1_floor (va_wsS RX1 13 yJ9_floorDiv_f86c9 wsJ9_floorDiv_f86c9) := goodIn_app (goodIn_of _ (by decide +kernel)) ggX1_floor_J9_floorDiv_f86c9
theorem dX1_floor_0 : decode cX1_floor 0 = .ok (.lload_n 0, 1) := by decide +kernel
theorem dX1_floor_1 : decode cX1_floor 1 = .ok (.lload_n 2, 1) := by decide +kernel
theorem dX1_floor_2 : decode cX1_floor 2 = .ok (.lconst 1, 1) := by decide +kernel
theorem dX1_floor_3 : decode cX1_floor 3 = .ok (.invokestatic 7, 3) := by decide +kernel
theorem dX1_floor_6 : decode cX1_floor 6 = .ok (.invokestatic 13, 3) := by decide +kernel
theorem dX1_floor_9 : decode cX1_floor 9 = .ok (.lreturn, 1) := by decide +kernel
set_option maxRecDepth 20000 in
theorem ggX1_ceiling_J9_floorDiv_f86c9 : GoodIn wsX1_ceiling wsJ9_floorDiv_f86c9 := goodIn_r _ [8] (by decide +kernel) (by decide +kernel)
set_option maxRecDepth 20000 in
theorem gX1_ceiling_J9_floorDiv_f86c9 : GoodIn wsX1_ceiling (va_wsS RX1 13 yJ9_floorDiv_f86c9 wsJ9_floorDiv_f86c9) := goodIn_app (goodIn_of _ (by decide +kernel)) ggX1_ceiling_J9_floorDiv_f86c9
theorem dX1_ceiling_0 : decode cX1_ceiling 0 = .ok (.lload_n 0, 1) := by decide +kernel
theorem dX1_ceiling_1 : decode cX1_ceiling 1 = .ok (.lneg, 1) := by decide +kernel
theorem dX1_ceiling_2 : decode cX1_ceiling 2 = .ok (.lload_n 2, 1) := by decide +kernel
theorem dX1_ceiling_3 : decode cX1_ceiling 3 = .ok (.lconst 1, 1) := by decide +kernel
theorem dX1_ceiling_4 : decode cX1_ceiling 4 = .ok (.invokestatic 7, 3) := by decide +kernel
theorem dX1_ceiling_7 : decode cX1_ceiling 7 = .ok (.invokestatic 13, 3) := by decide +kernel
theorem dX1_ceiling_10 : decode cX1_ceiling 10 = .ok (.lneg, 1) := by decide +kernel
theorem dX1_ceiling_11 : decode cX1_ceiling 11 = .ok (.lreturn, 1) := by decide +kernel
set_option maxRecDepth 20000 in
theorem ggX1_isAtLeast_X1_floor : GoodIn wsX1_isAtLeast wsX1_floor := goodIn_r _ [4, 5, 6, 7, 8, 9, 10, 11, 12] (by decide +kernel) (by decide +kernel)
set_option maxRecDepth 20000 in
theorem gX1_isAtLeast_X1_floor : GoodIn wsX1_isAtLeast (va_wsS RX1 16 yX1_floor wsX1_floor) := goodIn_app (goodIn_of _ (by decide +kernel)) ggX1_isAtLeast_X1_floor
theorem dX1_isAtLeast_0 : decode cX1_isAtLeast 0 = .ok (.lload_n 0, 1) := by decide +kernel
theorem dX1_isAtLeast_1 : decode cX1_isAtLeast 1 = .ok (.lload_n 2, 1) := by decide +kernel
theorem dX1_isAtLeast_2 : decode cX1_isAtLeast 2 = .ok (.invokestatic 16, 3) := by decide +kernel
theorem dX1_isAtLeast_5 : decode cX1_isAtLeast 5 = .ok (.lstore 8, 2) := by decide +kernel
theorem dX1_isAtLeast_7 : decode cX1_isAtLeast 7 = .ok (.lload 4, 2) := by decide +kernel
theorem dX1_isAtLeast_9 : decode cX1_isAtLeast 9 = .ok (.lload 6, 2) := by decide +kernel
theorem dX1_isAtLeast_11 : decode cX1_isAtLeast 11 = .ok (.invokestatic 16, 3) := by decide +kernel
theorem dX1_isAtLeast_14 : decode cX1_isAtLeast 14 = .ok (.lstore 10, 2) := by decide +kernel
theorem dX1_isAtLeast_16 : decode cX1_isAtLeast 16 = .ok (.lload 8, 2) := by decide +kernel
theorem dX1_isAtLeast_18 : decode cX1_isAtLeast 18 = .ok (.lload 10, 2) := by decide +kernel
theorem dX1_isAtLeast_20 : decode cX1_isAtLeast 20 = .ok (.lcmp, 1) := by decide +kernel
theorem dX1_isAtLeast_21 : decode cX1_isAtLeast 21 = .ok (.ifCond .eq 17, 3) := by decide +kernel
theorem dX1_isAtLeast_24 : decode cX1_isAtLeast 24 = .ok (.lload 8, 2) := by decide +kernel
theorem dX1_isAtLeast_26 : decode cX1_isAtLeast 26 = .ok (.lload 10, 2) := by decide +kernel
theorem dX1_isAtLeast_28 : decode cX1_isAtLeast 28 = .ok (.lcmp, 1) := by decide +kernel
theorem dX1_isAtLeast_29 : decode cX1_isAtLeast 29 = .ok (.ifCond .le 7, 3) := by decide +kernel
theorem dX1_isAtLeast_32 : decode cX1_isAtLeast 32 = .ok (.iconst 1, 1) := by decide +kernel
theorem dX1_isAtLeast_33 : decode cX1_isAtLeast 33 = .ok (.goto 4, 3) := by decide +kernel
theorem dX1_isAtLeast_36 : decode cX1_isAtLeast 36 = .ok (.iconst 0, 1) := by decide +kernel
theorem dX1_isAtLeast_37 : decode cX1_isAtLeast 37 = .ok (.ireturn, 1) := by decide +kernel
theorem dX1_isAtLeast_38 : decode cX1_isAtLeast 38 = .ok (.lload_n 0, 1) := by decide +kernel
theorem dX1_isAtLeast_39 : decode cX1_isAtLeast 39 = .ok (.lload 8, 2) := by decide +kernel
theorem dX1_isAtLeast_41 : decode cX1_isAtLeast 41 = .ok (.lload_n 2, 1) := by decide +kernel
theorem dX1_isAtLeast_42 : decode cX1_isAtLeast 42 = .ok (.lmul, 1) := by decide +kernel
theorem dX1_isAtLeast_43 : decode cX1_isAtLeast 43 = .ok (.lsub, 1) := by decide +kernel
theorem dX1_isAtLeast_44 : decode cX1_isAtLeast 44 = .ok (.lload 6, 2) := by decide +kernel
theorem dX1_isAtLeast_46 : decode cX1_isAtLeast 46 = .ok (.lmul, 1) := by decide +kernel
theorem dX1_isAtLeast_47 : decode cX1_isAtLeast 47 = .ok (.lload 4, 2) := by decide +kernel
theorem dX1_isAtLeast_49 : decode cX1_isAtLeast 49 = .ok (.lload 10, 2) := by decide +kernel
theorem dX1_isAtLeast_51 : decode cX1_isAtLeast 51 = .ok (.lload 6, 2) := by decide +kernel
theorem dX1_isAtLeast_53 : decode cX1_isAtLeast 53 = .ok (.lmul, 1) := by decide +kernel
theorem dX1_isAtLeast_54 : decode cX1_isAtLeast 54 = .ok (.lsub, 1) := by decide +kernel
theorem dX1_isAtLeast_55 : decode cX1_isAtLeast 55 = .ok (.lload_n 2, 1) := by decide +kernel
theorem dX1_isAtLeast_56 : decode cX1_isAtLeast 56 = .ok (.lmul, 1) := by decide +kernel
theorem dX1_isAtLeast_57 : decode cX1_isAtLeast 57 = .ok (.lcmp, 1) := by decide +kernel
theorem dX1_isAtLeast_58 : decode cX1_isAtLeast 58 = .ok (.ifCond .lt 7, 3) := by decide +kernel
theorem dX1_isAtLeast_61 : decode cX1_isAtLeast 61 = .ok (.iconst 1, 1) := by decide +kernel
theorem dX1_isAtLeast_62 : decode cX1_isAtLeast 62 = .ok (.goto 4, 3) := by decide +kernel
theorem dX1_isAtLeast_65 : decode cX1_isAtLeast 65 = .ok (.iconst 0, 1) := by decide +kernel
theorem dX1_isAtLeast_66 : decode cX1_isAtLeast 66 = .ok (.ireturn, 1) := by decide +kernel
theorem dX1_commonDivisor_0 : decode cX1_commonDivisor 0 = .ok (.lload_n 0, 1) := by decide +kernel
theorem dX1_commonDivisor_1 : decode cX1_commonDivisor 1 = .ok (.invokestatic 21, 3) := by decide +kernel
theorem dX1_commonDivisor_4 : decode cX1_commonDivisor 4 = .ok (.lstore 4, 2) := by decide +kernel
theorem dX1_commonDivisor_6 : decode cX1_commonDivisor 6 = .ok (.lload_n 2, 1) := by decide +kernel
theorem dX1_commonDivisor_7 : decode cX1_commonDivisor 7 = .ok (.invokestatic 21, 3) := by decide +kernel
theorem dX1_commonDivisor_10 : decode cX1_commonDivisor 10 = .ok (.lstore 6, 2) := by decide +kernel
theorem dX1_commonDivisor_12 : decode cX1_commonDivisor 12 = .ok (.iconst 0, 1) := by decide +kernel
theorem dX1_commonDivisor_13 : decode cX1_commonDivisor 13 = .ok (.istore 8, 2) := by decide +kernel
theorem dX1_commonDivisor_15 : decode cX1_commonDivisor 15 = .ok (.iload 8, 2) := by decide +kernel
theorem dX1_commonDivisor_17 : decode cX1_commonDivisor 17 = .ok (.sipush 200, 3) := by decide +kernel
theorem dX1_commonDivisor_20 : decode cX1_commonDivisor 20 = .ok (.if_icmp .ge 31, 3) := by decide +kernel
theorem dX1_commonDivisor_23 : decode cX1_commonDivisor 23 = .ok (.lload 6, 2) := by decide +kernel
theorem dX1_commonDivisor_25 : decode cX1_commonDivisor 25 = .ok (.lconst 0, 1) := by decide +kernel
theorem dX1_commonDivisor_26 : decode cX1_commonDivisor 26 = .ok (.lcmp, 1) := by decide +kernel
theorem dX1_commonDivisor_27 : decode cX1_commonDivisor 27 = .ok (.ifCond .eq 24, 3) := by decide +kernel
theorem dX1_commonDivisor_30 : decode cX1_commonDivisor 30 = .ok (.lload 4, 2) := by decide +kernel
theorem dX1_commonDivisor_32 : decode cX1_commonDivisor 32 = .ok (.lload 6, 2) := by decide +kernel
theorem dX1_commonDivisor_34 : decode cX1_commonDivisor 34 = .ok (.lrem, 1) := by decide +kernel
theorem dX1_commonDivisor_35 : decode cX1_commonDivisor 35 = .ok (.lstore 9, 2) := by decide +kernel
theorem dX1_commonDivisor_37 : decode cX1_commonDivisor 37 = .ok (.lload 6, 2) := by decide +kernel
theorem dX1_commonDivisor_39 : decode cX1_commonDivisor 39 = .ok (.lstore 4, 2) := by decide +kernel
theorem dX1_commonDivisor_41 : decode cX1_commonDivisor 41 = .ok (.lload 9, 2) := by decide +kernel
theorem dX1_commonDivisor_43 : decode cX1_commonDivisor 43 = .ok (.lstore 6, 2) := by decide +kernel
theorem dX1_commonDivisor_45 : decode cX1_commonDivisor 45 = .ok (.iinc 8 1, 3) := by decide +kernel
theorem dX1_commonDivisor_48 : decode cX1_commonDivisor 48 = .ok (.goto (-33), 3) := by decide +kernel
theorem dX1_commonDivisor_51 : decode cX1_commonDivisor 51 = .ok (.lload 4, 2) := by decide +kernel
theorem dX1_commonDivisor_53 : decode cX1_commonDivisor 53 = .ok (.lconst 1, 1) := by decide +kernel
theorem dX1_commonDivisor_54 : decode cX1_commonDivisor 54 = .ok (.invokestatic 7, 3) := by decide +kernel
theorem dX1_commonDivisor_57 : decode cX1_commonDivisor 57 = .ok (.lreturn, 1) := by decide +kernel
theorem dX2_init_0 : decode cX2_init 0 = .ok (.aload_n 0, 1) := by decide +kernel
theorem dX2_init_1 : decode cX2_init 1 = .ok (.invokespecial 3, 3) := by decide +kernel
theorem dX2_init_4 : decode cX2_init 4 = .ok (.aload_n 0, 1) := by decide +kernel
theorem dX2_init_5 : decode cX2_init 5 = .ok (.sipush 576, 3) := by decide +kernel
theorem dX2_init_8 : decode cX2_init 8 = .ok (.newarray .int, 2) := by decide +kernel
theorem dX2_init_10 : decode cX2_init 10 = .ok (.putfield 11, 3) := by decide +kernel
theorem dX2_init_13 : decode cX2_init 13 = .ok (.return_, 1) := by decide +kernel
theorem dX2_empty_0 : decode cX2_empty 0 = .ok (.aload_n 0, 1) := by decide +kernel
theorem dX2_empty_1 : decode cX2_empty 1 = .ok (.iconst 0, 1) := by decide +kernel
theorem dX2_empty_2 : decode cX2_empty 2 = .ok (.putfield 15, 3) := by decide +kernel
theorem dX2_empty_5 : decode cX2_empty 5 = .ok (.return_, 1) := by decide +kernel
theorem dX2_put_0 : decode cX2_put 0 = .ok (.aload_n 0, 1) := by decide +kernel
theorem dX2_put_1 : decode cX2_put 1 = .ok (.getfield 15, 3) := by decide +kernel
theorem dX2_put_4 : decode cX2_put 4 = .ok (.sipush 576, 3) := by decide +kernel
theorem dX2_put_7 : decode cX2_put 7 = .ok (.if_icmp .ge 23, 3) := by decide +kernel
theorem dX2_put_10 : decode cX2_put 10 = .ok (.aload_n 0, 1) := by decide +kernel
theorem dX2_put_11 : decode cX2_put 11 = .ok (.getfield 11, 3) := by decide +kernel
theorem dX2_put_14 : decode cX2_put 14 = .ok (.aload_n 0, 1) := by decide +kernel
theorem dX2_put_15 : decode cX2_put 15 = .ok (.getfield 15, 3) := by decide +kernel
theorem dX2_put_18 : decode cX2_put 18 = .ok (.iload_n 1, 1) := by decide +kernel
theorem dX2_put_19 : decode cX2_put 19 = .ok (.iastore, 1) := by decide +kernel
theorem dX2_put_20 : decode cX2_put 20 = .ok (.aload_n 0, 1) := by decide +kernel
theorem dX2_put_21 : decode cX2_put 21 = .ok (.dup, 1) := by decide +kernel
theorem dX2_put_22 : decode cX2_put 22 = .ok (.getfield 15, 3) := by decide +kernel
theorem dX2_put_25 : decode cX2_put 25 = .ok (.iconst 1, 1) := by decide +kernel
theorem dX2_put_26 : decode cX2_put 26 = .ok (.iadd, 1) := by decide +kernel
theorem dX2_put_27 : decode cX2_put 27 = .ok (.putfield 15, 3) := by decide +kernel
theorem dX2_put_30 : decode cX2_put 30 = .ok (.return_, 1) := by decide +kernel
set_option maxRecDepth 20000 in
theorem ggX2_middle_J9_floorDiv_7cf53 : GoodIn wsX2_middle wsJ9_floorDiv_7cf53 := goodIn_r _ [7] (by decide +kernel) (by decide +kernel)
set_option maxRecDepth 20000 in
theorem gX2_middle_J9_floorDiv_7cf53 : GoodIn wsX2_middle (va_wsS RX2 21 yJ9_floorDiv_7cf53 wsJ9_floorDiv_7cf53) := goodIn_app (goodIn_of _ (by decide +kernel)) ggX2_middle_J9_floorDiv_7cf53
set_option maxRecDepth 20000 in
theorem ggX2_middle_X2_howManyUpTo : GoodIn wsX2_middle wsX2_howManyUpTo := goodIn_r _ [12, 3, 13, 14, 15] (by decide +kernel) (by decide +kernel)
set_option maxRecDepth 20000 in
theorem gX2_middle_X2_howManyUpTo : GoodIn wsX2_middle (wsV RX2 27 RX2 yX2_howManyUpTo wsX2_howManyUpTo) := goodIn_app (goodIn_of _ (by decide +kernel)) ggX2_middle_X2_howManyUpTo
theorem dX2_middle_0 : decode cX2_middle 0 = .ok (.ldc 19, 2) := by decide +kernel
theorem dX2_middle_2 : decode cX2_middle 2 = .ok (.istore_n 1, 1) := by decide +kernel
theorem dX2_middle_3 : decode cX2_middle 3 = .ok (.ldc 20, 2) := by decide +kernel
theorem dX2_middle_5 : decode cX2_middle 5 = .ok (.istore_n 2, 1) := by decide +kernel
theorem dX2_middle_6 : decode cX2_middle 6 = .ok (.iconst 0, 1) := by decide +kernel
theorem dX2_middle_7 : decode cX2_middle 7 = .ok (.istore_n 3, 1) := by decide +kernel
theorem dX2_middle_8 : decode cX2_middle 8 = .ok (.iload_n 3, 1) := by decide +kernel
theorem dX2_middle_9 : decode cX2_middle 9 = .ok (.bipush 32, 2) := by decide +kernel
theorem dX2_middle_11 : decode cX2_middle 11 = .ok (.if_icmp .ge 51, 3) := by decide +kernel
theorem dX2_middle_14 : decode cX2_middle 14 = .ok (.iload_n 1, 1) := by decide +kernel
theorem dX2_middle_15 : decode cX2_middle 15 = .ok (.iload_n 2, 1) := by decide +kernel
theorem dX2_middle_16 : decode cX2_middle 16 = .ok (.if_icmp .ge 46, 3) := by decide +kernel
theorem dX2_middle_19 : decode cX2_middle 19 = .ok (.iload_n 1, 1) := by decide +kernel
theorem dX2_middle_20 : decode cX2_middle 20 = .ok (.iload_n 2, 1) := by decide +kernel
theorem dX2_middle_21 : decode cX2_middle 21 = .ok (.iadd, 1) := by decide +kernel
theorem dX2_middle_22 : decode cX2_middle 22 = .ok (.iconst 2, 1) := by decide +kernel
theorem dX2_middle_23 : decode cX2_middle 23 = .ok (.invokestatic 21, 3) := by decide +kernel
theorem dX2_middle_26 : decode cX2_middle 26 = .ok (.istore 4, 2) := by decide +kernel
theorem dX2_middle_28 : decode cX2_middle 28 = .ok (.aload_n 0, 1) := by decide +kernel
theorem dX2_middle_29 : decode cX2_middle 29 = .ok (.iload 4, 2) := by decide +kernel
theorem dX2_middle_31 : decode cX2_middle 31 = .ok (.invokevirtual 27, 3) := by decide +kernel
theorem dX2_middle_34 : decode cX2_middle 34 = .ok (.aload_n 0, 1) := by decide +kernel
theorem dX2_middle_35 : decode cX2_middle 35 = .ok (.getfield 15, 3) := by decide +kernel
theorem dX2_middle_38 : decode cX2_middle 38 = .ok (.iconst 1, 1) := by decide +kernel
theorem dX2_middle_39 : decode cX2_middle 39 = .ok (.isub, 1) := by decide +kernel
theorem dX2_middle_40 : decode cX2_middle 40 = .ok (.iconst 2, 1) := by decide +kernel
theorem dX2_middle_41 : decode cX2_middle 41 = .ok (.idiv, 1) := by decide +kernel
theorem dX2_middle_42 : decode cX2_middle 42 = .ok (.if_icmp .le 9, 3) := by decide +kernel
theorem dX2_middle_45 : decode cX2_middle 45 = .ok (.iload 4, 2) := by decide +kernel
theorem dX2_middle_47 : decode cX2_middle 47 = .ok (.istore_n 2, 1) := by decide +kernel
theorem dX2_middle_48 : decode cX2_middle 48 = .ok (.goto 8, 3) := by decide +kernel
theorem dX2_middle_51 : decode cX2_middle 51 = .ok (.iload 4, 2) := by decide +kernel
theorem dX2_middle_53 : decode cX2_middle 53 = .ok (.iconst 1, 1) := by decide +kernel
theorem dX2_middle_54 : decode cX2_middle 54 = .ok (.iadd, 1) := by decide +kernel
theorem dX2_middle_55 : decode cX2_middle 55 = .ok (.istore_n 1, 1) := by decide +kernel
theorem dX2_middle_56 : decode cX2_middle 56 = .ok (.iinc 3 1, 3) := by decide +kernel
theorem dX2_middle_59 : decode cX2_middle 59 = .ok (.goto (-51), 3) := by decide +kernel
theorem dX2_middle_62 : decode cX2_middle 62 = .ok (.iload_n 1, 1) := by decide +kernel
theorem dX2_middle_63 : decode cX2_middle 63 = .ok (.ireturn, 1) := by decide +kernel
theorem dX2_howManyUpTo_0 : decode cX2_howManyUpTo 0 = .ok (.iconst 0, 1) := by decide +kernel
theorem dX2_howManyUpTo_1 : decode cX2_howManyUpTo 1 = .ok (.istore_n 2, 1) := by decide +kernel
theorem dX2_howManyUpTo_2 : decode cX2_howManyUpTo 2 = .ok (.iconst 0, 1) := by decide +kernel
theorem dX2_howManyUpTo_3 : decode cX2_howManyUpTo 3 = .ok (.istore_n 3, 1) := by decide +kernel
theorem dX2_howManyUpTo_4 : decode cX2_howManyUpTo 4 = .ok (.iload_n 3, 1) := by decide +kernel
theorem dX2_howManyUpTo_5 : decode cX2_howManyUpTo 5 = .ok (.aload_n 0, 1) := by decide +kernel
theorem dX2_howManyUpTo_6 : decode cX2_howManyUpTo 6 = .ok (.getfield 15, 3) := by decide +kernel
theorem dX2_howManyUpTo_9 : decode cX2_howManyUpTo 9 = .ok (.if_icmp .ge 22, 3) := by decide +kernel
theorem dX2_howManyUpTo_12 : decode cX2_howManyUpTo 12 = .ok (.aload_n 0, 1) := by decide +kernel
theorem dX2_howManyUpTo_13 : decode cX2_howManyUpTo 13 = .ok (.getfield 11, 3) := by decide +kernel
theorem dX2_howManyUpTo_16 : decode cX2_howManyUpTo 16 = .ok (.iload_n 3, 1) := by decide +kernel
theorem dX2_howManyUpTo_17 : decode cX2_howManyUpTo 17 = .ok (.iaload, 1) := by decide +kernel
theorem dX2_howManyUpTo_18 : decode cX2_howManyUpTo 18 = .ok (.iload_n 1, 1) := by decide +kernel
theorem dX2_howManyUpTo_19 : decode cX2_howManyUpTo 19 = .ok (.if_icmp .gt 6, 3) := by decide +kernel
theorem dX2_howManyUpTo_22 : decode cX2_howManyUpTo 22 = .ok (.iinc 2 1, 3) := by decide +kernel
theorem dX2_howManyUpTo_25 : decode cX2_howManyUpTo 25 = .ok (.iinc 3 1, 3) := by decide +kernel
theorem dX2_howManyUpTo_28 : decode cX2_howManyUpTo 28 = .ok (.goto (-24), 3) := by decide +kernel
theorem dX2_howManyUpTo_31 : decode cX2_howManyUpTo 31 = .ok (.iload_n 2, 1) := by decide +kernel
theorem dX2_howManyUpTo_32 : decode cX2_howManyUpTo 32 = .ok (.ireturn, 1) := by decide +kernel
theorem dX3_products_0 : decode cX3_products 0 = .ok (.lconst 0, 1) := by decide +kernel
theorem dX3_products_1 : decode cX3_products 1 = .ok (.lstore_n 3, 1) := by decide +kernel
theorem dX3_products_2 : decode cX3_products 2 = .ok (.iconst 0, 1) := by decide +kernel
theorem dX3_products_3 : decode cX3_products 3 = .ok (.istore 5, 2) := by decide +kernel
theorem dX3_products_5 : decode cX3_products 5 = .ok (.iload 5, 2) := by decide +kernel
theorem dX3_products_7 : decode cX3_products 7 = .ok (.iload_n 2, 1) := by decide +kernel
theorem dX3_products_8 : decode cX3_products 8 = .ok (.if_icmp .ge 23, 3) := by decide +kernel
theorem dX3_products_11 : decode cX3_products 11 = .ok (.lload_n 3, 1) := by decide +kernel
theorem dX3_products_12 : decode cX3_products 12 = .ok (.aload_n 0, 1) := by decide +kernel
theorem dX3_products_13 : decode cX3_products 13 = .ok (.iload 5, 2) := by decide +kernel
theorem dX3_products_15 : decode cX3_products 15 = .ok (.iaload, 1) := by decide +kernel
theorem dX3_products_16 : decode cX3_products 16 = .ok (.i2l, 1) := by decide +kernel
theorem dX3_products_17 : decode cX3_products 17 = .ok (.aload_n 1, 1) := by decide +kernel
theorem dX3_products_18 : decode cX3_products 18 = .ok (.iload 5, 2) := by decide +kernel
theorem dX3_products_20 : decode cX3_products 20 = .ok (.iaload, 1) := by decide +kernel
theorem dX3_products_21 : decode cX3_products 21 = .ok (.i2l, 1) := by decide +kernel
theorem dX3_products_22 : decode cX3_products 22 = .ok (.lmul, 1) := by decide +kernel
theorem dX3_products_23 : decode cX3_products 23 = .ok (.ladd, 1) := by decide +kernel
theorem dX3_products_24 : decode cX3_products 24 = .ok (.lstore_n 3, 1) := by decide +kernel
theorem dX3_products_25 : decode cX3_products 25 = .ok (.iinc 5 1, 3) := by decide +kernel
theorem dX3_products_28 : decode cX3_products 28 = .ok (.goto (-23), 3) := by decide +kernel
theorem dX3_products_31 : decode cX3_products 31 = .ok (.lload_n 3, 1) := by decide +kernel
theorem dX3_products_32 : decode cX3_products 32 = .ok (.lreturn, 1) := by decide +kernel
set_option maxRecDepth 20000 in
theorem ggX3_asGreatOrders_X3_products : GoodIn wsX3_asGreatOrders wsX3_products := goodIn_r _ [4] (by decide +kernel) (by decide +kernel)
set_option maxRecDepth 20000 in
theorem gX3_asGreatOrders_X3_products : GoodIn wsX3_asGreatOrders (va_wsS RX3 7 yX3_products wsX3_products) := goodIn_app (goodIn_of _ (by decide +kernel)) ggX3_asGreatOrders_X3_products
set_option maxRecDepth 20000 in
theorem ggX3_asGreatOrders_X3_asGreatFrom : GoodIn wsX3_asGreatOrders wsX3_asGreatFrom := goodIn_r _ [7, 5, 6, 3] (by decide +kernel) (by decide +kernel)
set_option maxRecDepth 20000 in
theorem gX3_asGreatOrders_X3_asGreatFrom : GoodIn wsX3_asGreatOrders (va_wsS RX3 13 yX3_asGreatFrom wsX3_asGreatFrom) := goodIn_app (goodIn_of _ (by decide +kernel)) ggX3_asGreatOrders_X3_asGreatFrom
theorem dX3_asGreatOrders_0 : decode cX3_asGreatOrders 0 = .ok (.aload_n 0, 1) := by decide +kernel
theorem dX3_asGreatOrders_1 : decode cX3_asGreatOrders 1 = .ok (.aload_n 1, 1) := by decide +kernel
theorem dX3_asGreatOrders_2 : decode cX3_asGreatOrders 2 = .ok (.iload_n 2, 1) := by decide +kernel
theorem dX3_asGreatOrders_3 : decode cX3_asGreatOrders 3 = .ok (.iconst 0, 1) := by decide +kernel
theorem dX3_asGreatOrders_4 : decode cX3_asGreatOrders 4 = .ok (.iconst 0, 1) := by decide +kernel
theorem dX3_asGreatOrders_5 : decode cX3_asGreatOrders 5 = .ok (.aload_n 0, 1) := by decide +kernel
theorem dX3_asGreatOrders_6 : decode cX3_asGreatOrders 6 = .ok (.aload_n 1, 1) := by decide +kernel
theorem dX3_asGreatOrders_7 : decode cX3_asGreatOrders 7 = .ok (.iload_n 2, 1) := by decide +kernel
theorem dX3_asGreatOrders_8 : decode cX3_asGreatOrders 8 = .ok (.invokestatic 7, 3) := by decide +kernel
theorem dX3_asGreatOrders_11 : decode cX3_asGreatOrders 11 = .ok (.invokestatic 13, 3) := by decide +kernel
theorem dX3_asGreatOrders_14 : decode cX3_asGreatOrders 14 = .ok (.ireturn, 1) := by decide +kernel
set_option maxRecDepth 20000 in
theorem ggX3_asGreatFrom_X3_asGreatFrom : GoodIn wsX3_asGreatFrom wsX3_asGreatFrom := goodIn_r _ [0, 1, 2, 3] (by decide +kernel) (by decide +kernel)
set_option maxRecDepth 20000 in
theorem gX3_asGreatFrom_X3_asGreatFrom : GoodIn wsX3_asGreatFrom (va_wsS RX3 13 yX3_asGreatFrom wsX3_asGreatFrom) := goodIn_app (goodIn_of _ (by decide +kernel)) ggX3_asGreatFrom_X3_asGreatFrom
theorem dX3_asGreatFrom_0 : decode cX3_asGreatFrom 0 = .ok (.iload_n 3, 1) := by decide +kernel
theorem dX3_asGreatFrom_1 : decode cX3_asGreatFrom 1 = .ok (.iload_n 2, 1) := by decide +kernel
theorem dX3_asGreatFrom_2 : decode cX3_asGreatFrom 2 = .ok (.if_icmp .ge 9, 3) := by decide +kernel
theorem dX3_asGreatFrom_5 : decode cX3_asGreatFrom 5 = .ok (.iload_n 3, 1) := by decide +kernel
theorem dX3_asGreatFrom_6 : decode cX3_asGreatFrom 6 = .ok (.bipush 7, 2) := by decide +kernel
theorem dX3_asGreatFrom_8 : decode cX3_asGreatFrom 8 = .ok (.if_icmp .lt 16, 3) := by decide +kernel
theorem dX3_asGreatFrom_11 : decode cX3_asGreatFrom 11 = .ok (.lload 5, 2) := by decide +kernel
theorem dX3_asGreatFrom_13 : decode cX3_asGreatFrom 13 = .ok (.lconst 0, 1) := by decide +kernel
theorem dX3_asGreatFrom_14 : decode cX3_asGreatFrom 14 = .ok (.lcmp, 1) := by decide +kernel
theorem dX3_asGreatFrom_15 : decode cX3_asGreatFrom 15 = .ok (.ifCond .gt 7, 3) := by decide +kernel
theorem dX3_asGreatFrom_18 : decode cX3_asGreatFrom 18 = .ok (.iconst 1, 1) := by decide +kernel
theorem dX3_asGreatFrom_19 : decode cX3_asGreatFrom 19 = .ok (.goto 4, 3) := by decide +kernel
theorem dX3_asGreatFrom_22 : decode cX3_asGreatFrom 22 = .ok (.iconst 0, 1) := by decide +kernel
theorem dX3_asGreatFrom_23 : decode cX3_asGreatFrom 23 = .ok (.ireturn, 1) := by decide +kernel
theorem dX3_asGreatFrom_24 : decode cX3_asGreatFrom 24 = .ok (.iconst 0, 1) := by decide +kernel
theorem dX3_asGreatFrom_25 : decode cX3_asGreatFrom 25 = .ok (.istore 7, 2) := by decide +kernel
theorem dX3_asGreatFrom_27 : decode cX3_asGreatFrom 27 = .ok (.iconst 0, 1) := by decide +kernel
theorem dX3_asGreatFrom_28 : decode cX3_asGreatFrom 28 = .ok (.istore 8, 2) := by decide +kernel
theorem dX3_asGreatFrom_30 : decode cX3_asGreatFrom 30 = .ok (.iload 8, 2) := by decide +kernel
theorem dX3_asGreatFrom_32 : decode cX3_asGreatFrom 32 = .ok (.iload_n 2, 1) := by decide +kernel
theorem dX3_asGreatFrom_33 : decode cX3_asGreatFrom 33 = .ok (.if_icmp .ge 53, 3) := by decide +kernel
theorem dX3_asGreatFrom_36 : decode cX3_asGreatFrom 36 = .ok (.iload 4, 2) := by decide +kernel
theorem dX3_asGreatFrom_38 : decode cX3_asGreatFrom 38 = .ok (.iload 8, 2) := by decide +kernel
theorem dX3_asGreatFrom_40 : decode cX3_asGreatFrom 40 = .ok (.ishr, 1) := by decide +kernel
theorem dX3_asGreatFrom_41 : decode cX3_asGreatFrom 41 = .ok (.iconst 1, 1) := by decide +kernel
theorem dX3_asGreatFrom_42 : decode cX3_asGreatFrom 42 = .ok (.iand, 1) := by decide +kernel
theorem dX3_asGreatFrom_43 : decode cX3_asGreatFrom 43 = .ok (.ifCond .ne 37, 3) := by decide +kernel
theorem dX3_asGreatFrom_46 : decode cX3_asGreatFrom 46 = .ok (.iload 7, 2) := by decide +kernel
theorem dX3_asGreatFrom_48 : decode cX3_asGreatFrom 48 = .ok (.aload_n 0, 1) := by decide +kernel
theorem dX3_asGreatFrom_49 : decode cX3_asGreatFrom 49 = .ok (.aload_n 1, 1) := by decide +kernel
theorem dX3_asGreatFrom_50 : decode cX3_asGreatFrom 50 = .ok (.iload_n 2, 1) := by decide +kernel
theorem dX3_asGreatFrom_51 : decode cX3_asGreatFrom 51 = .ok (.iload_n 3, 1) := by decide +kernel
theorem dX3_asGreatFrom_52 : decode cX3_asGreatFrom 52 = .ok (.iconst 1, 1) := by decide +kernel
theorem dX3_asGreatFrom_53 : decode cX3_asGreatFrom 53 = .ok (.iadd, 1) := by decide +kernel
theorem dX3_asGreatFrom_54 : decode cX3_asGreatFrom 54 = .ok (.iload 4, 2) := by decide +kernel
theorem dX3_asGreatFrom_56 : decode cX3_asGreatFrom 56 = .ok (.iconst 1, 1) := by decide +kernel
theorem dX3_asGreatFrom_57 : decode cX3_asGreatFrom 57 = .ok (.iload 8, 2) := by decide +kernel
theorem dX3_asGreatFrom_59 : decode cX3_asGreatFrom 59 = .ok (.ishl, 1) := by decide +kernel
theorem dX3_asGreatFrom_60 : decode cX3_asGreatFrom 60 = .ok (.ior, 1) := by decide +kernel
theorem dX3_asGreatFrom_61 : decode cX3_asGreatFrom 61 = .ok (.lload 5, 2) := by decide +kernel
theorem dX3_asGreatFrom_63 : decode cX3_asGreatFrom 63 = .ok (.aload_n 0, 1) := by decide +kernel
theorem dX3_asGreatFrom_64 : decode cX3_asGreatFrom 64 = .ok (.iload_n 3, 1) := by decide +kernel
theorem dX3_asGreatFrom_65 : decode cX3_asGreatFrom 65 = .ok (.iaload, 1) := by decide +kernel
theorem dX3_asGreatFrom_66 : decode cX3_asGreatFrom 66 = .ok (.i2l, 1) := by decide +kernel
theorem dX3_asGreatFrom_67 : decode cX3_asGreatFrom 67 = .ok (.aload_n 1, 1) := by decide +kernel
theorem dX3_asGreatFrom_68 : decode cX3_asGreatFrom 68 = .ok (.iload 8, 2) := by decide +kernel
theorem dX3_asGreatFrom_70 : decode cX3_asGreatFrom 70 = .ok (.iaload, 1) := by decide +kernel
theorem dX3_asGreatFrom_71 : decode cX3_asGreatFrom 71 = .ok (.i2l, 1) := by decide +kernel
theorem dX3_asGreatFrom_72 : decode cX3_asGreatFrom 72 = .ok (.lmul, 1) := by decide +kernel
theorem dX3_asGreatFrom_73 : decode cX3_asGreatFrom 73 = .ok (.lsub, 1) := by decide +kernel
theorem dX3_asGreatFrom_74 : decode cX3_asGreatFrom 74 = .ok (.invokestatic 13, 3) := by decide +kernel
theorem dX3_asGreatFrom_77 : decode cX3_asGreatFrom 77 = .ok (.iadd, 1) := by decide +kernel
theorem dX3_asGreatFrom_78 : decode cX3_asGreatFrom 78 = .ok (.istore 7, 2) := by decide +kernel
theorem dX3_asGreatFrom_80 : decode cX3_asGreatFrom 80 = .ok (.iinc 8 1, 3) := by decide +kernel
theorem dX3_asGreatFrom_83 : decode cX3_asGreatFrom 83 = .ok (.goto (-53), 3) := by decide +kernel
theorem dX3_asGreatFrom_86 : decode cX3_asGreatFrom 86 = .ok (.iload 7, 2) := by decide +kernel
theorem dX3_asGreatFrom_88 : decode cX3_asGreatFrom 88 = .ok (.ireturn, 1) := by decide +kernel
theorem dX4_init_0 : decode cX4_init 0 = .ok (.aload_n 0, 1) := by decide +kernel
theorem dX4_init_1 : decode cX4_init 1 = .ok (.invokespecial 3, 3) := by decide +kernel
theorem dX4_init_4 : decode cX4_init 4 = .ok (.aload_n 0, 1) := by decide +kernel
theorem dX4_init_5 : decode cX4_init 5 = .ok (.iconst 3, 1) := by decide +kernel
theorem dX4_init_6 : decode cX4_init 6 = .ok (.newarray .int, 2) := by decide +kernel
theorem dX4_init_8 : decode cX4_init 8 = .ok (.putfield 11, 3) := by decide +kernel
theorem dX4_init_11 : decode cX4_init 11 = .ok (.aload_n 0, 1) := by decide +kernel
theorem dX4_init_12 : decode cX4_init 12 = .ok (.iconst 3, 1) := by decide +kernel
theorem dX4_init_13 : decode cX4_init 13 = .ok (.newarray .int, 2) := by decide +kernel
theorem dX4_init_15 : decode cX4_init 15 = .ok (.putfield 15, 3) := by decide +kernel
theorem dX4_init_18 : decode cX4_init 18 = .ok (.aload_n 0, 1) := by decide +kernel
theorem dX4_init_19 : decode cX4_init 19 = .ok (.iconst 2, 1) := by decide +kernel
theorem dX4_init_20 : decode cX4_init 20 = .ok (.newarray .int, 2) := by decide +kernel
theorem dX4_init_22 : decode cX4_init 22 = .ok (.putfield 18, 3) := by decide +kernel
theorem dX4_init_25 : decode cX4_init 25 = .ok (.aload_n 0, 1) := by decide +kernel
theorem dX4_init_26 : decode cX4_init 26 = .ok (.bipush 8, 2) := by decide +kernel
theorem dX4_init_28 : decode cX4_init 28 = .ok (.newarray .int, 2) := by decide +kernel
theorem dX4_init_30 : decode cX4_init 30 = .ok (.putfield 21, 3) := by decide +kernel
theorem dX4_init_33 : decode cX4_init 33 = .ok (.return_, 1) := by decide +kernel
theorem dX4_empty_0 : decode cX4_empty 0 = .ok (.aload_n 0, 1) := by decide +kernel
theorem dX4_empty_1 : decode cX4_empty 1 = .ok (.iconst 0, 1) := by decide +kernel
theorem dX4_empty_2 : decode cX4_empty 2 = .ok (.putfield 24, 3) := by decide +kernel
theorem dX4_empty_5 : decode cX4_empty 5 = .ok (.aload_n 0, 1) := by decide +kernel
theorem dX4_empty_6 : decode cX4_empty 6 = .ok (.iconst 0, 1) := by decide +kernel
theorem dX4_empty_7 : decode cX4_empty 7 = .ok (.putfield 28, 3) := by decide +kernel
theorem dX4_empty_10 : decode cX4_empty 10 = .ok (.aload_n 0, 1) := by decide +kernel
theorem dX4_empty_11 : decode cX4_empty 11 = .ok (.iconst 0, 1) := by decide +kernel
theorem dX4_empty_12 : decode cX4_empty 12 = .ok (.putfield 31, 3) := by decide +kernel
theorem dX4_empty_15 : decode cX4_empty 15 = .ok (.aload_n 0, 1) := by decide +kernel
theorem dX4_empty_16 : decode cX4_empty 16 = .ok (.iconst 0, 1) := by decide +kernel
theorem dX4_empty_17 : decode cX4_empty 17 = .ok (.putfield 34, 3) := by decide +kernel
theorem dX4_empty_20 : decode cX4_empty 20 = .ok (.aload_n 0, 1) := by decide +kernel
theorem dX4_empty_21 : decode cX4_empty 21 = .ok (.iconst 0, 1) := by decide +kernel
theorem dX4_empty_22 : decode cX4_empty 22 = .ok (.putfield 38, 3) := by decide +kernel
theorem dX4_empty_25 : decode cX4_empty 25 = .ok (.aload_n 0, 1) := by decide +kernel
theorem dX4_empty_26 : decode cX4_empty 26 = .ok (.iconst 0, 1) := by decide +kernel
theorem dX4_empty_27 : decode cX4_empty 27 = .ok (.putfield 41, 3) := by decide +kernel
theorem dX4_empty_30 : decode cX4_empty 30 = .ok (.aload_n 0, 1) := by decide +kernel
theorem dX4_empty_31 : decode cX4_empty 31 = .ok (.iconst 0, 1) := by decide +kernel
theorem dX4_empty_32 : decode cX4_empty 32 = .ok (.putfield 44, 3) := by decide +kernel
theorem dX4_empty_35 : decode cX4_empty 35 = .ok (.aload_n 0, 1) := by decide +kernel
theorem dX4_empty_36 : decode cX4_empty 36 = .ok (.iconst 0, 1) := by decide +kernel
theorem dX4_empty_37 : decode cX4_empty 37 = .ok (.putfield 47, 3) := by decide +kernel
theorem dX4_empty_40 : decode cX4_empty 40 = .ok (.return_, 1) := by decide +kernel
set_option maxRecDepth 20000 in
theorem ggX4_put_X4_taken : GoodIn wsX4_put wsX4_taken := goodIn_r _ [6, 7, 8, 9, 5, 10, 11, 12, 13, 14, 15, 16, 17, 18, 19, 20, 21, 22, 23, 24, 25, 26, 27, 28, 29, 30, 31, 32, 33, 34, 35, 36, 37, 38, 39, 40, 41, 42, 43, 44, 45, 46, 47, 48, 49, 50, 51, 52, 53, 54, 55, 56, 57, 58, 59, 60, 61] (by decide +kernel) (by decide +kernel)
set_option maxRecDepth 20000 in
theorem gX4_put_X4_taken : GoodIn wsX4_put (wsV RX4 50 RX4 yX4_taken wsX4_taken) := goodIn_app (goodIn_of _ (by decide +kernel)) ggX4_put_X4_taken
theorem dX4_put_0 : decode cX4_put 0 = .ok (.aload_n 0, 1) := by decide +kernel
theorem dX4_put_1 : decode cX4_put 1 = .ok (.getfield 24, 3) := by decide +kernel
theorem dX4_put_4 : decode cX4_put 4 = .ok (.ifCond .ne 7, 3) := by decide +kernel
theorem dX4_put_7 : decode cX4_put 7 = .ok (.iconst 1, 1) := by decide +kernel
theorem dX4_put_8 : decode cX4_put 8 = .ok (.goto 4, 3) := by decide +kernel
theorem dX4_put_11 : decode cX4_put 11 = .ok (.iconst 0, 1) := by decide +kernel
theorem dX4_put_12 : decode cX4_put 12 = .ok (.istore_n 3, 1) := by decide +kernel
theorem dX4_put_13 : decode cX4_put 13 = .ok (.iload_n 3, 1) := by decide +kernel
theorem dX4_put_14 : decode cX4_put 14 = .ok (.iload_n 1, 1) := by decide +kernel
theorem dX4_put_15 : decode cX4_put 15 = .ok (.bipush 112, 2) := by decide +kernel
theorem dX4_put_17 : decode cX4_put 17 = .ok (.if_icmp .ne 7, 3) := by decide +kernel
theorem dX4_put_20 : decode cX4_put 20 = .ok (.iconst 1, 1) := by decide +kernel
theorem dX4_put_21 : decode cX4_put 21 = .ok (.goto 4, 3) := by decide +kernel
theorem dX4_put_24 : decode cX4_put 24 = .ok (.iconst 0, 1) := by decide +kernel
theorem dX4_put_25 : decode cX4_put 25 = .ok (.if_icmp .ne 12, 3) := by decide +kernel
theorem dX4_put_28 : decode cX4_put 28 = .ok (.aload_n 0, 1) := by decide +kernel
theorem dX4_put_29 : decode cX4_put 29 = .ok (.iload_n 1, 1) := by decide +kernel
theorem dX4_put_30 : decode cX4_put 30 = .ok (.aload_n 2, 1) := by decide +kernel
theorem dX4_put_31 : decode cX4_put 31 = .ok (.invokevirtual 50, 3) := by decide +kernel
theorem dX4_put_34 : decode cX4_put 34 = .ok (.ifCond .ne 5, 3) := by decide +kernel
theorem dX4_put_37 : decode cX4_put 37 = .ok (.iconst 0, 1) := by decide +kernel
theorem dX4_put_38 : decode cX4_put 38 = .ok (.ireturn, 1) := by decide +kernel
theorem dX4_put_39 : decode cX4_put 39 = .ok (.aload_n 0, 1) := by decide +kernel
theorem dX4_put_40 : decode cX4_put 40 = .ok (.dup, 1) := by decide +kernel
theorem dX4_put_41 : decode cX4_put 41 = .ok (.getfield 24, 3) := by decide +kernel
theorem dX4_put_44 : decode cX4_put 44 = .ok (.iconst 1, 1) := by decide +kernel
theorem dX4_put_45 : decode cX4_put 45 = .ok (.iadd, 1) := by decide +kernel
theorem dX4_put_46 : decode cX4_put 46 = .ok (.putfield 24, 3) := by decide +kernel
theorem dX4_put_49 : decode cX4_put 49 = .ok (.iconst 1, 1) := by decide +kernel
theorem dX4_put_50 : decode cX4_put 50 = .ok (.ireturn, 1) := by decide +kernel
set_option maxRecDepth 20000 in
theorem ggX4_taken_X4_putPeriod : GoodIn wsX4_taken wsX4_putPeriod := goodIn_r _ [5, 6, 7, 8, 9, 10, 11, 45, 46, 47, 48, 49, 50, 51, 52, 53, 54, 55, 56] (by decide +kernel) (by decide +kernel)
set_option maxRecDepth 20000 in
theorem gX4_taken_X4_putPeriod : GoodIn wsX4_taken (wsV RX4 54 RX4 yX4_putPeriod wsX4_putPeriod) := goodIn_app (goodIn_of _ (by decide +kernel)) ggX4_taken_X4_putPeriod
set_option maxRecDepth 20000 in
theorem ggX4_taken_X4_putZero : GoodIn wsX4_taken wsX4_putZero := goodIn_r _ [15, 16, 17, 18, 9, 10, 11, 45, 46, 47, 48, 49, 50, 51, 52, 53, 54, 55, 56] (by decide +kernel) (by decide +kernel)
set_option maxRecDepth 20000 in
theorem gX4_taken_X4_putZero : GoodIn wsX4_taken (wsV RX4 58 RX4 yX4_putZero wsX4_putZero) := goodIn_app (goodIn_of _ (by decide +kernel)) ggX4_taken_X4_putZero
set_option maxRecDepth 20000 in
theorem ggX4_taken_X4_putDrift : GoodIn wsX4_taken wsX4_putDrift := goodIn_r _ [22, 23, 24, 7, 25, 9, 10, 11, 45, 46, 47, 48, 49, 50, 51, 52, 53, 54, 55, 56] (by decide +kernel) (by decide +kernel)
set_option maxRecDepth 20000 in
theorem gX4_taken_X4_putDrift : GoodIn wsX4_taken (wsV RX4 61 RX4 yX4_putDrift wsX4_putDrift) := goodIn_app (goodIn_of _ (by decide +kernel)) ggX4_taken_X4_putDrift
set_option maxRecDepth 20000 in
theorem ggX4_taken_X4_putSlip : GoodIn wsX4_taken wsX4_putSlip := goodIn_r _ [29, 30, 17, 31, 32, 9, 10, 11, 33, 34, 4, 35, 36, 37, 45, 46, 47, 48, 49, 50, 51, 52, 53, 54, 55, 56] (by decide +kernel) (by decide +kernel)
set_option maxRecDepth 20000 in
theorem gX4_taken_X4_putSlip : GoodIn wsX4_taken (wsV RX4 64 RX4 yX4_putSlip wsX4_putSlip) := goodIn_app (goodIn_of _ (by decide +kernel)) ggX4_taken_X4_putSlip
set_option maxRecDepth 20000 in
theorem ggX4_taken_X4_putCompanion : GoodIn wsX4_taken wsX4_putCompanion := goodIn_r _ [41, 42, 43, 44, 9, 10, 11, 33, 34, 4, 35, 36, 37, 45, 46, 47, 48, 49, 50, 51, 52, 53, 54, 55, 56] (by decide +kernel) (by decide +kernel)
set_option maxRecDepth 20000 in
theorem gX4_taken_X4_putCompanion : GoodIn wsX4_taken (wsV RX4 68 RX4 yX4_putCompanion wsX4_putCompanion) := goodIn_app (goodIn_of _ (by decide +kernel)) ggX4_taken_X4_putCompanion
theorem dX4_taken_0 : decode cX4_taken 0 = .ok (.iload_n 1, 1) := by decide +kernel
theorem dX4_taken_1 : decode cX4_taken 1 = .ok (.lookupswitch 92 #[(99, 86), (100, 67), (112, 51), (115, 75), (122, 59)], 51) := by decide +kernel
theorem dX4_taken_52 : decode cX4_taken 52 = .ok (.aload_n 0, 1) := by decide +kernel
theorem dX4_taken_53 : decode cX4_taken 53 = .ok (.aload_n 2, 1) := by decide +kernel
theorem dX4_taken_54 : decode cX4_taken 54 = .ok (.iconst 0, 1) := by decide +kernel
theorem dX4_taken_55 : decode cX4_taken 55 = .ok (.iaload, 1) := by decide +kernel
theorem dX4_taken_56 : decode cX4_taken 56 = .ok (.invokevirtual 54, 3) := by decide +kernel
theorem dX4_taken_59 : decode cX4_taken 59 = .ok (.ireturn, 1) := by decide +kernel
theorem dX4_taken_60 : decode cX4_taken 60 = .ok (.aload_n 0, 1) := by decide +kernel
theorem dX4_taken_61 : decode cX4_taken 61 = .ok (.aload_n 2, 1) := by decide +kernel
theorem dX4_taken_62 : decode cX4_taken 62 = .ok (.iconst 0, 1) := by decide +kernel
theorem dX4_taken_63 : decode cX4_taken 63 = .ok (.iaload, 1) := by decide +kernel
theorem dX4_taken_64 : decode cX4_taken 64 = .ok (.invokevirtual 58, 3) := by decide +kernel
theorem dX4_taken_67 : decode cX4_taken 67 = .ok (.ireturn, 1) := by decide +kernel
theorem dX4_taken_68 : decode cX4_taken 68 = .ok (.aload_n 0, 1) := by decide +kernel
theorem dX4_taken_69 : decode cX4_taken 69 = .ok (.aload_n 2, 1) := by decide +kernel
theorem dX4_taken_70 : decode cX4_taken 70 = .ok (.iconst 0, 1) := by decide +kernel
theorem dX4_taken_71 : decode cX4_taken 71 = .ok (.iaload, 1) := by decide +kernel
theorem dX4_taken_72 : decode cX4_taken 72 = .ok (.invokevirtual 61, 3) := by decide +kernel
theorem dX4_taken_75 : decode cX4_taken 75 = .ok (.ireturn, 1) := by decide +kernel
theorem dX4_taken_76 : decode cX4_taken 76 = .ok (.aload_n 0, 1) := by decide +kernel
theorem dX4_taken_77 : decode cX4_taken 77 = .ok (.aload_n 2, 1) := by decide +kernel
theorem dX4_taken_78 : decode cX4_taken 78 = .ok (.iconst 0, 1) := by decide +kernel
theorem dX4_taken_79 : decode cX4_taken 79 = .ok (.iaload, 1) := by decide +kernel
theorem dX4_taken_80 : decode cX4_taken 80 = .ok (.aload_n 2, 1) := by decide +kernel
theorem dX4_taken_81 : decode cX4_taken 81 = .ok (.iconst 1, 1) := by decide +kernel
theorem dX4_taken_82 : decode cX4_taken 82 = .ok (.iaload, 1) := by decide +kernel
theorem dX4_taken_83 : decode cX4_taken 83 = .ok (.invokevirtual 64, 3) := by decide +kernel
theorem dX4_taken_86 : decode cX4_taken 86 = .ok (.ireturn, 1) := by decide +kernel
theorem dX4_taken_87 : decode cX4_taken 87 = .ok (.aload_n 0, 1) := by decide +kernel
theorem dX4_taken_88 : decode cX4_taken 88 = .ok (.aload_n 2, 1) := by decide +kernel
theorem dX4_taken_89 : decode cX4_taken 89 = .ok (.invokevirtual 68, 3) := by decide +kernel
theorem dX4_taken_92 : decode cX4_taken 92 = .ok (.ireturn, 1) := by decide +kernel
theorem dX4_taken_93 : decode cX4_taken 93 = .ok (.iconst 0, 1) := by decide +kernel
theorem dX4_taken_94 : decode cX4_taken 94 = .ok (.ireturn, 1) := by decide +kernel
set_option maxRecDepth 20000 in
theorem ggX4_putPeriod_X11_within : GoodIn wsX4_putPeriod wsX11_within := goodIn_r _ [6] (by decide +kernel) (by decide +kernel)
set_option maxRecDepth 20000 in
theorem gX4_putPeriod_X11_within_n74 : GoodIn wsX4_putPeriod (wsX11_within) := ggX4_putPeriod_X11_within
theorem dX4_putPeriod_0 : decode cX4_putPeriod 0 = .ok (.aload_n 0, 1) := by decide +kernel
theorem dX4_putPeriod_1 : decode cX4_putPeriod 1 = .ok (.iload_n 1, 1) := by decide +kernel
theorem dX4_putPeriod_2 : decode cX4_putPeriod 2 = .ok (.putfield 28, 3) := by decide +kernel
theorem dX4_putPeriod_5 : decode cX4_putPeriod 5 = .ok (.iload_n 1, 1) := by decide +kernel
theorem dX4_putPeriod_6 : decode cX4_putPeriod 6 = .ok (.ldc 72, 2) := by decide +kernel
theorem dX4_putPeriod_8 : decode cX4_putPeriod 8 = .ok (.ldc 73, 2) := by decide +kernel
theorem dX4_putPeriod_10 : decode cX4_putPeriod 10 = .ok (.invokestatic 74, 3) := by decide +kernel
theorem dX4_putPeriod_13 : decode cX4_putPeriod 13 = .ok (.ireturn, 1) := by decide +kernel
set_option maxRecDepth 20000 in
theorem ggX4_putZero_X11_within : GoodIn wsX4_putZero wsX11_within := goodIn_r _ [6] (by decide +kernel) (by decide +kernel)
set_option maxRecDepth 20000 in
theorem gX4_putZero_X11_within_n74 : GoodIn wsX4_putZero (wsX11_within) := ggX4_putZero_X11_within
theorem dX4_putZero_0 : decode cX4_putZero 0 = .ok (.aload_n 0, 1) := by decide +kernel
theorem dX4_putZero_1 : decode cX4_putZero 1 = .ok (.getfield 34, 3) := by decide +kernel
theorem dX4_putZero_4 : decode cX4_putZero 4 = .ok (.ifCond .ne 13, 3) := by decide +kernel
theorem dX4_putZero_7 : decode cX4_putZero 7 = .ok (.iload_n 1, 1) := by decide +kernel
theorem dX4_putZero_8 : decode cX4_putZero 8 = .ok (.iconst 0, 1) := by decide +kernel
theorem dX4_putZero_9 : decode cX4_putZero 9 = .ok (.ldc 78, 2) := by decide +kernel
theorem dX4_putZero_11 : decode cX4_putZero 11 = .ok (.invokestatic 74, 3) := by decide +kernel
theorem dX4_putZero_14 : decode cX4_putZero 14 = .ok (.ifCond .ne 5, 3) := by decide +kernel
theorem dX4_putZero_17 : decode cX4_putZero 17 = .ok (.iconst 0, 1) := by decide +kernel
theorem dX4_putZero_18 : decode cX4_putZero 18 = .ok (.ireturn, 1) := by decide +kernel
theorem dX4_putZero_19 : decode cX4_putZero 19 = .ok (.aload_n 0, 1) := by decide +kernel
theorem dX4_putZero_20 : decode cX4_putZero 20 = .ok (.iconst 1, 1) := by decide +kernel
theorem dX4_putZero_21 : decode cX4_putZero 21 = .ok (.putfield 34, 3) := by decide +kernel
theorem dX4_putZero_24 : decode cX4_putZero 24 = .ok (.aload_n 0, 1) := by decide +kernel
theorem dX4_putZero_25 : decode cX4_putZero 25 = .ok (.iload_n 1, 1) := by decide +kernel
theorem dX4_putZero_26 : decode cX4_putZero 26 = .ok (.putfield 31, 3) := by decide +kernel
theorem dX4_putZero_29 : decode cX4_putZero 29 = .ok (.iconst 1, 1) := by decide +kernel
theorem dX4_putZero_30 : decode cX4_putZero 30 = .ok (.ireturn, 1) := by decide +kernel
set_option maxRecDepth 20000 in
theorem ggX4_putDrift_X11_within : GoodIn wsX4_putDrift wsX11_within := goodIn_r _ [7] (by decide +kernel) (by decide +kernel)
set_option maxRecDepth 20000 in
theorem gX4_putDrift_X11_within_n74 : GoodIn wsX4_putDrift (wsX11_within) := ggX4_putDrift_X11_within
theorem dX4_putDrift_0 : decode cX4_putDrift 0 = .ok (.aload_n 0, 1) := by decide +kernel
theorem dX4_putDrift_1 : decode cX4_putDrift 1 = .ok (.getfield 41, 3) := by decide +kernel
theorem dX4_putDrift_4 : decode cX4_putDrift 4 = .ok (.ifCond .ne 14, 3) := by decide +kernel
theorem dX4_putDrift_7 : decode cX4_putDrift 7 = .ok (.iload_n 1, 1) := by decide +kernel
theorem dX4_putDrift_8 : decode cX4_putDrift 8 = .ok (.ldc 79, 2) := by decide +kernel
theorem dX4_putDrift_10 : decode cX4_putDrift 10 = .ok (.ldc 72, 2) := by decide +kernel
theorem dX4_putDrift_12 : decode cX4_putDrift 12 = .ok (.invokestatic 74, 3) := by decide +kernel
theorem dX4_putDrift_15 : decode cX4_putDrift 15 = .ok (.ifCond .ne 5, 3) := by decide +kernel
theorem dX4_putDrift_18 : decode cX4_putDrift 18 = .ok (.iconst 0, 1) := by decide +kernel
theorem dX4_putDrift_19 : decode cX4_putDrift 19 = .ok (.ireturn, 1) := by decide +kernel
theorem dX4_putDrift_20 : decode cX4_putDrift 20 = .ok (.aload_n 0, 1) := by decide +kernel
theorem dX4_putDrift_21 : decode cX4_putDrift 21 = .ok (.iconst 1, 1) := by decide +kernel
theorem dX4_putDrift_22 : decode cX4_putDrift 22 = .ok (.putfield 41, 3) := by decide +kernel
theorem dX4_putDrift_25 : decode cX4_putDrift 25 = .ok (.aload_n 0, 1) := by decide +kernel
theorem dX4_putDrift_26 : decode cX4_putDrift 26 = .ok (.iload_n 1, 1) := by decide +kernel
theorem dX4_putDrift_27 : decode cX4_putDrift 27 = .ok (.putfield 38, 3) := by decide +kernel
theorem dX4_putDrift_30 : decode cX4_putDrift 30 = .ok (.iconst 1, 1) := by decide +kernel
theorem dX4_putDrift_31 : decode cX4_putDrift 31 = .ok (.ireturn, 1) := by decide +kernel
set_option maxRecDepth 20000 in
theorem ggX4_putSlip_X11_within : GoodIn wsX4_putSlip wsX11_within := goodIn_r _ [7] (by decide +kernel) (by decide +kernel)
set_option maxRecDepth 20000 in
theorem gX4_putSlip_X11_within_n74 : GoodIn wsX4_putSlip (wsX11_within) := ggX4_putSlip_X11_within
set_option maxRecDepth 20000 in
theorem ggX4_putSlip_X4_isLate : GoodIn wsX4_putSlip wsX4_isLate := goodIn_r _ [11, 12, 13, 5, 6, 7] (by decide +kernel) (by decide +kernel)
set_option maxRecDepth 20000 in
theorem gX4_putSlip_X4_isLate : GoodIn wsX4_putSlip (va_wsS RX4 80 yX4_isLate wsX4_isLate) := goodIn_app (goodIn_of _ (by decide +kernel)) ggX4_putSlip_X4_isLate
theorem dX4_putSlip_0 : decode cX4_putSlip 0 = .ok (.aload_n 0, 1) := by decide +kernel
theorem dX4_putSlip_1 : decode cX4_putSlip 1 = .ok (.getfield 44, 3) := by decide +kernel
theorem dX4_putSlip_4 : decode cX4_putSlip 4 = .ok (.iconst 3, 1) := by decide +kernel
theorem dX4_putSlip_5 : decode cX4_putSlip 5 = .ok (.if_icmp .ge 20, 3) := by decide +kernel
theorem dX4_putSlip_8 : decode cX4_putSlip 8 = .ok (.iload_n 1, 1) := by decide +kernel
theorem dX4_putSlip_9 : decode cX4_putSlip 9 = .ok (.iconst 0, 1) := by decide +kernel
theorem dX4_putSlip_10 : decode cX4_putSlip 10 = .ok (.ldc 78, 2) := by decide +kernel
theorem dX4_putSlip_12 : decode cX4_putSlip 12 = .ok (.invokestatic 74, 3) := by decide +kernel
theorem dX4_putSlip_15 : decode cX4_putSlip 15 = .ok (.ifCond .eq 10, 3) := by decide +kernel
theorem dX4_putSlip_18 : decode cX4_putSlip 18 = .ok (.iload_n 2, 1) := by decide +kernel
theorem dX4_putSlip_19 : decode cX4_putSlip 19 = .ok (.invokestatic 80, 3) := by decide +kernel
theorem dX4_putSlip_22 : decode cX4_putSlip 22 = .ok (.ifCond .ne 5, 3) := by decide +kernel
theorem dX4_putSlip_25 : decode cX4_putSlip 25 = .ok (.iconst 0, 1) := by decide +kernel
theorem dX4_putSlip_26 : decode cX4_putSlip 26 = .ok (.ireturn, 1) := by decide +kernel
theorem dX4_putSlip_27 : decode cX4_putSlip 27 = .ok (.aload_n 0, 1) := by decide +kernel
theorem dX4_putSlip_28 : decode cX4_putSlip 28 = .ok (.getfield 11, 3) := by decide +kernel
theorem dX4_putSlip_31 : decode cX4_putSlip 31 = .ok (.aload_n 0, 1) := by decide +kernel
theorem dX4_putSlip_32 : decode cX4_putSlip 32 = .ok (.getfield 44, 3) := by decide +kernel
theorem dX4_putSlip_35 : decode cX4_putSlip 35 = .ok (.iload_n 1, 1) := by decide +kernel
theorem dX4_putSlip_36 : decode cX4_putSlip 36 = .ok (.iastore, 1) := by decide +kernel
theorem dX4_putSlip_37 : decode cX4_putSlip 37 = .ok (.aload_n 0, 1) := by decide +kernel
theorem dX4_putSlip_38 : decode cX4_putSlip 38 = .ok (.getfield 15, 3) := by decide +kernel
theorem dX4_putSlip_41 : decode cX4_putSlip 41 = .ok (.aload_n 0, 1) := by decide +kernel
theorem dX4_putSlip_42 : decode cX4_putSlip 42 = .ok (.getfield 44, 3) := by decide +kernel
theorem dX4_putSlip_45 : decode cX4_putSlip 45 = .ok (.iload_n 2, 1) := by decide +kernel
theorem dX4_putSlip_46 : decode cX4_putSlip 46 = .ok (.iastore, 1) := by decide +kernel
theorem dX4_putSlip_47 : decode cX4_putSlip 47 = .ok (.aload_n 0, 1) := by decide +kernel
theorem dX4_putSlip_48 : decode cX4_putSlip 48 = .ok (.dup, 1) := by decide +kernel
theorem dX4_putSlip_49 : decode cX4_putSlip 49 = .ok (.getfield 44, 3) := by decide +kernel
theorem dX4_putSlip_52 : decode cX4_putSlip 52 = .ok (.iconst 1, 1) := by decide +kernel
theorem dX4_putSlip_53 : decode cX4_putSlip 53 = .ok (.iadd, 1) := by decide +kernel
theorem dX4_putSlip_54 : decode cX4_putSlip 54 = .ok (.putfield 44, 3) := by decide +kernel
theorem dX4_putSlip_57 : decode cX4_putSlip 57 = .ok (.iconst 1, 1) := by decide +kernel
theorem dX4_putSlip_58 : decode cX4_putSlip 58 = .ok (.ireturn, 1) := by decide +kernel
set_option maxRecDepth 20000 in
theorem ggX4_putCompanion_X11_within : GoodIn wsX4_putCompanion wsX11_within := goodIn_r _ [6] (by decide +kernel) (by decide +kernel)
set_option maxRecDepth 20000 in
theorem gX4_putCompanion_X11_within_n74 : GoodIn wsX4_putCompanion (wsX11_within) := ggX4_putCompanion_X11_within
set_option maxRecDepth 20000 in
theorem ggX4_putCompanion_X4_isLate : GoodIn wsX4_putCompanion wsX4_isLate := goodIn_r _ [10, 11, 12, 4, 5, 6] (by decide +kernel) (by decide +kernel)
set_option maxRecDepth 20000 in
theorem gX4_putCompanion_X4_isLate : GoodIn wsX4_putCompanion (va_wsS RX4 80 yX4_isLate wsX4_isLate) := goodIn_app (goodIn_of _ (by decide +kernel)) ggX4_putCompanion_X4_isLate
theorem dX4_putCompanion_0 : decode cX4_putCompanion 0 = .ok (.aload_n 0, 1) := by decide +kernel
theorem dX4_putCompanion_1 : decode cX4_putCompanion 1 = .ok (.getfield 47, 3) := by decide +kernel
theorem dX4_putCompanion_4 : decode cX4_putCompanion 4 = .ok (.iconst 2, 1) := by decide +kernel
theorem dX4_putCompanion_5 : decode cX4_putCompanion 5 = .ok (.if_icmp .ge 16, 3) := by decide +kernel
theorem dX4_putCompanion_8 : decode cX4_putCompanion 8 = .ok (.aload_n 1, 1) := by decide +kernel
theorem dX4_putCompanion_9 : decode cX4_putCompanion 9 = .ok (.iconst 0, 1) := by decide +kernel
theorem dX4_putCompanion_10 : decode cX4_putCompanion 10 = .ok (.iaload, 1) := by decide +kernel
theorem dX4_putCompanion_11 : decode cX4_putCompanion 11 = .ok (.iconst 4, 1) := by decide +kernel
theorem dX4_putCompanion_12 : decode cX4_putCompanion 12 = .ok (.sipush 1000, 3) := by decide +kernel
theorem dX4_putCompanion_15 : decode cX4_putCompanion 15 = .ok (.invokestatic 74, 3) := by decide +kernel
theorem dX4_putCompanion_18 : decode cX4_putCompanion 18 = .ok (.ifCond .ne 5, 3) := by decide +kernel
theorem dX4_putCompanion_21 : decode cX4_putCompanion 21 = .ok (.iconst 0, 1) := by decide +kernel
theorem dX4_putCompanion_22 : decode cX4_putCompanion 22 = .ok (.ireturn, 1) := by decide +kernel
theorem dX4_putCompanion_23 : decode cX4_putCompanion 23 = .ok (.iconst 0, 1) := by decide +kernel
theorem dX4_putCompanion_24 : decode cX4_putCompanion 24 = .ok (.istore_n 2, 1) := by decide +kernel
theorem dX4_putCompanion_25 : decode cX4_putCompanion 25 = .ok (.iload_n 2, 1) := by decide +kernel
theorem dX4_putCompanion_26 : decode cX4_putCompanion 26 = .ok (.iconst 4, 1) := by decide +kernel
theorem dX4_putCompanion_27 : decode cX4_putCompanion 27 = .ok (.if_icmp .ge 40, 3) := by decide +kernel
theorem dX4_putCompanion_30 : decode cX4_putCompanion 30 = .ok (.aload_n 1, 1) := by decide +kernel
theorem dX4_putCompanion_31 : decode cX4_putCompanion 31 = .ok (.iload_n 2, 1) := by decide +kernel
theorem dX4_putCompanion_32 : decode cX4_putCompanion 32 = .ok (.iconst 1, 1) := by decide +kernel
theorem dX4_putCompanion_33 : decode cX4_putCompanion 33 = .ok (.iadd, 1) := by decide +kernel
theorem dX4_putCompanion_34 : decode cX4_putCompanion 34 = .ok (.iaload, 1) := by decide +kernel
theorem dX4_putCompanion_35 : decode cX4_putCompanion 35 = .ok (.invokestatic 80, 3) := by decide +kernel
theorem dX4_putCompanion_38 : decode cX4_putCompanion 38 = .ok (.ifCond .ne 5, 3) := by decide +kernel
theorem dX4_putCompanion_41 : decode cX4_putCompanion 41 = .ok (.iconst 0, 1) := by decide +kernel
theorem dX4_putCompanion_42 : decode cX4_putCompanion 42 = .ok (.ireturn, 1) := by decide +kernel
theorem dX4_putCompanion_43 : decode cX4_putCompanion 43 = .ok (.aload_n 0, 1) := by decide +kernel
theorem dX4_putCompanion_44 : decode cX4_putCompanion 44 = .ok (.getfield 21, 3) := by decide +kernel
theorem dX4_putCompanion_47 : decode cX4_putCompanion 47 = .ok (.aload_n 0, 1) := by decide +kernel
theorem dX4_putCompanion_48 : decode cX4_putCompanion 48 = .ok (.getfield 47, 3) := by decide +kernel
theorem dX4_putCompanion_51 : decode cX4_putCompanion 51 = .ok (.iconst 4, 1) := by decide +kernel
theorem dX4_putCompanion_52 : decode cX4_putCompanion 52 = .ok (.imul, 1) := by decide +kernel
theorem dX4_putCompanion_53 : decode cX4_putCompanion 53 = .ok (.iload_n 2, 1) := by decide +kernel
theorem dX4_putCompanion_54 : decode cX4_putCompanion 54 = .ok (.iadd, 1) := by decide +kernel
theorem dX4_putCompanion_55 : decode cX4_putCompanion 55 = .ok (.aload_n 1, 1) := by decide +kernel
theorem dX4_putCompanion_56 : decode cX4_putCompanion 56 = .ok (.iload_n 2, 1) := by decide +kernel
theorem dX4_putCompanion_57 : decode cX4_putCompanion 57 = .ok (.iconst 1, 1) := by decide +kernel
theorem dX4_putCompanion_58 : decode cX4_putCompanion 58 = .ok (.iadd, 1) := by decide +kernel
theorem dX4_putCompanion_59 : decode cX4_putCompanion 59 = .ok (.iaload, 1) := by decide +kernel
theorem dX4_putCompanion_60 : decode cX4_putCompanion 60 = .ok (.iastore, 1) := by decide +kernel
theorem dX4_putCompanion_61 : decode cX4_putCompanion 61 = .ok (.iinc 2 1, 3) := by decide +kernel
theorem dX4_putCompanion_64 : decode cX4_putCompanion 64 = .ok (.goto (-39), 3) := by decide +kernel
theorem dX4_putCompanion_67 : decode cX4_putCompanion 67 = .ok (.aload_n 0, 1) := by decide +kernel
theorem dX4_putCompanion_68 : decode cX4_putCompanion 68 = .ok (.getfield 18, 3) := by decide +kernel
theorem dX4_putCompanion_71 : decode cX4_putCompanion 71 = .ok (.aload_n 0, 1) := by decide +kernel
theorem dX4_putCompanion_72 : decode cX4_putCompanion 72 = .ok (.getfield 47, 3) := by decide +kernel
theorem dX4_putCompanion_75 : decode cX4_putCompanion 75 = .ok (.aload_n 1, 1) := by decide +kernel
theorem dX4_putCompanion_76 : decode cX4_putCompanion 76 = .ok (.iconst 0, 1) := by decide +kernel
theorem dX4_putCompanion_77 : decode cX4_putCompanion 77 = .ok (.iaload, 1) := by decide +kernel
theorem dX4_putCompanion_78 : decode cX4_putCompanion 78 = .ok (.iastore, 1) := by decide +kernel
theorem dX4_putCompanion_79 : decode cX4_putCompanion 79 = .ok (.aload_n 0, 1) := by decide +kernel
theorem dX4_putCompanion_80 : decode cX4_putCompanion 80 = .ok (.dup, 1) := by decide +kernel
theorem dX4_putCompanion_81 : decode cX4_putCompanion 81 = .ok (.getfield 47, 3) := by decide +kernel
theorem dX4_putCompanion_84 : decode cX4_putCompanion 84 = .ok (.iconst 1, 1) := by decide +kernel
theorem dX4_putCompanion_85 : decode cX4_putCompanion 85 = .ok (.iadd, 1) := by decide +kernel
theorem dX4_putCompanion_86 : decode cX4_putCompanion 86 = .ok (.putfield 47, 3) := by decide +kernel
theorem dX4_putCompanion_89 : decode cX4_putCompanion 89 = .ok (.iconst 1, 1) := by decide +kernel
theorem dX4_putCompanion_90 : decode cX4_putCompanion 90 = .ok (.ireturn, 1) := by decide +kernel
set_option maxRecDepth 20000 in
theorem ggX4_isLate_X11_within : GoodIn wsX4_isLate wsX11_within := goodIn_r _ [5] (by decide +kernel) (by decide +kernel)
set_option maxRecDepth 20000 in
theorem gX4_isLate_X11_within_n74 : GoodIn wsX4_isLate (wsX11_within) := ggX4_isLate_X11_within
theorem dX4_isLate_0 : decode cX4_isLate 0 = .ok (.iload_n 0, 1) := by decide +kernel
theorem dX4_isLate_1 : decode cX4_isLate 1 = .ok (.ldc 83, 2) := by decide +kernel
theorem dX4_isLate_3 : decode cX4_isLate 3 = .ok (.ldc 84, 2) := by decide +kernel
theorem dX4_isLate_5 : decode cX4_isLate 5 = .ok (.invokestatic 74, 3) := by decide +kernel
theorem dX4_isLate_8 : decode cX4_isLate 8 = .ok (.ireturn, 1) := by decide +kernel
theorem dX4_lengthOf_0 : decode cX4_lengthOf 0 = .ok (.ldc2_w 85, 3) := by decide +kernel
theorem dX4_lengthOf_3 : decode cX4_lengthOf 3 = .ok (.aload_n 0, 1) := by decide +kernel
theorem dX4_lengthOf_4 : decode cX4_lengthOf 4 = .ok (.getfield 28, 3) := by decide +kernel
theorem dX4_lengthOf_7 : decode cX4_lengthOf 7 = .ok (.i2l, 1) := by decide +kernel
theorem dX4_lengthOf_8 : decode cX4_lengthOf 8 = .ok (.lmul, 1) := by decide +kernel
theorem dX4_lengthOf_9 : decode cX4_lengthOf 9 = .ok (.iload_n 1, 1) := by decide +kernel
theorem dX4_lengthOf_10 : decode cX4_lengthOf 10 = .ok (.i2l, 1) := by decide +kernel
theorem dX4_lengthOf_11 : decode cX4_lengthOf 11 = .ok (.aload_n 0, 1) := by decide +kernel
theorem dX4_lengthOf_12 : decode cX4_lengthOf 12 = .ok (.getfield 38, 3) := by decide +kernel
theorem dX4_lengthOf_15 : decode cX4_lengthOf 15 = .ok (.i2l, 1) := by decide +kernel
theorem dX4_lengthOf_16 : decode cX4_lengthOf 16 = .ok (.lmul, 1) := by decide +kernel
theorem dX4_lengthOf_17 : decode cX4_lengthOf 17 = .ok (.ladd, 1) := by decide +kernel
theorem dX4_lengthOf_18 : decode cX4_lengthOf 18 = .ok (.lstore 4, 2) := by decide +kernel
theorem dX4_lengthOf_20 : decode cX4_lengthOf 20 = .ok (.iconst 0, 1) := by decide +kernel
theorem dX4_lengthOf_21 : decode cX4_lengthOf 21 = .ok (.istore 6, 2) := by decide +kernel
theorem dX4_lengthOf_23 : decode cX4_lengthOf 23 = .ok (.iload 6, 2) := by decide +kernel
theorem dX4_lengthOf_25 : decode cX4_lengthOf 25 = .ok (.aload_n 0, 1) := by decide +kernel
theorem dX4_lengthOf_26 : decode cX4_lengthOf 26 = .ok (.getfield 44, 3) := by decide +kernel
theorem dX4_lengthOf_29 : decode cX4_lengthOf 29 = .ok (.if_icmp .ge 43, 3) := by decide +kernel
theorem dX4_lengthOf_32 : decode cX4_lengthOf 32 = .ok (.aload_n 0, 1) := by decide +kernel
theorem dX4_lengthOf_33 : decode cX4_lengthOf 33 = .ok (.getfield 11, 3) := by decide +kernel
theorem dX4_lengthOf_36 : decode cX4_lengthOf 36 = .ok (.iload 6, 2) := by decide +kernel
theorem dX4_lengthOf_38 : decode cX4_lengthOf 38 = .ok (.iaload, 1) := by decide +kernel
theorem dX4_lengthOf_39 : decode cX4_lengthOf 39 = .ok (.i2l, 1) := by decide +kernel
theorem dX4_lengthOf_40 : decode cX4_lengthOf 40 = .ok (.ldc2_w 87, 3) := by decide +kernel
theorem dX4_lengthOf_43 : decode cX4_lengthOf 43 = .ok (.lmul, 1) := by decide +kernel
theorem dX4_lengthOf_44 : decode cX4_lengthOf 44 = .ok (.lload_n 2, 1) := by decide +kernel
theorem dX4_lengthOf_45 : decode cX4_lengthOf 45 = .ok (.lcmp, 1) := by decide +kernel
theorem dX4_lengthOf_46 : decode cX4_lengthOf 46 = .ok (.ifCond .gt 20, 3) := by decide +kernel
theorem dX4_lengthOf_49 : decode cX4_lengthOf 49 = .ok (.lload 4, 2) := by decide +kernel
theorem dX4_lengthOf_51 : decode cX4_lengthOf 51 = .ok (.ldc2_w 85, 3) := by decide +kernel
theorem dX4_lengthOf_54 : decode cX4_lengthOf 54 = .ok (.aload_n 0, 1) := by decide +kernel
theorem dX4_lengthOf_55 : decode cX4_lengthOf 55 = .ok (.getfield 15, 3) := by decide +kernel
theorem dX4_lengthOf_58 : decode cX4_lengthOf 58 = .ok (.iload 6, 2) := by decide +kernel
theorem dX4_lengthOf_60 : decode cX4_lengthOf 60 = .ok (.iaload, 1) := by decide +kernel
theorem dX4_lengthOf_61 : decode cX4_lengthOf 61 = .ok (.i2l, 1) := by decide +kernel
theorem dX4_lengthOf_62 : decode cX4_lengthOf 62 = .ok (.lmul, 1) := by decide +kernel
theorem dX4_lengthOf_63 : decode cX4_lengthOf 63 = .ok (.ladd, 1) := by decide +kernel
theorem dX4_lengthOf_64 : decode cX4_lengthOf 64 = .ok (.lstore 4, 2) := by decide +kernel
theorem dX4_lengthOf_66 : decode cX4_lengthOf 66 = .ok (.iinc 6 1, 3) := by decide +kernel
theorem dX4_lengthOf_69 : decode cX4_lengthOf 69 = .ok (.goto (-46), 3) := by decide +kernel
theorem dX4_lengthOf_72 : decode cX4_lengthOf 72 = .ok (.lload 4, 2) := by decide +kernel
theorem dX4_lengthOf_74 : decode cX4_lengthOf 74 = .ok (.ldc2_w 87, 3) := by decide +kernel
theorem dX4_lengthOf_77 : decode cX4_lengthOf 77 = .ok (.invokestatic 89, 3) := by decide +kernel
theorem dX4_lengthOf_80 : decode cX4_lengthOf 80 = .ok (.lreturn, 1) := by decide +kernel
theorem dX4_lateOf_0 : decode cX4_lateOf 0 = .ok (.lconst 0, 1) := by decide +kernel
theorem dX4_lateOf_1 : decode cX4_lateOf 1 = .ok (.lstore_n 2, 1) := by decide +kernel
theorem dX4_lateOf_2 : decode cX4_lateOf 2 = .ok (.iconst 0, 1) := by decide +kernel
theorem dX4_lateOf_3 : decode cX4_lateOf 3 = .ok (.istore 4, 2) := by decide +kernel
theorem dX4_lateOf_5 : decode cX4_lateOf 5 = .ok (.iload 4, 2) := by decide +kernel
theorem dX4_lateOf_7 : decode cX4_lateOf 7 = .ok (.aload_n 0, 1) := by decide +kernel
theorem dX4_lateOf_8 : decode cX4_lateOf 8 = .ok (.getfield 47, 3) := by decide +kernel
theorem dX4_lateOf_11 : decode cX4_lateOf 11 = .ok (.if_icmp .ge 54, 3) := by decide +kernel
theorem dX4_lateOf_14 : decode cX4_lateOf 14 = .ok (.aload_n 0, 1) := by decide +kernel
theorem dX4_lateOf_15 : decode cX4_lateOf 15 = .ok (.getfield 18, 3) := by decide +kernel
theorem dX4_lateOf_18 : decode cX4_lateOf 18 = .ok (.iload 4, 2) := by decide +kernel
theorem dX4_lateOf_20 : decode cX4_lateOf 20 = .ok (.iaload, 1) := by decide +kernel
theorem dX4_lateOf_21 : decode cX4_lateOf 21 = .ok (.istore 5, 2) := by decide +kernel
theorem dX4_lateOf_23 : decode cX4_lateOf 23 = .ok (.iload 5, 2) := by decide +kernel
theorem dX4_lateOf_25 : decode cX4_lateOf 25 = .ok (.ifCond .le 34, 3) := by decide +kernel
theorem dX4_lateOf_28 : decode cX4_lateOf 28 = .ok (.iconst 4, 1) := by decide +kernel
theorem dX4_lateOf_29 : decode cX4_lateOf 29 = .ok (.iload_n 1, 1) := by decide +kernel
theorem dX4_lateOf_30 : decode cX4_lateOf 30 = .ok (.iload 5, 2) := by decide +kernel
theorem dX4_lateOf_32 : decode cX4_lateOf 32 = .ok (.irem, 1) := by decide +kernel
theorem dX4_lateOf_33 : decode cX4_lateOf 33 = .ok (.imul, 1) := by decide +kernel
theorem dX4_lateOf_34 : decode cX4_lateOf 34 = .ok (.iload 5, 2) := by decide +kernel
theorem dX4_lateOf_36 : decode cX4_lateOf 36 = .ok (.idiv, 1) := by decide +kernel
theorem dX4_lateOf_37 : decode cX4_lateOf 37 = .ok (.istore 6, 2) := by decide +kernel
theorem dX4_lateOf_39 : decode cX4_lateOf 39 = .ok (.lload_n 2, 1) := by decide +kernel
theorem dX4_lateOf_40 : decode cX4_lateOf 40 = .ok (.ldc2_w 85, 3) := by decide +kernel
theorem dX4_lateOf_43 : decode cX4_lateOf 43 = .ok (.aload_n 0, 1) := by decide +kernel
theorem dX4_lateOf_44 : decode cX4_lateOf 44 = .ok (.getfield 21, 3) := by decide +kernel
theorem dX4_lateOf_47 : decode cX4_lateOf 47 = .ok (.iload 4, 2) := by decide +kernel
theorem dX4_lateOf_49 : decode cX4_lateOf 49 = .ok (.iconst 4, 1) := by decide +kernel
theorem dX4_lateOf_50 : decode cX4_lateOf 50 = .ok (.imul, 1) := by decide +kernel
theorem dX4_lateOf_51 : decode cX4_lateOf 51 = .ok (.iload 6, 2) := by decide +kernel
theorem dX4_lateOf_53 : decode cX4_lateOf 53 = .ok (.iadd, 1) := by decide +kernel
theorem dX4_lateOf_54 : decode cX4_lateOf 54 = .ok (.iaload, 1) := by decide +kernel
theorem dX4_lateOf_55 : decode cX4_lateOf 55 = .ok (.i2l, 1) := by decide +kernel
theorem dX4_lateOf_56 : decode cX4_lateOf 56 = .ok (.lmul, 1) := by decide +kernel
theorem dX4_lateOf_57 : decode cX4_lateOf 57 = .ok (.ladd, 1) := by decide +kernel
theorem dX4_lateOf_58 : decode cX4_lateOf 58 = .ok (.lstore_n 2, 1) := by decide +kernel
theorem dX4_lateOf_59 : decode cX4_lateOf 59 = .ok (.iinc 4 1, 3) := by decide +kernel
theorem dX4_lateOf_62 : decode cX4_lateOf 62 = .ok (.goto (-57), 3) := by decide +kernel
theorem dX4_lateOf_65 : decode cX4_lateOf 65 = .ok (.lload_n 2, 1) := by decide +kernel
theorem dX4_lateOf_66 : decode cX4_lateOf 66 = .ok (.lreturn, 1) := by decide +kernel
theorem dX5_init_0 : decode cX5_init 0 = .ok (.aload_n 0, 1) := by decide +kernel
theorem dX5_init_1 : decode cX5_init 1 = .ok (.invokespecial 1, 3) := by decide +kernel
theorem dX5_init_4 : decode cX5_init 4 = .ok (.return_, 1) := by decide +kernel
theorem dX5_span_0 : decode cX5_span 0 = .ok (.aload_n 0, 1) := by decide +kernel
theorem dX5_span_1 : decode cX5_span 1 = .ok (.iload_n 1, 1) := by decide +kernel
theorem dX5_span_2 : decode cX5_span 2 = .ok (.i2l, 1) := by decide +kernel
theorem dX5_span_3 : decode cX5_span 3 = .ok (.putfield 7, 3) := by decide +kernel
theorem dX5_span_6 : decode cX5_span 6 = .ok (.aload_n 0, 1) := by decide +kernel
theorem dX5_span_7 : decode cX5_span 7 = .ok (.lconst 1, 1) := by decide +kernel
theorem dX5_span_8 : decode cX5_span 8 = .ok (.putfield 13, 3) := by decide +kernel
theorem dX5_span_11 : decode cX5_span 11 = .ok (.aload_n 0, 1) := by decide +kernel
theorem dX5_span_12 : decode cX5_span 12 = .ok (.iload_n 2, 1) := by decide +kernel
theorem dX5_span_13 : decode cX5_span 13 = .ok (.i2l, 1) := by decide +kernel
theorem dX5_span_14 : decode cX5_span 14 = .ok (.putfield 16, 3) := by decide +kernel
theorem dX5_span_17 : decode cX5_span 17 = .ok (.aload_n 0, 1) := by decide +kernel
theorem dX5_span_18 : decode cX5_span 18 = .ok (.lconst 1, 1) := by decide +kernel
theorem dX5_span_19 : decode cX5_span 19 = .ok (.putfield 19, 3) := by decide +kernel
theorem dX5_span_22 : decode cX5_span 22 = .ok (.return_, 1) := by decide +kernel
theorem dX5_copy_0 : decode cX5_copy 0 = .ok (.aload_n 0, 1) := by decide +kernel
theorem dX5_copy_1 : decode cX5_copy 1 = .ok (.aload_n 1, 1) := by decide +kernel
theorem dX5_copy_2 : decode cX5_copy 2 = .ok (.getfield 7, 3) := by decide +kernel
theorem dX5_copy_5 : decode cX5_copy 5 = .ok (.putfield 7, 3) := by decide +kernel
theorem dX5_copy_8 : decode cX5_copy 8 = .ok (.aload_n 0, 1) := by decide +kernel
theorem dX5_copy_9 : decode cX5_copy 9 = .ok (.aload_n 1, 1) := by decide +kernel
theorem dX5_copy_10 : decode cX5_copy 10 = .ok (.getfield 13, 3) := by decide +kernel
theorem dX5_copy_13 : decode cX5_copy 13 = .ok (.putfield 13, 3) := by decide +kernel
theorem dX5_copy_16 : decode cX5_copy 16 = .ok (.aload_n 0, 1) := by decide +kernel
theorem dX5_copy_17 : decode cX5_copy 17 = .ok (.aload_n 1, 1) := by decide +kernel
theorem dX5_copy_18 : decode cX5_copy 18 = .ok (.getfield 16, 3) := by decide +kernel
theorem dX5_copy_21 : decode cX5_copy 21 = .ok (.putfield 16, 3) := by decide +kernel
theorem dX5_copy_24 : decode cX5_copy 24 = .ok (.aload_n 0, 1) := by decide +kernel
theorem dX5_copy_25 : decode cX5_copy 25 = .ok (.aload_n 1, 1) := by decide +kernel
theorem dX5_copy_26 : decode cX5_copy 26 = .ok (.getfield 19, 3) := by decide +kernel
theorem dX5_copy_29 : decode cX5_copy 29 = .ok (.putfield 19, 3) := by decide +kernel
theorem dX5_copy_32 : decode cX5_copy 32 = .ok (.return_, 1) := by decide +kernel
set_option maxRecDepth 20000 in
theorem ggX5_leastCount_X1_ceiling : GoodIn wsX5_leastCount wsX1_ceiling := goodIn_r _ [6, 7, 8, 9, 10, 11, 12, 13, 14] (by decide +kernel) (by decide +kernel)
set_option maxRecDepth 20000 in
theorem gX5_leastCount_X1_ceiling : GoodIn wsX5_leastCount (va_wsS RX5 22 yX1_ceiling wsX1_ceiling) := goodIn_app (goodIn_of _ (by decide +kernel)) ggX5_leastCount_X1_ceiling
theorem dX5_leastCount_0 : decode cX5_leastCount 0 = .ok (.lload_n 1, 1) := by decide +kernel
theorem dX5_leastCount_1 : decode cX5_leastCount 1 = .ok (.aload_n 0, 1) := by decide +kernel
theorem dX5_leastCount_2 : decode cX5_leastCount 2 = .ok (.getfield 19, 3) := by decide +kernel
theorem dX5_leastCount_5 : decode cX5_leastCount 5 = .ok (.lmul, 1) := by decide +kernel
theorem dX5_leastCount_6 : decode cX5_leastCount 6 = .ok (.aload_n 0, 1) := by decide +kernel
theorem dX5_leastCount_7 : decode cX5_leastCount 7 = .ok (.getfield 16, 3) := by decide +kernel
theorem dX5_leastCount_10 : decode cX5_leastCount 10 = .ok (.invokestatic 22, 3) := by decide +kernel
theorem dX5_leastCount_13 : decode cX5_leastCount 13 = .ok (.lreturn, 1) := by decide +kernel
set_option maxRecDepth 20000 in
theorem ggX5_greatestCount_X1_floor : GoodIn wsX5_greatestCount wsX1_floor := goodIn_r _ [6, 7, 8, 9, 10, 11, 12, 13, 14] (by decide +kernel) (by decide +kernel)
set_option maxRecDepth 20000 in
theorem gX5_greatestCount_X1_floor : GoodIn wsX5_greatestCount (va_wsS RX5 28 yX1_floor wsX1_floor) := goodIn_app (goodIn_of _ (by decide +kernel)) ggX5_greatestCount_X1_floor
theorem dX5_greatestCount_0 : decode cX5_greatestCount 0 = .ok (.lload_n 1, 1) := by decide +kernel
theorem dX5_greatestCount_1 : decode cX5_greatestCount 1 = .ok (.aload_n 0, 1) := by decide +kernel
theorem dX5_greatestCount_2 : decode cX5_greatestCount 2 = .ok (.getfield 13, 3) := by decide +kernel
theorem dX5_greatestCount_5 : decode cX5_greatestCount 5 = .ok (.lmul, 1) := by decide +kernel
theorem dX5_greatestCount_6 : decode cX5_greatestCount 6 = .ok (.aload_n 0, 1) := by decide +kernel
theorem dX5_greatestCount_7 : decode cX5_greatestCount 7 = .ok (.getfield 7, 3) := by decide +kernel
theorem dX5_greatestCount_10 : decode cX5_greatestCount 10 = .ok (.invokestatic 28, 3) := by decide +kernel
theorem dX5_greatestCount_13 : decode cX5_greatestCount 13 = .ok (.lreturn, 1) := by decide +kernel
set_option maxRecDepth 20000 in
theorem ggX5_narrow_X5_copy : GoodIn wsX5_narrow wsX5_copy := goodIn_r _ [9, 2, 1, 4, 3, 10, 11, 12, 13] (by decide +kernel) (by decide +kernel)
set_option maxRecDepth 20000 in
theorem gX5_narrow_X5_copy : GoodIn wsX5_narrow (wsV RX5 31 RX5 yX5_copy wsX5_copy) := goodIn_app (goodIn_of _ (by decide +kernel)) ggX5_narrow_X5_copy
theorem dX5_narrow_0 : decode cX5_narrow 0 = .ok (.aload_n 0, 1) := by decide +kernel
theorem dX5_narrow_1 : decode cX5_narrow 1 = .ok (.aload_n 1, 1) := by decide +kernel
theorem dX5_narrow_2 : decode cX5_narrow 2 = .ok (.invokevirtual 31, 3) := by decide +kernel
theorem dX5_narrow_5 : decode cX5_narrow 5 = .ok (.lload_n 2, 1) := by decide +kernel
theorem dX5_narrow_6 : decode cX5_narrow 6 = .ok (.aload_n 0, 1) := by decide +kernel
theorem dX5_narrow_7 : decode cX5_narrow 7 = .ok (.getfield 13, 3) := by decide +kernel
theorem dX5_narrow_10 : decode cX5_narrow 10 = .ok (.lmul, 1) := by decide +kernel
theorem dX5_narrow_11 : decode cX5_narrow 11 = .ok (.aload_n 0, 1) := by decide +kernel
theorem dX5_narrow_12 : decode cX5_narrow 12 = .ok (.getfield 7, 3) := by decide +kernel
theorem dX5_narrow_15 : decode cX5_narrow 15 = .ok (.lload 6, 2) := by decide +kernel
theorem dX5_narrow_17 : decode cX5_narrow 17 = .ok (.lmul, 1) := by decide +kernel
theorem dX5_narrow_18 : decode cX5_narrow 18 = .ok (.lcmp, 1) := by decide +kernel
theorem dX5_narrow_19 : decode cX5_narrow 19 = .ok (.ifCond .le 14, 3) := by decide +kernel
theorem dX5_narrow_22 : decode cX5_narrow 22 = .ok (.aload_n 0, 1) := by decide +kernel
theorem dX5_narrow_23 : decode cX5_narrow 23 = .ok (.lload_n 2, 1) := by decide +kernel
theorem dX5_narrow_24 : decode cX5_narrow 24 = .ok (.putfield 7, 3) := by decide +kernel
theorem dX5_narrow_27 : decode cX5_narrow 27 = .ok (.aload_n 0, 1) := by decide +kernel
theorem dX5_narrow_28 : decode cX5_narrow 28 = .ok (.lload 6, 2) := by decide +kernel
theorem dX5_narrow_30 : decode cX5_narrow 30 = .ok (.putfield 13, 3) := by decide +kernel
theorem dX5_narrow_33 : decode cX5_narrow 33 = .ok (.lload 4, 2) := by decide +kernel
theorem dX5_narrow_35 : decode cX5_narrow 35 = .ok (.aload_n 0, 1) := by decide +kernel
theorem dX5_narrow_36 : decode cX5_narrow 36 = .ok (.getfield 19, 3) := by decide +kernel
theorem dX5_narrow_39 : decode cX5_narrow 39 = .ok (.lmul, 1) := by decide +kernel
theorem dX5_narrow_40 : decode cX5_narrow 40 = .ok (.aload_n 0, 1) := by decide +kernel
theorem dX5_narrow_41 : decode cX5_narrow 41 = .ok (.getfield 16, 3) := by decide +kernel
theorem dX5_narrow_44 : decode cX5_narrow 44 = .ok (.lload 6, 2) := by decide +kernel
theorem dX5_narrow_46 : decode cX5_narrow 46 = .ok (.lmul, 1) := by decide +kernel
theorem dX5_narrow_47 : decode cX5_narrow 47 = .ok (.lcmp, 1) := by decide +kernel
theorem dX5_narrow_48 : decode cX5_narrow 48 = .ok (.ifCond .ge 15, 3) := by decide +kernel
theorem dX5_narrow_51 : decode cX5_narrow 51 = .ok (.aload_n 0, 1) := by decide +kernel
theorem dX5_narrow_52 : decode cX5_narrow 52 = .ok (.lload 4, 2) := by decide +kernel
theorem dX5_narrow_54 : decode cX5_narrow 54 = .ok (.putfield 16, 3) := by decide +kernel
theorem dX5_narrow_57 : decode cX5_narrow 57 = .ok (.aload_n 0, 1) := by decide +kernel
theorem dX5_narrow_58 : decode cX5_narrow 58 = .ok (.lload 6, 2) := by decide +kernel
theorem dX5_narrow_60 : decode cX5_narrow 60 = .ok (.putfield 19, 3) := by decide +kernel
theorem dX5_narrow_63 : decode cX5_narrow 63 = .ok (.return_, 1) := by decide +kernel
set_option maxRecDepth 20000 in
theorem ggX6_placeOf_X6_sumOf : GoodIn wsX6_placeOf wsX6_sumOf := goodIn_r _ [4] (by decide +kernel) (by decide +kernel)
set_option maxRecDepth 20000 in
theorem gX6_placeOf_X6_sumOf : GoodIn wsX6_placeOf (va_wsS RX6 7 yX6_sumOf wsX6_sumOf) := goodIn_app (goodIn_of _ (by decide +kernel)) ggX6_placeOf_X6_sumOf
set_option maxRecDepth 20000 in
theorem ggX6_placeOf_X6_squareAt : GoodIn wsX6_placeOf wsX6_squareAt := goodIn_r _ [7, 1, 2, 3, 4] (by decide +kernel) (by decide +kernel)
set_option maxRecDepth 20000 in
theorem gX6_placeOf_X6_squareAt : GoodIn wsX6_placeOf (va_wsS RX6 13 yX6_squareAt wsX6_squareAt) := goodIn_app (goodIn_of _ (by decide +kernel)) ggX6_placeOf_X6_squareAt
set_option maxRecDepth 20000 in
theorem ggX6_placeOf_X6_weight : GoodIn wsX6_placeOf wsX6_weight := goodIn_r _ [10] (by decide +kernel) (by decide +kernel)
set_option maxRecDepth 20000 in
theorem gX6_placeOf_X6_weight : GoodIn wsX6_placeOf (va_wsS RX6 17 yX6_weight wsX6_weight) := goodIn_app (goodIn_of _ (by decide +kernel)) ggX6_placeOf_X6_weight
set_option maxRecDepth 20000 in
theorem ggX6_placeOf_X1_isAtLeast : GoodIn wsX6_placeOf wsX1_isAtLeast := goodIn_r _ [14, 15, 16, 13, 17, 18, 19, 20, 21, 22, 23, 24, 25] (by decide +kernel) (by decide +kernel)
set_option maxRecDepth 20000 in
theorem gX6_placeOf_X1_isAtLeast : GoodIn wsX6_placeOf (va_wsS RX6 21 yX1_isAtLeast wsX1_isAtLeast) := goodIn_app (goodIn_of _ (by decide +kernel)) ggX6_placeOf_X1_isAtLeast
theorem dX6_placeOf_0 : decode cX6_placeOf 0 = .ok (.aload_n 0, 1) := by decide +kernel
theorem dX6_placeOf_1 : decode cX6_placeOf 1 = .ok (.iload_n 1, 1) := by decide +kernel
theorem dX6_placeOf_2 : decode cX6_placeOf 2 = .ok (.invokestatic 7, 3) := by decide +kernel
theorem dX6_placeOf_5 : decode cX6_placeOf 5 = .ok (.lstore_n 2, 1) := by decide +kernel
theorem dX6_placeOf_6 : decode cX6_placeOf 6 = .ok (.iconst 2, 1) := by decide +kernel
theorem dX6_placeOf_7 : decode cX6_placeOf 7 = .ok (.istore 4, 2) := by decide +kernel
theorem dX6_placeOf_9 : decode cX6_placeOf 9 = .ok (.iconst 3, 1) := by decide +kernel
theorem dX6_placeOf_10 : decode cX6_placeOf 10 = .ok (.istore 5, 2) := by decide +kernel
theorem dX6_placeOf_12 : decode cX6_placeOf 12 = .ok (.iload 5, 2) := by decide +kernel
theorem dX6_placeOf_14 : decode cX6_placeOf 14 = .ok (.iload_n 1, 1) := by decide +kernel
theorem dX6_placeOf_15 : decode cX6_placeOf 15 = .ok (.iconst 2, 1) := by decide +kernel
theorem dX6_placeOf_16 : decode cX6_placeOf 16 = .ok (.isub, 1) := by decide +kernel
theorem dX6_placeOf_17 : decode cX6_placeOf 17 = .ok (.if_icmp .gt 49, 3) := by decide +kernel
theorem dX6_placeOf_20 : decode cX6_placeOf 20 = .ok (.aload_n 0, 1) := by decide +kernel
theorem dX6_placeOf_21 : decode cX6_placeOf 21 = .ok (.iload_n 1, 1) := by decide +kernel
theorem dX6_placeOf_22 : decode cX6_placeOf 22 = .ok (.iload 4, 2) := by decide +kernel
theorem dX6_placeOf_24 : decode cX6_placeOf 24 = .ok (.lload_n 2, 1) := by decide +kernel
theorem dX6_placeOf_25 : decode cX6_placeOf 25 = .ok (.invokestatic 13, 3) := by decide +kernel
theorem dX6_placeOf_28 : decode cX6_placeOf 28 = .ok (.iload_n 1, 1) := by decide +kernel
theorem dX6_placeOf_29 : decode cX6_placeOf 29 = .ok (.iload 4, 2) := by decide +kernel
theorem dX6_placeOf_31 : decode cX6_placeOf 31 = .ok (.invokestatic 17, 3) := by decide +kernel
theorem dX6_placeOf_34 : decode cX6_placeOf 34 = .ok (.i2l, 1) := by decide +kernel
theorem dX6_placeOf_35 : decode cX6_placeOf 35 = .ok (.aload_n 0, 1) := by decide +kernel
theorem dX6_placeOf_36 : decode cX6_placeOf 36 = .ok (.iload_n 1, 1) := by decide +kernel
theorem dX6_placeOf_37 : decode cX6_placeOf 37 = .ok (.iload 5, 2) := by decide +kernel
theorem dX6_placeOf_39 : decode cX6_placeOf 39 = .ok (.lload_n 2, 1) := by decide +kernel
theorem dX6_placeOf_40 : decode cX6_placeOf 40 = .ok (.invokestatic 13, 3) := by decide +kernel
theorem dX6_placeOf_43 : decode cX6_placeOf 43 = .ok (.iload_n 1, 1) := by decide +kernel
theorem dX6_placeOf_44 : decode cX6_placeOf 44 = .ok (.iload 5, 2) := by decide +kernel
theorem dX6_placeOf_46 : decode cX6_placeOf 46 = .ok (.invokestatic 17, 3) := by decide +kernel
theorem dX6_placeOf_49 : decode cX6_placeOf 49 = .ok (.i2l, 1) := by decide +kernel
theorem dX6_placeOf_50 : decode cX6_placeOf 50 = .ok (.invokestatic 21, 3) := by decide +kernel
theorem dX6_placeOf_53 : decode cX6_placeOf 53 = .ok (.ifCond .ne 7, 3) := by decide +kernel
theorem dX6_placeOf_56 : decode cX6_placeOf 56 = .ok (.iload 5, 2) := by decide +kernel
theorem dX6_placeOf_58 : decode cX6_placeOf 58 = .ok (.istore 4, 2) := by decide +kernel
theorem dX6_placeOf_60 : decode cX6_placeOf 60 = .ok (.iinc 5 1, 3) := by decide +kernel
theorem dX6_placeOf_63 : decode cX6_placeOf 63 = .ok (.goto (-51), 3) := by decide +kernel
theorem dX6_placeOf_66 : decode cX6_placeOf 66 = .ok (.iload 4, 2) := by decide +kernel
theorem dX6_placeOf_68 : decode cX6_placeOf 68 = .ok (.ireturn, 1) := by decide +kernel
theorem dX6_sumOf_0 : decode cX6_sumOf 0 = .ok (.lconst 0, 1) := by decide +kernel
theorem dX6_sumOf_1 : decode cX6_sumOf 1 = .ok (.lstore_n 2, 1) := by decide +kernel
theorem dX6_sumOf_2 : decode cX6_sumOf 2 = .ok (.iconst 0, 1) := by decide +kernel
theorem dX6_sumOf_3 : decode cX6_sumOf 3 = .ok (.istore 4, 2) := by decide +kernel
theorem dX6_sumOf_5 : decode cX6_sumOf 5 = .ok (.iload 4, 2) := by decide +kernel
theorem dX6_sumOf_7 : decode cX6_sumOf 7 = .ok (.iload_n 1, 1) := by decide +kernel
theorem dX6_sumOf_8 : decode cX6_sumOf 8 = .ok (.if_icmp .ge 17, 3) := by decide +kernel
theorem dX6_sumOf_11 : decode cX6_sumOf 11 = .ok (.lload_n 2, 1) := by decide +kernel
theorem dX6_sumOf_12 : decode cX6_sumOf 12 = .ok (.aload_n 0, 1) := by decide +kernel
theorem dX6_sumOf_13 : decode cX6_sumOf 13 = .ok (.iload 4, 2) := by decide +kernel
theorem dX6_sumOf_15 : decode cX6_sumOf 15 = .ok (.iaload, 1) := by decide +kernel
theorem dX6_sumOf_16 : decode cX6_sumOf 16 = .ok (.i2l, 1) := by decide +kernel
theorem dX6_sumOf_17 : decode cX6_sumOf 17 = .ok (.ladd, 1) := by decide +kernel
theorem dX6_sumOf_18 : decode cX6_sumOf 18 = .ok (.lstore_n 2, 1) := by decide +kernel
theorem dX6_sumOf_19 : decode cX6_sumOf 19 = .ok (.iinc 4 1, 3) := by decide +kernel
theorem dX6_sumOf_22 : decode cX6_sumOf 22 = .ok (.goto (-17), 3) := by decide +kernel
theorem dX6_sumOf_25 : decode cX6_sumOf 25 = .ok (.lload_n 2, 1) := by decide +kernel
theorem dX6_sumOf_26 : decode cX6_sumOf 26 = .ok (.lreturn, 1) := by decide +kernel
set_option maxRecDepth 20000 in
theorem ggX6_squareAt_X6_sumOf : GoodIn wsX6_squareAt wsX6_sumOf := goodIn_r _ [4] (by decide +kernel) (by decide +kernel)
set_option maxRecDepth 20000 in
theorem gX6_squareAt_X6_sumOf : GoodIn wsX6_squareAt (va_wsS RX6 7 yX6_sumOf wsX6_sumOf) := goodIn_app (goodIn_of _ (by decide +kernel)) ggX6_squareAt_X6_sumOf
theorem dX6_squareAt_0 : decode cX6_squareAt 0 = .ok (.iload_n 1, 1) := by decide +kernel
theorem dX6_squareAt_1 : decode cX6_squareAt 1 = .ok (.i2l, 1) := by decide +kernel
theorem dX6_squareAt_2 : decode cX6_squareAt 2 = .ok (.aload_n 0, 1) := by decide +kernel
theorem dX6_squareAt_3 : decode cX6_squareAt 3 = .ok (.iload_n 2, 1) := by decide +kernel
theorem dX6_squareAt_4 : decode cX6_squareAt 4 = .ok (.invokestatic 7, 3) := by decide +kernel
theorem dX6_squareAt_7 : decode cX6_squareAt 7 = .ok (.lmul, 1) := by decide +kernel
theorem dX6_squareAt_8 : decode cX6_squareAt 8 = .ok (.iload_n 2, 1) := by decide +kernel
theorem dX6_squareAt_9 : decode cX6_squareAt 9 = .ok (.i2l, 1) := by decide +kernel
theorem dX6_squareAt_10 : decode cX6_squareAt 10 = .ok (.lload_n 3, 1) := by decide +kernel
theorem dX6_squareAt_11 : decode cX6_squareAt 11 = .ok (.lmul, 1) := by decide +kernel
theorem dX6_squareAt_12 : decode cX6_squareAt 12 = .ok (.lsub, 1) := by decide +kernel
theorem dX6_squareAt_13 : decode cX6_squareAt 13 = .ok (.lstore 5, 2) := by decide +kernel
theorem dX6_squareAt_15 : decode cX6_squareAt 15 = .ok (.lload 5, 2) := by decide +kernel
theorem dX6_squareAt_17 : decode cX6_squareAt 17 = .ok (.lload 5, 2) := by decide +kernel
theorem dX6_squareAt_19 : decode cX6_squareAt 19 = .ok (.lmul, 1) := by decide +kernel
theorem dX6_squareAt_20 : decode cX6_squareAt 20 = .ok (.lreturn, 1) := by decide +kernel
theorem dX6_weight_0 : decode cX6_weight 0 = .ok (.iload_n 1, 1) := by decide +kernel
theorem dX6_weight_1 : decode cX6_weight 1 = .ok (.iload_n 0, 1) := by decide +kernel
theorem dX6_weight_2 : decode cX6_weight 2 = .ok (.iload_n 1, 1) := by decide +kernel
theorem dX6_weight_3 : decode cX6_weight 3 = .ok (.isub, 1) := by decide +kernel
theorem dX6_weight_4 : decode cX6_weight 4 = .ok (.imul, 1) := by decide +kernel
theorem dX6_weight_5 : decode cX6_weight 5 = .ok (.ireturn, 1) := by decide +kernel
set_option maxRecDepth 20000 in
theorem ggX6_asGreatRows_X6_placeOf : GoodIn wsX6_asGreatRows wsX6_placeOf := goodIn_r _ [4, 5, 6, 3, 7, 8, 9, 10, 11, 12, 13, 14, 15, 16, 17, 18, 19, 20, 21, 22, 23, 24, 25, 26, 27, 28] (by decide +kernel) (by decide +kernel)
set_option maxRecDepth 20000 in
theorem gX6_asGreatRows_X6_placeOf : GoodIn wsX6_asGreatRows (va_wsS RX6 27 yX6_placeOf wsX6_placeOf) := goodIn_app (goodIn_of _ (by decide +kernel)) ggX6_asGreatRows_X6_placeOf
set_option maxRecDepth 20000 in
theorem ggX6_asGreatRows_X6_sumOf : GoodIn wsX6_asGreatRows wsX6_sumOf := goodIn_r _ [7] (by decide +kernel) (by decide +kernel)
set_option maxRecDepth 20000 in
theorem gX6_asGreatRows_X6_sumOf : GoodIn wsX6_asGreatRows (va_wsS RX6 7 yX6_sumOf wsX6_sumOf) := goodIn_app (goodIn_of _ (by decide +kernel)) ggX6_asGreatRows_X6_sumOf
set_option maxRecDepth 20000 in
theorem ggX6_asGreatRows_X6_squareAt : GoodIn wsX6_asGreatRows wsX6_squareAt := goodIn_r _ [10, 5, 6, 3, 7] (by decide +kernel) (by decide +kernel)
set_option maxRecDepth 20000 in
theorem gX6_asGreatRows_X6_squareAt : GoodIn wsX6_asGreatRows (va_wsS RX6 13 yX6_squareAt wsX6_squareAt) := goodIn_app (goodIn_of _ (by decide +kernel)) ggX6_asGreatRows_X6_squareAt
set_option maxRecDepth 20000 in
theorem ggX6_asGreatRows_X6_weight : GoodIn wsX6_asGreatRows wsX6_weight := goodIn_r _ [13] (by decide +kernel) (by decide +kernel)
set_option maxRecDepth 20000 in
theorem gX6_asGreatRows_X6_weight : GoodIn wsX6_asGreatRows (va_wsS RX6 17 yX6_weight wsX6_weight) := goodIn_app (goodIn_of _ (by decide +kernel)) ggX6_asGreatRows_X6_weight
set_option maxRecDepth 20000 in
theorem ggX6_asGreatRows_X6_isAsGreat : GoodIn wsX6_asGreatRows wsX6_isAsGreat := goodIn_r _ [31, 32, 33, 3, 34, 11, 12, 13, 14, 15, 16, 17, 18, 19, 20, 21, 22, 23, 24, 25, 26, 27, 28] (by decide +kernel) (by decide +kernel)
set_option maxRecDepth 20000 in
theorem gX6_asGreatRows_X6_isAsGreat : GoodIn wsX6_asGreatRows (va_wsS RX6 31 yX6_isAsGreat wsX6_isAsGreat) := goodIn_app (goodIn_of _ (by decide +kernel)) ggX6_asGreatRows_X6_isAsGreat
theorem dX6_asGreatRows_0 : decode cX6_asGreatRows 0 = .ok (.aload_n 0, 1) := by decide +kernel
theorem dX6_asGreatRows_1 : decode cX6_asGreatRows 1 = .ok (.iload_n 1, 1) := by decide +kernel
theorem dX6_asGreatRows_2 : decode cX6_asGreatRows 2 = .ok (.invokestatic 27, 3) := by decide +kernel
theorem dX6_asGreatRows_5 : decode cX6_asGreatRows 5 = .ok (.istore_n 2, 1) := by decide +kernel
theorem dX6_asGreatRows_6 : decode cX6_asGreatRows 6 = .ok (.aload_n 0, 1) := by decide +kernel
theorem dX6_asGreatRows_7 : decode cX6_asGreatRows 7 = .ok (.iload_n 1, 1) := by decide +kernel
theorem dX6_asGreatRows_8 : decode cX6_asGreatRows 8 = .ok (.iload_n 2, 1) := by decide +kernel
theorem dX6_asGreatRows_9 : decode cX6_asGreatRows 9 = .ok (.aload_n 0, 1) := by decide +kernel
theorem dX6_asGreatRows_10 : decode cX6_asGreatRows 10 = .ok (.iload_n 1, 1) := by decide +kernel
theorem dX6_asGreatRows_11 : decode cX6_asGreatRows 11 = .ok (.invokestatic 7, 3) := by decide +kernel
theorem dX6_asGreatRows_14 : decode cX6_asGreatRows 14 = .ok (.invokestatic 13, 3) := by decide +kernel
theorem dX6_asGreatRows_17 : decode cX6_asGreatRows 17 = .ok (.lstore_n 3, 1) := by decide +kernel
theorem dX6_asGreatRows_18 : decode cX6_asGreatRows 18 = .ok (.iconst 0, 1) := by decide +kernel
theorem dX6_asGreatRows_19 : decode cX6_asGreatRows 19 = .ok (.istore 5, 2) := by decide +kernel
theorem dX6_asGreatRows_21 : decode cX6_asGreatRows 21 = .ok (.iconst 0, 1) := by decide +kernel
theorem dX6_asGreatRows_22 : decode cX6_asGreatRows 22 = .ok (.istore 6, 2) := by decide +kernel
theorem dX6_asGreatRows_24 : decode cX6_asGreatRows 24 = .ok (.iload 6, 2) := by decide +kernel
theorem dX6_asGreatRows_26 : decode cX6_asGreatRows 26 = .ok (.iconst 1, 1) := by decide +kernel
theorem dX6_asGreatRows_27 : decode cX6_asGreatRows 27 = .ok (.iload_n 1, 1) := by decide +kernel
theorem dX6_asGreatRows_28 : decode cX6_asGreatRows 28 = .ok (.iconst 1, 1) := by decide +kernel
theorem dX6_asGreatRows_29 : decode cX6_asGreatRows 29 = .ok (.isub, 1) := by decide +kernel
theorem dX6_asGreatRows_30 : decode cX6_asGreatRows 30 = .ok (.ishl, 1) := by decide +kernel
theorem dX6_asGreatRows_31 : decode cX6_asGreatRows 31 = .ok (.if_icmp .ge 28, 3) := by decide +kernel
theorem dX6_asGreatRows_34 : decode cX6_asGreatRows 34 = .ok (.aload_n 0, 1) := by decide +kernel
theorem dX6_asGreatRows_35 : decode cX6_asGreatRows 35 = .ok (.iload_n 1, 1) := by decide +kernel
theorem dX6_asGreatRows_36 : decode cX6_asGreatRows 36 = .ok (.iload 6, 2) := by decide +kernel
theorem dX6_asGreatRows_38 : decode cX6_asGreatRows 38 = .ok (.lload_n 3, 1) := by decide +kernel
theorem dX6_asGreatRows_39 : decode cX6_asGreatRows 39 = .ok (.iload_n 1, 1) := by decide +kernel
theorem dX6_asGreatRows_40 : decode cX6_asGreatRows 40 = .ok (.iload_n 2, 1) := by decide +kernel
theorem dX6_asGreatRows_41 : decode cX6_asGreatRows 41 = .ok (.invokestatic 17, 3) := by decide +kernel
theorem dX6_asGreatRows_44 : decode cX6_asGreatRows 44 = .ok (.invokestatic 31, 3) := by decide +kernel
theorem dX6_asGreatRows_47 : decode cX6_asGreatRows 47 = .ok (.ifCond .eq 6, 3) := by decide +kernel
theorem dX6_asGreatRows_50 : decode cX6_asGreatRows 50 = .ok (.iinc 5 2, 3) := by decide +kernel
theorem dX6_asGreatRows_53 : decode cX6_asGreatRows 53 = .ok (.iinc 6 1, 3) := by decide +kernel
theorem dX6_asGreatRows_56 : decode cX6_asGreatRows 56 = .ok (.goto (-32), 3) := by decide +kernel
theorem dX6_asGreatRows_59 : decode cX6_asGreatRows 59 = .ok (.iload 5, 2) := by decide +kernel
theorem dX6_asGreatRows_61 : decode cX6_asGreatRows 61 = .ok (.ireturn, 1) := by decide +kernel
set_option maxRecDepth 20000 in
theorem ggX6_isAsGreat_X6_signed : GoodIn wsX6_isAsGreat wsX6_signed := goodIn_r _ [4] (by decide +kernel) (by decide +kernel)
set_option maxRecDepth 20000 in
theorem gX6_isAsGreat_X6_signed : GoodIn wsX6_isAsGreat (va_wsS RX6 35 yX6_signed wsX6_signed) := goodIn_app (goodIn_of _ (by decide +kernel)) ggX6_isAsGreat_X6_signed
set_option maxRecDepth 20000 in
theorem ggX6_isAsGreat_X6_weight : GoodIn wsX6_isAsGreat wsX6_weight := goodIn_r _ [7] (by decide +kernel) (by decide +kernel)
set_option maxRecDepth 20000 in
theorem gX6_isAsGreat_X6_weight : GoodIn wsX6_isAsGreat (va_wsS RX6 17 yX6_weight wsX6_weight) := goodIn_app (goodIn_of _ (by decide +kernel)) ggX6_isAsGreat_X6_weight
set_option maxRecDepth 20000 in
theorem ggX6_isAsGreat_X1_isAtLeast : GoodIn wsX6_isAsGreat wsX1_isAtLeast := goodIn_r _ [11, 12, 13, 10, 14, 15, 16, 17, 18, 19, 20, 21, 22] (by decide +kernel) (by decide +kernel)
set_option maxRecDepth 20000 in
theorem gX6_isAsGreat_X1_isAtLeast : GoodIn wsX6_isAsGreat (va_wsS RX6 21 yX1_isAtLeast wsX1_isAtLeast) := goodIn_app (goodIn_of _ (by decide +kernel)) ggX6_isAsGreat_X1_isAtLeast
theorem dX6_isAsGreat_0 : decode cX6_isAsGreat 0 = .ok (.lconst 0, 1) := by decide +kernel
theorem dX6_isAsGreat_1 : decode cX6_isAsGreat 1 = .ok (.lstore 6, 2) := by decide +kernel
theorem dX6_isAsGreat_3 : decode cX6_isAsGreat 3 = .ok (.iconst 0, 1) := by decide +kernel
theorem dX6_isAsGreat_4 : decode cX6_isAsGreat 4 = .ok (.istore 8, 2) := by decide +kernel
theorem dX6_isAsGreat_6 : decode cX6_isAsGreat 6 = .ok (.iload 8, 2) := by decide +kernel
theorem dX6_isAsGreat_8 : decode cX6_isAsGreat 8 = .ok (.iload_n 1, 1) := by decide +kernel
theorem dX6_isAsGreat_9 : decode cX6_isAsGreat 9 = .ok (.if_icmp .ge 22, 3) := by decide +kernel
theorem dX6_isAsGreat_12 : decode cX6_isAsGreat 12 = .ok (.lload 6, 2) := by decide +kernel
theorem dX6_isAsGreat_14 : decode cX6_isAsGreat 14 = .ok (.aload_n 0, 1) := by decide +kernel
theorem dX6_isAsGreat_15 : decode cX6_isAsGreat 15 = .ok (.iload 8, 2) := by decide +kernel
theorem dX6_isAsGreat_17 : decode cX6_isAsGreat 17 = .ok (.iload_n 2, 1) := by decide +kernel
theorem dX6_isAsGreat_18 : decode cX6_isAsGreat 18 = .ok (.invokestatic 35, 3) := by decide +kernel
theorem dX6_isAsGreat_21 : decode cX6_isAsGreat 21 = .ok (.i2l, 1) := by decide +kernel
theorem dX6_isAsGreat_22 : decode cX6_isAsGreat 22 = .ok (.ladd, 1) := by decide +kernel
theorem dX6_isAsGreat_23 : decode cX6_isAsGreat 23 = .ok (.lstore 6, 2) := by decide +kernel
theorem dX6_isAsGreat_25 : decode cX6_isAsGreat 25 = .ok (.iinc 8 1, 3) := by decide +kernel
theorem dX6_isAsGreat_28 : decode cX6_isAsGreat 28 = .ok (.goto (-22), 3) := by decide +kernel
theorem dX6_isAsGreat_31 : decode cX6_isAsGreat 31 = .ok (.aload_n 0, 1) := by decide +kernel
theorem dX6_isAsGreat_32 : decode cX6_isAsGreat 32 = .ok (.iconst 0, 1) := by decide +kernel
theorem dX6_isAsGreat_33 : decode cX6_isAsGreat 33 = .ok (.iload_n 2, 1) := by decide +kernel
theorem dX6_isAsGreat_34 : decode cX6_isAsGreat 34 = .ok (.invokestatic 35, 3) := by decide +kernel
theorem dX6_isAsGreat_37 : decode cX6_isAsGreat 37 = .ok (.i2l, 1) := by decide +kernel
theorem dX6_isAsGreat_38 : decode cX6_isAsGreat 38 = .ok (.lstore 8, 2) := by decide +kernel
theorem dX6_isAsGreat_40 : decode cX6_isAsGreat 40 = .ok (.iconst 2, 1) := by decide +kernel
theorem dX6_isAsGreat_41 : decode cX6_isAsGreat 41 = .ok (.istore 10, 2) := by decide +kernel
theorem dX6_isAsGreat_43 : decode cX6_isAsGreat 43 = .ok (.iload 10, 2) := by decide +kernel
theorem dX6_isAsGreat_45 : decode cX6_isAsGreat 45 = .ok (.iload_n 1, 1) := by decide +kernel
theorem dX6_isAsGreat_46 : decode cX6_isAsGreat 46 = .ok (.iconst 2, 1) := by decide +kernel
theorem dX6_isAsGreat_47 : decode cX6_isAsGreat 47 = .ok (.isub, 1) := by decide +kernel
theorem dX6_isAsGreat_48 : decode cX6_isAsGreat 48 = .ok (.if_icmp .gt 62, 3) := by decide +kernel
theorem dX6_isAsGreat_51 : decode cX6_isAsGreat 51 = .ok (.lload 8, 2) := by decide +kernel
theorem dX6_isAsGreat_53 : decode cX6_isAsGreat 53 = .ok (.aload_n 0, 1) := by decide +kernel
theorem dX6_isAsGreat_54 : decode cX6_isAsGreat 54 = .ok (.iload 10, 2) := by decide +kernel
theorem dX6_isAsGreat_56 : decode cX6_isAsGreat 56 = .ok (.iconst 1, 1) := by decide +kernel
theorem dX6_isAsGreat_57 : decode cX6_isAsGreat 57 = .ok (.isub, 1) := by decide +kernel
theorem dX6_isAsGreat_58 : decode cX6_isAsGreat 58 = .ok (.iload_n 2, 1) := by decide +kernel
theorem dX6_isAsGreat_59 : decode cX6_isAsGreat 59 = .ok (.invokestatic 35, 3) := by decide +kernel
theorem dX6_isAsGreat_62 : decode cX6_isAsGreat 62 = .ok (.i2l, 1) := by decide +kernel
theorem dX6_isAsGreat_63 : decode cX6_isAsGreat 63 = .ok (.ladd, 1) := by decide +kernel
theorem dX6_isAsGreat_64 : decode cX6_isAsGreat 64 = .ok (.lstore 8, 2) := by decide +kernel
theorem dX6_isAsGreat_66 : decode cX6_isAsGreat 66 = .ok (.iload_n 1, 1) := by decide +kernel
theorem dX6_isAsGreat_67 : decode cX6_isAsGreat 67 = .ok (.i2l, 1) := by decide +kernel
theorem dX6_isAsGreat_68 : decode cX6_isAsGreat 68 = .ok (.lload 8, 2) := by decide +kernel
theorem dX6_isAsGreat_70 : decode cX6_isAsGreat 70 = .ok (.lmul, 1) := by decide +kernel
theorem dX6_isAsGreat_71 : decode cX6_isAsGreat 71 = .ok (.iload 10, 2) := by decide +kernel
theorem dX6_isAsGreat_73 : decode cX6_isAsGreat 73 = .ok (.i2l, 1) := by decide +kernel
theorem dX6_isAsGreat_74 : decode cX6_isAsGreat 74 = .ok (.lload 6, 2) := by decide +kernel
theorem dX6_isAsGreat_76 : decode cX6_isAsGreat 76 = .ok (.lmul, 1) := by decide +kernel
theorem dX6_isAsGreat_77 : decode cX6_isAsGreat 77 = .ok (.lsub, 1) := by decide +kernel
theorem dX6_isAsGreat_78 : decode cX6_isAsGreat 78 = .ok (.lstore 11, 2) := by decide +kernel
theorem dX6_isAsGreat_80 : decode cX6_isAsGreat 80 = .ok (.lload 11, 2) := by decide +kernel
theorem dX6_isAsGreat_82 : decode cX6_isAsGreat 82 = .ok (.lload 11, 2) := by decide +kernel
theorem dX6_isAsGreat_84 : decode cX6_isAsGreat 84 = .ok (.lmul, 1) := by decide +kernel
theorem dX6_isAsGreat_85 : decode cX6_isAsGreat 85 = .ok (.iload_n 1, 1) := by decide +kernel
theorem dX6_isAsGreat_86 : decode cX6_isAsGreat 86 = .ok (.iload 10, 2) := by decide +kernel
theorem dX6_isAsGreat_88 : decode cX6_isAsGreat 88 = .ok (.invokestatic 17, 3) := by decide +kernel
theorem dX6_isAsGreat_91 : decode cX6_isAsGreat 91 = .ok (.i2l, 1) := by decide +kernel
theorem dX6_isAsGreat_92 : decode cX6_isAsGreat 92 = .ok (.lload_n 3, 1) := by decide +kernel
theorem dX6_isAsGreat_93 : decode cX6_isAsGreat 93 = .ok (.iload 5, 2) := by decide +kernel
theorem dX6_isAsGreat_95 : decode cX6_isAsGreat 95 = .ok (.i2l, 1) := by decide +kernel
theorem dX6_isAsGreat_96 : decode cX6_isAsGreat 96 = .ok (.invokestatic 21, 3) := by decide +kernel
theorem dX6_isAsGreat_99 : decode cX6_isAsGreat 99 = .ok (.ifCond .eq 5, 3) := by decide +kernel
theorem dX6_isAsGreat_102 : decode cX6_isAsGreat 102 = .ok (.iconst 1, 1) := by decide +kernel
theorem dX6_isAsGreat_103 : decode cX6_isAsGreat 103 = .ok (.ireturn, 1) := by decide +kernel
theorem dX6_isAsGreat_104 : decode cX6_isAsGreat 104 = .ok (.iinc 10 1, 3) := by decide +kernel
theorem dX6_isAsGreat_107 : decode cX6_isAsGreat 107 = .ok (.goto (-64), 3) := by decide +kernel
theorem dX6_isAsGreat_110 : decode cX6_isAsGreat 110 = .ok (.iconst 0, 1) := by decide +kernel
theorem dX6_isAsGreat_111 : decode cX6_isAsGreat 111 = .ok (.ireturn, 1) := by decide +kernel
theorem dX6_signed_0 : decode cX6_signed 0 = .ok (.iload_n 2, 1) := by decide +kernel
theorem dX6_signed_1 : decode cX6_signed 1 = .ok (.iload_n 1, 1) := by decide +kernel
theorem dX6_signed_2 : decode cX6_signed 2 = .ok (.ishr, 1) := by decide +kernel
theorem dX6_signed_3 : decode cX6_signed 3 = .ok (.iconst 1, 1) := by decide +kernel
theorem dX6_signed_4 : decode cX6_signed 4 = .ok (.iand, 1) := by decide +kernel
theorem dX6_signed_5 : decode cX6_signed 5 = .ok (.iconst 1, 1) := by decide +kernel
theorem dX6_signed_6 : decode cX6_signed 6 = .ok (.if_icmp .ne 10, 3) := by decide +kernel
theorem dX6_signed_9 : decode cX6_signed 9 = .ok (.aload_n 0, 1) := by decide +kernel
theorem dX6_signed_10 : decode cX6_signed 10 = .ok (.iload_n 1, 1) := by decide +kernel
theorem dX6_signed_11 : decode cX6_signed 11 = .ok (.iaload, 1) := by decide +kernel
theorem dX6_signed_12 : decode cX6_signed 12 = .ok (.ineg, 1) := by decide +kernel
theorem dX6_signed_13 : decode cX6_signed 13 = .ok (.goto 6, 3) := by decide +kernel
theorem dX6_signed_16 : decode cX6_signed 16 = .ok (.aload_n 0, 1) := by decide +kernel
theorem dX6_signed_17 : decode cX6_signed 17 = .ok (.iload_n 1, 1) := by decide +kernel
theorem dX6_signed_18 : decode cX6_signed 18 = .ok (.iaload, 1) := by decide +kernel
theorem dX6_signed_19 : decode cX6_signed 19 = .ok (.ireturn, 1) := by decide +kernel
theorem dX7_init_0 : decode cX7_init 0 = .ok (.aload_n 0, 1) := by decide +kernel
theorem dX7_init_1 : decode cX7_init 1 = .ok (.invokespecial 3, 3) := by decide +kernel
theorem dX7_init_4 : decode cX7_init 4 = .ok (.aload_n 0, 1) := by decide +kernel
theorem dX7_init_5 : decode cX7_init 5 = .ok (.bipush 96, 2) := by decide +kernel
theorem dX7_init_7 : decode cX7_init 7 = .ok (.newarray .int, 2) := by decide +kernel
theorem dX7_init_9 : decode cX7_init 9 = .ok (.putfield 11, 3) := by decide +kernel
theorem dX7_init_12 : decode cX7_init 12 = .ok (.aload_n 0, 1) := by decide +kernel
theorem dX7_init_13 : decode cX7_init 13 = .ok (.bipush 24, 2) := by decide +kernel
theorem dX7_init_15 : decode cX7_init 15 = .ok (.newarray .int, 2) := by decide +kernel
theorem dX7_init_17 : decode cX7_init 17 = .ok (.putfield 15, 3) := by decide +kernel
theorem dX7_init_20 : decode cX7_init 20 = .ok (.return_, 1) := by decide +kernel
theorem dX7_isFull_0 : decode cX7_isFull 0 = .ok (.aload_n 0, 1) := by decide +kernel
theorem dX7_isFull_1 : decode cX7_isFull 1 = .ok (.getfield 18, 3) := by decide +kernel
theorem dX7_isFull_4 : decode cX7_isFull 4 = .ok (.bipush 24, 2) := by decide +kernel
theorem dX7_isFull_6 : decode cX7_isFull 6 = .ok (.if_icmp .lt 7, 3) := by decide +kernel
theorem dX7_isFull_9 : decode cX7_isFull 9 = .ok (.iconst 1, 1) := by decide +kernel
theorem dX7_isFull_10 : decode cX7_isFull 10 = .ok (.goto 4, 3) := by decide +kernel
theorem dX7_isFull_13 : decode cX7_isFull 13 = .ok (.iconst 0, 1) := by decide +kernel
theorem dX7_isFull_14 : decode cX7_isFull 14 = .ok (.ireturn, 1) := by decide +kernel
set_option maxRecDepth 20000 in
theorem ggX7_put_X7_placeBehind : GoodIn wsX7_put wsX7_placeBehind := goodIn_r _ [11, 2, 1, 18, 19, 20, 21] (by decide +kernel) (by decide +kernel)
set_option maxRecDepth 20000 in
theorem gX7_put_X7_placeBehind : GoodIn wsX7_put (wsV RX7 22 RX7 yX7_placeBehind wsX7_placeBehind) := goodIn_app (goodIn_of _ (by decide +kernel)) ggX7_put_X7_placeBehind
set_option maxRecDepth 20000 in
theorem ggX7_put_X7_see : GoodIn wsX7_put wsX7_see := goodIn_r _ [15, 16, 2, 1, 17, 18, 19, 20, 21] (by decide +kernel) (by decide +kernel)
set_option maxRecDepth 20000 in
theorem gX7_put_X7_see : GoodIn wsX7_put (wsV RX7 32 RX7 yX7_see wsX7_see) := goodIn_app (goodIn_of _ (by decide +kernel)) ggX7_put_X7_see
theorem dX7_put_0 : decode cX7_put 0 = .ok (.aload_n 0, 1) := by decide +kernel
theorem dX7_put_1 : decode cX7_put 1 = .ok (.iload_n 1, 1) := by decide +kernel
theorem dX7_put_2 : decode cX7_put 2 = .ok (.invokevirtual 22, 3) := by decide +kernel
theorem dX7_put_5 : decode cX7_put 5 = .ok (.iconst 4, 1) := by decide +kernel
theorem dX7_put_6 : decode cX7_put 6 = .ok (.imul, 1) := by decide +kernel
theorem dX7_put_7 : decode cX7_put 7 = .ok (.istore 6, 2) := by decide +kernel
theorem dX7_put_9 : decode cX7_put 9 = .ok (.aload_n 0, 1) := by decide +kernel
theorem dX7_put_10 : decode cX7_put 10 = .ok (.getfield 11, 3) := by decide +kernel
theorem dX7_put_13 : decode cX7_put 13 = .ok (.iload 6, 2) := by decide +kernel
theorem dX7_put_15 : decode cX7_put 15 = .ok (.aload_n 0, 1) := by decide +kernel
theorem dX7_put_16 : decode cX7_put 16 = .ok (.getfield 11, 3) := by decide +kernel
theorem dX7_put_19 : decode cX7_put 19 = .ok (.iload 6, 2) := by decide +kernel
theorem dX7_put_21 : decode cX7_put 21 = .ok (.iconst 4, 1) := by decide +kernel
theorem dX7_put_22 : decode cX7_put 22 = .ok (.iadd, 1) := by decide +kernel
theorem dX7_put_23 : decode cX7_put 23 = .ok (.aload_n 0, 1) := by decide +kernel
theorem dX7_put_24 : decode cX7_put 24 = .ok (.getfield 18, 3) := by decide +kernel
theorem dX7_put_27 : decode cX7_put 27 = .ok (.iconst 4, 1) := by decide +kernel
theorem dX7_put_28 : decode cX7_put 28 = .ok (.imul, 1) := by decide +kernel
theorem dX7_put_29 : decode cX7_put 29 = .ok (.iload 6, 2) := by decide +kernel
theorem dX7_put_31 : decode cX7_put 31 = .ok (.isub, 1) := by decide +kernel
theorem dX7_put_32 : decode cX7_put 32 = .ok (.invokestatic 26, 3) := by decide +kernel
theorem dX7_put_35 : decode cX7_put 35 = .ok (.aload_n 0, 1) := by decide +kernel
theorem dX7_put_36 : decode cX7_put 36 = .ok (.getfield 11, 3) := by decide +kernel
theorem dX7_put_39 : decode cX7_put 39 = .ok (.iload 6, 2) := by decide +kernel
theorem dX7_put_41 : decode cX7_put 41 = .ok (.iconst 0, 1) := by decide +kernel
theorem dX7_put_42 : decode cX7_put 42 = .ok (.iadd, 1) := by decide +kernel
theorem dX7_put_43 : decode cX7_put 43 = .ok (.iload_n 1, 1) := by decide +kernel
theorem dX7_put_44 : decode cX7_put 44 = .ok (.iastore, 1) := by decide +kernel
theorem dX7_put_45 : decode cX7_put 45 = .ok (.aload_n 0, 1) := by decide +kernel
theorem dX7_put_46 : decode cX7_put 46 = .ok (.getfield 11, 3) := by decide +kernel
theorem dX7_put_49 : decode cX7_put 49 = .ok (.iload 6, 2) := by decide +kernel
theorem dX7_put_51 : decode cX7_put 51 = .ok (.iconst 1, 1) := by decide +kernel
theorem dX7_put_52 : decode cX7_put 52 = .ok (.iadd, 1) := by decide +kernel
theorem dX7_put_53 : decode cX7_put 53 = .ok (.iload_n 2, 1) := by decide +kernel
theorem dX7_put_54 : decode cX7_put 54 = .ok (.iastore, 1) := by decide +kernel
theorem dX7_put_55 : decode cX7_put 55 = .ok (.aload_n 0, 1) := by decide +kernel
theorem dX7_put_56 : decode cX7_put 56 = .ok (.getfield 11, 3) := by decide +kernel
theorem dX7_put_59 : decode cX7_put 59 = .ok (.iload 6, 2) := by decide +kernel
theorem dX7_put_61 : decode cX7_put 61 = .ok (.iconst 2, 1) := by decide +kernel
theorem dX7_put_62 : decode cX7_put 62 = .ok (.iadd, 1) := by decide +kernel
theorem dX7_put_63 : decode cX7_put 63 = .ok (.iload_n 3, 1) := by decide +kernel
theorem dX7_put_64 : decode cX7_put 64 = .ok (.iastore, 1) := by decide +kernel
theorem dX7_put_65 : decode cX7_put 65 = .ok (.aload_n 0, 1) := by decide +kernel
theorem dX7_put_66 : decode cX7_put 66 = .ok (.getfield 11, 3) := by decide +kernel
theorem dX7_put_69 : decode cX7_put 69 = .ok (.iload 6, 2) := by decide +kernel
theorem dX7_put_71 : decode cX7_put 71 = .ok (.iconst 3, 1) := by decide +kernel
theorem dX7_put_72 : decode cX7_put 72 = .ok (.iadd, 1) := by decide +kernel
theorem dX7_put_73 : decode cX7_put 73 = .ok (.iload 4, 2) := by decide +kernel
theorem dX7_put_75 : decode cX7_put 75 = .ok (.iastore, 1) := by decide +kernel
theorem dX7_put_76 : decode cX7_put 76 = .ok (.aload_n 0, 1) := by decide +kernel
theorem dX7_put_77 : decode cX7_put 77 = .ok (.dup, 1) := by decide +kernel
theorem dX7_put_78 : decode cX7_put 78 = .ok (.getfield 18, 3) := by decide +kernel
theorem dX7_put_81 : decode cX7_put 81 = .ok (.iconst 1, 1) := by decide +kernel
theorem dX7_put_82 : decode cX7_put 82 = .ok (.iadd, 1) := by decide +kernel
theorem dX7_put_83 : decode cX7_put 83 = .ok (.putfield 18, 3) := by decide +kernel
theorem dX7_put_86 : decode cX7_put 86 = .ok (.aload_n 0, 1) := by decide +kernel
theorem dX7_put_87 : decode cX7_put 87 = .ok (.iload 5, 2) := by decide +kernel
theorem dX7_put_89 : decode cX7_put 89 = .ok (.invokevirtual 32, 3) := by decide +kernel
theorem dX7_put_92 : decode cX7_put 92 = .ok (.aload_n 0, 1) := by decide +kernel
theorem dX7_put_93 : decode cX7_put 93 = .ok (.getfield 18, 3) := by decide +kernel
theorem dX7_put_96 : decode cX7_put 96 = .ok (.ireturn, 1) := by decide +kernel
theorem dX7_placeBehind_0 : decode cX7_placeBehind 0 = .ok (.aload_n 0, 1) := by decide +kernel
theorem dX7_placeBehind_1 : decode cX7_placeBehind 1 = .ok (.getfield 18, 3) := by decide +kernel
theorem dX7_placeBehind_4 : decode cX7_placeBehind 4 = .ok (.istore_n 2, 1) := by decide +kernel
theorem dX7_placeBehind_5 : decode cX7_placeBehind 5 = .ok (.iload_n 2, 1) := by decide +kernel
theorem dX7_placeBehind_6 : decode cX7_placeBehind 6 = .ok (.ifCond .le 25, 3) := by decide +kernel
theorem dX7_placeBehind_9 : decode cX7_placeBehind 9 = .ok (.aload_n 0, 1) := by decide +kernel
theorem dX7_placeBehind_10 : decode cX7_placeBehind 10 = .ok (.getfield 11, 3) := by decide +kernel
theorem dX7_placeBehind_13 : decode cX7_placeBehind 13 = .ok (.iload_n 2, 1) := by decide +kernel
theorem dX7_placeBehind_14 : decode cX7_placeBehind 14 = .ok (.iconst 1, 1) := by decide +kernel
theorem dX7_placeBehind_15 : decode cX7_placeBehind 15 = .ok (.isub, 1) := by decide +kernel
theorem dX7_placeBehind_16 : decode cX7_placeBehind 16 = .ok (.iconst 4, 1) := by decide +kernel
theorem dX7_placeBehind_17 : decode cX7_placeBehind 17 = .ok (.imul, 1) := by decide +kernel
theorem dX7_placeBehind_18 : decode cX7_placeBehind 18 = .ok (.iconst 0, 1) := by decide +kernel
theorem dX7_placeBehind_19 : decode cX7_placeBehind 19 = .ok (.iadd, 1) := by decide +kernel
theorem dX7_placeBehind_20 : decode cX7_placeBehind 20 = .ok (.iaload, 1) := by decide +kernel
theorem dX7_placeBehind_21 : decode cX7_placeBehind 21 = .ok (.iload_n 1, 1) := by decide +kernel
theorem dX7_placeBehind_22 : decode cX7_placeBehind 22 = .ok (.if_icmp .le 9, 3) := by decide +kernel
theorem dX7_placeBehind_25 : decode cX7_placeBehind 25 = .ok (.iinc 2 (-1), 3) := by decide +kernel
theorem dX7_placeBehind_28 : decode cX7_placeBehind 28 = .ok (.goto (-23), 3) := by decide +kernel
theorem dX7_placeBehind_31 : decode cX7_placeBehind 31 = .ok (.iload_n 2, 1) := by decide +kernel
theorem dX7_placeBehind_32 : decode cX7_placeBehind 32 = .ok (.ireturn, 1) := by decide +kernel
theorem dX7_dropAll_0 : decode cX7_dropAll 0 = .ok (.aload_n 0, 1) := by decide +kernel
theorem dX7_dropAll_1 : decode cX7_dropAll 1 = .ok (.getfield 18, 3) := by decide +kernel
theorem dX7_dropAll_4 : decode cX7_dropAll 4 = .ok (.istore_n 1, 1) := by decide +kernel
theorem dX7_dropAll_5 : decode cX7_dropAll 5 = .ok (.aload_n 0, 1) := by decide +kernel
theorem dX7_dropAll_6 : decode cX7_dropAll 6 = .ok (.iconst 0, 1) := by decide +kernel
theorem dX7_dropAll_7 : decode cX7_dropAll 7 = .ok (.putfield 18, 3) := by decide +kernel
theorem dX7_dropAll_10 : decode cX7_dropAll 10 = .ok (.aload_n 0, 1) := by decide +kernel
theorem dX7_dropAll_11 : decode cX7_dropAll 11 = .ok (.iconst 0, 1) := by decide +kernel
theorem dX7_dropAll_12 : decode cX7_dropAll 12 = .ok (.putfield 36, 3) := by decide +kernel
theorem dX7_dropAll_15 : decode cX7_dropAll 15 = .ok (.iload_n 1, 1) := by decide +kernel
theorem dX7_dropAll_16 : decode cX7_dropAll 16 = .ok (.ireturn, 1) := by decide +kernel
theorem dX7_see_0 : decode cX7_see 0 = .ok (.aload_n 0, 1) := by decide +kernel
theorem dX7_see_1 : decode cX7_see 1 = .ok (.iconst 0, 1) := by decide +kernel
theorem dX7_see_2 : decode cX7_see 2 = .ok (.putfield 36, 3) := by decide +kernel
theorem dX7_see_5 : decode cX7_see 5 = .ok (.iconst 0, 1) := by decide +kernel
theorem dX7_see_6 : decode cX7_see 6 = .ok (.istore_n 2, 1) := by decide +kernel
theorem dX7_see_7 : decode cX7_see 7 = .ok (.iload_n 2, 1) := by decide +kernel
theorem dX7_see_8 : decode cX7_see 8 = .ok (.aload_n 0, 1) := by decide +kernel
theorem dX7_see_9 : decode cX7_see 9 = .ok (.getfield 18, 3) := by decide +kernel
theorem dX7_see_12 : decode cX7_see 12 = .ok (.if_icmp .ge 43, 3) := by decide +kernel
theorem dX7_see_15 : decode cX7_see 15 = .ok (.aload_n 0, 1) := by decide +kernel
theorem dX7_see_16 : decode cX7_see 16 = .ok (.getfield 11, 3) := by decide +kernel
theorem dX7_see_19 : decode cX7_see 19 = .ok (.iload_n 2, 1) := by decide +kernel
theorem dX7_see_20 : decode cX7_see 20 = .ok (.iconst 4, 1) := by decide +kernel
theorem dX7_see_21 : decode cX7_see 21 = .ok (.imul, 1) := by decide +kernel
theorem dX7_see_22 : decode cX7_see 22 = .ok (.iconst 3, 1) := by decide +kernel
theorem dX7_see_23 : decode cX7_see 23 = .ok (.iadd, 1) := by decide +kernel
theorem dX7_see_24 : decode cX7_see 24 = .ok (.iaload, 1) := by decide +kernel
theorem dX7_see_25 : decode cX7_see 25 = .ok (.iload_n 1, 1) := by decide +kernel
theorem dX7_see_26 : decode cX7_see 26 = .ok (.if_icmp .gt 23, 3) := by decide +kernel
theorem dX7_see_29 : decode cX7_see 29 = .ok (.aload_n 0, 1) := by decide +kernel
theorem dX7_see_30 : decode cX7_see 30 = .ok (.getfield 15, 3) := by decide +kernel
theorem dX7_see_33 : decode cX7_see 33 = .ok (.aload_n 0, 1) := by decide +kernel
theorem dX7_see_34 : decode cX7_see 34 = .ok (.getfield 36, 3) := by decide +kernel
theorem dX7_see_37 : decode cX7_see 37 = .ok (.iload_n 2, 1) := by decide +kernel
theorem dX7_see_38 : decode cX7_see 38 = .ok (.iastore, 1) := by decide +kernel
theorem dX7_see_39 : decode cX7_see 39 = .ok (.aload_n 0, 1) := by decide +kernel
theorem dX7_see_40 : decode cX7_see 40 = .ok (.dup, 1) := by decide +kernel
theorem dX7_see_41 : decode cX7_see 41 = .ok (.getfield 36, 3) := by decide +kernel
theorem dX7_see_44 : decode cX7_see 44 = .ok (.iconst 1, 1) := by decide +kernel
theorem dX7_see_45 : decode cX7_see 45 = .ok (.iadd, 1) := by decide +kernel
theorem dX7_see_46 : decode cX7_see 46 = .ok (.putfield 36, 3) := by decide +kernel
theorem dX7_see_49 : decode cX7_see 49 = .ok (.iinc 2 1, 3) := by decide +kernel
theorem dX7_see_52 : decode cX7_see 52 = .ok (.goto (-45), 3) := by decide +kernel
theorem dX7_see_55 : decode cX7_see 55 = .ok (.return_, 1) := by decide +kernel
theorem dX7_value_0 : decode cX7_value 0 = .ok (.aload_n 0, 1) := by decide +kernel
theorem dX7_value_1 : decode cX7_value 1 = .ok (.getfield 11, 3) := by decide +kernel
theorem dX7_value_4 : decode cX7_value 4 = .ok (.aload_n 0, 1) := by decide +kernel
theorem dX7_value_5 : decode cX7_value 5 = .ok (.getfield 15, 3) := by decide +kernel
theorem dX7_value_8 : decode cX7_value 8 = .ok (.iload_n 1, 1) := by decide +kernel
theorem dX7_value_9 : decode cX7_value 9 = .ok (.iaload, 1) := by decide +kernel
theorem dX7_value_10 : decode cX7_value 10 = .ok (.iconst 4, 1) := by decide +kernel
theorem dX7_value_11 : decode cX7_value 11 = .ok (.imul, 1) := by decide +kernel
theorem dX7_value_12 : decode cX7_value 12 = .ok (.iload_n 2, 1) := by decide +kernel
theorem dX7_value_13 : decode cX7_value 13 = .ok (.iadd, 1) := by decide +kernel
theorem dX7_value_14 : decode cX7_value 14 = .ok (.iaload, 1) := by decide +kernel
theorem dX7_value_15 : decode cX7_value 15 = .ok (.ireturn, 1) := by decide +kernel
theorem dX8_init_0 : decode cX8_init 0 = .ok (.aload_n 0, 1) := by decide +kernel
theorem dX8_init_1 : decode cX8_init 1 = .ok (.invokespecial 3, 3) := by decide +kernel
theorem dX8_init_4 : decode cX8_init 4 = .ok (.aload_n 0, 1) := by decide +kernel
theorem dX8_init_5 : decode cX8_init 5 = .ok (.iconst 3, 1) := by decide +kernel
theorem dX8_init_6 : decode cX8_init 6 = .ok (.newarray .int, 2) := by decide +kernel
theorem dX8_init_8 : decode cX8_init 8 = .ok (.putfield 9, 3) := by decide +kernel
theorem dX8_init_11 : decode cX8_init 11 = .ok (.aload_n 0, 1) := by decide +kernel
theorem dX8_init_12 : decode cX8_init 12 = .ok (.iconst 2, 1) := by decide +kernel
theorem dX8_init_13 : decode cX8_init 13 = .ok (.bipush 11, 2) := by decide +kernel
theorem dX8_init_15 : decode cX8_init 15 = .ok (.multianewarray 15 2, 4) := by decide +kernel
theorem dX8_init_19 : decode cX8_init 19 = .ok (.putfield 17, 3) := by decide +kernel
theorem dX8_init_22 : decode cX8_init 22 = .ok (.aload_n 0, 1) := by decide +kernel
theorem dX8_init_23 : decode cX8_init 23 = .ok (.ldc 20, 2) := by decide +kernel
theorem dX8_init_25 : decode cX8_init 25 = .ok (.putfield 21, 3) := by decide +kernel
theorem dX8_init_28 : decode cX8_init 28 = .ok (.return_, 1) := by decide +kernel
theorem dX8_correct_0 : decode cX8_correct 0 = .ok (.iload_n 1, 1) := by decide +kernel
theorem dX8_correct_1 : decode cX8_correct 1 = .ok (.aload_n 0, 1) := by decide +kernel
theorem dX8_correct_2 : decode cX8_correct 2 = .ok (.getfield 9, 3) := by decide +kernel
theorem dX8_correct_5 : decode cX8_correct 5 = .ok (.iload_n 2, 1) := by decide +kernel
theorem dX8_correct_6 : decode cX8_correct 6 = .ok (.iaload, 1) := by decide +kernel
theorem dX8_correct_7 : decode cX8_correct 7 = .ok (.isub, 1) := by decide +kernel
theorem dX8_correct_8 : decode cX8_correct 8 = .ok (.aload_n 0, 1) := by decide +kernel
theorem dX8_correct_9 : decode cX8_correct 9 = .ok (.getfield 17, 3) := by decide +kernel
theorem dX8_correct_12 : decode cX8_correct 12 = .ok (.iload_n 3, 1) := by decide +kernel
theorem dX8_correct_13 : decode cX8_correct 13 = .ok (.aaload, 1) := by decide +kernel
theorem dX8_correct_14 : decode cX8_correct 14 = .ok (.iload_n 1, 1) := by decide +kernel
theorem dX8_correct_15 : decode cX8_correct 15 = .ok (.ldc 25, 2) := by decide +kernel
theorem dX8_correct_17 : decode cX8_correct 17 = .ok (.idiv, 1) := by decide +kernel
theorem dX8_correct_18 : decode cX8_correct 18 = .ok (.iaload, 1) := by decide +kernel
theorem dX8_correct_19 : decode cX8_correct 19 = .ok (.iadd, 1) := by decide +kernel
theorem dX8_correct_20 : decode cX8_correct 20 = .ok (.ireturn, 1) := by decide +kernel
theorem dX9_init_0 : decode cX9_init 0 = .ok (.aload_n 0, 1) := by decide +kernel
theorem dX9_init_1 : decode cX9_init 1 = .ok (.invokespecial 3, 3) := by decide +kernel
theorem dX9_init_4 : decode cX9_init 4 = .ok (.aload_n 0, 1) := by decide +kernel
theorem dX9_init_5 : decode cX9_init 5 = .ok (.sipush 200, 3) := by decide +kernel
theorem dX9_init_8 : decode cX9_init 8 = .ok (.newarray .int, 2) := by decide +kernel
theorem dX9_init_10 : decode cX9_init 10 = .ok (.putfield 11, 3) := by decide +kernel
theorem dX9_init_13 : decode cX9_init 13 = .ok (.aload_n 0, 1) := by decide +kernel
theorem dX9_init_14 : decode cX9_init 14 = .ok (.iconst 5, 1) := by decide +kernel
theorem dX9_init_15 : decode cX9_init 15 = .ok (.newarray .int, 2) := by decide +kernel
theorem dX9_init_17 : decode cX9_init 17 = .ok (.putfield 15, 3) := by decide +kernel
theorem dX9_init_20 : decode cX9_init 20 = .ok (.return_, 1) := by decide +kernel
theorem dX9_hasRoom_0 : decode cX9_hasRoom 0 = .ok (.aload_n 0, 1) := by decide +kernel
theorem dX9_hasRoom_1 : decode cX9_hasRoom 1 = .ok (.getfield 18, 3) := by decide +kernel
theorem dX9_hasRoom_4 : decode cX9_hasRoom 4 = .ok (.iload_n 1, 1) := by decide +kernel
theorem dX9_hasRoom_5 : decode cX9_hasRoom 5 = .ok (.iadd, 1) := by decide +kernel
theorem dX9_hasRoom_6 : decode cX9_hasRoom 6 = .ok (.sipush 200, 3) := by decide +kernel
theorem dX9_hasRoom_9 : decode cX9_hasRoom 9 = .ok (.if_icmp .gt 7, 3) := by decide +kernel
theorem dX9_hasRoom_12 : decode cX9_hasRoom 12 = .ok (.iconst 1, 1) := by decide +kernel
theorem dX9_hasRoom_13 : decode cX9_hasRoom 13 = .ok (.goto 4, 3) := by decide +kernel
theorem dX9_hasRoom_16 : decode cX9_hasRoom 16 = .ok (.iconst 0, 1) := by decide +kernel
theorem dX9_hasRoom_17 : decode cX9_hasRoom 17 = .ok (.ireturn, 1) := by decide +kernel
theorem dX9_append_0 : decode cX9_append 0 = .ok (.iload_n 1, 1) := by decide +kernel
theorem dX9_append_1 : decode cX9_append 1 = .ok (.iconst 1, 1) := by decide +kernel
theorem dX9_append_2 : decode cX9_append 2 = .ok (.isub, 1) := by decide +kernel
theorem dX9_append_3 : decode cX9_append 3 = .ok (.istore 4, 2) := by decide +kernel
theorem dX9_append_5 : decode cX9_append 5 = .ok (.iload 4, 2) := by decide +kernel
theorem dX9_append_7 : decode cX9_append 7 = .ok (.ifCond .lt 40, 3) := by decide +kernel
theorem dX9_append_10 : decode cX9_append 10 = .ok (.aload_n 0, 1) := by decide +kernel
theorem dX9_append_11 : decode cX9_append 11 = .ok (.getfield 11, 3) := by decide +kernel
theorem dX9_append_14 : decode cX9_append 14 = .ok (.aload_n 0, 1) := by decide +kernel
theorem dX9_append_15 : decode cX9_append 15 = .ok (.getfield 18, 3) := by decide +kernel
theorem dX9_append_18 : decode cX9_append 18 = .ok (.lload_n 2, 1) := by decide +kernel
theorem dX9_append_19 : decode cX9_append 19 = .ok (.bipush 8, 2) := by decide +kernel
theorem dX9_append_21 : decode cX9_append 21 = .ok (.iload 4, 2) := by decide +kernel
theorem dX9_append_23 : decode cX9_append 23 = .ok (.imul, 1) := by decide +kernel
theorem dX9_append_24 : decode cX9_append 24 = .ok (.lushr, 1) := by decide +kernel
theorem dX9_append_25 : decode cX9_append 25 = .ok (.l2i, 1) := by decide +kernel
theorem dX9_append_26 : decode cX9_append 26 = .ok (.sipush 255, 3) := by decide +kernel
theorem dX9_append_29 : decode cX9_append 29 = .ok (.iand, 1) := by decide +kernel
theorem dX9_append_30 : decode cX9_append 30 = .ok (.iastore, 1) := by decide +kernel
theorem dX9_append_31 : decode cX9_append 31 = .ok (.aload_n 0, 1) := by decide +kernel
theorem dX9_append_32 : decode cX9_append 32 = .ok (.dup, 1) := by decide +kernel
theorem dX9_append_33 : decode cX9_append 33 = .ok (.getfield 18, 3) := by decide +kernel
theorem dX9_append_36 : decode cX9_append 36 = .ok (.iconst 1, 1) := by decide +kernel
theorem dX9_append_37 : decode cX9_append 37 = .ok (.iadd, 1) := by decide +kernel
theorem dX9_append_38 : decode cX9_append 38 = .ok (.putfield 18, 3) := by decide +kernel
theorem dX9_append_41 : decode cX9_append 41 = .ok (.iinc 4 (-1), 3) := by decide +kernel
theorem dX9_append_44 : decode cX9_append 44 = .ok (.goto (-39), 3) := by decide +kernel
theorem dX9_append_47 : decode cX9_append 47 = .ok (.aload_n 0, 1) := by decide +kernel
theorem dX9_append_48 : decode cX9_append 48 = .ok (.getfield 18, 3) := by decide +kernel
theorem dX9_append_51 : decode cX9_append 51 = .ok (.ireturn, 1) := by decide +kernel
theorem dX9_empty_0 : decode cX9_empty 0 = .ok (.aload_n 0, 1) := by decide +kernel
theorem dX9_empty_1 : decode cX9_empty 1 = .ok (.getfield 18, 3) := by decide +kernel
theorem dX9_empty_4 : decode cX9_empty 4 = .ok (.istore_n 1, 1) := by decide +kernel
theorem dX9_empty_5 : decode cX9_empty 5 = .ok (.aload_n 0, 1) := by decide +kernel
theorem dX9_empty_6 : decode cX9_empty 6 = .ok (.iconst 0, 1) := by decide +kernel
theorem dX9_empty_7 : decode cX9_empty 7 = .ok (.putfield 18, 3) := by decide +kernel
theorem dX9_empty_10 : decode cX9_empty 10 = .ok (.iload_n 1, 1) := by decide +kernel
theorem dX9_empty_11 : decode cX9_empty 11 = .ok (.ireturn, 1) := by decide +kernel
set_option maxRecDepth 20000 in
theorem ggX9_read_X4_empty : GoodIn wsX9_read wsX4_empty := goodIn_r _ [7, 8, 9, 10, 11, 12, 13, 14, 15, 89, 90, 91, 92, 93, 94, 95, 96, 97, 98, 99, 100] (by decide +kernel) (by decide +kernel)
set_option maxRecDepth 20000 in
theorem gX9_read_X4_empty : GoodIn wsX9_read (wsV RX9 22 RX4 yX4_empty wsX4_empty) := goodIn_app (goodIn_of _ (by decide +kernel)) ggX9_read_X4_empty
set_option maxRecDepth 20000 in
theorem ggX9_read_X9_readItem : GoodIn wsX9_read wsX9_readItem := goodIn_r _ [20, 21, 22, 23, 24, 19, 25, 1, 26, 27, 28, 29, 2, 30, 31, 32, 33, 34, 35, 36, 37, 38, 39, 40, 41, 42, 43, 6, 44, 8, 45, 46, 47, 48, 49, 50, 51, 52, 9, 53, 54, 55, 56, 57, 58, 59, 60, 61, 11, 62, 10, 63, 64, 65, 66, 13, 67, 12, 68, 69, 70, 71, 14, 72, 73, 74, 75, 76, 77, 78, 79, 80, 81, 82, 15, 83, 84, 85, 86, 87, 88, 89, 90, 91, 92, 93, 94, 95, 96, 97, 98, 99, 100] (by decide +kernel) (by decide +kernel)
set_option maxRecDepth 20000 in
theorem gX9_read_X9_readItem : GoodIn wsX9_read (wsV RX9 30 RX9 yX9_readItem wsX9_readItem) := goodIn_app (goodIn_of _ (by decide +kernel)) ggX9_read_X9_readItem
theorem dX9_read_0 : decode cX9_read 0 = .ok (.aload_n 1, 1) := by decide +kernel
theorem dX9_read_1 : decode cX9_read 1 = .ok (.invokevirtual 22, 3) := by decide +kernel
theorem dX9_read_4 : decode cX9_read 4 = .ok (.aload_n 0, 1) := by decide +kernel
theorem dX9_read_5 : decode cX9_read 5 = .ok (.iconst 0, 1) := by decide +kernel
theorem dX9_read_6 : decode cX9_read 6 = .ok (.putfield 27, 3) := by decide +kernel
theorem dX9_read_9 : decode cX9_read 9 = .ok (.iconst 0, 1) := by decide +kernel
theorem dX9_read_10 : decode cX9_read 10 = .ok (.istore_n 2, 1) := by decide +kernel
theorem dX9_read_11 : decode cX9_read 11 = .ok (.iload_n 2, 1) := by decide +kernel
theorem dX9_read_12 : decode cX9_read 12 = .ok (.sipush 200, 3) := by decide +kernel
theorem dX9_read_15 : decode cX9_read 15 = .ok (.if_icmp .ge 35, 3) := by decide +kernel
theorem dX9_read_18 : decode cX9_read 18 = .ok (.aload_n 0, 1) := by decide +kernel
theorem dX9_read_19 : decode cX9_read 19 = .ok (.getfield 27, 3) := by decide +kernel
theorem dX9_read_22 : decode cX9_read 22 = .ok (.aload_n 0, 1) := by decide +kernel
theorem dX9_read_23 : decode cX9_read 23 = .ok (.getfield 18, 3) := by decide +kernel
theorem dX9_read_26 : decode cX9_read 26 = .ok (.if_icmp .ge 24, 3) := by decide +kernel
theorem dX9_read_29 : decode cX9_read 29 = .ok (.aload_n 0, 1) := by decide +kernel
theorem dX9_read_30 : decode cX9_read 30 = .ok (.getfield 27, 3) := by decide +kernel
theorem dX9_read_33 : decode cX9_read 33 = .ok (.istore_n 3, 1) := by decide +kernel
theorem dX9_read_34 : decode cX9_read 34 = .ok (.aload_n 0, 1) := by decide +kernel
theorem dX9_read_35 : decode cX9_read 35 = .ok (.aload_n 1, 1) := by decide +kernel
theorem dX9_read_36 : decode cX9_read 36 = .ok (.invokevirtual 30, 3) := by decide +kernel
theorem dX9_read_39 : decode cX9_read 39 = .ok (.ifCond .ne 5, 3) := by decide +kernel
theorem dX9_read_42 : decode cX9_read 42 = .ok (.iload_n 3, 1) := by decide +kernel
theorem dX9_read_43 : decode cX9_read 43 = .ok (.ireturn, 1) := by decide +kernel
theorem dX9_read_44 : decode cX9_read 44 = .ok (.iinc 2 1, 3) := by decide +kernel
theorem dX9_read_47 : decode cX9_read 47 = .ok (.goto (-36), 3) := by decide +kernel
theorem dX9_read_50 : decode cX9_read 50 = .ok (.aload_n 1, 1) := by decide +kernel
theorem dX9_read_51 : decode cX9_read 51 = .ok (.getfield 34, 3) := by decide +kernel
theorem dX9_read_54 : decode cX9_read 54 = .ok (.ifCond .ne 7, 3) := by decide +kernel
theorem dX9_read_57 : decode cX9_read 57 = .ok (.iconst 0, 1) := by decide +kernel
theorem dX9_read_58 : decode cX9_read 58 = .ok (.goto 5, 3) := by decide +kernel
theorem dX9_read_61 : decode cX9_read 61 = .ok (.bipush (-4), 2) := by decide +kernel
theorem dX9_read_63 : decode cX9_read 63 = .ok (.ireturn, 1) := by decide +kernel
set_option maxRecDepth 20000 in
theorem ggX9_readItem_X9_nextByte : GoodIn wsX9_readItem wsX9_nextByte := goodIn_r _ [6, 7, 8, 9, 10, 5, 11, 12, 13, 77, 78, 79, 80] (by decide +kernel) (by decide +kernel)
set_option maxRecDepth 20000 in
theorem gX9_readItem_X9_nextByte : GoodIn wsX9_readItem (wsV RX9 37 RX9 yX9_nextByte wsX9_nextByte) := goodIn_app (goodIn_of _ (by decide +kernel)) ggX9_readItem_X9_nextByte
set_option maxRecDepth 20000 in
theorem ggX9_readItem_X9_numbersOf : GoodIn wsX9_readItem wsX9_numbersOf := goodIn_r _ [16] (by decide +kernel) (by decide +kernel)
set_option maxRecDepth 20000 in
theorem gX9_readItem_X9_numbersOf : GoodIn wsX9_readItem (va_wsS RX9 41 yX9_numbersOf wsX9_numbersOf) := goodIn_app (goodIn_of _ (by decide +kernel)) ggX9_readItem_X9_numbersOf
set_option maxRecDepth 20000 in
theorem ggX9_readItem_X9_readNumber : GoodIn wsX9_readItem wsX9_readNumber := goodIn_r _ [20, 7, 1, 8, 9, 10, 5, 11, 12, 13, 21, 22, 23, 2, 3, 4, 6, 77, 78, 79, 80] (by decide +kernel) (by decide +kernel)
set_option maxRecDepth 20000 in
theorem gX9_readItem_X9_readNumber : GoodIn wsX9_readItem (wsV RX9 45 RX9 yX9_readNumber wsX9_readNumber) := goodIn_app (goodIn_of _ (by decide +kernel)) ggX9_readItem_X9_readNumber
set_option maxRecDepth 20000 in
theorem ggX9_readItem_X4_put : GoodIn wsX9_readItem wsX4_put := goodIn_r _ [28, 29, 30, 31, 32, 27, 33, 34, 35, 36, 37, 38, 39, 40, 41, 42, 43, 44, 45, 46, 47, 48, 49, 50, 51, 52, 53, 54, 55, 56, 57, 58, 59, 60, 61, 62, 63, 64, 65, 66, 67, 68, 69, 70, 71, 72, 73, 74, 75, 76, 81, 82, 83, 84, 85, 86, 87, 88, 89, 90, 91, 92] (by decide +kernel) (by decide +kernel)
set_option maxRecDepth 20000 in
theorem gX9_readItem_X4_put : GoodIn wsX9_readItem (wsV RX9 49 RX4 yX4_put wsX4_put) := goodIn_app (goodIn_of _ (by decide +kernel)) ggX9_readItem_X4_put
theorem dX9_readItem_0 : decode cX9_readItem 0 = .ok (.aload_n 0, 1) := by decide +kernel
theorem dX9_readItem_1 : decode cX9_readItem 1 = .ok (.invokevirtual 37, 3) := by decide +kernel
theorem dX9_readItem_4 : decode cX9_readItem 4 = .ok (.istore_n 2, 1) := by decide +kernel
theorem dX9_readItem_5 : decode cX9_readItem 5 = .ok (.iload_n 2, 1) := by decide +kernel
theorem dX9_readItem_6 : decode cX9_readItem 6 = .ok (.invokestatic 41, 3) := by decide +kernel
theorem dX9_readItem_9 : decode cX9_readItem 9 = .ok (.istore_n 3, 1) := by decide +kernel
theorem dX9_readItem_10 : decode cX9_readItem 10 = .ok (.iconst 0, 1) := by decide +kernel
theorem dX9_readItem_11 : decode cX9_readItem 11 = .ok (.istore 4, 2) := by decide +kernel
theorem dX9_readItem_13 : decode cX9_readItem 13 = .ok (.iload 4, 2) := by decide +kernel
theorem dX9_readItem_15 : decode cX9_readItem 15 = .ok (.iload_n 3, 1) := by decide +kernel
theorem dX9_readItem_16 : decode cX9_readItem 16 = .ok (.if_icmp .ge 42, 3) := by decide +kernel
theorem dX9_readItem_19 : decode cX9_readItem 19 = .ok (.aload_n 0, 1) := by decide +kernel
theorem dX9_readItem_20 : decode cX9_readItem 20 = .ok (.iload 4, 2) := by decide +kernel
theorem dX9_readItem_22 : decode cX9_readItem 22 = .ok (.invokevirtual 45, 3) := by decide +kernel
theorem dX9_readItem_25 : decode cX9_readItem 25 = .ok (.ifCond .eq 25, 3) := by decide +kernel
theorem dX9_readItem_28 : decode cX9_readItem 28 = .ok (.aload_n 0, 1) := by decide +kernel
theorem dX9_readItem_29 : decode cX9_readItem 29 = .ok (.invokevirtual 37, 3) := by decide +kernel
theorem dX9_readItem_32 : decode cX9_readItem 32 = .ok (.iload 4, 2) := by decide +kernel
theorem dX9_readItem_34 : decode cX9_readItem 34 = .ok (.iload_n 3, 1) := by decide +kernel
theorem dX9_readItem_35 : decode cX9_readItem 35 = .ok (.iconst 1, 1) := by decide +kernel
theorem dX9_readItem_36 : decode cX9_readItem 36 = .ok (.isub, 1) := by decide +kernel
theorem dX9_readItem_37 : decode cX9_readItem 37 = .ok (.if_icmp .ge 8, 3) := by decide +kernel
theorem dX9_readItem_40 : decode cX9_readItem 40 = .ok (.bipush 44, 2) := by decide +kernel
theorem dX9_readItem_42 : decode cX9_readItem 42 = .ok (.goto 5, 3) := by decide +kernel
theorem dX9_readItem_45 : decode cX9_readItem 45 = .ok (.bipush 59, 2) := by decide +kernel
theorem dX9_readItem_47 : decode cX9_readItem 47 = .ok (.if_icmp .eq 5, 3) := by decide +kernel
theorem dX9_readItem_50 : decode cX9_readItem 50 = .ok (.iconst 0, 1) := by decide +kernel
theorem dX9_readItem_51 : decode cX9_readItem 51 = .ok (.ireturn, 1) := by decide +kernel
theorem dX9_readItem_52 : decode cX9_readItem 52 = .ok (.iinc 4 1, 3) := by decide +kernel
theorem dX9_readItem_55 : decode cX9_readItem 55 = .ok (.goto (-42), 3) := by decide +kernel
theorem dX9_readItem_58 : decode cX9_readItem 58 = .ok (.iload_n 3, 1) := by decide +kernel
theorem dX9_readItem_59 : decode cX9_readItem 59 = .ok (.ifCond .le 19, 3) := by decide +kernel
theorem dX9_readItem_62 : decode cX9_readItem 62 = .ok (.aload_n 1, 1) := by decide +kernel
theorem dX9_readItem_63 : decode cX9_readItem 63 = .ok (.iload_n 2, 1) := by decide +kernel
theorem dX9_readItem_64 : decode cX9_readItem 64 = .ok (.aload_n 0, 1) := by decide +kernel
theorem dX9_readItem_65 : decode cX9_readItem 65 = .ok (.getfield 15, 3) := by decide +kernel
theorem dX9_readItem_68 : decode cX9_readItem 68 = .ok (.invokevirtual 49, 3) := by decide +kernel
theorem dX9_readItem_71 : decode cX9_readItem 71 = .ok (.ifCond .eq 7, 3) := by decide +kernel
theorem dX9_readItem_74 : decode cX9_readItem 74 = .ok (.iconst 1, 1) := by decide +kernel
theorem dX9_readItem_75 : decode cX9_readItem 75 = .ok (.goto 4, 3) := by decide +kernel
theorem dX9_readItem_78 : decode cX9_readItem 78 = .ok (.iconst 0, 1) := by decide +kernel
theorem dX9_readItem_79 : decode cX9_readItem 79 = .ok (.ireturn, 1) := by decide +kernel
theorem dX9_numbersOf_0 : decode cX9_numbersOf 0 = .ok (.iload_n 0, 1) := by decide +kernel
theorem dX9_numbersOf_1 : decode cX9_numbersOf 1 = .ok (.lookupswitch 57 #[(99, 55), (100, 51), (112, 51), (115, 53), (122, 51)], 51) := by decide +kernel
theorem dX9_numbersOf_52 : decode cX9_numbersOf 52 = .ok (.iconst 1, 1) := by decide +kernel
theorem dX9_numbersOf_53 : decode cX9_numbersOf 53 = .ok (.ireturn, 1) := by decide +kernel
theorem dX9_numbersOf_54 : decode cX9_numbersOf 54 = .ok (.iconst 2, 1) := by decide +kernel
theorem dX9_numbersOf_55 : decode cX9_numbersOf 55 = .ok (.ireturn, 1) := by decide +kernel
theorem dX9_numbersOf_56 : decode cX9_numbersOf 56 = .ok (.iconst 5, 1) := by decide +kernel
theorem dX9_numbersOf_57 : decode cX9_numbersOf 57 = .ok (.ireturn, 1) := by decide +kernel
theorem dX9_numbersOf_58 : decode cX9_numbersOf 58 = .ok (.iconst 0, 1) := by decide +kernel
theorem dX9_numbersOf_59 : decode cX9_numbersOf 59 = .ok (.ireturn, 1) := by decide +kernel
set_option maxRecDepth 20000 in
theorem ggX9_readNumber_X9_peek : GoodIn wsX9_readNumber wsX9_peek := goodIn_r _ [7, 1, 8, 9, 17, 18, 19, 20] (by decide +kernel) (by decide +kernel)
set_option maxRecDepth 20000 in
theorem gX9_readNumber_X9_peek : GoodIn wsX9_readNumber (wsV RX9 53 RX9 yX9_peek wsX9_peek) := goodIn_app (goodIn_of _ (by decide +kernel)) ggX9_readNumber_X9_peek
set_option maxRecDepth 20000 in
theorem ggX9_readNumber_X9_isFigure : GoodIn wsX9_readNumber wsX9_isFigure := goodIn_r _ [12] (by decide +kernel) (by decide +kernel)
set_option maxRecDepth 20000 in
theorem gX9_readNumber_X9_isFigure : GoodIn wsX9_readNumber (va_wsS RX9 56 yX9_isFigure wsX9_isFigure) := goodIn_app (goodIn_of _ (by decide +kernel)) ggX9_readNumber_X9_isFigure
set_option maxRecDepth 20000 in
theorem ggX9_readNumber_X9_nextByte : GoodIn wsX9_readNumber wsX9_nextByte := goodIn_r _ [16, 1, 3, 4, 5, 6, 7, 8, 9, 17, 18, 19, 20] (by decide +kernel) (by decide +kernel)
set_option maxRecDepth 20000 in
theorem gX9_readNumber_X9_nextByte : GoodIn wsX9_readNumber (wsV RX9 37 RX9 yX9_nextByte wsX9_nextByte) := goodIn_app (goodIn_of _ (by decide +kernel)) ggX9_readNumber_X9_nextByte
theorem dX9_readNumber_0 : decode cX9_readNumber 0 = .ok (.aload_n 0, 1) := by decide +kernel
theorem dX9_readNumber_1 : decode cX9_readNumber 1 = .ok (.invokevirtual 53, 3) := by decide +kernel
theorem dX9_readNumber_4 : decode cX9_readNumber 4 = .ok (.bipush 45, 2) := by decide +kernel
theorem dX9_readNumber_6 : decode cX9_readNumber 6 = .ok (.if_icmp .ne 7, 3) := by decide +kernel
theorem dX9_readNumber_9 : decode cX9_readNumber 9 = .ok (.iconst 1, 1) := by decide +kernel
theorem dX9_readNumber_10 : decode cX9_readNumber 10 = .ok (.goto 4, 3) := by decide +kernel
theorem dX9_readNumber_13 : decode cX9_readNumber 13 = .ok (.iconst 0, 1) := by decide +kernel
theorem dX9_readNumber_14 : decode cX9_readNumber 14 = .ok (.istore_n 2, 1) := by decide +kernel
theorem dX9_readNumber_15 : decode cX9_readNumber 15 = .ok (.iload_n 2, 1) := by decide +kernel
theorem dX9_readNumber_16 : decode cX9_readNumber 16 = .ok (.ifCond .eq 13, 3) := by decide +kernel
theorem dX9_readNumber_19 : decode cX9_readNumber 19 = .ok (.aload_n 0, 1) := by decide +kernel
theorem dX9_readNumber_20 : decode cX9_readNumber 20 = .ok (.dup, 1) := by decide +kernel
theorem dX9_readNumber_21 : decode cX9_readNumber 21 = .ok (.getfield 27, 3) := by decide +kernel
theorem dX9_readNumber_24 : decode cX9_readNumber 24 = .ok (.iconst 1, 1) := by decide +kernel
theorem dX9_readNumber_25 : decode cX9_readNumber 25 = .ok (.iadd, 1) := by decide +kernel
theorem dX9_readNumber_26 : decode cX9_readNumber 26 = .ok (.putfield 27, 3) := by decide +kernel
theorem dX9_readNumber_29 : decode cX9_readNumber 29 = .ok (.iconst 0, 1) := by decide +kernel
theorem dX9_readNumber_30 : decode cX9_readNumber 30 = .ok (.istore_n 3, 1) := by decide +kernel
theorem dX9_readNumber_31 : decode cX9_readNumber 31 = .ok (.iconst 0, 1) := by decide +kernel
theorem dX9_readNumber_32 : decode cX9_readNumber 32 = .ok (.istore 4, 2) := by decide +kernel
theorem dX9_readNumber_34 : decode cX9_readNumber 34 = .ok (.iload 4, 2) := by decide +kernel
theorem dX9_readNumber_36 : decode cX9_readNumber 36 = .ok (.bipush 9, 2) := by decide +kernel
theorem dX9_readNumber_38 : decode cX9_readNumber 38 = .ok (.if_icmp .ge 32, 3) := by decide +kernel
theorem dX9_readNumber_41 : decode cX9_readNumber 41 = .ok (.aload_n 0, 1) := by decide +kernel
theorem dX9_readNumber_42 : decode cX9_readNumber 42 = .ok (.invokevirtual 53, 3) := by decide +kernel
theorem dX9_readNumber_45 : decode cX9_readNumber 45 = .ok (.invokestatic 56, 3) := by decide +kernel
theorem dX9_readNumber_48 : decode cX9_readNumber 48 = .ok (.ifCond .eq 22, 3) := by decide +kernel
theorem dX9_readNumber_51 : decode cX9_readNumber 51 = .ok (.bipush 10, 2) := by decide +kernel
theorem dX9_readNumber_53 : decode cX9_readNumber 53 = .ok (.iload_n 3, 1) := by decide +kernel
theorem dX9_readNumber_54 : decode cX9_readNumber 54 = .ok (.imul, 1) := by decide +kernel
theorem dX9_readNumber_55 : decode cX9_readNumber 55 = .ok (.aload_n 0, 1) := by decide +kernel
theorem dX9_readNumber_56 : decode cX9_readNumber 56 = .ok (.invokevirtual 37, 3) := by decide +kernel
theorem dX9_readNumber_59 : decode cX9_readNumber 59 = .ok (.iadd, 1) := by decide +kernel
theorem dX9_readNumber_60 : decode cX9_readNumber 60 = .ok (.bipush 48, 2) := by decide +kernel
theorem dX9_readNumber_62 : decode cX9_readNumber 62 = .ok (.isub, 1) := by decide +kernel
theorem dX9_readNumber_63 : decode cX9_readNumber 63 = .ok (.istore_n 3, 1) := by decide +kernel
theorem dX9_readNumber_64 : decode cX9_readNumber 64 = .ok (.iinc 4 1, 3) := by decide +kernel
theorem dX9_readNumber_67 : decode cX9_readNumber 67 = .ok (.goto (-33), 3) := by decide +kernel
theorem dX9_readNumber_70 : decode cX9_readNumber 70 = .ok (.aload_n 0, 1) := by decide +kernel
theorem dX9_readNumber_71 : decode cX9_readNumber 71 = .ok (.getfield 15, 3) := by decide +kernel
theorem dX9_readNumber_74 : decode cX9_readNumber 74 = .ok (.iload_n 1, 1) := by decide +kernel
theorem dX9_readNumber_75 : decode cX9_readNumber 75 = .ok (.iload_n 2, 1) := by decide +kernel
theorem dX9_readNumber_76 : decode cX9_readNumber 76 = .ok (.ifCond .eq 8, 3) := by decide +kernel
theorem dX9_readNumber_79 : decode cX9_readNumber 79 = .ok (.iload_n 3, 1) := by decide +kernel
theorem dX9_readNumber_80 : decode cX9_readNumber 80 = .ok (.ineg, 1) := by decide +kernel
theorem dX9_readNumber_81 : decode cX9_readNumber 81 = .ok (.goto 4, 3) := by decide +kernel
theorem dX9_readNumber_84 : decode cX9_readNumber 84 = .ok (.iload_n 3, 1) := by decide +kernel
theorem dX9_readNumber_85 : decode cX9_readNumber 85 = .ok (.iastore, 1) := by decide +kernel
theorem dX9_readNumber_86 : decode cX9_readNumber 86 = .ok (.iload 4, 2) := by decide +kernel
theorem dX9_readNumber_88 : decode cX9_readNumber 88 = .ok (.ifCond .le 7, 3) := by decide +kernel
theorem dX9_readNumber_91 : decode cX9_readNumber 91 = .ok (.iconst 1, 1) := by decide +kernel
theorem dX9_readNumber_92 : decode cX9_readNumber 92 = .ok (.goto 4, 3) := by decide +kernel
theorem dX9_readNumber_95 : decode cX9_readNumber 95 = .ok (.iconst 0, 1) := by decide +kernel
theorem dX9_readNumber_96 : decode cX9_readNumber 96 = .ok (.ireturn, 1) := by decide +kernel
theorem dX9_isFigure_0 : decode cX9_isFigure 0 = .ok (.iload_n 0, 1) := by decide +kernel
theorem dX9_isFigure_1 : decode cX9_isFigure 1 = .ok (.bipush 48, 2) := by decide +kernel
theorem dX9_isFigure_3 : decode cX9_isFigure 3 = .ok (.if_icmp .lt 13, 3) := by decide +kernel
theorem dX9_isFigure_6 : decode cX9_isFigure 6 = .ok (.iload_n 0, 1) := by decide +kernel
theorem dX9_isFigure_7 : decode cX9_isFigure 7 = .ok (.bipush 57, 2) := by decide +kernel
theorem dX9_isFigure_9 : decode cX9_isFigure 9 = .ok (.if_icmp .gt 7, 3) := by decide +kernel
theorem dX9_isFigure_12 : decode cX9_isFigure 12 = .ok (.iconst 1, 1) := by decide +kernel
theorem dX9_isFigure_13 : decode cX9_isFigure 13 = .ok (.goto 4, 3) := by decide +kernel
theorem dX9_isFigure_16 : decode cX9_isFigure 16 = .ok (.iconst 0, 1) := by decide +kernel
theorem dX9_isFigure_17 : decode cX9_isFigure 17 = .ok (.ireturn, 1) := by decide +kernel
theorem dX9_peek_0 : decode cX9_peek 0 = .ok (.aload_n 0, 1) := by decide +kernel
theorem dX9_peek_1 : decode cX9_peek 1 = .ok (.getfield 27, 3) := by decide +kernel
theorem dX9_peek_4 : decode cX9_peek 4 = .ok (.aload_n 0, 1) := by decide +kernel
theorem dX9_peek_5 : decode cX9_peek 5 = .ok (.getfield 18, 3) := by decide +kernel
theorem dX9_peek_8 : decode cX9_peek 8 = .ok (.if_icmp .ge 15, 3) := by decide +kernel
theorem dX9_peek_11 : decode cX9_peek 11 = .ok (.aload_n 0, 1) := by decide +kernel
theorem dX9_peek_12 : decode cX9_peek 12 = .ok (.getfield 11, 3) := by decide +kernel
theorem dX9_peek_15 : decode cX9_peek 15 = .ok (.aload_n 0, 1) := by decide +kernel
theorem dX9_peek_16 : decode cX9_peek 16 = .ok (.getfield 27, 3) := by decide +kernel
theorem dX9_peek_19 : decode cX9_peek 19 = .ok (.iaload, 1) := by decide +kernel
theorem dX9_peek_20 : decode cX9_peek 20 = .ok (.goto 4, 3) := by decide +kernel
theorem dX9_peek_23 : decode cX9_peek 23 = .ok (.iconst (-1), 1) := by decide +kernel
theorem dX9_peek_24 : decode cX9_peek 24 = .ok (.ireturn, 1) := by decide +kernel
set_option maxRecDepth 20000 in
theorem ggX9_nextByte_X9_peek : GoodIn wsX9_nextByte wsX9_peek := goodIn_r _ [6, 1, 7, 8, 9, 10, 11, 12] (by decide +kernel) (by decide +kernel)
set_option maxRecDepth 20000 in
theorem gX9_nextByte_X9_peek : GoodIn wsX9_nextByte (wsV RX9 53 RX9 yX9_peek wsX9_peek) := goodIn_app (goodIn_of _ (by decide +kernel)) ggX9_nextByte_X9_peek
theorem dX9_nextByte_0 : decode cX9_nextByte 0 = .ok (.aload_n 0, 1) := by decide +kernel
theorem dX9_nextByte_1 : decode cX9_nextByte 1 = .ok (.invokevirtual 53, 3) := by decide +kernel
theorem dX9_nextByte_4 : decode cX9_nextByte 4 = .ok (.istore_n 1, 1) := by decide +kernel
theorem dX9_nextByte_5 : decode cX9_nextByte 5 = .ok (.aload_n 0, 1) := by decide +kernel
theorem dX9_nextByte_6 : decode cX9_nextByte 6 = .ok (.dup, 1) := by decide +kernel
theorem dX9_nextByte_7 : decode cX9_nextByte 7 = .ok (.getfield 27, 3) := by decide +kernel
theorem dX9_nextByte_10 : decode cX9_nextByte 10 = .ok (.iconst 1, 1) := by decide +kernel
theorem dX9_nextByte_11 : decode cX9_nextByte 11 = .ok (.iadd, 1) := by decide +kernel
theorem dX9_nextByte_12 : decode cX9_nextByte 12 = .ok (.putfield 27, 3) := by decide +kernel
theorem dX9_nextByte_15 : decode cX9_nextByte 15 = .ok (.iload_n 1, 1) := by decide +kernel
theorem dX9_nextByte_16 : decode cX9_nextByte 16 = .ok (.ireturn, 1) := by decide +kernel
set_option maxRecDepth 20000 in
theorem ggX10_init_X4_init : GoodIn wsX10_init wsX4_init := goodIn_r _ [11, 12, 2, 3, 13, 14, 15, 16, 17, 21, 22, 23, 24, 25, 26, 27, 28, 29, 30, 31, 32] (by decide +kernel) (by decide +kernel)
set_option maxRecDepth 20000 in
theorem gX10_init_X4_init_n17 : GoodIn wsX10_init (wsX4_init) := ggX10_init_X4_init
theorem dX10_init_0 : decode cX10_init 0 = .ok (.aload_n 0, 1) := by decide +kernel
theorem dX10_init_1 : decode cX10_init 1 = .ok (.invokespecial 5, 3) := by decide +kernel
theorem dX10_init_4 : decode cX10_init 4 = .ok (.aload_n 0, 1) := by decide +kernel
theorem dX10_init_5 : decode cX10_init 5 = .ok (.sipush 10001, 3) := by decide +kernel
theorem dX10_init_8 : decode cX10_init 8 = .ok (.newarray .long, 2) := by decide +kernel
theorem dX10_init_10 : decode cX10_init 10 = .ok (.putfield 11, 3) := by decide +kernel
theorem dX10_init_13 : decode cX10_init 13 = .ok (.aload_n 0, 1) := by decide +kernel
theorem dX10_init_14 : decode cX10_init 14 = .ok (.new 1, 3) := by decide +kernel
theorem dX10_init_17 : decode cX10_init 17 = .ok (.dup, 1) := by decide +kernel
theorem dX10_init_18 : decode cX10_init 18 = .ok (.invokespecial 17, 3) := by decide +kernel
theorem dX10_init_21 : decode cX10_init 21 = .ok (.putfield 18, 3) := by decide +kernel
theorem dX10_init_24 : decode cX10_init 24 = .ok (.return_, 1) := by decide +kernel
theorem dX10_stands_0 : decode cX10_stands 0 = .ok (.aload_n 0, 1) := by decide +kernel
theorem dX10_stands_1 : decode cX10_stands 1 = .ok (.getfield 22, 3) := by decide +kernel
theorem dX10_stands_4 : decode cX10_stands 4 = .ok (.ifCond .le 7, 3) := by decide +kernel
theorem dX10_stands_7 : decode cX10_stands 7 = .ok (.iconst 1, 1) := by decide +kernel
theorem dX10_stands_8 : decode cX10_stands 8 = .ok (.goto 4, 3) := by decide +kernel
theorem dX10_stands_11 : decode cX10_stands 11 = .ok (.iconst 0, 1) := by decide +kernel
theorem dX10_stands_12 : decode cX10_stands 12 = .ok (.ireturn, 1) := by decide +kernel
set_option maxRecDepth 20000 in
theorem ggX10_exchange_X4_lengthOf : GoodIn wsX10_exchange wsX4_lengthOf := goodIn_r _ [10, 11, 12, 13, 14, 15, 16, 17, 18, 19, 20, 21, 25, 26, 27, 28, 29, 30, 31, 32, 33, 34, 35, 36] (by decide +kernel) (by decide +kernel)
set_option maxRecDepth 20000 in
theorem gX10_exchange_X4_lengthOf : GoodIn wsX10_exchange (wsV RX10 31 RX4 yX4_lengthOf wsX4_lengthOf) := goodIn_app (goodIn_of _ (by decide +kernel)) ggX10_exchange_X4_lengthOf
theorem dX10_exchange_0 : decode cX10_exchange 0 = .ok (.aload_n 0, 1) := by decide +kernel
theorem dX10_exchange_1 : decode cX10_exchange 1 = .ok (.getfield 18, 3) := by decide +kernel
theorem dX10_exchange_4 : decode cX10_exchange 4 = .ok (.astore_n 2, 1) := by decide +kernel
theorem dX10_exchange_5 : decode cX10_exchange 5 = .ok (.aload_n 0, 1) := by decide +kernel
theorem dX10_exchange_6 : decode cX10_exchange 6 = .ok (.aload_n 1, 1) := by decide +kernel
theorem dX10_exchange_7 : decode cX10_exchange 7 = .ok (.putfield 18, 3) := by decide +kernel
theorem dX10_exchange_10 : decode cX10_exchange 10 = .ok (.aload_n 0, 1) := by decide +kernel
theorem dX10_exchange_11 : decode cX10_exchange 11 = .ok (.getfield 11, 3) := by decide +kernel
theorem dX10_exchange_14 : decode cX10_exchange 14 = .ok (.iconst 0, 1) := by decide +kernel
theorem dX10_exchange_15 : decode cX10_exchange 15 = .ok (.aload_n 1, 1) := by decide +kernel
theorem dX10_exchange_16 : decode cX10_exchange 16 = .ok (.getfield 26, 3) := by decide +kernel
theorem dX10_exchange_19 : decode cX10_exchange 19 = .ok (.i2l, 1) := by decide +kernel
theorem dX10_exchange_20 : decode cX10_exchange 20 = .ok (.ldc2_w 29, 3) := by decide +kernel
theorem dX10_exchange_23 : decode cX10_exchange 23 = .ok (.lmul, 1) := by decide +kernel
