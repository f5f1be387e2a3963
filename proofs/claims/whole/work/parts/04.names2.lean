theorem dX10_exchange_24 : decode cX10_exchange 24 = .ok (.lastore, 1) := by decide +kernel
theorem dX10_exchange_25 : decode cX10_exchange 25 = .ok (.aload_n 0, 1) := by decide +kernel
theorem dX10_exchange_26 : decode cX10_exchange 26 = .ok (.iconst 1, 1) := by decide +kernel
theorem dX10_exchange_27 : decode cX10_exchange 27 = .ok (.putfield 22, 3) := by decide +kernel
theorem dX10_exchange_30 : decode cX10_exchange 30 = .ok (.aload_n 0, 1) := by decide +kernel
theorem dX10_exchange_31 : decode cX10_exchange 31 = .ok (.getfield 22, 3) := by decide +kernel
theorem dX10_exchange_34 : decode cX10_exchange 34 = .ok (.sipush 10000, 3) := by decide +kernel
theorem dX10_exchange_37 : decode cX10_exchange 37 = .ok (.if_icmp .gt 71, 3) := by decide +kernel
theorem dX10_exchange_40 : decode cX10_exchange 40 = .ok (.aload_n 0, 1) := by decide +kernel
theorem dX10_exchange_41 : decode cX10_exchange 41 = .ok (.getfield 11, 3) := by decide +kernel
theorem dX10_exchange_44 : decode cX10_exchange 44 = .ok (.aload_n 0, 1) := by decide +kernel
theorem dX10_exchange_45 : decode cX10_exchange 45 = .ok (.getfield 22, 3) := by decide +kernel
theorem dX10_exchange_48 : decode cX10_exchange 48 = .ok (.iconst 1, 1) := by decide +kernel
theorem dX10_exchange_49 : decode cX10_exchange 49 = .ok (.isub, 1) := by decide +kernel
theorem dX10_exchange_50 : decode cX10_exchange 50 = .ok (.laload, 1) := by decide +kernel
theorem dX10_exchange_51 : decode cX10_exchange 51 = .ok (.aload_n 1, 1) := by decide +kernel
theorem dX10_exchange_52 : decode cX10_exchange 52 = .ok (.aload_n 0, 1) := by decide +kernel
theorem dX10_exchange_53 : decode cX10_exchange 53 = .ok (.getfield 22, 3) := by decide +kernel
theorem dX10_exchange_56 : decode cX10_exchange 56 = .ok (.iconst 1, 1) := by decide +kernel
theorem dX10_exchange_57 : decode cX10_exchange 57 = .ok (.isub, 1) := by decide +kernel
theorem dX10_exchange_58 : decode cX10_exchange 58 = .ok (.aload_n 0, 1) := by decide +kernel
theorem dX10_exchange_59 : decode cX10_exchange 59 = .ok (.getfield 11, 3) := by decide +kernel
theorem dX10_exchange_62 : decode cX10_exchange 62 = .ok (.aload_n 0, 1) := by decide +kernel
theorem dX10_exchange_63 : decode cX10_exchange 63 = .ok (.getfield 22, 3) := by decide +kernel
theorem dX10_exchange_66 : decode cX10_exchange 66 = .ok (.iconst 1, 1) := by decide +kernel
theorem dX10_exchange_67 : decode cX10_exchange 67 = .ok (.isub, 1) := by decide +kernel
theorem dX10_exchange_68 : decode cX10_exchange 68 = .ok (.laload, 1) := by decide +kernel
theorem dX10_exchange_69 : decode cX10_exchange 69 = .ok (.invokevirtual 31, 3) := by decide +kernel
theorem dX10_exchange_72 : decode cX10_exchange 72 = .ok (.ladd, 1) := by decide +kernel
theorem dX10_exchange_73 : decode cX10_exchange 73 = .ok (.lstore_n 3, 1) := by decide +kernel
theorem dX10_exchange_74 : decode cX10_exchange 74 = .ok (.lload_n 3, 1) := by decide +kernel
theorem dX10_exchange_75 : decode cX10_exchange 75 = .ok (.ldc2_w 35, 3) := by decide +kernel
theorem dX10_exchange_78 : decode cX10_exchange 78 = .ok (.lcmp, 1) := by decide +kernel
theorem dX10_exchange_79 : decode cX10_exchange 79 = .ok (.ifCond .le 6, 3) := by decide +kernel
theorem dX10_exchange_82 : decode cX10_exchange 82 = .ok (.goto 26, 3) := by decide +kernel
theorem dX10_exchange_85 : decode cX10_exchange 85 = .ok (.aload_n 0, 1) := by decide +kernel
theorem dX10_exchange_86 : decode cX10_exchange 86 = .ok (.getfield 11, 3) := by decide +kernel
theorem dX10_exchange_89 : decode cX10_exchange 89 = .ok (.aload_n 0, 1) := by decide +kernel
theorem dX10_exchange_90 : decode cX10_exchange 90 = .ok (.getfield 22, 3) := by decide +kernel
theorem dX10_exchange_93 : decode cX10_exchange 93 = .ok (.lload_n 3, 1) := by decide +kernel
theorem dX10_exchange_94 : decode cX10_exchange 94 = .ok (.lastore, 1) := by decide +kernel
theorem dX10_exchange_95 : decode cX10_exchange 95 = .ok (.aload_n 0, 1) := by decide +kernel
theorem dX10_exchange_96 : decode cX10_exchange 96 = .ok (.dup, 1) := by decide +kernel
theorem dX10_exchange_97 : decode cX10_exchange 97 = .ok (.getfield 22, 3) := by decide +kernel
theorem dX10_exchange_100 : decode cX10_exchange 100 = .ok (.iconst 1, 1) := by decide +kernel
theorem dX10_exchange_101 : decode cX10_exchange 101 = .ok (.iadd, 1) := by decide +kernel
theorem dX10_exchange_102 : decode cX10_exchange 102 = .ok (.putfield 22, 3) := by decide +kernel
theorem dX10_exchange_105 : decode cX10_exchange 105 = .ok (.goto (-75), 3) := by decide +kernel
theorem dX10_exchange_108 : decode cX10_exchange 108 = .ok (.aload_n 2, 1) := by decide +kernel
theorem dX10_exchange_109 : decode cX10_exchange 109 = .ok (.areturn, 1) := by decide +kernel
set_option maxRecDepth 20000 in
theorem ggX10_comesAt_X4_lateOf : GoodIn wsX10_comesAt wsX4_lateOf := goodIn_r _ [7, 8, 9, 10, 11, 15, 16, 17, 18, 19, 20, 21, 22, 23, 24, 25, 26] (by decide +kernel) (by decide +kernel)
set_option maxRecDepth 20000 in
theorem gX10_comesAt_X4_lateOf : GoodIn wsX10_comesAt (wsV RX10 37 RX4 yX4_lateOf wsX4_lateOf) := goodIn_app (goodIn_of _ (by decide +kernel)) ggX10_comesAt_X4_lateOf
theorem dX10_comesAt_0 : decode cX10_comesAt 0 = .ok (.aload_n 0, 1) := by decide +kernel
theorem dX10_comesAt_1 : decode cX10_comesAt 1 = .ok (.getfield 11, 3) := by decide +kernel
theorem dX10_comesAt_4 : decode cX10_comesAt 4 = .ok (.iload_n 1, 1) := by decide +kernel
theorem dX10_comesAt_5 : decode cX10_comesAt 5 = .ok (.laload, 1) := by decide +kernel
theorem dX10_comesAt_6 : decode cX10_comesAt 6 = .ok (.aload_n 0, 1) := by decide +kernel
theorem dX10_comesAt_7 : decode cX10_comesAt 7 = .ok (.getfield 18, 3) := by decide +kernel
theorem dX10_comesAt_10 : decode cX10_comesAt 10 = .ok (.iload_n 1, 1) := by decide +kernel
theorem dX10_comesAt_11 : decode cX10_comesAt 11 = .ok (.invokevirtual 37, 3) := by decide +kernel
theorem dX10_comesAt_14 : decode cX10_comesAt 14 = .ok (.ladd, 1) := by decide +kernel
theorem dX10_comesAt_15 : decode cX10_comesAt 15 = .ok (.lreturn, 1) := by decide +kernel
set_option maxRecDepth 20000 in
theorem ggX10_residueAt_X10_nearest : GoodIn wsX10_residueAt wsX10_nearest := goodIn_r _ [6, 7, 8, 9, 10, 11, 12, 13, 14, 15, 16, 17, 5, 18, 19, 20, 21, 22, 23, 24, 25, 26, 27, 28, 29, 30, 31, 32, 33, 34, 35, 36, 37, 38, 39, 40, 41, 42, 43, 44, 45, 46, 47] (by decide +kernel) (by decide +kernel)
set_option maxRecDepth 20000 in
theorem gX10_residueAt_X10_nearest : GoodIn wsX10_residueAt (wsV RX10 41 RX10 yX10_nearest wsX10_nearest) := goodIn_app (goodIn_of _ (by decide +kernel)) ggX10_residueAt_X10_nearest
set_option maxRecDepth 20000 in
theorem ggX10_residueAt_X10_comesAt : GoodIn wsX10_residueAt wsX10_comesAt := goodIn_r _ [22, 8, 23, 24, 25, 26, 27, 28, 29, 30, 31, 32, 33, 34, 35, 36, 37, 38, 39, 40, 41, 42, 43, 44, 45, 46, 47] (by decide +kernel) (by decide +kernel)
set_option maxRecDepth 20000 in
theorem gX10_residueAt_X10_comesAt : GoodIn wsX10_residueAt (wsV RX10 45 RX10 yX10_comesAt wsX10_comesAt) := goodIn_app (goodIn_of _ (by decide +kernel)) ggX10_residueAt_X10_comesAt
theorem dX10_residueAt_0 : decode cX10_residueAt 0 = .ok (.iload_n 1, 1) := by decide +kernel
theorem dX10_residueAt_1 : decode cX10_residueAt 1 = .ok (.i2l, 1) := by decide +kernel
theorem dX10_residueAt_2 : decode cX10_residueAt 2 = .ok (.ldc2_w 29, 3) := by decide +kernel
theorem dX10_residueAt_5 : decode cX10_residueAt 5 = .ok (.lmul, 1) := by decide +kernel
theorem dX10_residueAt_6 : decode cX10_residueAt 6 = .ok (.lstore_n 2, 1) := by decide +kernel
theorem dX10_residueAt_7 : decode cX10_residueAt 7 = .ok (.lload_n 2, 1) := by decide +kernel
theorem dX10_residueAt_8 : decode cX10_residueAt 8 = .ok (.aload_n 0, 1) := by decide +kernel
theorem dX10_residueAt_9 : decode cX10_residueAt 9 = .ok (.aload_n 0, 1) := by decide +kernel
theorem dX10_residueAt_10 : decode cX10_residueAt 10 = .ok (.lload_n 2, 1) := by decide +kernel
theorem dX10_residueAt_11 : decode cX10_residueAt 11 = .ok (.invokevirtual 41, 3) := by decide +kernel
theorem dX10_residueAt_14 : decode cX10_residueAt 14 = .ok (.invokevirtual 45, 3) := by decide +kernel
theorem dX10_residueAt_17 : decode cX10_residueAt 17 = .ok (.lsub, 1) := by decide +kernel
theorem dX10_residueAt_18 : decode cX10_residueAt 18 = .ok (.ldc2_w 29, 3) := by decide +kernel
theorem dX10_residueAt_21 : decode cX10_residueAt 21 = .ok (.ldiv, 1) := by decide +kernel
theorem dX10_residueAt_22 : decode cX10_residueAt 22 = .ok (.l2i, 1) := by decide +kernel
theorem dX10_residueAt_23 : decode cX10_residueAt 23 = .ok (.ireturn, 1) := by decide +kernel
set_option maxRecDepth 20000 in
theorem ggX10_nearest_X10_firstFrom : GoodIn wsX10_nearest wsX10_firstFrom := goodIn_r _ [13, 8, 2, 28, 29, 30] (by decide +kernel) (by decide +kernel)
set_option maxRecDepth 20000 in
theorem gX10_nearest_X10_firstFrom : GoodIn wsX10_nearest (wsV RX10 48 RX10 yX10_firstFrom wsX10_firstFrom) := goodIn_app (goodIn_of _ (by decide +kernel)) ggX10_nearest_X10_firstFrom
set_option maxRecDepth 20000 in
theorem ggX10_nearest_X10_comesAt : GoodIn wsX10_nearest wsX10_comesAt := goodIn_r _ [17, 2, 18, 19, 20, 21, 22, 23, 24, 25, 26, 27, 28, 29, 30, 31, 32, 33, 34, 35, 36, 37, 38, 39, 40, 41, 42] (by decide +kernel) (by decide +kernel)
set_option maxRecDepth 20000 in
theorem gX10_nearest_X10_comesAt : GoodIn wsX10_nearest (wsV RX10 45 RX10 yX10_comesAt wsX10_comesAt) := goodIn_app (goodIn_of _ (by decide +kernel)) ggX10_nearest_X10_comesAt
theorem dX10_nearest_0 : decode cX10_nearest 0 = .ok (.aload_n 0, 1) := by decide +kernel
theorem dX10_nearest_1 : decode cX10_nearest 1 = .ok (.lload_n 1, 1) := by decide +kernel
theorem dX10_nearest_2 : decode cX10_nearest 2 = .ok (.invokevirtual 48, 3) := by decide +kernel
theorem dX10_nearest_5 : decode cX10_nearest 5 = .ok (.istore_n 3, 1) := by decide +kernel
theorem dX10_nearest_6 : decode cX10_nearest 6 = .ok (.iconst 0, 1) := by decide +kernel
theorem dX10_nearest_7 : decode cX10_nearest 7 = .ok (.istore 4, 2) := by decide +kernel
theorem dX10_nearest_9 : decode cX10_nearest 9 = .ok (.ldc2_w 53, 3) := by decide +kernel
theorem dX10_nearest_12 : decode cX10_nearest 12 = .ok (.lstore 5, 2) := by decide +kernel
theorem dX10_nearest_14 : decode cX10_nearest 14 = .ok (.iload_n 3, 1) := by decide +kernel
theorem dX10_nearest_15 : decode cX10_nearest 15 = .ok (.iconst 1, 1) := by decide +kernel
theorem dX10_nearest_16 : decode cX10_nearest 16 = .ok (.isub, 1) := by decide +kernel
theorem dX10_nearest_17 : decode cX10_nearest 17 = .ok (.istore 7, 2) := by decide +kernel
theorem dX10_nearest_19 : decode cX10_nearest 19 = .ok (.iload 7, 2) := by decide +kernel
theorem dX10_nearest_21 : decode cX10_nearest 21 = .ok (.ifCond .lt 57, 3) := by decide +kernel
theorem dX10_nearest_24 : decode cX10_nearest 24 = .ok (.lload_n 1, 1) := by decide +kernel
theorem dX10_nearest_25 : decode cX10_nearest 25 = .ok (.aload_n 0, 1) := by decide +kernel
theorem dX10_nearest_26 : decode cX10_nearest 26 = .ok (.getfield 11, 3) := by decide +kernel
theorem dX10_nearest_29 : decode cX10_nearest 29 = .ok (.iload 7, 2) := by decide +kernel
theorem dX10_nearest_31 : decode cX10_nearest 31 = .ok (.laload, 1) := by decide +kernel
theorem dX10_nearest_32 : decode cX10_nearest 32 = .ok (.lsub, 1) := by decide +kernel
theorem dX10_nearest_33 : decode cX10_nearest 33 = .ok (.ldc2_w 55, 3) := by decide +kernel
theorem dX10_nearest_36 : decode cX10_nearest 36 = .ok (.lsub, 1) := by decide +kernel
theorem dX10_nearest_37 : decode cX10_nearest 37 = .ok (.lload 5, 2) := by decide +kernel
theorem dX10_nearest_39 : decode cX10_nearest 39 = .ok (.lcmp, 1) := by decide +kernel
theorem dX10_nearest_40 : decode cX10_nearest 40 = .ok (.ifCond .gt 38, 3) := by decide +kernel
theorem dX10_nearest_43 : decode cX10_nearest 43 = .ok (.aload_n 0, 1) := by decide +kernel
theorem dX10_nearest_44 : decode cX10_nearest 44 = .ok (.iload 7, 2) := by decide +kernel
theorem dX10_nearest_46 : decode cX10_nearest 46 = .ok (.invokevirtual 45, 3) := by decide +kernel
theorem dX10_nearest_49 : decode cX10_nearest 49 = .ok (.lload_n 1, 1) := by decide +kernel
theorem dX10_nearest_50 : decode cX10_nearest 50 = .ok (.lsub, 1) := by decide +kernel
theorem dX10_nearest_51 : decode cX10_nearest 51 = .ok (.invokestatic 57, 3) := by decide +kernel
theorem dX10_nearest_54 : decode cX10_nearest 54 = .ok (.lstore 8, 2) := by decide +kernel
theorem dX10_nearest_56 : decode cX10_nearest 56 = .ok (.lload 8, 2) := by decide +kernel
theorem dX10_nearest_58 : decode cX10_nearest 58 = .ok (.lload 5, 2) := by decide +kernel
theorem dX10_nearest_60 : decode cX10_nearest 60 = .ok (.lcmp, 1) := by decide +kernel
theorem dX10_nearest_61 : decode cX10_nearest 61 = .ok (.ifCond .gt 11, 3) := by decide +kernel
theorem dX10_nearest_64 : decode cX10_nearest 64 = .ok (.lload 8, 2) := by decide +kernel
theorem dX10_nearest_66 : decode cX10_nearest 66 = .ok (.lstore 5, 2) := by decide +kernel
theorem dX10_nearest_68 : decode cX10_nearest 68 = .ok (.iload 7, 2) := by decide +kernel
theorem dX10_nearest_70 : decode cX10_nearest 70 = .ok (.istore 4, 2) := by decide +kernel
theorem dX10_nearest_72 : decode cX10_nearest 72 = .ok (.iinc 7 (-1), 3) := by decide +kernel
theorem dX10_nearest_75 : decode cX10_nearest 75 = .ok (.goto (-56), 3) := by decide +kernel
theorem dX10_nearest_78 : decode cX10_nearest 78 = .ok (.iload_n 3, 1) := by decide +kernel
theorem dX10_nearest_79 : decode cX10_nearest 79 = .ok (.istore 7, 2) := by decide +kernel
theorem dX10_nearest_81 : decode cX10_nearest 81 = .ok (.iload 7, 2) := by decide +kernel
theorem dX10_nearest_83 : decode cX10_nearest 83 = .ok (.aload_n 0, 1) := by decide +kernel
theorem dX10_nearest_84 : decode cX10_nearest 84 = .ok (.getfield 22, 3) := by decide +kernel
theorem dX10_nearest_87 : decode cX10_nearest 87 = .ok (.if_icmp .ge 57, 3) := by decide +kernel
theorem dX10_nearest_90 : decode cX10_nearest 90 = .ok (.aload_n 0, 1) := by decide +kernel
theorem dX10_nearest_91 : decode cX10_nearest 91 = .ok (.getfield 11, 3) := by decide +kernel
theorem dX10_nearest_94 : decode cX10_nearest 94 = .ok (.iload 7, 2) := by decide +kernel
theorem dX10_nearest_96 : decode cX10_nearest 96 = .ok (.laload, 1) := by decide +kernel
theorem dX10_nearest_97 : decode cX10_nearest 97 = .ok (.lload_n 1, 1) := by decide +kernel
theorem dX10_nearest_98 : decode cX10_nearest 98 = .ok (.lsub, 1) := by decide +kernel
theorem dX10_nearest_99 : decode cX10_nearest 99 = .ok (.ldc2_w 55, 3) := by decide +kernel
theorem dX10_nearest_102 : decode cX10_nearest 102 = .ok (.lsub, 1) := by decide +kernel
theorem dX10_nearest_103 : decode cX10_nearest 103 = .ok (.lload 5, 2) := by decide +kernel
theorem dX10_nearest_105 : decode cX10_nearest 105 = .ok (.lcmp, 1) := by decide +kernel
theorem dX10_nearest_106 : decode cX10_nearest 106 = .ok (.ifCond .gt 38, 3) := by decide +kernel
theorem dX10_nearest_109 : decode cX10_nearest 109 = .ok (.aload_n 0, 1) := by decide +kernel
theorem dX10_nearest_110 : decode cX10_nearest 110 = .ok (.iload 7, 2) := by decide +kernel
theorem dX10_nearest_112 : decode cX10_nearest 112 = .ok (.invokevirtual 45, 3) := by decide +kernel
theorem dX10_nearest_115 : decode cX10_nearest 115 = .ok (.lload_n 1, 1) := by decide +kernel
theorem dX10_nearest_116 : decode cX10_nearest 116 = .ok (.lsub, 1) := by decide +kernel
theorem dX10_nearest_117 : decode cX10_nearest 117 = .ok (.invokestatic 57, 3) := by decide +kernel
theorem dX10_nearest_120 : decode cX10_nearest 120 = .ok (.lstore 8, 2) := by decide +kernel
theorem dX10_nearest_122 : decode cX10_nearest 122 = .ok (.lload 8, 2) := by decide +kernel
theorem dX10_nearest_124 : decode cX10_nearest 124 = .ok (.lload 5, 2) := by decide +kernel
theorem dX10_nearest_126 : decode cX10_nearest 126 = .ok (.lcmp, 1) := by decide +kernel
theorem dX10_nearest_127 : decode cX10_nearest 127 = .ok (.ifCond .ge 11, 3) := by decide +kernel
theorem dX10_nearest_130 : decode cX10_nearest 130 = .ok (.lload 8, 2) := by decide +kernel
theorem dX10_nearest_132 : decode cX10_nearest 132 = .ok (.lstore 5, 2) := by decide +kernel
theorem dX10_nearest_134 : decode cX10_nearest 134 = .ok (.iload 7, 2) := by decide +kernel
theorem dX10_nearest_136 : decode cX10_nearest 136 = .ok (.istore 4, 2) := by decide +kernel
theorem dX10_nearest_138 : decode cX10_nearest 138 = .ok (.iinc 7 1, 3) := by decide +kernel
theorem dX10_nearest_141 : decode cX10_nearest 141 = .ok (.goto (-60), 3) := by decide +kernel
theorem dX10_nearest_144 : decode cX10_nearest 144 = .ok (.iload 4, 2) := by decide +kernel
theorem dX10_nearest_146 : decode cX10_nearest 146 = .ok (.ireturn, 1) := by decide +kernel
theorem dX10_firstFrom_0 : decode cX10_firstFrom 0 = .ok (.iconst 0, 1) := by decide +kernel
theorem dX10_firstFrom_1 : decode cX10_firstFrom 1 = .ok (.istore_n 3, 1) := by decide +kernel
theorem dX10_firstFrom_2 : decode cX10_firstFrom 2 = .ok (.aload_n 0, 1) := by decide +kernel
theorem dX10_firstFrom_3 : decode cX10_firstFrom 3 = .ok (.getfield 22, 3) := by decide +kernel
theorem dX10_firstFrom_6 : decode cX10_firstFrom 6 = .ok (.istore 4, 2) := by decide +kernel
theorem dX10_firstFrom_8 : decode cX10_firstFrom 8 = .ok (.iconst 0, 1) := by decide +kernel
theorem dX10_firstFrom_9 : decode cX10_firstFrom 9 = .ok (.istore 5, 2) := by decide +kernel
theorem dX10_firstFrom_11 : decode cX10_firstFrom 11 = .ok (.iload 5, 2) := by decide +kernel
theorem dX10_firstFrom_13 : decode cX10_firstFrom 13 = .ok (.bipush 32, 2) := by decide +kernel
theorem dX10_firstFrom_15 : decode cX10_firstFrom 15 = .ok (.if_icmp .ge 47, 3) := by decide +kernel
theorem dX10_firstFrom_18 : decode cX10_firstFrom 18 = .ok (.iload_n 3, 1) := by decide +kernel
theorem dX10_firstFrom_19 : decode cX10_firstFrom 19 = .ok (.iload 4, 2) := by decide +kernel
theorem dX10_firstFrom_21 : decode cX10_firstFrom 21 = .ok (.if_icmp .ge 41, 3) := by decide +kernel
theorem dX10_firstFrom_24 : decode cX10_firstFrom 24 = .ok (.iload_n 3, 1) := by decide +kernel
theorem dX10_firstFrom_25 : decode cX10_firstFrom 25 = .ok (.iload 4, 2) := by decide +kernel
theorem dX10_firstFrom_27 : decode cX10_firstFrom 27 = .ok (.iadd, 1) := by decide +kernel
theorem dX10_firstFrom_28 : decode cX10_firstFrom 28 = .ok (.iconst 2, 1) := by decide +kernel
theorem dX10_firstFrom_29 : decode cX10_firstFrom 29 = .ok (.idiv, 1) := by decide +kernel
theorem dX10_firstFrom_30 : decode cX10_firstFrom 30 = .ok (.istore 6, 2) := by decide +kernel
theorem dX10_firstFrom_32 : decode cX10_firstFrom 32 = .ok (.aload_n 0, 1) := by decide +kernel
theorem dX10_firstFrom_33 : decode cX10_firstFrom 33 = .ok (.getfield 11, 3) := by decide +kernel
theorem dX10_firstFrom_36 : decode cX10_firstFrom 36 = .ok (.iload 6, 2) := by decide +kernel
theorem dX10_firstFrom_38 : decode cX10_firstFrom 38 = .ok (.laload, 1) := by decide +kernel
theorem dX10_firstFrom_39 : decode cX10_firstFrom 39 = .ok (.lload_n 1, 1) := by decide +kernel
theorem dX10_firstFrom_40 : decode cX10_firstFrom 40 = .ok (.lcmp, 1) := by decide +kernel
theorem dX10_firstFrom_41 : decode cX10_firstFrom 41 = .ok (.ifCond .ge 11, 3) := by decide +kernel
theorem dX10_firstFrom_44 : decode cX10_firstFrom 44 = .ok (.iload 6, 2) := by decide +kernel
theorem dX10_firstFrom_46 : decode cX10_firstFrom 46 = .ok (.iconst 1, 1) := by decide +kernel
theorem dX10_firstFrom_47 : decode cX10_firstFrom 47 = .ok (.iadd, 1) := by decide +kernel
theorem dX10_firstFrom_48 : decode cX10_firstFrom 48 = .ok (.istore_n 3, 1) := by decide +kernel
theorem dX10_firstFrom_49 : decode cX10_firstFrom 49 = .ok (.goto 7, 3) := by decide +kernel
theorem dX10_firstFrom_52 : decode cX10_firstFrom 52 = .ok (.iload 6, 2) := by decide +kernel
theorem dX10_firstFrom_54 : decode cX10_firstFrom 54 = .ok (.istore 4, 2) := by decide +kernel
theorem dX10_firstFrom_56 : decode cX10_firstFrom 56 = .ok (.iinc 5 1, 3) := by decide +kernel
theorem dX10_firstFrom_59 : decode cX10_firstFrom 59 = .ok (.goto (-48), 3) := by decide +kernel
theorem dX10_firstFrom_62 : decode cX10_firstFrom 62 = .ok (.iload_n 3, 1) := by decide +kernel
theorem dX10_firstFrom_63 : decode cX10_firstFrom 63 = .ok (.ireturn, 1) := by decide +kernel
set_option maxRecDepth 20000 in
theorem ggX11_init_X8_init : GoodIn wsX11_init wsX8_init := goodIn_r _ [37, 38, 2, 3, 24, 39, 40, 41, 42, 43, 90, 91, 92, 93] (by decide +kernel) (by decide +kernel)
set_option maxRecDepth 20000 in
theorem gX11_init_X8_init_n9 : GoodIn wsX11_init (wsX8_init) := ggX11_init_X8_init
set_option maxRecDepth 20000 in
theorem ggX11_init_X9_init : GoodIn wsX11_init wsX9_init := goodIn_r _ [45, 46, 2, 3, 24, 47, 48, 104, 105, 106, 107] (by decide +kernel) (by decide +kernel)
set_option maxRecDepth 20000 in
theorem gX11_init_X9_init_n30 : GoodIn wsX11_init (wsX9_init) := ggX11_init_X9_init
set_option maxRecDepth 20000 in
theorem ggX11_init_X4_init : GoodIn wsX11_init wsX4_init := goodIn_r _ [50, 51, 2, 3, 24, 52, 53, 54, 55, 108, 109, 110, 111, 112, 113, 114, 115, 116, 117, 118, 119] (by decide +kernel) (by decide +kernel)
set_option maxRecDepth 20000 in
theorem gX11_init_X4_init_n37 : GoodIn wsX11_init (wsX4_init) := ggX11_init_X4_init
set_option maxRecDepth 20000 in
theorem ggX11_init_X0_init : GoodIn wsX11_init wsX0_init := goodIn_r _ [58, 59, 2, 3, 24, 60, 61, 62, 63, 64, 65, 66, 67, 68, 69, 70, 71, 72, 73, 74, 120, 121, 122, 123, 124, 125, 126, 127, 128, 129, 130, 131, 132, 142, 143, 144, 145] (by decide +kernel) (by decide +kernel)
set_option maxRecDepth 20000 in
theorem gX11_init_X0_init : GoodIn wsX11_init (wsX0_init) := ggX11_init_X0_init
set_option maxRecDepth 20000 in
theorem ggX11_init_X2_init : GoodIn wsX11_init wsX2_init := goodIn_r _ [76, 77, 2, 3, 24, 78, 133, 134] (by decide +kernel) (by decide +kernel)
set_option maxRecDepth 20000 in
theorem gX11_init_X2_init_n61 : GoodIn wsX11_init (wsX2_init) := ggX11_init_X2_init
set_option maxRecDepth 20000 in
theorem ggX11_init_X7_init : GoodIn wsX11_init wsX7_init := goodIn_r _ [80, 81, 2, 3, 24, 82, 83, 135, 136, 137, 138] (by decide +kernel) (by decide +kernel)
set_option maxRecDepth 20000 in
theorem gX11_init_X7_init_n66 : GoodIn wsX11_init (wsX7_init) := ggX11_init_X7_init
set_option maxRecDepth 20000 in
theorem ggX11_init_X10_init : GoodIn wsX11_init wsX10_init := goodIn_r _ [85, 86, 2, 3, 63, 87, 88, 17, 18, 89, 49, 50, 51, 24, 52, 53, 54, 55, 139, 140, 141, 108, 109, 110, 111, 112, 113, 114, 115, 116, 117, 118, 119] (by decide +kernel) (by decide +kernel)
set_option maxRecDepth 20000 in
theorem gX11_init_X10_init_n67 : GoodIn wsX11_init (wsX10_init) := ggX11_init_X10_init
theorem dX11_init_0 : decode cX11_init 0 = .ok (.aload_n 0, 1) := by decide +kernel
theorem dX11_init_1 : decode cX11_init 1 = .ok (.invokespecial 1, 3) := by decide +kernel
theorem dX11_init_4 : decode cX11_init 4 = .ok (.aload_n 0, 1) := by decide +kernel
theorem dX11_init_5 : decode cX11_init 5 = .ok (.new 7, 3) := by decide +kernel
theorem dX11_init_8 : decode cX11_init 8 = .ok (.dup, 1) := by decide +kernel
theorem dX11_init_9 : decode cX11_init 9 = .ok (.invokespecial 9, 3) := by decide +kernel
theorem dX11_init_12 : decode cX11_init 12 = .ok (.putfield 10, 3) := by decide +kernel
theorem dX11_init_15 : decode cX11_init 15 = .ok (.aload_n 0, 1) := by decide +kernel
theorem dX11_init_16 : decode cX11_init 16 = .ok (.iconst 4, 1) := by decide +kernel
theorem dX11_init_17 : decode cX11_init 17 = .ok (.anewarray 16, 3) := by decide +kernel
theorem dX11_init_20 : decode cX11_init 20 = .ok (.putfield 18, 3) := by decide +kernel
theorem dX11_init_23 : decode cX11_init 23 = .ok (.aload_n 0, 1) := by decide +kernel
theorem dX11_init_24 : decode cX11_init 24 = .ok (.iconst 4, 1) := by decide +kernel
theorem dX11_init_25 : decode cX11_init 25 = .ok (.anewarray 22, 3) := by decide +kernel
theorem dX11_init_28 : decode cX11_init 28 = .ok (.putfield 24, 3) := by decide +kernel
theorem dX11_init_31 : decode cX11_init 31 = .ok (.aload_n 0, 1) := by decide +kernel
theorem dX11_init_32 : decode cX11_init 32 = .ok (.new 28, 3) := by decide +kernel
theorem dX11_init_35 : decode cX11_init 35 = .ok (.dup, 1) := by decide +kernel
theorem dX11_init_36 : decode cX11_init 36 = .ok (.invokespecial 30, 3) := by decide +kernel
theorem dX11_init_39 : decode cX11_init 39 = .ok (.putfield 31, 3) := by decide +kernel
theorem dX11_init_42 : decode cX11_init 42 = .ok (.aload_n 0, 1) := by decide +kernel
theorem dX11_init_43 : decode cX11_init 43 = .ok (.new 35, 3) := by decide +kernel
theorem dX11_init_46 : decode cX11_init 46 = .ok (.dup, 1) := by decide +kernel
theorem dX11_init_47 : decode cX11_init 47 = .ok (.invokespecial 37, 3) := by decide +kernel
theorem dX11_init_50 : decode cX11_init 50 = .ok (.putfield 38, 3) := by decide +kernel
theorem dX11_init_53 : decode cX11_init 53 = .ok (.aload_n 0, 1) := by decide +kernel
theorem dX11_init_54 : decode cX11_init 54 = .ok (.new 42, 3) := by decide +kernel
theorem dX11_init_57 : decode cX11_init 57 = .ok (.dup, 1) := by decide +kernel
theorem dX11_init_58 : decode cX11_init 58 = .ok (.invokespecial 44, 3) := by decide +kernel
theorem dX11_init_61 : decode cX11_init 61 = .ok (.putfield 45, 3) := by decide +kernel
theorem dX11_init_64 : decode cX11_init 64 = .ok (.aload_n 0, 1) := by decide +kernel
theorem dX11_init_65 : decode cX11_init 65 = .ok (.bipush 24, 2) := by decide +kernel
theorem dX11_init_67 : decode cX11_init 67 = .ok (.newarray .int, 2) := by decide +kernel
theorem dX11_init_69 : decode cX11_init 69 = .ok (.putfield 49, 3) := by decide +kernel
theorem dX11_init_72 : decode cX11_init 72 = .ok (.aload_n 0, 1) := by decide +kernel
theorem dX11_init_73 : decode cX11_init 73 = .ok (.bipush 24, 2) := by decide +kernel
theorem dX11_init_75 : decode cX11_init 75 = .ok (.newarray .int, 2) := by decide +kernel
theorem dX11_init_77 : decode cX11_init 77 = .ok (.putfield 53, 3) := by decide +kernel
theorem dX11_init_80 : decode cX11_init 80 = .ok (.aload_n 0, 1) := by decide +kernel
theorem dX11_init_81 : decode cX11_init 81 = .ok (.bipush 24, 2) := by decide +kernel
theorem dX11_init_83 : decode cX11_init 83 = .ok (.newarray .int, 2) := by decide +kernel
theorem dX11_init_85 : decode cX11_init 85 = .ok (.putfield 56, 3) := by decide +kernel
theorem dX11_init_88 : decode cX11_init 88 = .ok (.aload_n 0, 1) := by decide +kernel
theorem dX11_init_89 : decode cX11_init 89 = .ok (.new 59, 3) := by decide +kernel
theorem dX11_init_92 : decode cX11_init 92 = .ok (.dup, 1) := by decide +kernel
theorem dX11_init_93 : decode cX11_init 93 = .ok (.invokespecial 61, 3) := by decide +kernel
theorem dX11_init_96 : decode cX11_init 96 = .ok (.putfield 62, 3) := by decide +kernel
theorem dX11_init_99 : decode cX11_init 99 = .ok (.iconst 0, 1) := by decide +kernel
theorem dX11_init_100 : decode cX11_init 100 = .ok (.istore_n 1, 1) := by decide +kernel
theorem dX11_init_101 : decode cX11_init 101 = .ok (.iload_n 1, 1) := by decide +kernel
theorem dX11_init_102 : decode cX11_init 102 = .ok (.iconst 4, 1) := by decide +kernel
theorem dX11_init_103 : decode cX11_init 103 = .ok (.if_icmp .ge 35, 3) := by decide +kernel
theorem dX11_init_106 : decode cX11_init 106 = .ok (.aload_n 0, 1) := by decide +kernel
theorem dX11_init_107 : decode cX11_init 107 = .ok (.getfield 18, 3) := by decide +kernel
theorem dX11_init_110 : decode cX11_init 110 = .ok (.iload_n 1, 1) := by decide +kernel
theorem dX11_init_111 : decode cX11_init 111 = .ok (.new 16, 3) := by decide +kernel
theorem dX11_init_114 : decode cX11_init 114 = .ok (.dup, 1) := by decide +kernel
theorem dX11_init_115 : decode cX11_init 115 = .ok (.invokespecial 66, 3) := by decide +kernel
theorem dX11_init_118 : decode cX11_init 118 = .ok (.aastore, 1) := by decide +kernel
theorem dX11_init_119 : decode cX11_init 119 = .ok (.aload_n 0, 1) := by decide +kernel
theorem dX11_init_120 : decode cX11_init 120 = .ok (.getfield 24, 3) := by decide +kernel
theorem dX11_init_123 : decode cX11_init 123 = .ok (.iload_n 1, 1) := by decide +kernel
theorem dX11_init_124 : decode cX11_init 124 = .ok (.new 22, 3) := by decide +kernel
theorem dX11_init_127 : decode cX11_init 127 = .ok (.dup, 1) := by decide +kernel
theorem dX11_init_128 : decode cX11_init 128 = .ok (.invokespecial 67, 3) := by decide +kernel
theorem dX11_init_131 : decode cX11_init 131 = .ok (.aastore, 1) := by decide +kernel
theorem dX11_init_132 : decode cX11_init 132 = .ok (.iinc 1 1, 3) := by decide +kernel
theorem dX11_init_135 : decode cX11_init 135 = .ok (.goto (-34), 3) := by decide +kernel
theorem dX11_init_138 : decode cX11_init 138 = .ok (.return_, 1) := by decide +kernel
set_option maxRecDepth 20000 in
theorem ggX11_arrival_X11_isStar : GoodIn wsX11_arrival wsX11_isStar := goodIn_r _ [8, 9, 10, 7, 11] (by decide +kernel) (by decide +kernel)
set_option maxRecDepth 20000 in
theorem gX11_arrival_X11_isStar : GoodIn wsX11_arrival (va_wsS RX11 68 yX11_isStar wsX11_isStar) := goodIn_app (goodIn_of _ (by decide +kernel)) ggX11_arrival_X11_isStar
set_option maxRecDepth 20000 in
theorem ggX11_arrival_X11_within : GoodIn wsX11_arrival wsX11_within := goodIn_r _ [11] (by decide +kernel) (by decide +kernel)
set_option maxRecDepth 20000 in
theorem gX11_arrival_X11_within : GoodIn wsX11_arrival (va_wsS RX11 73 yX11_within wsX11_within) := goodIn_app (goodIn_of _ (by decide +kernel)) ggX11_arrival_X11_within
set_option maxRecDepth 20000 in
theorem ggX11_arrival_X11_isInstrument : GoodIn wsX11_arrival wsX11_isInstrument := goodIn_r _ [14, 9, 10, 7, 11] (by decide +kernel) (by decide +kernel)
set_option maxRecDepth 20000 in
theorem gX11_arrival_X11_isInstrument : GoodIn wsX11_arrival (va_wsS RX11 77 yX11_isInstrument wsX11_isInstrument) := goodIn_app (goodIn_of _ (by decide +kernel)) ggX11_arrival_X11_isInstrument
set_option maxRecDepth 20000 in
theorem ggX11_arrival_X7_isFull : GoodIn wsX11_arrival wsX7_isFull := goodIn_r _ [19, 20, 54, 55, 56, 57] (by decide +kernel) (by decide +kernel)
set_option maxRecDepth 20000 in
theorem gX11_arrival_X7_isFull : GoodIn wsX11_arrival (wsV RX11 81 RX7 yX7_isFull wsX7_isFull) := goodIn_app (goodIn_of _ (by decide +kernel)) ggX11_arrival_X7_isFull
set_option maxRecDepth 20000 in
theorem ggX11_arrival_X7_put : GoodIn wsX11_arrival wsX7_put := goodIn_r _ [24, 25, 20, 26, 27, 28, 29, 30, 31, 32, 18, 33, 34, 35, 36, 37, 38, 39, 54, 55, 56, 57] (by decide +kernel) (by decide +kernel)
set_option maxRecDepth 20000 in
theorem gX11_arrival_X7_put : GoodIn wsX11_arrival (wsV RX11 89 RX7 yX7_put wsX7_put) := goodIn_app (goodIn_of _ (by decide +kernel)) ggX11_arrival_X7_put
theorem dX11_arrival_0 : decode cX11_arrival 0 = .ok (.iload_n 1, 1) := by decide +kernel
theorem dX11_arrival_1 : decode cX11_arrival 1 = .ok (.invokestatic 68, 3) := by decide +kernel
theorem dX11_arrival_4 : decode cX11_arrival 4 = .ok (.ifCond .eq 43, 3) := by decide +kernel
theorem dX11_arrival_7 : decode cX11_arrival 7 = .ok (.iload_n 2, 1) := by decide +kernel
theorem dX11_arrival_8 : decode cX11_arrival 8 = .ok (.iconst 0, 1) := by decide +kernel
theorem dX11_arrival_9 : decode cX11_arrival 9 = .ok (.ldc 72, 2) := by decide +kernel
theorem dX11_arrival_11 : decode cX11_arrival 11 = .ok (.invokestatic 73, 3) := by decide +kernel
theorem dX11_arrival_14 : decode cX11_arrival 14 = .ok (.ifCond .eq 33, 3) := by decide +kernel
theorem dX11_arrival_17 : decode cX11_arrival 17 = .ok (.iload_n 3, 1) := by decide +kernel
theorem dX11_arrival_18 : decode cX11_arrival 18 = .ok (.iconst 0, 1) := by decide +kernel
theorem dX11_arrival_19 : decode cX11_arrival 19 = .ok (.sipush 1000, 3) := by decide +kernel
theorem dX11_arrival_22 : decode cX11_arrival 22 = .ok (.invokestatic 73, 3) := by decide +kernel
theorem dX11_arrival_25 : decode cX11_arrival 25 = .ok (.ifCond .eq 22, 3) := by decide +kernel
theorem dX11_arrival_28 : decode cX11_arrival 28 = .ok (.iload 4, 2) := by decide +kernel
theorem dX11_arrival_30 : decode cX11_arrival 30 = .ok (.invokestatic 77, 3) := by decide +kernel
theorem dX11_arrival_33 : decode cX11_arrival 33 = .ok (.ifCond .eq 14, 3) := by decide +kernel
theorem dX11_arrival_36 : decode cX11_arrival 36 = .ok (.iload 5, 2) := by decide +kernel
theorem dX11_arrival_38 : decode cX11_arrival 38 = .ok (.iconst 0, 1) := by decide +kernel
theorem dX11_arrival_39 : decode cX11_arrival 39 = .ok (.ldc 80, 2) := by decide +kernel
theorem dX11_arrival_41 : decode cX11_arrival 41 = .ok (.invokestatic 73, 3) := by decide +kernel
theorem dX11_arrival_44 : decode cX11_arrival 44 = .ok (.ifCond .ne 5, 3) := by decide +kernel
theorem dX11_arrival_47 : decode cX11_arrival 47 = .ok (.iconst (-1), 1) := by decide +kernel
theorem dX11_arrival_48 : decode cX11_arrival 48 = .ok (.ireturn, 1) := by decide +kernel
theorem dX11_arrival_49 : decode cX11_arrival 49 = .ok (.aload_n 0, 1) := by decide +kernel
theorem dX11_arrival_50 : decode cX11_arrival 50 = .ok (.getfield 18, 3) := by decide +kernel
theorem dX11_arrival_53 : decode cX11_arrival 53 = .ok (.iload_n 1, 1) := by decide +kernel
theorem dX11_arrival_54 : decode cX11_arrival 54 = .ok (.aaload, 1) := by decide +kernel
theorem dX11_arrival_55 : decode cX11_arrival 55 = .ok (.invokevirtual 81, 3) := by decide +kernel
theorem dX11_arrival_58 : decode cX11_arrival 58 = .ok (.ifCond .eq 6, 3) := by decide +kernel
theorem dX11_arrival_61 : decode cX11_arrival 61 = .ok (.bipush (-3), 2) := by decide +kernel
theorem dX11_arrival_63 : decode cX11_arrival 63 = .ok (.ireturn, 1) := by decide +kernel
theorem dX11_arrival_64 : decode cX11_arrival 64 = .ok (.aload_n 0, 1) := by decide +kernel
theorem dX11_arrival_65 : decode cX11_arrival 65 = .ok (.getfield 18, 3) := by decide +kernel
theorem dX11_arrival_68 : decode cX11_arrival 68 = .ok (.iload_n 1, 1) := by decide +kernel
theorem dX11_arrival_69 : decode cX11_arrival 69 = .ok (.aaload, 1) := by decide +kernel
theorem dX11_arrival_70 : decode cX11_arrival 70 = .ok (.iload_n 2, 1) := by decide +kernel
theorem dX11_arrival_71 : decode cX11_arrival 71 = .ok (.iload_n 3, 1) := by decide +kernel
theorem dX11_arrival_72 : decode cX11_arrival 72 = .ok (.iload 4, 2) := by decide +kernel
theorem dX11_arrival_74 : decode cX11_arrival 74 = .ok (.iload 5, 2) := by decide +kernel
theorem dX11_arrival_76 : decode cX11_arrival 76 = .ok (.aload_n 0, 1) := by decide +kernel
theorem dX11_arrival_77 : decode cX11_arrival 77 = .ok (.getfield 10, 3) := by decide +kernel
theorem dX11_arrival_80 : decode cX11_arrival 80 = .ok (.getfield 85, 3) := by decide +kernel
theorem dX11_arrival_83 : decode cX11_arrival 83 = .ok (.invokevirtual 89, 3) := by decide +kernel
theorem dX11_arrival_86 : decode cX11_arrival 86 = .ok (.ireturn, 1) := by decide +kernel
set_option maxRecDepth 20000 in
theorem ggX11_clear_X11_isStar : GoodIn wsX11_clear wsX11_isStar := goodIn_r _ [5, 6, 7, 4, 8] (by decide +kernel) (by decide +kernel)
set_option maxRecDepth 20000 in
theorem gX11_clear_X11_isStar : GoodIn wsX11_clear (va_wsS RX11 68 yX11_isStar wsX11_isStar) := goodIn_app (goodIn_of _ (by decide +kernel)) ggX11_clear_X11_isStar
set_option maxRecDepth 20000 in
theorem ggX11_clear_X7_dropAll : GoodIn wsX11_clear wsX7_dropAll := goodIn_r _ [13, 14, 15, 26, 27, 28, 29] (by decide +kernel) (by decide +kernel)
set_option maxRecDepth 20000 in
theorem gX11_clear_X7_dropAll : GoodIn wsX11_clear (wsV RX11 93 RX7 yX7_dropAll wsX7_dropAll) := goodIn_app (goodIn_of _ (by decide +kernel)) ggX11_clear_X7_dropAll
theorem dX11_clear_0 : decode cX11_clear 0 = .ok (.iload_n 1, 1) := by decide +kernel
theorem dX11_clear_1 : decode cX11_clear 1 = .ok (.invokestatic 68, 3) := by decide +kernel
theorem dX11_clear_4 : decode cX11_clear 4 = .ok (.ifCond .eq 15, 3) := by decide +kernel
theorem dX11_clear_7 : decode cX11_clear 7 = .ok (.aload_n 0, 1) := by decide +kernel
theorem dX11_clear_8 : decode cX11_clear 8 = .ok (.getfield 18, 3) := by decide +kernel
theorem dX11_clear_11 : decode cX11_clear 11 = .ok (.iload_n 1, 1) := by decide +kernel
theorem dX11_clear_12 : decode cX11_clear 12 = .ok (.aaload, 1) := by decide +kernel
theorem dX11_clear_13 : decode cX11_clear 13 = .ok (.invokevirtual 93, 3) := by decide +kernel
theorem dX11_clear_16 : decode cX11_clear 16 = .ok (.goto 4, 3) := by decide +kernel
theorem dX11_clear_19 : decode cX11_clear 19 = .ok (.iconst (-1), 1) := by decide +kernel
theorem dX11_clear_20 : decode cX11_clear 20 = .ok (.ireturn, 1) := by decide +kernel
set_option maxRecDepth 20000 in
theorem ggX11_offset_X11_isInstrument : GoodIn wsX11_offset wsX11_isInstrument := goodIn_r _ [6, 7, 8, 5, 9] (by decide +kernel) (by decide +kernel)
set_option maxRecDepth 20000 in
theorem gX11_offset_X11_isInstrument : GoodIn wsX11_offset (va_wsS RX11 77 yX11_isInstrument wsX11_isInstrument) := goodIn_app (goodIn_of _ (by decide +kernel)) ggX11_offset_X11_isInstrument
set_option maxRecDepth 20000 in
theorem ggX11_offset_X11_within : GoodIn wsX11_offset wsX11_within := goodIn_r _ [9] (by decide +kernel) (by decide +kernel)
set_option maxRecDepth 20000 in
theorem gX11_offset_X11_within : GoodIn wsX11_offset (va_wsS RX11 73 yX11_within wsX11_within) := goodIn_app (goodIn_of _ (by decide +kernel)) ggX11_offset_X11_within
theorem dX11_offset_0 : decode cX11_offset 0 = .ok (.iload_n 1, 1) := by decide +kernel
theorem dX11_offset_1 : decode cX11_offset 1 = .ok (.invokestatic 77, 3) := by decide +kernel
theorem dX11_offset_4 : decode cX11_offset 4 = .ok (.ifCond .eq 16, 3) := by decide +kernel
theorem dX11_offset_7 : decode cX11_offset 7 = .ok (.iload_n 2, 1) := by decide +kernel
theorem dX11_offset_8 : decode cX11_offset 8 = .ok (.sipush (-1000), 3) := by decide +kernel
theorem dX11_offset_11 : decode cX11_offset 11 = .ok (.sipush 1000, 3) := by decide +kernel
theorem dX11_offset_14 : decode cX11_offset 14 = .ok (.invokestatic 73, 3) := by decide +kernel
theorem dX11_offset_17 : decode cX11_offset 17 = .ok (.ifCond .ne 6, 3) := by decide +kernel
theorem dX11_offset_20 : decode cX11_offset 20 = .ok (.ldc 97, 2) := by decide +kernel
theorem dX11_offset_22 : decode cX11_offset 22 = .ok (.ireturn, 1) := by decide +kernel
theorem dX11_offset_23 : decode cX11_offset 23 = .ok (.aload_n 0, 1) := by decide +kernel
theorem dX11_offset_24 : decode cX11_offset 24 = .ok (.getfield 10, 3) := by decide +kernel
theorem dX11_offset_27 : decode cX11_offset 27 = .ok (.getfield 98, 3) := by decide +kernel
theorem dX11_offset_30 : decode cX11_offset 30 = .ok (.iload_n 1, 1) := by decide +kernel
theorem dX11_offset_31 : decode cX11_offset 31 = .ok (.iaload, 1) := by decide +kernel
theorem dX11_offset_32 : decode cX11_offset 32 = .ok (.istore_n 3, 1) := by decide +kernel
theorem dX11_offset_33 : decode cX11_offset 33 = .ok (.aload_n 0, 1) := by decide +kernel
theorem dX11_offset_34 : decode cX11_offset 34 = .ok (.getfield 10, 3) := by decide +kernel
theorem dX11_offset_37 : decode cX11_offset 37 = .ok (.getfield 98, 3) := by decide +kernel
theorem dX11_offset_40 : decode cX11_offset 40 = .ok (.iload_n 1, 1) := by decide +kernel
theorem dX11_offset_41 : decode cX11_offset 41 = .ok (.iload_n 2, 1) := by decide +kernel
theorem dX11_offset_42 : decode cX11_offset 42 = .ok (.iastore, 1) := by decide +kernel
theorem dX11_offset_43 : decode cX11_offset 43 = .ok (.iload_n 3, 1) := by decide +kernel
theorem dX11_offset_44 : decode cX11_offset 44 = .ok (.ireturn, 1) := by decide +kernel
set_option maxRecDepth 20000 in
theorem ggX11_shift_X11_within : GoodIn wsX11_shift wsX11_within := goodIn_r _ [6] (by decide +kernel) (by decide +kernel)
set_option maxRecDepth 20000 in
theorem gX11_shift_X11_within : GoodIn wsX11_shift (va_wsS RX11 73 yX11_within wsX11_within) := goodIn_app (goodIn_of _ (by decide +kernel)) ggX11_shift_X11_within
theorem dX11_shift_0 : decode cX11_shift 0 = .ok (.iload_n 1, 1) := by decide +kernel
theorem dX11_shift_1 : decode cX11_shift 1 = .ok (.iconst 0, 1) := by decide +kernel
theorem dX11_shift_2 : decode cX11_shift 2 = .ok (.iconst 1, 1) := by decide +kernel
theorem dX11_shift_3 : decode cX11_shift 3 = .ok (.invokestatic 73, 3) := by decide +kernel
theorem dX11_shift_6 : decode cX11_shift 6 = .ok (.ifCond .eq 26, 3) := by decide +kernel
theorem dX11_shift_9 : decode cX11_shift 9 = .ok (.iload_n 2, 1) := by decide +kernel
theorem dX11_shift_10 : decode cX11_shift 10 = .ok (.iconst 0, 1) := by decide +kernel
theorem dX11_shift_11 : decode cX11_shift 11 = .ok (.bipush 10, 2) := by decide +kernel
theorem dX11_shift_13 : decode cX11_shift 13 = .ok (.invokestatic 73, 3) := by decide +kernel
theorem dX11_shift_16 : decode cX11_shift 16 = .ok (.ifCond .eq 16, 3) := by decide +kernel
theorem dX11_shift_19 : decode cX11_shift 19 = .ok (.iload_n 3, 1) := by decide +kernel
theorem dX11_shift_20 : decode cX11_shift 20 = .ok (.sipush (-500), 3) := by decide +kernel
theorem dX11_shift_23 : decode cX11_shift 23 = .ok (.sipush 500, 3) := by decide +kernel
theorem dX11_shift_26 : decode cX11_shift 26 = .ok (.invokestatic 73, 3) := by decide +kernel
theorem dX11_shift_29 : decode cX11_shift 29 = .ok (.ifCond .ne 6, 3) := by decide +kernel
theorem dX11_shift_32 : decode cX11_shift 32 = .ok (.ldc 97, 2) := by decide +kernel
theorem dX11_shift_34 : decode cX11_shift 34 = .ok (.ireturn, 1) := by decide +kernel
theorem dX11_shift_35 : decode cX11_shift 35 = .ok (.aload_n 0, 1) := by decide +kernel
theorem dX11_shift_36 : decode cX11_shift 36 = .ok (.getfield 10, 3) := by decide +kernel
theorem dX11_shift_39 : decode cX11_shift 39 = .ok (.getfield 101, 3) := by decide +kernel
theorem dX11_shift_42 : decode cX11_shift 42 = .ok (.iload_n 1, 1) := by decide +kernel
theorem dX11_shift_43 : decode cX11_shift 43 = .ok (.aaload, 1) := by decide +kernel
theorem dX11_shift_44 : decode cX11_shift 44 = .ok (.iload_n 2, 1) := by decide +kernel
theorem dX11_shift_45 : decode cX11_shift 45 = .ok (.iaload, 1) := by decide +kernel
theorem dX11_shift_46 : decode cX11_shift 46 = .ok (.istore 4, 2) := by decide +kernel
theorem dX11_shift_48 : decode cX11_shift 48 = .ok (.aload_n 0, 1) := by decide +kernel
theorem dX11_shift_49 : decode cX11_shift 49 = .ok (.getfield 10, 3) := by decide +kernel
theorem dX11_shift_52 : decode cX11_shift 52 = .ok (.getfield 101, 3) := by decide +kernel
theorem dX11_shift_55 : decode cX11_shift 55 = .ok (.iload_n 1, 1) := by decide +kernel
theorem dX11_shift_56 : decode cX11_shift 56 = .ok (.aaload, 1) := by decide +kernel
theorem dX11_shift_57 : decode cX11_shift 57 = .ok (.iload_n 2, 1) := by decide +kernel
theorem dX11_shift_58 : decode cX11_shift 58 = .ok (.iload_n 3, 1) := by decide +kernel
theorem dX11_shift_59 : decode cX11_shift 59 = .ok (.iastore, 1) := by decide +kernel
theorem dX11_shift_60 : decode cX11_shift 60 = .ok (.iload 4, 2) := by decide +kernel
theorem dX11_shift_62 : decode cX11_shift 62 = .ok (.ireturn, 1) := by decide +kernel
set_option maxRecDepth 20000 in
theorem ggX11_rule_X11_within : GoodIn wsX11_rule wsX11_within := goodIn_r _ [6] (by decide +kernel) (by decide +kernel)
set_option maxRecDepth 20000 in
theorem gX11_rule_X11_within : GoodIn wsX11_rule (va_wsS RX11 73 yX11_within wsX11_within) := goodIn_app (goodIn_of _ (by decide +kernel)) ggX11_rule_X11_within
set_option maxRecDepth 20000 in
theorem ggX11_rule_X11_seeAll : GoodIn wsX11_rule wsX11_seeAll := goodIn_r _ [10, 11, 1, 12, 13, 14, 15, 16, 17, 18, 19, 20, 21, 22, 23, 24, 25, 26, 27, 28, 29, 30, 31, 32, 33, 34, 35, 36, 37, 38] (by decide +kernel) (by decide +kernel)
set_option maxRecDepth 20000 in
theorem gX11_rule_X11_seeAll : GoodIn wsX11_rule (wsV RX11 108 RX11 yX11_seeAll wsX11_seeAll) := goodIn_app (goodIn_of _ (by decide +kernel)) ggX11_rule_X11_seeAll
theorem dX11_rule_0 : decode cX11_rule 0 = .ok (.iload_n 1, 1) := by decide +kernel
theorem dX11_rule_1 : decode cX11_rule 1 = .ok (.ifCond .ne 30, 3) := by decide +kernel
theorem dX11_rule_4 : decode cX11_rule 4 = .ok (.iload_n 2, 1) := by decide +kernel
theorem dX11_rule_5 : decode cX11_rule 5 = .ok (.iconst 0, 1) := by decide +kernel
theorem dX11_rule_6 : decode cX11_rule 6 = .ok (.iconst 1, 1) := by decide +kernel
theorem dX11_rule_7 : decode cX11_rule 7 = .ok (.invokestatic 73, 3) := by decide +kernel
theorem dX11_rule_10 : decode cX11_rule 10 = .ok (.ifCond .eq 21, 3) := by decide +kernel
theorem dX11_rule_13 : decode cX11_rule 13 = .ok (.aload_n 0, 1) := by decide +kernel
theorem dX11_rule_14 : decode cX11_rule 14 = .ok (.getfield 10, 3) := by decide +kernel
theorem dX11_rule_17 : decode cX11_rule 17 = .ok (.getfield 105, 3) := by decide +kernel
theorem dX11_rule_20 : decode cX11_rule 20 = .ok (.istore_n 3, 1) := by decide +kernel
theorem dX11_rule_21 : decode cX11_rule 21 = .ok (.aload_n 0, 1) := by decide +kernel
theorem dX11_rule_22 : decode cX11_rule 22 = .ok (.getfield 10, 3) := by decide +kernel
theorem dX11_rule_25 : decode cX11_rule 25 = .ok (.iload_n 2, 1) := by decide +kernel
theorem dX11_rule_26 : decode cX11_rule 26 = .ok (.putfield 105, 3) := by decide +kernel
theorem dX11_rule_29 : decode cX11_rule 29 = .ok (.iload_n 3, 1) := by decide +kernel
theorem dX11_rule_30 : decode cX11_rule 30 = .ok (.ireturn, 1) := by decide +kernel
theorem dX11_rule_31 : decode cX11_rule 31 = .ok (.iload_n 1, 1) := by decide +kernel
theorem dX11_rule_32 : decode cX11_rule 32 = .ok (.iconst 1, 1) := by decide +kernel
theorem dX11_rule_33 : decode cX11_rule 33 = .ok (.if_icmp .ne 35, 3) := by decide +kernel
theorem dX11_rule_36 : decode cX11_rule 36 = .ok (.iload_n 2, 1) := by decide +kernel
theorem dX11_rule_37 : decode cX11_rule 37 = .ok (.iconst 0, 1) := by decide +kernel
theorem dX11_rule_38 : decode cX11_rule 38 = .ok (.ldc 80, 2) := by decide +kernel
theorem dX11_rule_40 : decode cX11_rule 40 = .ok (.invokestatic 73, 3) := by decide +kernel
theorem dX11_rule_43 : decode cX11_rule 43 = .ok (.ifCond .eq 25, 3) := by decide +kernel
theorem dX11_rule_46 : decode cX11_rule 46 = .ok (.aload_n 0, 1) := by decide +kernel
theorem dX11_rule_47 : decode cX11_rule 47 = .ok (.getfield 10, 3) := by decide +kernel
theorem dX11_rule_50 : decode cX11_rule 50 = .ok (.getfield 85, 3) := by decide +kernel
theorem dX11_rule_53 : decode cX11_rule 53 = .ok (.istore_n 3, 1) := by decide +kernel
theorem dX11_rule_54 : decode cX11_rule 54 = .ok (.aload_n 0, 1) := by decide +kernel
theorem dX11_rule_55 : decode cX11_rule 55 = .ok (.getfield 10, 3) := by decide +kernel
theorem dX11_rule_58 : decode cX11_rule 58 = .ok (.iload_n 2, 1) := by decide +kernel
theorem dX11_rule_59 : decode cX11_rule 59 = .ok (.putfield 85, 3) := by decide +kernel
theorem dX11_rule_62 : decode cX11_rule 62 = .ok (.aload_n 0, 1) := by decide +kernel
theorem dX11_rule_63 : decode cX11_rule 63 = .ok (.invokevirtual 108, 3) := by decide +kernel
theorem dX11_rule_66 : decode cX11_rule 66 = .ok (.iload_n 3, 1) := by decide +kernel
theorem dX11_rule_67 : decode cX11_rule 67 = .ok (.ireturn, 1) := by decide +kernel
theorem dX11_rule_68 : decode cX11_rule 68 = .ok (.iconst (-1), 1) := by decide +kernel
theorem dX11_rule_69 : decode cX11_rule 69 = .ok (.ireturn, 1) := by decide +kernel
set_option maxRecDepth 20000 in
theorem ggX11_at_X11_isStar : GoodIn wsX11_at wsX11_isStar := goodIn_r _ [8, 9, 10, 7, 11] (by decide +kernel) (by decide +kernel)
set_option maxRecDepth 20000 in
theorem gX11_at_X11_isStar : GoodIn wsX11_at (va_wsS RX11 68 yX11_isStar wsX11_isStar) := goodIn_app (goodIn_of _ (by decide +kernel)) ggX11_at_X11_isStar
set_option maxRecDepth 20000 in
theorem ggX11_at_X11_isPlace : GoodIn wsX11_at wsX11_isPlace := goodIn_r _ [14, 9, 10, 7, 11] (by decide +kernel) (by decide +kernel)
set_option maxRecDepth 20000 in
theorem gX11_at_X11_isPlace : GoodIn wsX11_at (va_wsS RX11 111 yX11_isPlace wsX11_isPlace) := goodIn_app (goodIn_of _ (by decide +kernel)) ggX11_at_X11_isPlace
set_option maxRecDepth 20000 in
theorem ggX11_at_X11_within : GoodIn wsX11_at wsX11_within := goodIn_r _ [11] (by decide +kernel) (by decide +kernel)
set_option maxRecDepth 20000 in
theorem gX11_at_X11_within : GoodIn wsX11_at (va_wsS RX11 73 yX11_within wsX11_within) := goodIn_app (goodIn_of _ (by decide +kernel)) ggX11_at_X11_within
set_option maxRecDepth 20000 in
theorem ggX11_at_X11_corrected : GoodIn wsX11_at wsX11_corrected := goodIn_r _ [18, 4, 2, 19, 20, 21, 22, 23, 24, 25, 26, 27, 28, 29, 30, 31, 32, 33, 34, 35, 36, 37, 38, 39, 40, 41, 42, 43, 44, 45, 46, 47, 48, 49, 50, 51] (by decide +kernel) (by decide +kernel)
set_option maxRecDepth 20000 in
theorem gX11_at_X11_corrected : GoodIn wsX11_at (wsV RX11 118 RX11 yX11_corrected wsX11_corrected) := goodIn_app (goodIn_of _ (by decide +kernel)) ggX11_at_X11_corrected
set_option maxRecDepth 20000 in
theorem ggX11_at_X7_value : GoodIn wsX11_at wsX7_value := goodIn_r _ [23, 24, 25, 44, 45, 46, 47] (by decide +kernel) (by decide +kernel)
set_option maxRecDepth 20000 in
theorem gX11_at_X7_value : GoodIn wsX11_at (wsV RX11 122 RX7 yX7_value wsX7_value) := goodIn_app (goodIn_of _ (by decide +kernel)) ggX11_at_X7_value
theorem dX11_at_0 : decode cX11_at 0 = .ok (.iload_n 1, 1) := by decide +kernel
theorem dX11_at_1 : decode cX11_at 1 = .ok (.invokestatic 68, 3) := by decide +kernel
theorem dX11_at_4 : decode cX11_at 4 = .ok (.ifCond .eq 19, 3) := by decide +kernel
theorem dX11_at_7 : decode cX11_at 7 = .ok (.iload_n 2, 1) := by decide +kernel
theorem dX11_at_8 : decode cX11_at 8 = .ok (.invokestatic 111, 3) := by decide +kernel
theorem dX11_at_11 : decode cX11_at 11 = .ok (.ifCond .eq 12, 3) := by decide +kernel
theorem dX11_at_14 : decode cX11_at 14 = .ok (.iload_n 3, 1) := by decide +kernel
theorem dX11_at_15 : decode cX11_at 15 = .ok (.iconst 0, 1) := by decide +kernel
theorem dX11_at_16 : decode cX11_at 16 = .ok (.iconst 4, 1) := by decide +kernel
theorem dX11_at_17 : decode cX11_at 17 = .ok (.invokestatic 73, 3) := by decide +kernel
theorem dX11_at_20 : decode cX11_at 20 = .ok (.ifCond .ne 6, 3) := by decide +kernel
theorem dX11_at_23 : decode cX11_at 23 = .ok (.ldc 97, 2) := by decide +kernel
theorem dX11_at_25 : decode cX11_at 25 = .ok (.ireturn, 1) := by decide +kernel
theorem dX11_at_26 : decode cX11_at 26 = .ok (.iload_n 2, 1) := by decide +kernel
theorem dX11_at_27 : decode cX11_at 27 = .ok (.aload_n 0, 1) := by decide +kernel
theorem dX11_at_28 : decode cX11_at 28 = .ok (.getfield 18, 3) := by decide +kernel
theorem dX11_at_31 : decode cX11_at 31 = .ok (.iload_n 1, 1) := by decide +kernel
theorem dX11_at_32 : decode cX11_at 32 = .ok (.aaload, 1) := by decide +kernel
theorem dX11_at_33 : decode cX11_at 33 = .ok (.getfield 114, 3) := by decide +kernel
theorem dX11_at_36 : decode cX11_at 36 = .ok (.if_icmp .lt 6, 3) := by decide +kernel
theorem dX11_at_39 : decode cX11_at 39 = .ok (.ldc 117, 2) := by decide +kernel
theorem dX11_at_41 : decode cX11_at 41 = .ok (.ireturn, 1) := by decide +kernel
theorem dX11_at_42 : decode cX11_at 42 = .ok (.iload_n 3, 1) := by decide +kernel
theorem dX11_at_43 : decode cX11_at 43 = .ok (.iconst 4, 1) := by decide +kernel
theorem dX11_at_44 : decode cX11_at 44 = .ok (.if_icmp .ne 19, 3) := by decide +kernel
theorem dX11_at_47 : decode cX11_at 47 = .ok (.aload_n 0, 1) := by decide +kernel
theorem dX11_at_48 : decode cX11_at 48 = .ok (.iload_n 1, 1) := by decide +kernel
theorem dX11_at_49 : decode cX11_at 49 = .ok (.iload_n 2, 1) := by decide +kernel
theorem dX11_at_50 : decode cX11_at 50 = .ok (.aload_n 0, 1) := by decide +kernel
theorem dX11_at_51 : decode cX11_at 51 = .ok (.getfield 10, 3) := by decide +kernel
theorem dX11_at_54 : decode cX11_at 54 = .ok (.getfield 105, 3) := by decide +kernel
theorem dX11_at_57 : decode cX11_at 57 = .ok (.invokevirtual 118, 3) := by decide +kernel
theorem dX11_at_60 : decode cX11_at 60 = .ok (.goto 14, 3) := by decide +kernel
theorem dX11_at_63 : decode cX11_at 63 = .ok (.aload_n 0, 1) := by decide +kernel
theorem dX11_at_64 : decode cX11_at 64 = .ok (.getfield 18, 3) := by decide +kernel
theorem dX11_at_67 : decode cX11_at 67 = .ok (.iload_n 1, 1) := by decide +kernel
theorem dX11_at_68 : decode cX11_at 68 = .ok (.aaload, 1) := by decide +kernel
theorem dX11_at_69 : decode cX11_at 69 = .ok (.iload_n 2, 1) := by decide +kernel
theorem dX11_at_70 : decode cX11_at 70 = .ok (.iload_n 3, 1) := by decide +kernel
theorem dX11_at_71 : decode cX11_at 71 = .ok (.invokevirtual 122, 3) := by decide +kernel
theorem dX11_at_74 : decode cX11_at 74 = .ok (.ireturn, 1) := by decide +kernel
set_option maxRecDepth 20000 in
theorem ggX11_many_X11_isStar : GoodIn wsX11_many wsX11_isStar := goodIn_r _ [5, 6, 7, 4, 8] (by decide +kernel) (by decide +kernel)
set_option maxRecDepth 20000 in
theorem gX11_many_X11_isStar : GoodIn wsX11_many (va_wsS RX11 68 yX11_isStar wsX11_isStar) := goodIn_app (goodIn_of _ (by decide +kernel)) ggX11_many_X11_isStar
theorem dX11_many_0 : decode cX11_many 0 = .ok (.iload_n 1, 1) := by decide +kernel
theorem dX11_many_1 : decode cX11_many 1 = .ok (.invokestatic 68, 3) := by decide +kernel
theorem dX11_many_4 : decode cX11_many 4 = .ok (.ifCond .eq 15, 3) := by decide +kernel
theorem dX11_many_7 : decode cX11_many 7 = .ok (.aload_n 0, 1) := by decide +kernel
theorem dX11_many_8 : decode cX11_many 8 = .ok (.getfield 18, 3) := by decide +kernel
theorem dX11_many_11 : decode cX11_many 11 = .ok (.iload_n 1, 1) := by decide +kernel
theorem dX11_many_12 : decode cX11_many 12 = .ok (.aaload, 1) := by decide +kernel
theorem dX11_many_13 : decode cX11_many 13 = .ok (.getfield 114, 3) := by decide +kernel
theorem dX11_many_16 : decode cX11_many 16 = .ok (.goto 4, 3) := by decide +kernel
theorem dX11_many_19 : decode cX11_many 19 = .ok (.iconst (-1), 1) := by decide +kernel
theorem dX11_many_20 : decode cX11_many 20 = .ok (.ireturn, 1) := by decide +kernel
set_option maxRecDepth 20000 in
theorem ggX11_write_X11_within : GoodIn wsX11_write wsX11_within := goodIn_r _ [5] (by decide +kernel) (by decide +kernel)
set_option maxRecDepth 20000 in
theorem gX11_write_X11_within : GoodIn wsX11_write (va_wsS RX11 73 yX11_within wsX11_within) := goodIn_app (goodIn_of _ (by decide +kernel)) ggX11_write_X11_within
set_option maxRecDepth 20000 in
theorem ggX11_write_X9_hasRoom : GoodIn wsX11_write wsX9_hasRoom := goodIn_r _ [10, 11, 27, 28, 29, 30] (by decide +kernel) (by decide +kernel)
set_option maxRecDepth 20000 in
theorem gX11_write_X9_hasRoom : GoodIn wsX11_write (wsV RX11 126 RX9 yX9_hasRoom wsX9_hasRoom) := goodIn_app (goodIn_of _ (by decide +kernel)) ggX11_write_X9_hasRoom
set_option maxRecDepth 20000 in
theorem ggX11_write_X9_append : GoodIn wsX11_write wsX9_append := goodIn_r _ [15, 16, 11, 27, 28, 29, 30] (by decide +kernel) (by decide +kernel)
set_option maxRecDepth 20000 in
theorem gX11_write_X9_append : GoodIn wsX11_write (wsV RX11 129 RX9 yX9_append wsX9_append) := goodIn_app (goodIn_of _ (by decide +kernel)) ggX11_write_X9_append
theorem dX11_write_0 : decode cX11_write 0 = .ok (.iload_n 1, 1) := by decide +kernel
theorem dX11_write_1 : decode cX11_write 1 = .ok (.iconst 1, 1) := by decide +kernel
theorem dX11_write_2 : decode cX11_write 2 = .ok (.bipush 8, 2) := by decide +kernel
theorem dX11_write_4 : decode cX11_write 4 = .ok (.invokestatic 73, 3) := by decide +kernel
theorem dX11_write_7 : decode cX11_write 7 = .ok (.ifCond .ne 5, 3) := by decide +kernel
theorem dX11_write_10 : decode cX11_write 10 = .ok (.iconst (-1), 1) := by decide +kernel
theorem dX11_write_11 : decode cX11_write 11 = .ok (.ireturn, 1) := by decide +kernel
theorem dX11_write_12 : decode cX11_write 12 = .ok (.aload_n 0, 1) := by decide +kernel
theorem dX11_write_13 : decode cX11_write 13 = .ok (.getfield 31, 3) := by decide +kernel
theorem dX11_write_16 : decode cX11_write 16 = .ok (.iload_n 1, 1) := by decide +kernel
theorem dX11_write_17 : decode cX11_write 17 = .ok (.invokevirtual 126, 3) := by decide +kernel
theorem dX11_write_20 : decode cX11_write 20 = .ok (.ifCond .eq 15, 3) := by decide +kernel
theorem dX11_write_23 : decode cX11_write 23 = .ok (.aload_n 0, 1) := by decide +kernel
theorem dX11_write_24 : decode cX11_write 24 = .ok (.getfield 31, 3) := by decide +kernel
theorem dX11_write_27 : decode cX11_write 27 = .ok (.iload_n 1, 1) := by decide +kernel
theorem dX11_write_28 : decode cX11_write 28 = .ok (.lload_n 2, 1) := by decide +kernel
theorem dX11_write_29 : decode cX11_write 29 = .ok (.invokevirtual 129, 3) := by decide +kernel
theorem dX11_write_32 : decode cX11_write 32 = .ok (.goto 5, 3) := by decide +kernel
theorem dX11_write_35 : decode cX11_write 35 = .ok (.bipush (-3), 2) := by decide +kernel
theorem dX11_write_37 : decode cX11_write 37 = .ok (.ireturn, 1) := by decide +kernel
set_option maxRecDepth 20000 in
theorem ggX11_wipe_X9_empty : GoodIn wsX11_wipe wsX9_empty := goodIn_r _ [6, 7, 18, 19, 20, 21] (by decide +kernel) (by decide +kernel)
set_option maxRecDepth 20000 in
theorem gX11_wipe_X9_empty : GoodIn wsX11_wipe (wsV RX11 133 RX9 yX9_empty wsX9_empty) := goodIn_app (goodIn_of _ (by decide +kernel)) ggX11_wipe_X9_empty
theorem dX11_wipe_0 : decode cX11_wipe 0 = .ok (.aload_n 0, 1) := by decide +kernel
theorem dX11_wipe_1 : decode cX11_wipe 1 = .ok (.getfield 31, 3) := by decide +kernel
theorem dX11_wipe_4 : decode cX11_wipe 4 = .ok (.invokevirtual 133, 3) := by decide +kernel
theorem dX11_wipe_7 : decode cX11_wipe 7 = .ok (.ireturn, 1) := by decide +kernel
set_option maxRecDepth 20000 in
theorem ggX11_fault_X9_read : GoodIn wsX11_fault wsX9_read := goodIn_r _ [7, 8, 9, 10, 11, 12, 13, 14, 15, 16, 17, 18, 19, 20, 21, 22, 23, 24, 25, 6, 26, 27, 28, 29, 30, 31, 32, 33, 34, 35, 36, 37, 38, 39, 40, 41, 42, 43, 44, 45, 46, 47, 48, 49, 50, 51, 52, 53, 54, 55, 56, 57, 58, 59, 60, 61, 62, 63, 64, 65, 66, 67, 68, 69, 70, 71, 72, 73, 74, 75, 76, 77, 78, 79, 80, 81, 82, 83, 84, 85, 86, 87, 88, 89, 90, 101, 102, 103, 104, 105, 106, 107, 108, 109, 110, 111, 112, 113, 114, 115, 116] (by decide +kernel) (by decide +kernel)
set_option maxRecDepth 20000 in
theorem gX11_fault_X9_read : GoodIn wsX11_fault (wsV RX11 136 RX9 yX9_read wsX9_read) := goodIn_app (goodIn_of _ (by decide +kernel)) ggX11_fault_X9_read
theorem dX11_fault_0 : decode cX11_fault 0 = .ok (.aload_n 0, 1) := by decide +kernel
theorem dX11_fault_1 : decode cX11_fault 1 = .ok (.getfield 31, 3) := by decide +kernel
theorem dX11_fault_4 : decode cX11_fault 4 = .ok (.aload_n 0, 1) := by decide +kernel
theorem dX11_fault_5 : decode cX11_fault 5 = .ok (.getfield 38, 3) := by decide +kernel
theorem dX11_fault_8 : decode cX11_fault 8 = .ok (.invokevirtual 136, 3) := by decide +kernel
theorem dX11_fault_11 : decode cX11_fault 11 = .ok (.ireturn, 1) := by decide +kernel
set_option maxRecDepth 20000 in
theorem ggX11_model_X11_isStar : GoodIn wsX11_model wsX11_isStar := goodIn_r _ [7, 8, 9, 6, 10] (by decide +kernel) (by decide +kernel)
set_option maxRecDepth 20000 in
theorem gX11_model_X11_isStar : GoodIn wsX11_model (va_wsS RX11 68 yX11_isStar wsX11_isStar) := goodIn_app (goodIn_of _ (by decide +kernel)) ggX11_model_X11_isStar
set_option maxRecDepth 20000 in
theorem ggX11_model_X9_read : GoodIn wsX11_model wsX9_read := goodIn_r _ [15, 16, 17, 18, 19, 20, 21, 22, 23, 24, 25, 26, 27, 28, 29, 30, 31, 32, 33, 14, 34, 35, 36, 37, 38, 39, 40, 41, 42, 43, 44, 45, 46, 47, 48, 49, 50, 51, 52, 53, 54, 55, 56, 57, 58, 59, 60, 61, 62, 63, 64, 65, 66, 67, 68, 9, 6, 10, 69, 70, 71, 72, 73, 74, 75, 76, 77, 78, 79, 80, 81, 82, 83, 84, 85, 86, 87, 88, 89, 90, 91, 92, 93, 94, 95, 138, 139, 140, 141, 126, 127, 128, 129, 130, 131, 132, 133, 134, 135, 136, 137] (by decide +kernel) (by decide +kernel)
set_option maxRecDepth 20000 in
theorem gX11_model_X9_read : GoodIn wsX11_model (wsV RX11 136 RX9 yX9_read wsX9_read) := goodIn_app (goodIn_of _ (by decide +kernel)) ggX11_model_X9_read
set_option maxRecDepth 20000 in
theorem ggX11_model_X10_exchange : GoodIn wsX11_model wsX10_exchange := goodIn_r _ [100, 101, 102, 103, 104, 105, 106, 107, 108, 21, 109, 110, 24, 27, 29, 83, 111, 84, 112, 113, 114, 115, 142, 143, 144, 126, 127, 128, 129, 130, 131, 132, 133, 134, 135, 136, 137] (by decide +kernel) (by decide +kernel)
set_option maxRecDepth 20000 in
theorem gX11_model_X10_exchange : GoodIn wsX11_model (wsV RX11 143 RX10 yX10_exchange wsX10_exchange) := goodIn_app (goodIn_of _ (by decide +kernel)) ggX11_model_X10_exchange
theorem dX11_model_0 : decode cX11_model 0 = .ok (.iload_n 1, 1) := by decide +kernel
theorem dX11_model_1 : decode cX11_model 1 = .ok (.invokestatic 68, 3) := by decide +kernel
theorem dX11_model_4 : decode cX11_model 4 = .ok (.ifCond .ne 5, 3) := by decide +kernel
theorem dX11_model_7 : decode cX11_model 7 = .ok (.iconst (-1), 1) := by decide +kernel
theorem dX11_model_8 : decode cX11_model 8 = .ok (.ireturn, 1) := by decide +kernel
theorem dX11_model_9 : decode cX11_model 9 = .ok (.aload_n 0, 1) := by decide +kernel
theorem dX11_model_10 : decode cX11_model 10 = .ok (.getfield 31, 3) := by decide +kernel
theorem dX11_model_13 : decode cX11_model 13 = .ok (.aload_n 0, 1) := by decide +kernel
theorem dX11_model_14 : decode cX11_model 14 = .ok (.getfield 38, 3) := by decide +kernel
theorem dX11_model_17 : decode cX11_model 17 = .ok (.invokevirtual 136, 3) := by decide +kernel
theorem dX11_model_20 : decode cX11_model 20 = .ok (.bipush (-4), 2) := by decide +kernel
theorem dX11_model_22 : decode cX11_model 22 = .ok (.if_icmp .eq 6, 3) := by decide +kernel
theorem dX11_model_25 : decode cX11_model 25 = .ok (.bipush (-2), 2) := by decide +kernel
theorem dX11_model_27 : decode cX11_model 27 = .ok (.ireturn, 1) := by decide +kernel
theorem dX11_model_28 : decode cX11_model 28 = .ok (.aload_n 0, 1) := by decide +kernel
theorem dX11_model_29 : decode cX11_model 29 = .ok (.getfield 38, 3) := by decide +kernel
theorem dX11_model_32 : decode cX11_model 32 = .ok (.getfield 140, 3) := by decide +kernel
theorem dX11_model_35 : decode cX11_model 35 = .ok (.istore_n 2, 1) := by decide +kernel
theorem dX11_model_36 : decode cX11_model 36 = .ok (.aload_n 0, 1) := by decide +kernel
theorem dX11_model_37 : decode cX11_model 37 = .ok (.aload_n 0, 1) := by decide +kernel
theorem dX11_model_38 : decode cX11_model 38 = .ok (.getfield 24, 3) := by decide +kernel
theorem dX11_model_41 : decode cX11_model 41 = .ok (.iload_n 1, 1) := by decide +kernel
theorem dX11_model_42 : decode cX11_model 42 = .ok (.aaload, 1) := by decide +kernel
theorem dX11_model_43 : decode cX11_model 43 = .ok (.aload_n 0, 1) := by decide +kernel
theorem dX11_model_44 : decode cX11_model 44 = .ok (.getfield 38, 3) := by decide +kernel
theorem dX11_model_47 : decode cX11_model 47 = .ok (.invokevirtual 143, 3) := by decide +kernel
theorem dX11_model_50 : decode cX11_model 50 = .ok (.putfield 38, 3) := by decide +kernel
theorem dX11_model_53 : decode cX11_model 53 = .ok (.iload_n 2, 1) := by decide +kernel
theorem dX11_model_54 : decode cX11_model 54 = .ok (.ireturn, 1) := by decide +kernel
set_option maxRecDepth 20000 in
theorem ggX11_comes_X11_isStar : GoodIn wsX11_comes wsX11_isStar := goodIn_r _ [7, 8, 9, 6, 10] (by decide +kernel) (by decide +kernel)
set_option maxRecDepth 20000 in
theorem gX11_comes_X11_isStar : GoodIn wsX11_comes (va_wsS RX11 68 yX11_isStar wsX11_isStar) := goodIn_app (goodIn_of _ (by decide +kernel)) ggX11_comes_X11_isStar
set_option maxRecDepth 20000 in
theorem ggX11_comes_X11_within : GoodIn wsX11_comes wsX11_within := goodIn_r _ [10] (by decide +kernel) (by decide +kernel)
set_option maxRecDepth 20000 in
theorem gX11_comes_X11_within : GoodIn wsX11_comes (va_wsS RX11 73 yX11_within wsX11_within) := goodIn_app (goodIn_of _ (by decide +kernel)) ggX11_comes_X11_within
set_option maxRecDepth 20000 in
theorem ggX11_comes_X10_comesAt : GoodIn wsX11_comes wsX10_comesAt := goodIn_r _ [15, 16, 17, 18, 19, 20, 21, 22, 23, 24, 25, 26, 37, 38, 39, 40, 41, 42, 43, 44, 45, 46, 47, 48, 49, 50, 51] (by decide +kernel) (by decide +kernel)
set_option maxRecDepth 20000 in
theorem gX11_comes_X10_comesAt : GoodIn wsX11_comes (wsV RX11 152 RX10 yX10_comesAt wsX10_comesAt) := goodIn_app (goodIn_of _ (by decide +kernel)) ggX11_comes_X10_comesAt
theorem dX11_comes_0 : decode cX11_comes 0 = .ok (.iload_n 1, 1) := by decide +kernel
theorem dX11_comes_1 : decode cX11_comes 1 = .ok (.invokestatic 68, 3) := by decide +kernel
theorem dX11_comes_4 : decode cX11_comes 4 = .ok (.ifCond .eq 14, 3) := by decide +kernel
theorem dX11_comes_7 : decode cX11_comes 7 = .ok (.iload_n 2, 1) := by decide +kernel
theorem dX11_comes_8 : decode cX11_comes 8 = .ok (.iconst 0, 1) := by decide +kernel
theorem dX11_comes_9 : decode cX11_comes 9 = .ok (.sipush 10000, 3) := by decide +kernel
theorem dX11_comes_12 : decode cX11_comes 12 = .ok (.invokestatic 73, 3) := by decide +kernel
theorem dX11_comes_15 : decode cX11_comes 15 = .ok (.ifCond .ne 7, 3) := by decide +kernel
theorem dX11_comes_18 : decode cX11_comes 18 = .ok (.ldc2_w 147, 3) := by decide +kernel
theorem dX11_comes_21 : decode cX11_comes 21 = .ok (.lreturn, 1) := by decide +kernel
theorem dX11_comes_22 : decode cX11_comes 22 = .ok (.iload_n 2, 1) := by decide +kernel
theorem dX11_comes_23 : decode cX11_comes 23 = .ok (.aload_n 0, 1) := by decide +kernel
theorem dX11_comes_24 : decode cX11_comes 24 = .ok (.getfield 24, 3) := by decide +kernel
theorem dX11_comes_27 : decode cX11_comes 27 = .ok (.iload_n 1, 1) := by decide +kernel
theorem dX11_comes_28 : decode cX11_comes 28 = .ok (.aaload, 1) := by decide +kernel
theorem dX11_comes_29 : decode cX11_comes 29 = .ok (.getfield 149, 3) := by decide +kernel
theorem dX11_comes_32 : decode cX11_comes 32 = .ok (.if_icmp .ge 16, 3) := by decide +kernel
theorem dX11_comes_35 : decode cX11_comes 35 = .ok (.aload_n 0, 1) := by decide +kernel
theorem dX11_comes_36 : decode cX11_comes 36 = .ok (.getfield 24, 3) := by decide +kernel
theorem dX11_comes_39 : decode cX11_comes 39 = .ok (.iload_n 1, 1) := by decide +kernel
theorem dX11_comes_40 : decode cX11_comes 40 = .ok (.aaload, 1) := by decide +kernel
theorem dX11_comes_41 : decode cX11_comes 41 = .ok (.iload_n 2, 1) := by decide +kernel
theorem dX11_comes_42 : decode cX11_comes 42 = .ok (.invokevirtual 152, 3) := by decide +kernel
theorem dX11_comes_45 : decode cX11_comes 45 = .ok (.goto 6, 3) := by decide +kernel
theorem dX11_comes_48 : decode cX11_comes 48 = .ok (.ldc2_w 156, 3) := by decide +kernel
theorem dX11_comes_51 : decode cX11_comes 51 = .ok (.lreturn, 1) := by decide +kernel
set_option maxRecDepth 20000 in
theorem ggX11_residue_X11_isStar : GoodIn wsX11_residue wsX11_isStar := goodIn_r _ [7, 8, 9, 6, 10] (by decide +kernel) (by decide +kernel)
set_option maxRecDepth 20000 in
theorem gX11_residue_X11_isStar : GoodIn wsX11_residue (va_wsS RX11 68 yX11_isStar wsX11_isStar) := goodIn_app (goodIn_of _ (by decide +kernel)) ggX11_residue_X11_isStar
set_option maxRecDepth 20000 in
theorem ggX11_residue_X11_isPlace : GoodIn wsX11_residue wsX11_isPlace := goodIn_r _ [13, 8, 9, 6, 10] (by decide +kernel) (by decide +kernel)
set_option maxRecDepth 20000 in
theorem gX11_residue_X11_isPlace : GoodIn wsX11_residue (va_wsS RX11 111 yX11_isPlace wsX11_isPlace) := goodIn_app (goodIn_of _ (by decide +kernel)) ggX11_residue_X11_isPlace
set_option maxRecDepth 20000 in
theorem ggX11_residue_X11_hasResidue : GoodIn wsX11_residue wsX11_hasResidue := goodIn_r _ [17, 18, 19, 20, 21, 22, 23, 24, 25, 83, 84, 85, 86, 87, 88, 89, 90, 91, 92, 97, 98, 99, 100, 101, 102, 103] (by decide +kernel) (by decide +kernel)
set_option maxRecDepth 20000 in
theorem gX11_residue_X11_hasResidue : GoodIn wsX11_residue (wsV RX11 159 RX11 yX11_hasResidue wsX11_hasResidue) := goodIn_app (goodIn_of _ (by decide +kernel)) ggX11_residue_X11_hasResidue
set_option maxRecDepth 20000 in
theorem ggX11_residue_X11_residueBy : GoodIn wsX11_residue wsX11_residueBy := goodIn_r _ [29, 18, 30, 31, 32, 6, 33, 2, 19, 34, 35, 36, 37, 38, 39, 40, 41, 42, 43, 44, 45, 46, 47, 48, 49, 50, 51, 23, 52, 53, 54, 55, 56, 57, 58, 59, 60, 61, 62, 63, 64, 25, 65, 66, 67, 68, 69, 70, 71, 72, 73, 74, 75, 76, 77, 78, 79, 80, 81, 82, 83, 84, 85, 86, 87, 88, 89, 90, 91, 92, 97, 98, 99, 100, 93, 94, 95, 96, 101, 102, 103, 104, 105, 106, 107, 108, 109, 110, 111, 112, 113, 114, 115] (by decide +kernel) (by decide +kernel)
set_option maxRecDepth 20000 in
theorem gX11_residue_X11_residueBy : GoodIn wsX11_residue (wsV RX11 163 RX11 yX11_residueBy wsX11_residueBy) := goodIn_app (goodIn_of _ (by decide +kernel)) ggX11_residue_X11_residueBy
theorem dX11_residue_0 : decode cX11_residue 0 = .ok (.iload_n 1, 1) := by decide +kernel
theorem dX11_residue_1 : decode cX11_residue 1 = .ok (.invokestatic 68, 3) := by decide +kernel
theorem dX11_residue_4 : decode cX11_residue 4 = .ok (.ifCond .eq 10, 3) := by decide +kernel
theorem dX11_residue_7 : decode cX11_residue 7 = .ok (.iload_n 2, 1) := by decide +kernel
theorem dX11_residue_8 : decode cX11_residue 8 = .ok (.invokestatic 111, 3) := by decide +kernel
theorem dX11_residue_11 : decode cX11_residue 11 = .ok (.ifCond .ne 6, 3) := by decide +kernel
theorem dX11_residue_14 : decode cX11_residue 14 = .ok (.ldc 158, 2) := by decide +kernel
theorem dX11_residue_16 : decode cX11_residue 16 = .ok (.ireturn, 1) := by decide +kernel
theorem dX11_residue_17 : decode cX11_residue 17 = .ok (.aload_n 0, 1) := by decide +kernel
theorem dX11_residue_18 : decode cX11_residue 18 = .ok (.iload_n 1, 1) := by decide +kernel
theorem dX11_residue_19 : decode cX11_residue 19 = .ok (.iload_n 2, 1) := by decide +kernel
theorem dX11_residue_20 : decode cX11_residue 20 = .ok (.invokevirtual 159, 3) := by decide +kernel
theorem dX11_residue_23 : decode cX11_residue 23 = .ok (.ifCond .eq 19, 3) := by decide +kernel
theorem dX11_residue_26 : decode cX11_residue 26 = .ok (.aload_n 0, 1) := by decide +kernel
theorem dX11_residue_27 : decode cX11_residue 27 = .ok (.iload_n 1, 1) := by decide +kernel
theorem dX11_residue_28 : decode cX11_residue 28 = .ok (.iload_n 2, 1) := by decide +kernel
theorem dX11_residue_29 : decode cX11_residue 29 = .ok (.aload_n 0, 1) := by decide +kernel
theorem dX11_residue_30 : decode cX11_residue 30 = .ok (.getfield 10, 3) := by decide +kernel
theorem dX11_residue_33 : decode cX11_residue 33 = .ok (.getfield 105, 3) := by decide +kernel
theorem dX11_residue_36 : decode cX11_residue 36 = .ok (.invokevirtual 163, 3) := by decide +kernel
theorem dX11_residue_39 : decode cX11_residue 39 = .ok (.goto 5, 3) := by decide +kernel
theorem dX11_residue_42 : decode cX11_residue 42 = .ok (.ldc 166, 2) := by decide +kernel
theorem dX11_residue_44 : decode cX11_residue 44 = .ok (.ireturn, 1) := by decide +kernel
set_option maxRecDepth 20000 in
theorem ggX11_turn_X11_isStar : GoodIn wsX11_turn wsX11_isStar := goodIn_r _ [4, 5, 6, 3, 7] (by decide +kernel) (by decide +kernel)
set_option maxRecDepth 20000 in
theorem gX11_turn_X11_isStar : GoodIn wsX11_turn (va_wsS RX11 68 yX11_isStar wsX11_isStar) := goodIn_app (goodIn_of _ (by decide +kernel)) ggX11_turn_X11_isStar
set_option maxRecDepth 20000 in
theorem ggX11_turn_X11_isPlace : GoodIn wsX11_turn wsX11_isPlace := goodIn_r _ [10, 5, 6, 3, 7] (by decide +kernel) (by decide +kernel)
set_option maxRecDepth 20000 in
theorem gX11_turn_X11_isPlace : GoodIn wsX11_turn (va_wsS RX11 111 yX11_isPlace wsX11_isPlace) := goodIn_app (goodIn_of _ (by decide +kernel)) ggX11_turn_X11_isPlace
set_option maxRecDepth 20000 in
theorem ggX11_turn_X11_hasResidue : GoodIn wsX11_turn wsX11_hasResidue := goodIn_r _ [14, 15, 16, 17, 18, 19, 20, 21, 22, 77, 78, 79, 80, 81, 82, 83, 84, 85, 86, 87, 88, 89, 90, 91, 92, 93] (by decide +kernel) (by decide +kernel)
set_option maxRecDepth 20000 in
theorem gX11_turn_X11_hasResidue : GoodIn wsX11_turn (wsV RX11 159 RX11 yX11_hasResidue wsX11_hasResidue) := goodIn_app (goodIn_of _ (by decide +kernel)) ggX11_turn_X11_hasResidue
set_option maxRecDepth 20000 in
theorem ggX11_turn_X11_turnOf : GoodIn wsX11_turn wsX11_turnOf := goodIn_r _ [26, 15, 27, 28, 29, 30, 31, 3, 32, 16, 33, 34, 35, 36, 37, 38, 39, 40, 41, 42, 43, 44, 45, 46, 47, 48, 49, 50, 20, 51, 52, 53, 54, 55, 56, 57, 58, 22, 59, 60, 61, 62, 63, 64, 65, 66, 67, 68, 69, 70, 71, 72, 73, 74, 75, 76, 77, 78, 79, 80, 81, 82, 83, 84, 85, 86, 94, 95, 96, 97, 87, 88, 89, 90, 91, 92, 93, 98, 99, 100, 101, 102, 103, 104, 105, 106, 107, 108, 109] (by decide +kernel) (by decide +kernel)
set_option maxRecDepth 20000 in
theorem gX11_turn_X11_turnOf : GoodIn wsX11_turn (wsV RX11 167 RX11 yX11_turnOf wsX11_turnOf) := goodIn_app (goodIn_of _ (by decide +kernel)) ggX11_turn_X11_turnOf
theorem dX11_turn_0 : decode cX11_turn 0 = .ok (.iload_n 1, 1) := by decide +kernel
theorem dX11_turn_1 : decode cX11_turn 1 = .ok (.invokestatic 68, 3) := by decide +kernel
theorem dX11_turn_4 : decode cX11_turn 4 = .ok (.ifCond .eq 10, 3) := by decide +kernel
theorem dX11_turn_7 : decode cX11_turn 7 = .ok (.iload_n 2, 1) := by decide +kernel
theorem dX11_turn_8 : decode cX11_turn 8 = .ok (.invokestatic 111, 3) := by decide +kernel
theorem dX11_turn_11 : decode cX11_turn 11 = .ok (.ifCond .ne 5, 3) := by decide +kernel
theorem dX11_turn_14 : decode cX11_turn 14 = .ok (.iconst (-1), 1) := by decide +kernel
theorem dX11_turn_15 : decode cX11_turn 15 = .ok (.ireturn, 1) := by decide +kernel
theorem dX11_turn_16 : decode cX11_turn 16 = .ok (.aload_n 0, 1) := by decide +kernel
theorem dX11_turn_17 : decode cX11_turn 17 = .ok (.iload_n 1, 1) := by decide +kernel
theorem dX11_turn_18 : decode cX11_turn 18 = .ok (.iload_n 2, 1) := by decide +kernel
theorem dX11_turn_19 : decode cX11_turn 19 = .ok (.invokevirtual 159, 3) := by decide +kernel
theorem dX11_turn_22 : decode cX11_turn 22 = .ok (.ifCond .eq 12, 3) := by decide +kernel
theorem dX11_turn_25 : decode cX11_turn 25 = .ok (.aload_n 0, 1) := by decide +kernel
theorem dX11_turn_26 : decode cX11_turn 26 = .ok (.iload_n 1, 1) := by decide +kernel
theorem dX11_turn_27 : decode cX11_turn 27 = .ok (.iload_n 2, 1) := by decide +kernel
theorem dX11_turn_28 : decode cX11_turn 28 = .ok (.invokevirtual 167, 3) := by decide +kernel
theorem dX11_turn_31 : decode cX11_turn 31 = .ok (.goto 5, 3) := by decide +kernel
theorem dX11_turn_34 : decode cX11_turn 34 = .ok (.bipush (-2), 2) := by decide +kernel
theorem dX11_turn_36 : decode cX11_turn 36 = .ok (.ireturn, 1) := by decide +kernel
set_option maxRecDepth 20000 in
theorem ggX11_ways_X11_isStar : GoodIn wsX11_ways wsX11_isStar := goodIn_r _ [9, 10, 11, 8, 12] (by decide +kernel) (by decide +kernel)
set_option maxRecDepth 20000 in
theorem gX11_ways_X11_isStar : GoodIn wsX11_ways (va_wsS RX11 68 yX11_isStar wsX11_isStar) := goodIn_app (goodIn_of _ (by decide +kernel)) ggX11_ways_X11_isStar
set_option maxRecDepth 20000 in
theorem ggX11_ways_X11_within : GoodIn wsX11_ways wsX11_within := goodIn_r _ [12] (by decide +kernel) (by decide +kernel)
set_option maxRecDepth 20000 in
theorem gX11_ways_X11_within : GoodIn wsX11_ways (va_wsS RX11 73 yX11_within wsX11_within) := goodIn_app (goodIn_of _ (by decide +kernel)) ggX11_ways_X11_within
set_option maxRecDepth 20000 in
theorem ggX11_ways_X0_begin : GoodIn wsX11_ways wsX0_begin := goodIn_r _ [17, 18, 19, 20, 21, 22, 144, 145, 146, 147, 148, 149, 150, 151, 152, 153, 154, 155, 156] (by decide +kernel) (by decide +kernel)
set_option maxRecDepth 20000 in
theorem gX11_ways_X0_begin : GoodIn wsX11_ways (wsV RX11 172 RX0 yX0_begin wsX0_begin) := goodIn_app (goodIn_of _ (by decide +kernel)) ggX11_ways_X0_begin
set_option maxRecDepth 20000 in
theorem ggX11_ways_X11_corrected : GoodIn wsX11_ways wsX11_corrected := goodIn_r _ [26, 5, 3, 27, 28, 29, 30, 31, 32, 33, 34, 35, 36, 37, 38, 39, 40, 41, 126, 127, 128, 129, 130, 131, 132, 133, 134, 135, 136, 137, 138, 139, 140, 141, 142, 143] (by decide +kernel) (by decide +kernel)
set_option maxRecDepth 20000 in
theorem gX11_ways_X11_corrected : GoodIn wsX11_ways (wsV RX11 118 RX11 yX11_corrected wsX11_corrected) := goodIn_app (goodIn_of _ (by decide +kernel)) ggX11_ways_X11_corrected
set_option maxRecDepth 20000 in
theorem ggX11_ways_X7_value : GoodIn wsX11_ways wsX7_value := goodIn_r _ [31, 32, 33, 136, 137, 138, 139] (by decide +kernel) (by decide +kernel)
set_option maxRecDepth 20000 in
theorem gX11_ways_X7_value : GoodIn wsX11_ways (wsV RX11 122 RX7 yX7_value wsX7_value) := goodIn_app (goodIn_of _ (by decide +kernel)) ggX11_ways_X7_value
set_option maxRecDepth 20000 in
theorem ggX11_ways_X0_put : GoodIn wsX11_ways wsX0_put := goodIn_r _ [45, 46, 47, 144, 145, 146, 147, 148, 149, 150, 151, 152, 153, 154, 155, 156] (by decide +kernel) (by decide +kernel)
set_option maxRecDepth 20000 in
theorem gX11_ways_X0_put : GoodIn wsX11_ways (wsV RX11 176 RX0 yX0_put wsX0_put) := goodIn_app (goodIn_of _ (by decide +kernel)) ggX11_ways_X0_put
set_option maxRecDepth 20000 in
theorem ggX11_ways_X0_seek : GoodIn wsX11_ways wsX0_seek := goodIn_r _ [51, 52, 53, 54, 19, 55, 56, 20, 21, 57, 58, 59, 60, 61, 62, 63, 64, 65, 66, 67, 68, 16, 69, 46, 47, 70, 71, 72, 73, 74, 75, 76, 77, 78, 79, 80, 81, 82, 83, 84, 85, 86, 87, 88, 89, 90, 91, 92, 93, 94, 95, 96, 97, 98, 99, 100, 101, 102, 103, 104, 105, 106, 22, 107, 108, 109, 110, 111, 112, 113, 114, 115, 116, 117, 118, 119, 120, 121, 122, 123, 124, 125, 144, 145, 146, 147, 148, 149, 150, 151, 152, 153, 154, 155, 156, 157, 158, 159, 160] (by decide +kernel) (by decide +kernel)
set_option maxRecDepth 20000 in
theorem gX11_ways_X0_seek : GoodIn wsX11_ways (wsV RX11 179 RX0 yX0_seek wsX0_seek) := goodIn_app (goodIn_of _ (by decide +kernel)) ggX11_ways_X0_seek
theorem dX11_ways_0 : decode cX11_ways 0 = .ok (.iload_n 1, 1) := by decide +kernel
theorem dX11_ways_1 : decode cX11_ways 1 = .ok (.invokestatic 68, 3) := by decide +kernel
theorem dX11_ways_4 : decode cX11_ways 4 = .ok (.ifCond .eq 30, 3) := by decide +kernel
theorem dX11_ways_7 : decode cX11_ways 7 = .ok (.iload_n 2, 1) := by decide +kernel
theorem dX11_ways_8 : decode cX11_ways 8 = .ok (.ldc 170, 2) := by decide +kernel
theorem dX11_ways_10 : decode cX11_ways 10 = .ok (.ldc 171, 2) := by decide +kernel
theorem dX11_ways_12 : decode cX11_ways 12 = .ok (.invokestatic 73, 3) := by decide +kernel
theorem dX11_ways_15 : decode cX11_ways 15 = .ok (.ifCond .eq 19, 3) := by decide +kernel
theorem dX11_ways_18 : decode cX11_ways 18 = .ok (.iload_n 3, 1) := by decide +kernel
theorem dX11_ways_19 : decode cX11_ways 19 = .ok (.ldc 170, 2) := by decide +kernel
theorem dX11_ways_21 : decode cX11_ways 21 = .ok (.ldc 171, 2) := by decide +kernel
theorem dX11_ways_23 : decode cX11_ways 23 = .ok (.invokestatic 73, 3) := by decide +kernel
theorem dX11_ways_26 : decode cX11_ways 26 = .ok (.ifCond .eq 8, 3) := by decide +kernel
theorem dX11_ways_29 : decode cX11_ways 29 = .ok (.iload_n 2, 1) := by decide +kernel
theorem dX11_ways_30 : decode cX11_ways 30 = .ok (.iload_n 3, 1) := by decide +kernel
theorem dX11_ways_31 : decode cX11_ways 31 = .ok (.if_icmp .le 5, 3) := by decide +kernel
theorem dX11_ways_34 : decode cX11_ways 34 = .ok (.iconst (-1), 1) := by decide +kernel
theorem dX11_ways_35 : decode cX11_ways 35 = .ok (.ireturn, 1) := by decide +kernel
theorem dX11_ways_36 : decode cX11_ways 36 = .ok (.aload_n 0, 1) := by decide +kernel
theorem dX11_ways_37 : decode cX11_ways 37 = .ok (.getfield 18, 3) := by decide +kernel
theorem dX11_ways_40 : decode cX11_ways 40 = .ok (.iload_n 1, 1) := by decide +kernel
theorem dX11_ways_41 : decode cX11_ways 41 = .ok (.aaload, 1) := by decide +kernel
theorem dX11_ways_42 : decode cX11_ways 42 = .ok (.getfield 114, 3) := by decide +kernel
theorem dX11_ways_45 : decode cX11_ways 45 = .ok (.istore 4, 2) := by decide +kernel
theorem dX11_ways_47 : decode cX11_ways 47 = .ok (.iload 4, 2) := by decide +kernel
theorem dX11_ways_49 : decode cX11_ways 49 = .ok (.iconst 2, 1) := by decide +kernel
theorem dX11_ways_50 : decode cX11_ways 50 = .ok (.if_icmp .ge 6, 3) := by decide +kernel
theorem dX11_ways_53 : decode cX11_ways 53 = .ok (.bipush (-2), 2) := by decide +kernel
theorem dX11_ways_55 : decode cX11_ways 55 = .ok (.ireturn, 1) := by decide +kernel
theorem dX11_ways_56 : decode cX11_ways 56 = .ok (.aload_n 0, 1) := by decide +kernel
theorem dX11_ways_57 : decode cX11_ways 57 = .ok (.getfield 45, 3) := by decide +kernel
theorem dX11_ways_60 : decode cX11_ways 60 = .ok (.iload 4, 2) := by decide +kernel
theorem dX11_ways_62 : decode cX11_ways 62 = .ok (.invokevirtual 172, 3) := by decide +kernel
theorem dX11_ways_65 : decode cX11_ways 65 = .ok (.iconst 0, 1) := by decide +kernel
theorem dX11_ways_66 : decode cX11_ways 66 = .ok (.istore 5, 2) := by decide +kernel
theorem dX11_ways_68 : decode cX11_ways 68 = .ok (.iload 5, 2) := by decide +kernel
theorem dX11_ways_70 : decode cX11_ways 70 = .ok (.iload 4, 2) := by decide +kernel
theorem dX11_ways_72 : decode cX11_ways 72 = .ok (.if_icmp .ge 44, 3) := by decide +kernel
theorem dX11_ways_75 : decode cX11_ways 75 = .ok (.aload_n 0, 1) := by decide +kernel
theorem dX11_ways_76 : decode cX11_ways 76 = .ok (.getfield 45, 3) := by decide +kernel
theorem dX11_ways_79 : decode cX11_ways 79 = .ok (.iload 5, 2) := by decide +kernel
theorem dX11_ways_81 : decode cX11_ways 81 = .ok (.aload_n 0, 1) := by decide +kernel
theorem dX11_ways_82 : decode cX11_ways 82 = .ok (.iload_n 1, 1) := by decide +kernel
theorem dX11_ways_83 : decode cX11_ways 83 = .ok (.iload 5, 2) := by decide +kernel
theorem dX11_ways_85 : decode cX11_ways 85 = .ok (.aload_n 0, 1) := by decide +kernel
theorem dX11_ways_86 : decode cX11_ways 86 = .ok (.getfield 10, 3) := by decide +kernel
theorem dX11_ways_89 : decode cX11_ways 89 = .ok (.getfield 105, 3) := by decide +kernel
theorem dX11_ways_92 : decode cX11_ways 92 = .ok (.invokevirtual 118, 3) := by decide +kernel
theorem dX11_ways_95 : decode cX11_ways 95 = .ok (.aload_n 0, 1) := by decide +kernel
theorem dX11_ways_96 : decode cX11_ways 96 = .ok (.getfield 18, 3) := by decide +kernel
theorem dX11_ways_99 : decode cX11_ways 99 = .ok (.iload_n 1, 1) := by decide +kernel
theorem dX11_ways_100 : decode cX11_ways 100 = .ok (.aaload, 1) := by decide +kernel
theorem dX11_ways_101 : decode cX11_ways 101 = .ok (.iload 5, 2) := by decide +kernel
theorem dX11_ways_103 : decode cX11_ways 103 = .ok (.iconst 1, 1) := by decide +kernel
theorem dX11_ways_104 : decode cX11_ways 104 = .ok (.invokevirtual 122, 3) := by decide +kernel
theorem dX11_ways_107 : decode cX11_ways 107 = .ok (.invokevirtual 176, 3) := by decide +kernel
theorem dX11_ways_110 : decode cX11_ways 110 = .ok (.iinc 5 1, 3) := by decide +kernel
theorem dX11_ways_113 : decode cX11_ways 113 = .ok (.goto (-45), 3) := by decide +kernel
theorem dX11_ways_116 : decode cX11_ways 116 = .ok (.aload_n 0, 1) := by decide +kernel
theorem dX11_ways_117 : decode cX11_ways 117 = .ok (.getfield 45, 3) := by decide +kernel
theorem dX11_ways_120 : decode cX11_ways 120 = .ok (.iload_n 2, 1) := by decide +kernel
theorem dX11_ways_121 : decode cX11_ways 121 = .ok (.iload_n 3, 1) := by decide +kernel
theorem dX11_ways_122 : decode cX11_ways 122 = .ok (.invokevirtual 179, 3) := by decide +kernel
theorem dX11_ways_125 : decode cX11_ways 125 = .ok (.ireturn, 1) := by decide +kernel
set_option maxRecDepth 20000 in
theorem ggX11_way_X11_isPlace : GoodIn wsX11_way wsX11_isPlace := goodIn_r _ [5, 6, 7, 4, 8] (by decide +kernel) (by decide +kernel)
set_option maxRecDepth 20000 in
theorem gX11_way_X11_isPlace : GoodIn wsX11_way (va_wsS RX11 111 yX11_isPlace wsX11_isPlace) := goodIn_app (goodIn_of _ (by decide +kernel)) ggX11_way_X11_isPlace
set_option maxRecDepth 20000 in
theorem ggX11_way_X0_stands : GoodIn wsX11_way wsX0_stands := goodIn_r _ [13, 14, 15, 31, 32, 33, 34, 35, 36, 37, 38, 39, 40, 41, 42, 43] (by decide +kernel) (by decide +kernel)
set_option maxRecDepth 20000 in
theorem gX11_way_X0_stands : GoodIn wsX11_way (wsV RX11 182 RX0 yX0_stands wsX0_stands) := goodIn_app (goodIn_of _ (by decide +kernel)) ggX11_way_X0_stands
set_option maxRecDepth 20000 in
theorem ggX11_way_X0_countOf : GoodIn wsX11_way wsX0_countOf := goodIn_r _ [19, 20, 31, 32, 33, 34, 35, 36, 37, 38, 39, 40, 41, 42, 43] (by decide +kernel) (by decide +kernel)
set_option maxRecDepth 20000 in
theorem gX11_way_X0_countOf : GoodIn wsX11_way (wsV RX11 191 RX0 yX0_countOf wsX0_countOf) := goodIn_app (goodIn_of _ (by decide +kernel)) ggX11_way_X0_countOf
theorem dX11_way_0 : decode cX11_way 0 = .ok (.iload_n 1, 1) := by decide +kernel
theorem dX11_way_1 : decode cX11_way 1 = .ok (.ifCond .lt 10, 3) := by decide +kernel
theorem dX11_way_4 : decode cX11_way 4 = .ok (.iload_n 2, 1) := by decide +kernel
theorem dX11_way_5 : decode cX11_way 5 = .ok (.invokestatic 111, 3) := by decide +kernel
theorem dX11_way_8 : decode cX11_way 8 = .ok (.ifCond .ne 5, 3) := by decide +kernel
theorem dX11_way_11 : decode cX11_way 11 = .ok (.iconst (-1), 1) := by decide +kernel
theorem dX11_way_12 : decode cX11_way 12 = .ok (.ireturn, 1) := by decide +kernel
theorem dX11_way_13 : decode cX11_way 13 = .ok (.aload_n 0, 1) := by decide +kernel
theorem dX11_way_14 : decode cX11_way 14 = .ok (.getfield 45, 3) := by decide +kernel
theorem dX11_way_17 : decode cX11_way 17 = .ok (.invokevirtual 182, 3) := by decide +kernel
theorem dX11_way_20 : decode cX11_way 20 = .ok (.ifCond .eq 14, 3) := by decide +kernel
theorem dX11_way_23 : decode cX11_way 23 = .ok (.iload_n 2, 1) := by decide +kernel
theorem dX11_way_24 : decode cX11_way 24 = .ok (.aload_n 0, 1) := by decide +kernel
theorem dX11_way_25 : decode cX11_way 25 = .ok (.getfield 45, 3) := by decide +kernel
theorem dX11_way_28 : decode cX11_way 28 = .ok (.getfield 185, 3) := by decide +kernel
theorem dX11_way_31 : decode cX11_way 31 = .ok (.if_icmp .lt 6, 3) := by decide +kernel
theorem dX11_way_34 : decode cX11_way 34 = .ok (.bipush (-2), 2) := by decide +kernel
theorem dX11_way_36 : decode cX11_way 36 = .ok (.ireturn, 1) := by decide +kernel
theorem dX11_way_37 : decode cX11_way 37 = .ok (.iload_n 1, 1) := by decide +kernel
theorem dX11_way_38 : decode cX11_way 38 = .ok (.aload_n 0, 1) := by decide +kernel
theorem dX11_way_39 : decode cX11_way 39 = .ok (.getfield 45, 3) := by decide +kernel
theorem dX11_way_42 : decode cX11_way 42 = .ok (.getfield 188, 3) := by decide +kernel
theorem dX11_way_45 : decode cX11_way 45 = .ok (.if_icmp .ge 15, 3) := by decide +kernel
theorem dX11_way_48 : decode cX11_way 48 = .ok (.aload_n 0, 1) := by decide +kernel
theorem dX11_way_49 : decode cX11_way 49 = .ok (.getfield 45, 3) := by decide +kernel
theorem dX11_way_52 : decode cX11_way 52 = .ok (.iload_n 1, 1) := by decide +kernel
theorem dX11_way_53 : decode cX11_way 53 = .ok (.iload_n 2, 1) := by decide +kernel
theorem dX11_way_54 : decode cX11_way 54 = .ok (.invokevirtual 191, 3) := by decide +kernel
theorem dX11_way_57 : decode cX11_way 57 = .ok (.goto 5, 3) := by decide +kernel
theorem dX11_way_60 : decode cX11_way 60 = .ok (.bipush (-4), 2) := by decide +kernel
theorem dX11_way_62 : decode cX11_way 62 = .ok (.ireturn, 1) := by decide +kernel
set_option maxRecDepth 20000 in
theorem ggX11_sure_X11_isPlace : GoodIn wsX11_sure wsX11_isPlace := goodIn_r _ [5, 6, 7, 4, 8] (by decide +kernel) (by decide +kernel)
set_option maxRecDepth 20000 in
theorem gX11_sure_X11_isPlace : GoodIn wsX11_sure (va_wsS RX11 111 yX11_isPlace wsX11_isPlace) := goodIn_app (goodIn_of _ (by decide +kernel)) ggX11_sure_X11_isPlace
set_option maxRecDepth 20000 in
theorem ggX11_sure_X0_stands : GoodIn wsX11_sure wsX0_stands := goodIn_r _ [13, 14, 15, 36, 37, 38, 39, 40, 41, 42, 43, 44, 45, 46, 47, 48] (by decide +kernel) (by decide +kernel)
set_option maxRecDepth 20000 in
theorem gX11_sure_X0_stands : GoodIn wsX11_sure (wsV RX11 182 RX0 yX0_stands wsX0_stands) := goodIn_app (goodIn_of _ (by decide +kernel)) ggX11_sure_X0_stands
set_option maxRecDepth 20000 in
theorem ggX11_sure_X0_oneCount : GoodIn wsX11_sure wsX0_oneCount := goodIn_r _ [19, 20, 21, 22, 23, 12, 24, 25, 36, 37, 38, 39, 40, 41, 42, 43, 44, 45, 46, 47, 48] (by decide +kernel) (by decide +kernel)
set_option maxRecDepth 20000 in
theorem gX11_sure_X0_oneCount : GoodIn wsX11_sure (wsV RX11 194 RX0 yX0_oneCount wsX0_oneCount) := goodIn_app (goodIn_of _ (by decide +kernel)) ggX11_sure_X0_oneCount
theorem dX11_sure_0 : decode cX11_sure 0 = .ok (.iload_n 1, 1) := by decide +kernel
theorem dX11_sure_1 : decode cX11_sure 1 = .ok (.invokestatic 111, 3) := by decide +kernel
theorem dX11_sure_4 : decode cX11_sure 4 = .ok (.ifCond .ne 5, 3) := by decide +kernel
theorem dX11_sure_7 : decode cX11_sure 7 = .ok (.iconst (-1), 1) := by decide +kernel
theorem dX11_sure_8 : decode cX11_sure 8 = .ok (.ireturn, 1) := by decide +kernel
theorem dX11_sure_9 : decode cX11_sure 9 = .ok (.aload_n 0, 1) := by decide +kernel
theorem dX11_sure_10 : decode cX11_sure 10 = .ok (.getfield 45, 3) := by decide +kernel
theorem dX11_sure_13 : decode cX11_sure 13 = .ok (.invokevirtual 182, 3) := by decide +kernel
theorem dX11_sure_16 : decode cX11_sure 16 = .ok (.ifCond .eq 14, 3) := by decide +kernel
theorem dX11_sure_19 : decode cX11_sure 19 = .ok (.iload_n 1, 1) := by decide +kernel
theorem dX11_sure_20 : decode cX11_sure 20 = .ok (.aload_n 0, 1) := by decide +kernel
theorem dX11_sure_21 : decode cX11_sure 21 = .ok (.getfield 45, 3) := by decide +kernel
theorem dX11_sure_24 : decode cX11_sure 24 = .ok (.getfield 185, 3) := by decide +kernel
theorem dX11_sure_27 : decode cX11_sure 27 = .ok (.if_icmp .lt 6, 3) := by decide +kernel
theorem dX11_sure_30 : decode cX11_sure 30 = .ok (.bipush (-2), 2) := by decide +kernel
theorem dX11_sure_32 : decode cX11_sure 32 = .ok (.ireturn, 1) := by decide +kernel
theorem dX11_sure_33 : decode cX11_sure 33 = .ok (.aload_n 0, 1) := by decide +kernel
theorem dX11_sure_34 : decode cX11_sure 34 = .ok (.getfield 45, 3) := by decide +kernel
theorem dX11_sure_37 : decode cX11_sure 37 = .ok (.iload_n 1, 1) := by decide +kernel
theorem dX11_sure_38 : decode cX11_sure 38 = .ok (.invokevirtual 194, 3) := by decide +kernel
theorem dX11_sure_41 : decode cX11_sure 41 = .ok (.ireturn, 1) := by decide +kernel
set_option maxRecDepth 20000 in
theorem ggX11_fit_X11_within : GoodIn wsX11_fit wsX11_within := goodIn_r _ [7] (by decide +kernel) (by decide +kernel)
set_option maxRecDepth 20000 in
theorem gX11_fit_X11_within : GoodIn wsX11_fit (va_wsS RX11 73 yX11_within wsX11_within) := goodIn_app (goodIn_of _ (by decide +kernel)) ggX11_fit_X11_within
set_option maxRecDepth 20000 in
theorem ggX11_fit_X0_stands : GoodIn wsX11_fit wsX0_stands := goodIn_r _ [12, 13, 14, 53, 54, 55, 56, 57, 58, 59, 60, 61, 62, 63, 64, 65] (by decide +kernel) (by decide +kernel)
set_option maxRecDepth 20000 in
theorem gX11_fit_X0_stands : GoodIn wsX11_fit (wsV RX11 182 RX0 yX0_stands wsX0_stands) := goodIn_app (goodIn_of _ (by decide +kernel)) ggX11_fit_X0_stands
set_option maxRecDepth 20000 in
theorem ggX11_fit_X0_fitted : GoodIn wsX11_fit wsX0_fitted := goodIn_r _ [18, 19, 20, 21, 22, 23, 11, 24, 25, 26, 27, 28, 29, 30, 31, 32, 33, 34, 35, 36, 37, 38, 39, 40, 41, 42, 53, 54, 55, 56, 57, 58, 59, 60, 61, 62, 63, 64, 65] (by decide +kernel) (by decide +kernel)
set_option maxRecDepth 20000 in
theorem gX11_fit_X0_fitted : GoodIn wsX11_fit (wsV RX11 202 RX0 yX0_fitted wsX0_fitted) := goodIn_app (goodIn_of _ (by decide +kernel)) ggX11_fit_X0_fitted
theorem dX11_fit_0 : decode cX11_fit 0 = .ok (.iload_n 1, 1) := by decide +kernel
theorem dX11_fit_1 : decode cX11_fit 1 = .ok (.ifCond .lt 12, 3) := by decide +kernel
theorem dX11_fit_4 : decode cX11_fit 4 = .ok (.iload_n 2, 1) := by decide +kernel
theorem dX11_fit_5 : decode cX11_fit 5 = .ok (.iconst 0, 1) := by decide +kernel
theorem dX11_fit_6 : decode cX11_fit 6 = .ok (.iconst 4, 1) := by decide +kernel
theorem dX11_fit_7 : decode cX11_fit 7 = .ok (.invokestatic 73, 3) := by decide +kernel
theorem dX11_fit_10 : decode cX11_fit 10 = .ok (.ifCond .ne 7, 3) := by decide +kernel
theorem dX11_fit_13 : decode cX11_fit 13 = .ok (.ldc2_w 198, 3) := by decide +kernel
theorem dX11_fit_16 : decode cX11_fit 16 = .ok (.lreturn, 1) := by decide +kernel
theorem dX11_fit_17 : decode cX11_fit 17 = .ok (.aload_n 0, 1) := by decide +kernel
theorem dX11_fit_18 : decode cX11_fit 18 = .ok (.getfield 45, 3) := by decide +kernel
theorem dX11_fit_21 : decode cX11_fit 21 = .ok (.invokevirtual 182, 3) := by decide +kernel
theorem dX11_fit_24 : decode cX11_fit 24 = .ok (.ifCond .eq 14, 3) := by decide +kernel
theorem dX11_fit_27 : decode cX11_fit 27 = .ok (.iload_n 1, 1) := by decide +kernel
theorem dX11_fit_28 : decode cX11_fit 28 = .ok (.aload_n 0, 1) := by decide +kernel
theorem dX11_fit_29 : decode cX11_fit 29 = .ok (.getfield 45, 3) := by decide +kernel
theorem dX11_fit_32 : decode cX11_fit 32 = .ok (.getfield 188, 3) := by decide +kernel
theorem dX11_fit_35 : decode cX11_fit 35 = .ok (.if_icmp .lt 7, 3) := by decide +kernel
theorem dX11_fit_38 : decode cX11_fit 38 = .ok (.ldc2_w 200, 3) := by decide +kernel
theorem dX11_fit_41 : decode cX11_fit 41 = .ok (.lreturn, 1) := by decide +kernel
theorem dX11_fit_42 : decode cX11_fit 42 = .ok (.aload_n 0, 1) := by decide +kernel
theorem dX11_fit_43 : decode cX11_fit 43 = .ok (.getfield 45, 3) := by decide +kernel
theorem dX11_fit_46 : decode cX11_fit 46 = .ok (.iload_n 1, 1) := by decide +kernel
theorem dX11_fit_47 : decode cX11_fit 47 = .ok (.iload_n 2, 1) := by decide +kernel
theorem dX11_fit_48 : decode cX11_fit 48 = .ok (.invokevirtual 202, 3) := by decide +kernel
theorem dX11_fit_51 : decode cX11_fit 51 = .ok (.lreturn, 1) := by decide +kernel
set_option maxRecDepth 20000 in
theorem ggX11_left_X11_within : GoodIn wsX11_left wsX11_within := goodIn_r _ [6] (by decide +kernel) (by decide +kernel)
set_option maxRecDepth 20000 in
theorem gX11_left_X11_within : GoodIn wsX11_left (va_wsS RX11 73 yX11_within wsX11_within) := goodIn_app (goodIn_of _ (by decide +kernel)) ggX11_left_X11_within
set_option maxRecDepth 20000 in
theorem ggX11_left_X0_canLook : GoodIn wsX11_left wsX0_canLook := goodIn_r _ [11, 12, 13, 14, 15, 16, 10, 17, 18, 19, 80, 81, 82, 83, 84, 85, 86, 87, 88, 89, 90, 91, 92] (by decide +kernel) (by decide +kernel)
set_option maxRecDepth 20000 in
theorem gX11_left_X0_canLook : GoodIn wsX11_left (wsV RX11 206 RX0 yX0_canLook wsX0_canLook) := goodIn_app (goodIn_of _ (by decide +kernel)) ggX11_left_X0_canLook
set_option maxRecDepth 20000 in
theorem ggX11_left_X0_goOn : GoodIn wsX11_left wsX0_goOn := goodIn_r _ [23, 24, 13, 25, 26, 27, 28, 29, 30, 31, 32, 10, 33, 34, 35, 36, 37, 38, 39, 12, 40, 41, 42, 43, 44, 45, 46, 47, 48, 49, 50, 51, 52, 53, 54, 55, 56, 57, 58, 59, 60, 61, 62, 63, 64, 65, 66, 67, 68, 69, 80, 81, 82, 83, 84, 85, 86, 87, 88, 89, 90, 91, 92, 93, 94, 95, 96] (by decide +kernel) (by decide +kernel)
set_option maxRecDepth 20000 in
theorem gX11_left_X0_goOn : GoodIn wsX11_left (wsV RX11 209 RX0 yX0_goOn wsX0_goOn) := goodIn_app (goodIn_of _ (by decide +kernel)) ggX11_left_X0_goOn
theorem dX11_left_0 : decode cX11_left 0 = .ok (.iload_n 1, 1) := by decide +kernel
theorem dX11_left_1 : decode cX11_left 1 = .ok (.iconst 0, 1) := by decide +kernel
theorem dX11_left_2 : decode cX11_left 2 = .ok (.ldc 80, 2) := by decide +kernel
theorem dX11_left_4 : decode cX11_left 4 = .ok (.invokestatic 73, 3) := by decide +kernel
theorem dX11_left_7 : decode cX11_left 7 = .ok (.ifCond .eq 14, 3) := by decide +kernel
theorem dX11_left_10 : decode cX11_left 10 = .ok (.iload_n 2, 1) := by decide +kernel
theorem dX11_left_11 : decode cX11_left 11 = .ok (.iconst 0, 1) := by decide +kernel
theorem dX11_left_12 : decode cX11_left 12 = .ok (.sipush 1000, 3) := by decide +kernel
theorem dX11_left_15 : decode cX11_left 15 = .ok (.invokestatic 73, 3) := by decide +kernel
theorem dX11_left_18 : decode cX11_left 18 = .ok (.ifCond .ne 5, 3) := by decide +kernel
theorem dX11_left_21 : decode cX11_left 21 = .ok (.iconst (-1), 1) := by decide +kernel
theorem dX11_left_22 : decode cX11_left 22 = .ok (.ireturn, 1) := by decide +kernel
theorem dX11_left_23 : decode cX11_left 23 = .ok (.aload_n 0, 1) := by decide +kernel
theorem dX11_left_24 : decode cX11_left 24 = .ok (.getfield 45, 3) := by decide +kernel
theorem dX11_left_27 : decode cX11_left 27 = .ok (.iload_n 1, 1) := by decide +kernel
theorem dX11_left_28 : decode cX11_left 28 = .ok (.invokevirtual 206, 3) := by decide +kernel
theorem dX11_left_31 : decode cX11_left 31 = .ok (.ifCond .eq 15, 3) := by decide +kernel
theorem dX11_left_34 : decode cX11_left 34 = .ok (.aload_n 0, 1) := by decide +kernel
theorem dX11_left_35 : decode cX11_left 35 = .ok (.getfield 45, 3) := by decide +kernel
theorem dX11_left_38 : decode cX11_left 38 = .ok (.iload_n 1, 1) := by decide +kernel
theorem dX11_left_39 : decode cX11_left 39 = .ok (.iload_n 2, 1) := by decide +kernel
theorem dX11_left_40 : decode cX11_left 40 = .ok (.invokevirtual 209, 3) := by decide +kernel
theorem dX11_left_43 : decode cX11_left 43 = .ok (.goto 5, 3) := by decide +kernel
theorem dX11_left_46 : decode cX11_left 46 = .ok (.bipush (-2), 2) := by decide +kernel
theorem dX11_left_48 : decode cX11_left 48 = .ok (.ireturn, 1) := by decide +kernel
set_option maxRecDepth 20000 in
theorem ggX11_look_X11_within : GoodIn wsX11_look wsX11_within := goodIn_r _ [7] (by decide +kernel) (by decide +kernel)
set_option maxRecDepth 20000 in
theorem gX11_look_X11_within : GoodIn wsX11_look (va_wsS RX11 73 yX11_within wsX11_within) := goodIn_app (goodIn_of _ (by decide +kernel)) ggX11_look_X11_within
set_option maxRecDepth 20000 in
theorem ggX11_look_X0_canLook : GoodIn wsX11_look wsX0_canLook := goodIn_r _ [12, 13, 14, 15, 16, 17, 11, 18, 19, 20, 85, 86, 87, 88, 89, 90, 91, 92, 93, 94, 95, 96, 97] (by decide +kernel) (by decide +kernel)
set_option maxRecDepth 20000 in
theorem gX11_look_X0_canLook : GoodIn wsX11_look (wsV RX11 206 RX0 yX0_canLook wsX0_canLook) := goodIn_app (goodIn_of _ (by decide +kernel)) ggX11_look_X0_canLook
set_option maxRecDepth 20000 in
theorem ggX11_look_X0_bestLook : GoodIn wsX11_look wsX0_bestLook := goodIn_r _ [24, 25, 26, 27, 11, 28, 29, 14, 30, 31, 32, 33, 34, 35, 36, 37, 38, 39, 40, 41, 42, 43, 44, 13, 45, 46, 47, 48, 49, 50, 51, 52, 53, 54, 55, 56, 57, 58, 59, 60, 61, 62, 63, 64, 65, 66, 67, 68, 69, 70, 71, 72, 73, 74, 85, 86, 87, 88, 89, 90, 91, 92, 93, 94, 95, 96, 97, 98, 99, 100, 101] (by decide +kernel) (by decide +kernel)
set_option maxRecDepth 20000 in
theorem gX11_look_X0_bestLook : GoodIn wsX11_look (wsV RX11 212 RX0 yX0_bestLook wsX0_bestLook) := goodIn_app (goodIn_of _ (by decide +kernel)) ggX11_look_X0_bestLook
theorem dX11_look_0 : decode cX11_look 0 = .ok (.iload_n 1, 1) := by decide +kernel
theorem dX11_look_1 : decode cX11_look 1 = .ok (.iconst 0, 1) := by decide +kernel
theorem dX11_look_2 : decode cX11_look 2 = .ok (.ldc 80, 2) := by decide +kernel
theorem dX11_look_4 : decode cX11_look 4 = .ok (.invokestatic 73, 3) := by decide +kernel
theorem dX11_look_7 : decode cX11_look 7 = .ok (.ifCond .eq 47, 3) := by decide +kernel
theorem dX11_look_10 : decode cX11_look 10 = .ok (.iload_n 2, 1) := by decide +kernel
theorem dX11_look_11 : decode cX11_look 11 = .ok (.iconst 1, 1) := by decide +kernel
theorem dX11_look_12 : decode cX11_look 12 = .ok (.ldc 170, 2) := by decide +kernel
theorem dX11_look_14 : decode cX11_look 14 = .ok (.invokestatic 73, 3) := by decide +kernel
theorem dX11_look_17 : decode cX11_look 17 = .ok (.ifCond .eq 37, 3) := by decide +kernel
theorem dX11_look_20 : decode cX11_look 20 = .ok (.iload_n 3, 1) := by decide +kernel
theorem dX11_look_21 : decode cX11_look 21 = .ok (.iconst 1, 1) := by decide +kernel
theorem dX11_look_22 : decode cX11_look 22 = .ok (.bipush 20, 2) := by decide +kernel
theorem dX11_look_24 : decode cX11_look 24 = .ok (.invokestatic 73, 3) := by decide +kernel
theorem dX11_look_27 : decode cX11_look 27 = .ok (.ifCond .eq 27, 3) := by decide +kernel
theorem dX11_look_30 : decode cX11_look 30 = .ok (.iload 4, 2) := by decide +kernel
theorem dX11_look_32 : decode cX11_look 32 = .ok (.iconst 0, 1) := by decide +kernel
theorem dX11_look_33 : decode cX11_look 33 = .ok (.sipush 1000, 3) := by decide +kernel
theorem dX11_look_36 : decode cX11_look 36 = .ok (.invokestatic 73, 3) := by decide +kernel
theorem dX11_look_39 : decode cX11_look 39 = .ok (.ifCond .eq 15, 3) := by decide +kernel
theorem dX11_look_42 : decode cX11_look 42 = .ok (.iload_n 1, 1) := by decide +kernel
theorem dX11_look_43 : decode cX11_look 43 = .ok (.iload_n 2, 1) := by decide +kernel
theorem dX11_look_44 : decode cX11_look 44 = .ok (.iload_n 3, 1) := by decide +kernel
theorem dX11_look_45 : decode cX11_look 45 = .ok (.iconst 1, 1) := by decide +kernel
theorem dX11_look_46 : decode cX11_look 46 = .ok (.isub, 1) := by decide +kernel
theorem dX11_look_47 : decode cX11_look 47 = .ok (.imul, 1) := by decide +kernel
theorem dX11_look_48 : decode cX11_look 48 = .ok (.iadd, 1) := by decide +kernel
theorem dX11_look_49 : decode cX11_look 49 = .ok (.ldc 80, 2) := by decide +kernel
theorem dX11_look_51 : decode cX11_look 51 = .ok (.if_icmp .le 5, 3) := by decide +kernel
theorem dX11_look_54 : decode cX11_look 54 = .ok (.iconst (-1), 1) := by decide +kernel
theorem dX11_look_55 : decode cX11_look 55 = .ok (.ireturn, 1) := by decide +kernel
theorem dX11_look_56 : decode cX11_look 56 = .ok (.aload_n 0, 1) := by decide +kernel
theorem dX11_look_57 : decode cX11_look 57 = .ok (.getfield 45, 3) := by decide +kernel
theorem dX11_look_60 : decode cX11_look 60 = .ok (.iload_n 1, 1) := by decide +kernel
theorem dX11_look_61 : decode cX11_look 61 = .ok (.invokevirtual 206, 3) := by decide +kernel
theorem dX11_look_64 : decode cX11_look 64 = .ok (.ifCond .eq 18, 3) := by decide +kernel
theorem dX11_look_67 : decode cX11_look 67 = .ok (.aload_n 0, 1) := by decide +kernel
theorem dX11_look_68 : decode cX11_look 68 = .ok (.getfield 45, 3) := by decide +kernel
theorem dX11_look_71 : decode cX11_look 71 = .ok (.iload_n 1, 1) := by decide +kernel
theorem dX11_look_72 : decode cX11_look 72 = .ok (.iload_n 2, 1) := by decide +kernel
theorem dX11_look_73 : decode cX11_look 73 = .ok (.iload_n 3, 1) := by decide +kernel
theorem dX11_look_74 : decode cX11_look 74 = .ok (.iload 4, 2) := by decide +kernel
theorem dX11_look_76 : decode cX11_look 76 = .ok (.invokevirtual 212, 3) := by decide +kernel
theorem dX11_look_79 : decode cX11_look 79 = .ok (.goto 5, 3) := by decide +kernel
theorem dX11_look_82 : decode cX11_look 82 = .ok (.bipush (-2), 2) := by decide +kernel
theorem dX11_look_84 : decode cX11_look 84 = .ok (.ireturn, 1) := by decide +kernel
set_option maxRecDepth 20000 in
theorem ggX11_slip_X11_isStar : GoodIn wsX11_slip wsX11_isStar := goodIn_r _ [5, 6, 7, 4, 8] (by decide +kernel) (by decide +kernel)
set_option maxRecDepth 20000 in
theorem gX11_slip_X11_isStar : GoodIn wsX11_slip (va_wsS RX11 68 yX11_isStar wsX11_isStar) := goodIn_app (goodIn_of _ (by decide +kernel)) ggX11_slip_X11_isStar
set_option maxRecDepth 20000 in
theorem ggX11_slip_X11_residuesOf : GoodIn wsX11_slip wsX11_residuesOf := goodIn_r _ [12, 13, 14, 15, 16, 17, 18, 19, 20, 21, 22, 23, 24, 4, 25, 26, 27, 28, 29, 30, 31, 32, 33, 34, 35, 36, 37, 38, 39, 40, 41, 42, 43, 44, 45, 46, 47, 48, 49, 50, 51, 52, 53, 54, 55, 56, 57, 58, 59, 60, 61, 62, 63, 64, 65, 66, 67, 68, 69, 70, 71, 72, 73, 74, 75, 76, 77, 78, 106, 107, 108, 109, 110, 111, 112, 113, 114, 115, 116, 117, 118, 119, 120, 121, 122, 123, 124, 125, 126, 127, 128, 129, 130, 131, 132, 133, 134, 135, 136, 137, 138] (by decide +kernel) (by decide +kernel)
set_option maxRecDepth 20000 in
theorem gX11_slip_X11_residuesOf : GoodIn wsX11_slip (wsV RX11 216 RX11 yX11_residuesOf wsX11_residuesOf) := goodIn_app (goodIn_of _ (by decide +kernel)) ggX11_slip_X11_residuesOf
set_option maxRecDepth 20000 in
theorem ggX11_slip_X6_placeOf : GoodIn wsX11_slip wsX6_placeOf := goodIn_r _ [82, 83, 84, 81, 85, 86, 87, 88, 89, 90, 91, 92, 93, 94, 95, 96, 97, 98, 99, 100, 59, 101, 102, 103, 104, 105] (by decide +kernel) (by decide +kernel)
set_option maxRecDepth 20000 in
theorem gX11_slip_X6_placeOf : GoodIn wsX11_slip (va_wsS RX11 222 yX6_placeOf wsX6_placeOf) := goodIn_app (goodIn_of _ (by decide +kernel)) ggX11_slip_X6_placeOf
theorem dX11_slip_0 : decode cX11_slip 0 = .ok (.iload_n 1, 1) := by decide +kernel
theorem dX11_slip_1 : decode cX11_slip 1 = .ok (.invokestatic 68, 3) := by decide +kernel
theorem dX11_slip_4 : decode cX11_slip 4 = .ok (.ifCond .ne 5, 3) := by decide +kernel
theorem dX11_slip_7 : decode cX11_slip 7 = .ok (.iconst (-1), 1) := by decide +kernel
theorem dX11_slip_8 : decode cX11_slip 8 = .ok (.ireturn, 1) := by decide +kernel
theorem dX11_slip_9 : decode cX11_slip 9 = .ok (.aload_n 0, 1) := by decide +kernel
theorem dX11_slip_10 : decode cX11_slip 10 = .ok (.iload_n 1, 1) := by decide +kernel
theorem dX11_slip_11 : decode cX11_slip 11 = .ok (.aload_n 0, 1) := by decide +kernel
theorem dX11_slip_12 : decode cX11_slip 12 = .ok (.getfield 49, 3) := by decide +kernel
theorem dX11_slip_15 : decode cX11_slip 15 = .ok (.invokevirtual 216, 3) := by decide +kernel
theorem dX11_slip_18 : decode cX11_slip 18 = .ok (.istore_n 2, 1) := by decide +kernel
theorem dX11_slip_19 : decode cX11_slip 19 = .ok (.iload_n 2, 1) := by decide +kernel
theorem dX11_slip_20 : decode cX11_slip 20 = .ok (.iconst 4, 1) := by decide +kernel
theorem dX11_slip_21 : decode cX11_slip 21 = .ok (.if_icmp .ge 8, 3) := by decide +kernel
theorem dX11_slip_24 : decode cX11_slip 24 = .ok (.bipush (-2), 2) := by decide +kernel
theorem dX11_slip_26 : decode cX11_slip 26 = .ok (.goto 11, 3) := by decide +kernel
theorem dX11_slip_29 : decode cX11_slip 29 = .ok (.aload_n 0, 1) := by decide +kernel
theorem dX11_slip_30 : decode cX11_slip 30 = .ok (.getfield 49, 3) := by decide +kernel
theorem dX11_slip_33 : decode cX11_slip 33 = .ok (.iload_n 2, 1) := by decide +kernel
theorem dX11_slip_34 : decode cX11_slip 34 = .ok (.invokestatic 222, 3) := by decide +kernel
theorem dX11_slip_37 : decode cX11_slip 37 = .ok (.ireturn, 1) := by decide +kernel
set_option maxRecDepth 20000 in
theorem ggX11_falseShare_X11_isStar : GoodIn wsX11_falseShare wsX11_isStar := goodIn_r _ [5, 6, 7, 4, 8] (by decide +kernel) (by decide +kernel)
set_option maxRecDepth 20000 in
theorem gX11_falseShare_X11_isStar : GoodIn wsX11_falseShare (va_wsS RX11 68 yX11_isStar wsX11_isStar) := goodIn_app (goodIn_of _ (by decide +kernel)) ggX11_falseShare_X11_isStar
set_option maxRecDepth 20000 in
theorem ggX11_falseShare_X11_residuesOf : GoodIn wsX11_falseShare wsX11_residuesOf := goodIn_r _ [12, 13, 14, 15, 16, 17, 18, 19, 20, 21, 22, 23, 24, 4, 25, 26, 27, 28, 29, 30, 31, 32, 33, 34, 35, 36, 37, 38, 39, 40, 41, 42, 43, 44, 45, 46, 47, 48, 49, 50, 51, 52, 53, 54, 55, 56, 57, 58, 59, 60, 61, 62, 63, 64, 65, 66, 67, 68, 69, 70, 71, 72, 73, 74, 75, 76, 77, 78, 115, 116, 117, 118, 119, 120, 121, 122, 123, 124, 125, 126, 127, 128, 129, 130, 131, 132, 133, 134, 135, 136, 137, 138, 139, 140, 141, 142, 143, 144, 145, 146, 147] (by decide +kernel) (by decide +kernel)
set_option maxRecDepth 20000 in
theorem gX11_falseShare_X11_residuesOf : GoodIn wsX11_falseShare (wsV RX11 216 RX11 yX11_residuesOf wsX11_residuesOf) := goodIn_app (goodIn_of _ (by decide +kernel)) ggX11_falseShare_X11_residuesOf
set_option maxRecDepth 20000 in
theorem ggX11_falseShare_X11_within : GoodIn wsX11_falseShare wsX11_within := goodIn_r _ [8] (by decide +kernel) (by decide +kernel)
set_option maxRecDepth 20000 in
theorem gX11_falseShare_X11_within : GoodIn wsX11_falseShare (va_wsS RX11 73 yX11_within wsX11_within) := goodIn_app (goodIn_of _ (by decide +kernel)) ggX11_falseShare_X11_within
set_option maxRecDepth 20000 in
theorem ggX11_falseShare_X6_asGreatRows : GoodIn wsX11_falseShare wsX6_asGreatRows := goodIn_r _ [82, 83, 84, 81, 85, 86, 87, 88, 89, 90, 91, 92, 93, 94, 95, 96, 97, 98, 99, 100, 101, 102, 103, 59, 104, 105, 106, 107, 108, 109, 110, 111, 112, 113, 114] (by decide +kernel) (by decide +kernel)
set_option maxRecDepth 20000 in
theorem gX11_falseShare_X6_asGreatRows : GoodIn wsX11_falseShare (va_wsS RX11 226 yX6_asGreatRows wsX6_asGreatRows) := goodIn_app (goodIn_of _ (by decide +kernel)) ggX11_falseShare_X6_asGreatRows
theorem dX11_falseShare_0 : decode cX11_falseShare 0 = .ok (.iload_n 1, 1) := by decide +kernel
theorem dX11_falseShare_1 : decode cX11_falseShare 1 = .ok (.invokestatic 68, 3) := by decide +kernel
theorem dX11_falseShare_4 : decode cX11_falseShare 4 = .ok (.ifCond .ne 5, 3) := by decide +kernel
theorem dX11_falseShare_7 : decode cX11_falseShare 7 = .ok (.iconst (-1), 1) := by decide +kernel
theorem dX11_falseShare_8 : decode cX11_falseShare 8 = .ok (.ireturn, 1) := by decide +kernel
theorem dX11_falseShare_9 : decode cX11_falseShare 9 = .ok (.aload_n 0, 1) := by decide +kernel
theorem dX11_falseShare_10 : decode cX11_falseShare 10 = .ok (.iload_n 1, 1) := by decide +kernel
theorem dX11_falseShare_11 : decode cX11_falseShare 11 = .ok (.aload_n 0, 1) := by decide +kernel
theorem dX11_falseShare_12 : decode cX11_falseShare 12 = .ok (.getfield 49, 3) := by decide +kernel
theorem dX11_falseShare_15 : decode cX11_falseShare 15 = .ok (.invokevirtual 216, 3) := by decide +kernel
theorem dX11_falseShare_18 : decode cX11_falseShare 18 = .ok (.istore_n 2, 1) := by decide +kernel
theorem dX11_falseShare_19 : decode cX11_falseShare 19 = .ok (.iload_n 2, 1) := by decide +kernel
theorem dX11_falseShare_20 : decode cX11_falseShare 20 = .ok (.iconst 4, 1) := by decide +kernel
theorem dX11_falseShare_21 : decode cX11_falseShare 21 = .ok (.bipush 12, 2) := by decide +kernel
theorem dX11_falseShare_23 : decode cX11_falseShare 23 = .ok (.invokestatic 73, 3) := by decide +kernel
theorem dX11_falseShare_26 : decode cX11_falseShare 26 = .ok (.ifCond .eq 14, 3) := by decide +kernel
theorem dX11_falseShare_29 : decode cX11_falseShare 29 = .ok (.aload_n 0, 1) := by decide +kernel
theorem dX11_falseShare_30 : decode cX11_falseShare 30 = .ok (.getfield 49, 3) := by decide +kernel
theorem dX11_falseShare_33 : decode cX11_falseShare 33 = .ok (.iload_n 2, 1) := by decide +kernel
theorem dX11_falseShare_34 : decode cX11_falseShare 34 = .ok (.invokestatic 226, 3) := by decide +kernel
theorem dX11_falseShare_37 : decode cX11_falseShare 37 = .ok (.goto 5, 3) := by decide +kernel
theorem dX11_falseShare_40 : decode cX11_falseShare 40 = .ok (.bipush (-2), 2) := by decide +kernel
theorem dX11_falseShare_42 : decode cX11_falseShare 42 = .ok (.ireturn, 1) := by decide +kernel
set_option maxRecDepth 20000 in
theorem ggX11_hum_X11_isStar : GoodIn wsX11_hum wsX11_isStar := goodIn_r _ [8, 9, 10, 7, 11] (by decide +kernel) (by decide +kernel)
set_option maxRecDepth 20000 in
theorem gX11_hum_X11_isStar : GoodIn wsX11_hum (va_wsS RX11 68 yX11_isStar wsX11_isStar) := goodIn_app (goodIn_of _ (by decide +kernel)) ggX11_hum_X11_isStar
set_option maxRecDepth 20000 in
theorem ggX11_hum_X11_commonResidues : GoodIn wsX11_hum wsX11_commonResidues := goodIn_r _ [15, 3, 4, 16, 17, 18, 19, 20, 21, 22, 7, 23, 24, 25, 26, 27, 28, 29, 30, 31, 32, 33, 34, 35, 36, 37, 38, 39, 40, 41, 42, 43, 44, 45, 46, 47, 48, 49, 50, 51, 52, 53, 54, 55, 56, 57, 58, 59, 60, 61, 62, 63, 64, 65, 66, 67, 68, 69, 70, 71, 72, 73, 74, 75, 76, 77, 78, 79, 80, 81, 82, 83, 84, 85, 86, 87, 88, 93, 94, 95, 96, 97, 98, 99, 100, 101, 102, 103, 104, 105, 106, 107, 108, 109, 110, 111, 112, 113, 114, 115, 116, 117, 118, 119, 120, 121, 122, 123, 124, 125] (by decide +kernel) (by decide +kernel)
set_option maxRecDepth 20000 in
theorem gX11_hum_X11_commonResidues : GoodIn wsX11_hum (wsV RX11 229 RX11 yX11_commonResidues wsX11_commonResidues) := goodIn_app (goodIn_of _ (by decide +kernel)) ggX11_hum_X11_commonResidues
set_option maxRecDepth 20000 in
theorem ggX11_hum_X3_products : GoodIn wsX11_hum wsX3_products := goodIn_r _ [92] (by decide +kernel) (by decide +kernel)
set_option maxRecDepth 20000 in
theorem gX11_hum_X3_products : GoodIn wsX11_hum (va_wsS RX11 234 yX3_products wsX3_products) := goodIn_app (goodIn_of _ (by decide +kernel)) ggX11_hum_X3_products
theorem dX11_hum_0 : decode cX11_hum 0 = .ok (.iload_n 1, 1) := by decide +kernel
theorem dX11_hum_1 : decode cX11_hum 1 = .ok (.invokestatic 68, 3) := by decide +kernel
theorem dX11_hum_4 : decode cX11_hum 4 = .ok (.ifCond .eq 15, 3) := by decide +kernel
theorem dX11_hum_7 : decode cX11_hum 7 = .ok (.iload_n 2, 1) := by decide +kernel
theorem dX11_hum_8 : decode cX11_hum 8 = .ok (.invokestatic 68, 3) := by decide +kernel
theorem dX11_hum_11 : decode cX11_hum 11 = .ok (.ifCond .eq 8, 3) := by decide +kernel
theorem dX11_hum_14 : decode cX11_hum 14 = .ok (.iload_n 1, 1) := by decide +kernel
theorem dX11_hum_15 : decode cX11_hum 15 = .ok (.iload_n 2, 1) := by decide +kernel
theorem dX11_hum_16 : decode cX11_hum 16 = .ok (.if_icmp .ne 7, 3) := by decide +kernel
theorem dX11_hum_19 : decode cX11_hum 19 = .ok (.ldc2_w 198, 3) := by decide +kernel
theorem dX11_hum_22 : decode cX11_hum 22 = .ok (.lreturn, 1) := by decide +kernel
theorem dX11_hum_23 : decode cX11_hum 23 = .ok (.aload_n 0, 1) := by decide +kernel
theorem dX11_hum_24 : decode cX11_hum 24 = .ok (.iload_n 1, 1) := by decide +kernel
theorem dX11_hum_25 : decode cX11_hum 25 = .ok (.iload_n 2, 1) := by decide +kernel
theorem dX11_hum_26 : decode cX11_hum 26 = .ok (.invokevirtual 229, 3) := by decide +kernel
theorem dX11_hum_29 : decode cX11_hum 29 = .ok (.istore_n 3, 1) := by decide +kernel
theorem dX11_hum_30 : decode cX11_hum 30 = .ok (.iload_n 3, 1) := by decide +kernel
theorem dX11_hum_31 : decode cX11_hum 31 = .ok (.iconst 2, 1) := by decide +kernel
theorem dX11_hum_32 : decode cX11_hum 32 = .ok (.if_icmp .ge 9, 3) := by decide +kernel
theorem dX11_hum_35 : decode cX11_hum 35 = .ok (.ldc2_w 200, 3) := by decide +kernel
theorem dX11_hum_38 : decode cX11_hum 38 = .ok (.goto 15, 3) := by decide +kernel
theorem dX11_hum_41 : decode cX11_hum 41 = .ok (.aload_n 0, 1) := by decide +kernel
theorem dX11_hum_42 : decode cX11_hum 42 = .ok (.getfield 49, 3) := by decide +kernel
theorem dX11_hum_45 : decode cX11_hum 45 = .ok (.aload_n 0, 1) := by decide +kernel
theorem dX11_hum_46 : decode cX11_hum 46 = .ok (.getfield 53, 3) := by decide +kernel
theorem dX11_hum_49 : decode cX11_hum 49 = .ok (.iload_n 3, 1) := by decide +kernel
theorem dX11_hum_50 : decode cX11_hum 50 = .ok (.invokestatic 234, 3) := by decide +kernel
theorem dX11_hum_53 : decode cX11_hum 53 = .ok (.lreturn, 1) := by decide +kernel
set_option maxRecDepth 20000 in
theorem ggX11_shuffled_X11_isStar : GoodIn wsX11_shuffled wsX11_isStar := goodIn_r _ [6, 7, 8, 5, 9] (by decide +kernel) (by decide +kernel)
set_option maxRecDepth 20000 in
theorem gX11_shuffled_X11_isStar : GoodIn wsX11_shuffled (va_wsS RX11 68 yX11_isStar wsX11_isStar) := goodIn_app (goodIn_of _ (by decide +kernel)) ggX11_shuffled_X11_isStar
set_option maxRecDepth 20000 in
theorem ggX11_shuffled_X11_commonResidues : GoodIn wsX11_shuffled wsX11_commonResidues := goodIn_r _ [13, 1, 2, 14, 15, 16, 17, 18, 19, 20, 5, 21, 22, 23, 24, 25, 26, 27, 28, 29, 30, 31, 32, 33, 34, 35, 36, 37, 38, 39, 40, 41, 42, 43, 44, 45, 46, 47, 48, 49, 50, 51, 52, 53, 54, 55, 56, 57, 58, 59, 60, 61, 62, 63, 64, 65, 66, 67, 68, 69, 70, 71, 72, 73, 74, 75, 76, 77, 78, 79, 80, 81, 82, 83, 84, 85, 86, 97, 98, 99, 100, 101, 102, 103, 104, 105, 106, 107, 108, 109, 110, 111, 112, 113, 114, 115, 116, 117, 118, 119, 120, 121, 122, 123, 124, 125, 126, 127, 128, 129] (by decide +kernel) (by decide +kernel)
set_option maxRecDepth 20000 in
theorem gX11_shuffled_X11_commonResidues : GoodIn wsX11_shuffled (wsV RX11 229 RX11 yX11_commonResidues wsX11_commonResidues) := goodIn_app (goodIn_of _ (by decide +kernel)) ggX11_shuffled_X11_commonResidues
set_option maxRecDepth 20000 in
theorem ggX11_shuffled_X3_asGreatOrders : GoodIn wsX11_shuffled wsX3_asGreatOrders := goodIn_r _ [90, 91, 92, 89, 93, 94, 95, 96] (by decide +kernel) (by decide +kernel)
set_option maxRecDepth 20000 in
theorem gX11_shuffled_X3_asGreatOrders : GoodIn wsX11_shuffled (va_wsS RX11 238 yX3_asGreatOrders wsX3_asGreatOrders) := goodIn_app (goodIn_of _ (by decide +kernel)) ggX11_shuffled_X3_asGreatOrders
theorem dX11_shuffled_0 : decode cX11_shuffled 0 = .ok (.iload_n 1, 1) := by decide +kernel
theorem dX11_shuffled_1 : decode cX11_shuffled 1 = .ok (.invokestatic 68, 3) := by decide +kernel
theorem dX11_shuffled_4 : decode cX11_shuffled 4 = .ok (.ifCond .eq 15, 3) := by decide +kernel
theorem dX11_shuffled_7 : decode cX11_shuffled 7 = .ok (.iload_n 2, 1) := by decide +kernel
theorem dX11_shuffled_8 : decode cX11_shuffled 8 = .ok (.invokestatic 68, 3) := by decide +kernel
theorem dX11_shuffled_11 : decode cX11_shuffled 11 = .ok (.ifCond .eq 8, 3) := by decide +kernel
theorem dX11_shuffled_14 : decode cX11_shuffled 14 = .ok (.iload_n 1, 1) := by decide +kernel
theorem dX11_shuffled_15 : decode cX11_shuffled 15 = .ok (.iload_n 2, 1) := by decide +kernel
theorem dX11_shuffled_16 : decode cX11_shuffled 16 = .ok (.if_icmp .ne 5, 3) := by decide +kernel
theorem dX11_shuffled_19 : decode cX11_shuffled 19 = .ok (.iconst (-1), 1) := by decide +kernel
theorem dX11_shuffled_20 : decode cX11_shuffled 20 = .ok (.ireturn, 1) := by decide +kernel
theorem dX11_shuffled_21 : decode cX11_shuffled 21 = .ok (.aload_n 0, 1) := by decide +kernel
theorem dX11_shuffled_22 : decode cX11_shuffled 22 = .ok (.iload_n 1, 1) := by decide +kernel
theorem dX11_shuffled_23 : decode cX11_shuffled 23 = .ok (.iload_n 2, 1) := by decide +kernel
theorem dX11_shuffled_24 : decode cX11_shuffled 24 = .ok (.invokevirtual 229, 3) := by decide +kernel
theorem dX11_shuffled_27 : decode cX11_shuffled 27 = .ok (.istore_n 3, 1) := by decide +kernel
theorem dX11_shuffled_28 : decode cX11_shuffled 28 = .ok (.iload_n 3, 1) := by decide +kernel
theorem dX11_shuffled_29 : decode cX11_shuffled 29 = .ok (.iconst 2, 1) := by decide +kernel
theorem dX11_shuffled_30 : decode cX11_shuffled 30 = .ok (.if_icmp .ge 8, 3) := by decide +kernel
theorem dX11_shuffled_33 : decode cX11_shuffled 33 = .ok (.bipush (-2), 2) := by decide +kernel
theorem dX11_shuffled_35 : decode cX11_shuffled 35 = .ok (.goto 15, 3) := by decide +kernel
theorem dX11_shuffled_38 : decode cX11_shuffled 38 = .ok (.aload_n 0, 1) := by decide +kernel
theorem dX11_shuffled_39 : decode cX11_shuffled 39 = .ok (.getfield 49, 3) := by decide +kernel
theorem dX11_shuffled_42 : decode cX11_shuffled 42 = .ok (.aload_n 0, 1) := by decide +kernel
theorem dX11_shuffled_43 : decode cX11_shuffled 43 = .ok (.getfield 53, 3) := by decide +kernel
theorem dX11_shuffled_46 : decode cX11_shuffled 46 = .ok (.iload_n 3, 1) := by decide +kernel
theorem dX11_shuffled_47 : decode cX11_shuffled 47 = .ok (.invokestatic 238, 3) := by decide +kernel
theorem dX11_shuffled_50 : decode cX11_shuffled 50 = .ok (.ireturn, 1) := by decide +kernel
set_option maxRecDepth 20000 in
theorem ggX11_between_X11_isInstrument : GoodIn wsX11_between wsX11_isInstrument := goodIn_r _ [5, 6, 7, 4, 8] (by decide +kernel) (by decide +kernel)
set_option maxRecDepth 20000 in
theorem gX11_between_X11_isInstrument : GoodIn wsX11_between (va_wsS RX11 77 yX11_isInstrument wsX11_isInstrument) := goodIn_app (goodIn_of _ (by decide +kernel)) ggX11_between_X11_isInstrument
set_option maxRecDepth 20000 in
theorem ggX11_between_X11_middleGap : GoodIn wsX11_between wsX11_middleGap := goodIn_r _ [12, 13, 14, 15, 16, 17, 18, 19, 20, 21, 22, 23, 24, 25, 26, 27, 28, 29, 30, 4, 31, 32, 33, 34, 35, 36, 37, 38, 39, 40, 41, 42, 43, 44, 45, 46, 47, 48, 49, 50, 51, 52, 53, 54, 55, 56, 57, 58, 59, 60, 61, 62, 63, 64, 65, 66, 67, 68, 69, 70, 71, 72, 73, 74, 75, 76, 77, 78, 79, 80, 81, 82, 83, 84, 85, 86, 87, 88, 89, 90, 91, 92, 93, 94, 95, 96, 97, 98, 99, 100, 101, 102, 103, 104, 105, 106, 107, 108, 109, 110, 111, 112, 113, 114, 115, 116, 117, 118, 119, 120, 121, 122, 123, 124, 125, 126, 127, 128, 129, 130, 131, 132, 133, 134, 135, 136, 137, 138, 139, 140, 141] (by decide +kernel) (by decide +kernel)
set_option maxRecDepth 20000 in
theorem gX11_between_X11_middleGap : GoodIn wsX11_between (wsV RX11 243 RX11 yX11_middleGap wsX11_middleGap) := goodIn_app (goodIn_of _ (by decide +kernel)) ggX11_between_X11_middleGap
theorem dX11_between_0 : decode cX11_between 0 = .ok (.iload_n 1, 1) := by decide +kernel
theorem dX11_between_1 : decode cX11_between 1 = .ok (.invokestatic 77, 3) := by decide +kernel
theorem dX11_between_4 : decode cX11_between 4 = .ok (.ifCond .eq 15, 3) := by decide +kernel
theorem dX11_between_7 : decode cX11_between 7 = .ok (.iload_n 2, 1) := by decide +kernel
theorem dX11_between_8 : decode cX11_between 8 = .ok (.invokestatic 77, 3) := by decide +kernel
theorem dX11_between_11 : decode cX11_between 11 = .ok (.ifCond .eq 8, 3) := by decide +kernel
theorem dX11_between_14 : decode cX11_between 14 = .ok (.iload_n 1, 1) := by decide +kernel
theorem dX11_between_15 : decode cX11_between 15 = .ok (.iload_n 2, 1) := by decide +kernel
theorem dX11_between_16 : decode cX11_between 16 = .ok (.if_icmp .ne 6, 3) := by decide +kernel
theorem dX11_between_19 : decode cX11_between 19 = .ok (.ldc 242, 2) := by decide +kernel
theorem dX11_between_21 : decode cX11_between 21 = .ok (.ireturn, 1) := by decide +kernel
theorem dX11_between_22 : decode cX11_between 22 = .ok (.aload_n 0, 1) := by decide +kernel
theorem dX11_between_23 : decode cX11_between 23 = .ok (.iload_n 1, 1) := by decide +kernel
theorem dX11_between_24 : decode cX11_between 24 = .ok (.iload_n 2, 1) := by decide +kernel
theorem dX11_between_25 : decode cX11_between 25 = .ok (.invokevirtual 243, 3) := by decide +kernel
theorem dX11_between_28 : decode cX11_between 28 = .ok (.ireturn, 1) := by decide +kernel
set_option maxRecDepth 20000 in
theorem ggX11_loop_X11_isInstrument : GoodIn wsX11_loop wsX11_isInstrument := goodIn_r _ [6, 7, 8, 5, 9] (by decide +kernel) (by decide +kernel)
set_option maxRecDepth 20000 in
theorem gX11_loop_X11_isInstrument : GoodIn wsX11_loop (va_wsS RX11 77 yX11_isInstrument wsX11_isInstrument) := goodIn_app (goodIn_of _ (by decide +kernel)) ggX11_loop_X11_isInstrument
set_option maxRecDepth 20000 in
theorem ggX11_loop_X11_middleGap : GoodIn wsX11_loop wsX11_middleGap := goodIn_r _ [13, 14, 15, 2, 16, 17, 18, 19, 20, 21, 22, 23, 24, 25, 26, 27, 28, 29, 30, 5, 31, 32, 33, 34, 35, 36, 37, 38, 39, 40, 41, 42, 43, 44, 45, 46, 47, 48, 49, 50, 51, 52, 53, 54, 55, 56, 57, 58, 59, 60, 61, 62, 63, 64, 65, 66, 67, 68, 69, 70, 71, 72, 73, 74, 75, 76, 77, 78, 79, 80, 81, 82, 83, 84, 85, 86, 87, 88, 89, 90, 91, 92, 93, 94, 95, 96, 97, 98, 99, 100, 101, 102, 103, 104, 105, 106, 107, 108, 109, 110, 111, 112, 113, 114, 115, 116, 117, 118, 119, 120, 121, 122, 123, 124, 125, 126, 127, 128, 129, 130, 131, 132, 133, 134, 135, 136, 137, 138, 139, 140, 141] (by decide +kernel) (by decide +kernel)
set_option maxRecDepth 20000 in
theorem gX11_loop_X11_middleGap : GoodIn wsX11_loop (wsV RX11 243 RX11 yX11_middleGap wsX11_middleGap) := goodIn_app (goodIn_of _ (by decide +kernel)) ggX11_loop_X11_middleGap
theorem dX11_loop_0 : decode cX11_loop 0 = .ok (.iload_n 1, 1) := by decide +kernel
theorem dX11_loop_1 : decode cX11_loop 1 = .ok (.invokestatic 77, 3) := by decide +kernel
theorem dX11_loop_4 : decode cX11_loop 4 = .ok (.ifCond .eq 32, 3) := by decide +kernel
theorem dX11_loop_7 : decode cX11_loop 7 = .ok (.iload_n 2, 1) := by decide +kernel
theorem dX11_loop_8 : decode cX11_loop 8 = .ok (.invokestatic 77, 3) := by decide +kernel
theorem dX11_loop_11 : decode cX11_loop 11 = .ok (.ifCond .eq 25, 3) := by decide +kernel
theorem dX11_loop_14 : decode cX11_loop 14 = .ok (.iload_n 3, 1) := by decide +kernel
theorem dX11_loop_15 : decode cX11_loop 15 = .ok (.invokestatic 77, 3) := by decide +kernel
theorem dX11_loop_18 : decode cX11_loop 18 = .ok (.ifCond .eq 18, 3) := by decide +kernel
theorem dX11_loop_21 : decode cX11_loop 21 = .ok (.iload_n 1, 1) := by decide +kernel
theorem dX11_loop_22 : decode cX11_loop 22 = .ok (.iload_n 2, 1) := by decide +kernel
theorem dX11_loop_23 : decode cX11_loop 23 = .ok (.if_icmp .eq 13, 3) := by decide +kernel
theorem dX11_loop_26 : decode cX11_loop 26 = .ok (.iload_n 2, 1) := by decide +kernel
theorem dX11_loop_27 : decode cX11_loop 27 = .ok (.iload_n 3, 1) := by decide +kernel
theorem dX11_loop_28 : decode cX11_loop 28 = .ok (.if_icmp .eq 8, 3) := by decide +kernel
theorem dX11_loop_31 : decode cX11_loop 31 = .ok (.iload_n 1, 1) := by decide +kernel
theorem dX11_loop_32 : decode cX11_loop 32 = .ok (.iload_n 3, 1) := by decide +kernel
theorem dX11_loop_33 : decode cX11_loop 33 = .ok (.if_icmp .ne 6, 3) := by decide +kernel
theorem dX11_loop_36 : decode cX11_loop 36 = .ok (.ldc 242, 2) := by decide +kernel
theorem dX11_loop_38 : decode cX11_loop 38 = .ok (.ireturn, 1) := by decide +kernel
theorem dX11_loop_39 : decode cX11_loop 39 = .ok (.aload_n 0, 1) := by decide +kernel
theorem dX11_loop_40 : decode cX11_loop 40 = .ok (.iload_n 1, 1) := by decide +kernel
theorem dX11_loop_41 : decode cX11_loop 41 = .ok (.iload_n 2, 1) := by decide +kernel
theorem dX11_loop_42 : decode cX11_loop 42 = .ok (.invokevirtual 243, 3) := by decide +kernel
theorem dX11_loop_45 : decode cX11_loop 45 = .ok (.istore 4, 2) := by decide +kernel
theorem dX11_loop_47 : decode cX11_loop 47 = .ok (.aload_n 0, 1) := by decide +kernel
theorem dX11_loop_48 : decode cX11_loop 48 = .ok (.iload_n 2, 1) := by decide +kernel
theorem dX11_loop_49 : decode cX11_loop 49 = .ok (.iload_n 3, 1) := by decide +kernel
theorem dX11_loop_50 : decode cX11_loop 50 = .ok (.invokevirtual 243, 3) := by decide +kernel
theorem dX11_loop_53 : decode cX11_loop 53 = .ok (.istore 5, 2) := by decide +kernel
theorem dX11_loop_55 : decode cX11_loop 55 = .ok (.aload_n 0, 1) := by decide +kernel
theorem dX11_loop_56 : decode cX11_loop 56 = .ok (.iload_n 1, 1) := by decide +kernel
theorem dX11_loop_57 : decode cX11_loop 57 = .ok (.iload_n 3, 1) := by decide +kernel
theorem dX11_loop_58 : decode cX11_loop 58 = .ok (.invokevirtual 243, 3) := by decide +kernel
theorem dX11_loop_61 : decode cX11_loop 61 = .ok (.istore 6, 2) := by decide +kernel
theorem dX11_loop_63 : decode cX11_loop 63 = .ok (.iload 4, 2) := by decide +kernel
theorem dX11_loop_65 : decode cX11_loop 65 = .ok (.ldc 246, 2) := by decide +kernel
theorem dX11_loop_67 : decode cX11_loop 67 = .ok (.if_icmp .eq 17, 3) := by decide +kernel
theorem dX11_loop_70 : decode cX11_loop 70 = .ok (.iload 5, 2) := by decide +kernel
theorem dX11_loop_72 : decode cX11_loop 72 = .ok (.ldc 246, 2) := by decide +kernel
theorem dX11_loop_74 : decode cX11_loop 74 = .ok (.if_icmp .eq 10, 3) := by decide +kernel
theorem dX11_loop_77 : decode cX11_loop 77 = .ok (.iload 6, 2) := by decide +kernel
theorem dX11_loop_79 : decode cX11_loop 79 = .ok (.ldc 246, 2) := by decide +kernel
theorem dX11_loop_81 : decode cX11_loop 81 = .ok (.if_icmp .ne 6, 3) := by decide +kernel
theorem dX11_loop_84 : decode cX11_loop 84 = .ok (.ldc 246, 2) := by decide +kernel
theorem dX11_loop_86 : decode cX11_loop 86 = .ok (.ireturn, 1) := by decide +kernel
theorem dX11_loop_87 : decode cX11_loop 87 = .ok (.iload 4, 2) := by decide +kernel
theorem dX11_loop_89 : decode cX11_loop 89 = .ok (.iload 5, 2) := by decide +kernel
theorem dX11_loop_91 : decode cX11_loop 91 = .ok (.iadd, 1) := by decide +kernel
theorem dX11_loop_92 : decode cX11_loop 92 = .ok (.iload 6, 2) := by decide +kernel
theorem dX11_loop_94 : decode cX11_loop 94 = .ok (.isub, 1) := by decide +kernel
theorem dX11_loop_95 : decode cX11_loop 95 = .ok (.ireturn, 1) := by decide +kernel
set_option maxRecDepth 20000 in
theorem ggX11_moved_X11_isStar : GoodIn wsX11_moved wsX11_isStar := goodIn_r _ [12, 13, 14, 11, 15] (by decide +kernel) (by decide +kernel)
set_option maxRecDepth 20000 in
theorem gX11_moved_X11_isStar : GoodIn wsX11_moved (va_wsS RX11 68 yX11_isStar wsX11_isStar) := goodIn_app (goodIn_of _ (by decide +kernel)) ggX11_moved_X11_isStar
set_option maxRecDepth 20000 in
theorem ggX11_moved_X10_stands : GoodIn wsX11_moved wsX10_stands := goodIn_r _ [20, 21, 93, 94, 95] (by decide +kernel) (by decide +kernel)
set_option maxRecDepth 20000 in
theorem gX11_moved_X10_stands : GoodIn wsX11_moved (wsV RX11 247 RX10 yX10_stands wsX10_stands) := goodIn_app (goodIn_of _ (by decide +kernel)) ggX11_moved_X10_stands
set_option maxRecDepth 20000 in
theorem ggX11_moved_X11_residueBy : GoodIn wsX11_moved wsX11_residueBy := goodIn_r _ [25, 2, 26, 27, 28, 11, 29, 30, 4, 31, 32, 33, 34, 35, 36, 37, 38, 39, 40, 41, 42, 43, 44, 45, 46, 47, 48, 19, 49, 50, 51, 52, 53, 54, 55, 56, 57, 58, 59, 7, 60, 21, 61, 62, 63, 64, 65, 66, 67, 68, 69, 70, 71, 72, 73, 74, 75, 76, 77, 78, 79, 80, 81, 82, 83, 84, 85, 86, 87, 88, 89, 90, 91, 92, 96, 97, 98, 99, 93, 94, 95, 100, 101, 102, 103, 104, 105, 106, 107, 108, 109, 110, 111] (by decide +kernel) (by decide +kernel)
set_option maxRecDepth 20000 in
theorem gX11_moved_X11_residueBy : GoodIn wsX11_moved (wsV RX11 163 RX11 yX11_residueBy wsX11_residueBy) := goodIn_app (goodIn_of _ (by decide +kernel)) ggX11_moved_X11_residueBy
theorem dX11_moved_0 : decode cX11_moved 0 = .ok (.iload_n 1, 1) := by decide +kernel
theorem dX11_moved_1 : decode cX11_moved 1 = .ok (.invokestatic 68, 3) := by decide +kernel
theorem dX11_moved_4 : decode cX11_moved 4 = .ok (.ifCond .ne 7, 3) := by decide +kernel
theorem dX11_moved_7 : decode cX11_moved 7 = .ok (.ldc2_w 147, 3) := by decide +kernel
theorem dX11_moved_10 : decode cX11_moved 10 = .ok (.lreturn, 1) := by decide +kernel
theorem dX11_moved_11 : decode cX11_moved 11 = .ok (.aload_n 0, 1) := by decide +kernel
theorem dX11_moved_12 : decode cX11_moved 12 = .ok (.getfield 24, 3) := by decide +kernel
theorem dX11_moved_15 : decode cX11_moved 15 = .ok (.iload_n 1, 1) := by decide +kernel
theorem dX11_moved_16 : decode cX11_moved 16 = .ok (.aaload, 1) := by decide +kernel
theorem dX11_moved_17 : decode cX11_moved 17 = .ok (.invokevirtual 247, 3) := by decide +kernel
theorem dX11_moved_20 : decode cX11_moved 20 = .ok (.ifCond .ne 7, 3) := by decide +kernel
theorem dX11_moved_23 : decode cX11_moved 23 = .ok (.ldc2_w 156, 3) := by decide +kernel
theorem dX11_moved_26 : decode cX11_moved 26 = .ok (.lreturn, 1) := by decide +kernel
theorem dX11_moved_27 : decode cX11_moved 27 = .ok (.lconst 0, 1) := by decide +kernel
theorem dX11_moved_28 : decode cX11_moved 28 = .ok (.lstore_n 2, 1) := by decide +kernel
theorem dX11_moved_29 : decode cX11_moved 29 = .ok (.iconst 0, 1) := by decide +kernel
theorem dX11_moved_30 : decode cX11_moved 30 = .ok (.istore 4, 2) := by decide +kernel
theorem dX11_moved_32 : decode cX11_moved 32 = .ok (.iload 4, 2) := by decide +kernel
theorem dX11_moved_34 : decode cX11_moved 34 = .ok (.aload_n 0, 1) := by decide +kernel
theorem dX11_moved_35 : decode cX11_moved 35 = .ok (.getfield 18, 3) := by decide +kernel
theorem dX11_moved_38 : decode cX11_moved 38 = .ok (.iload_n 1, 1) := by decide +kernel
theorem dX11_moved_39 : decode cX11_moved 39 = .ok (.aaload, 1) := by decide +kernel
theorem dX11_moved_40 : decode cX11_moved 40 = .ok (.getfield 114, 3) := by decide +kernel
theorem dX11_moved_43 : decode cX11_moved 43 = .ok (.if_icmp .ge 33, 3) := by decide +kernel
theorem dX11_moved_46 : decode cX11_moved 46 = .ok (.lload_n 2, 1) := by decide +kernel
theorem dX11_moved_47 : decode cX11_moved 47 = .ok (.aload_n 0, 1) := by decide +kernel
theorem dX11_moved_48 : decode cX11_moved 48 = .ok (.iload_n 1, 1) := by decide +kernel
theorem dX11_moved_49 : decode cX11_moved 49 = .ok (.iload 4, 2) := by decide +kernel
theorem dX11_moved_51 : decode cX11_moved 51 = .ok (.iconst 1, 1) := by decide +kernel
theorem dX11_moved_52 : decode cX11_moved 52 = .ok (.invokevirtual 163, 3) := by decide +kernel
theorem dX11_moved_55 : decode cX11_moved 55 = .ok (.aload_n 0, 1) := by decide +kernel
theorem dX11_moved_56 : decode cX11_moved 56 = .ok (.iload_n 1, 1) := by decide +kernel
theorem dX11_moved_57 : decode cX11_moved 57 = .ok (.iload 4, 2) := by decide +kernel
theorem dX11_moved_59 : decode cX11_moved 59 = .ok (.iconst 0, 1) := by decide +kernel
theorem dX11_moved_60 : decode cX11_moved 60 = .ok (.invokevirtual 163, 3) := by decide +kernel
theorem dX11_moved_63 : decode cX11_moved 63 = .ok (.isub, 1) := by decide +kernel
theorem dX11_moved_64 : decode cX11_moved 64 = .ok (.invokestatic 248, 3) := by decide +kernel
theorem dX11_moved_67 : decode cX11_moved 67 = .ok (.i2l, 1) := by decide +kernel
theorem dX11_moved_68 : decode cX11_moved 68 = .ok (.ladd, 1) := by decide +kernel
theorem dX11_moved_69 : decode cX11_moved 69 = .ok (.lstore_n 2, 1) := by decide +kernel
theorem dX11_moved_70 : decode cX11_moved 70 = .ok (.iinc 4 1, 3) := by decide +kernel
theorem dX11_moved_73 : decode cX11_moved 73 = .ok (.goto (-41), 3) := by decide +kernel
theorem dX11_moved_76 : decode cX11_moved 76 = .ok (.lload_n 2, 1) := by decide +kernel
theorem dX11_moved_77 : decode cX11_moved 77 = .ok (.lreturn, 1) := by decide +kernel
set_option maxRecDepth 20000 in
theorem ggX11_alarm_X11_isStar : GoodIn wsX11_alarm wsX11_isStar := goodIn_r _ [6, 7, 8, 5, 9] (by decide +kernel) (by decide +kernel)
set_option maxRecDepth 20000 in
theorem gX11_alarm_X11_isStar : GoodIn wsX11_alarm (va_wsS RX11 68 yX11_isStar wsX11_isStar) := goodIn_app (goodIn_of _ (by decide +kernel)) ggX11_alarm_X11_isStar
set_option maxRecDepth 20000 in
theorem ggX11_alarm_X10_stands : GoodIn wsX11_alarm wsX10_stands := goodIn_r _ [14, 15, 95, 96, 97] (by decide +kernel) (by decide +kernel)
set_option maxRecDepth 20000 in
theorem gX11_alarm_X10_stands : GoodIn wsX11_alarm (wsV RX11 247 RX10 yX10_stands wsX10_stands) := goodIn_app (goodIn_of _ (by decide +kernel)) ggX11_alarm_X10_stands
set_option maxRecDepth 20000 in
theorem ggX11_alarm_X7_value : GoodIn wsX11_alarm wsX7_value := goodIn_r _ [20, 21, 22, 91, 92, 93, 94] (by decide +kernel) (by decide +kernel)
set_option maxRecDepth 20000 in
theorem gX11_alarm_X7_value : GoodIn wsX11_alarm (wsV RX11 122 RX7 yX7_value wsX7_value) := goodIn_app (goodIn_of _ (by decide +kernel)) ggX11_alarm_X7_value
set_option maxRecDepth 20000 in
theorem ggX11_alarm_X11_isLoud : GoodIn wsX11_alarm wsX11_isLoud := goodIn_r _ [26, 27, 28, 29, 30, 31, 2, 32, 33, 34, 5, 35, 1, 36, 37, 38, 39, 16, 17, 18, 19, 20, 21, 22, 40, 41, 42, 43, 44, 45, 46, 47, 48, 49, 50, 13, 51, 52, 53, 54, 55, 56, 57, 58, 59, 60, 61, 62, 15, 63, 64, 65, 66, 67, 68, 69, 70, 71, 72, 73, 74, 75, 76, 77, 78, 79, 80, 81, 82, 83, 84, 85, 86, 87, 88, 89, 90, 98, 99, 100, 101, 91, 92, 93, 94, 95, 96, 97, 102, 103, 104, 105, 106, 107, 108, 109, 110, 111, 112, 113] (by decide +kernel) (by decide +kernel)
set_option maxRecDepth 20000 in
theorem gX11_alarm_X11_isLoud : GoodIn wsX11_alarm (wsV RX11 253 RX11 yX11_isLoud wsX11_isLoud) := goodIn_app (goodIn_of _ (by decide +kernel)) ggX11_alarm_X11_isLoud
theorem dX11_alarm_0 : decode cX11_alarm 0 = .ok (.iload_n 1, 1) := by decide +kernel
theorem dX11_alarm_1 : decode cX11_alarm 1 = .ok (.invokestatic 68, 3) := by decide +kernel
theorem dX11_alarm_4 : decode cX11_alarm 4 = .ok (.ifCond .ne 5, 3) := by decide +kernel
theorem dX11_alarm_7 : decode cX11_alarm 7 = .ok (.iconst (-1), 1) := by decide +kernel
theorem dX11_alarm_8 : decode cX11_alarm 8 = .ok (.ireturn, 1) := by decide +kernel
theorem dX11_alarm_9 : decode cX11_alarm 9 = .ok (.aload_n 0, 1) := by decide +kernel
theorem dX11_alarm_10 : decode cX11_alarm 10 = .ok (.getfield 24, 3) := by decide +kernel
theorem dX11_alarm_13 : decode cX11_alarm 13 = .ok (.iload_n 1, 1) := by decide +kernel
theorem dX11_alarm_14 : decode cX11_alarm 14 = .ok (.aaload, 1) := by decide +kernel
theorem dX11_alarm_15 : decode cX11_alarm 15 = .ok (.invokevirtual 247, 3) := by decide +kernel
theorem dX11_alarm_18 : decode cX11_alarm 18 = .ok (.ifCond .ne 6, 3) := by decide +kernel
theorem dX11_alarm_21 : decode cX11_alarm 21 = .ok (.bipush (-2), 2) := by decide +kernel
theorem dX11_alarm_23 : decode cX11_alarm 23 = .ok (.ireturn, 1) := by decide +kernel
theorem dX11_alarm_24 : decode cX11_alarm 24 = .ok (.bipush (-4), 2) := by decide +kernel
theorem dX11_alarm_26 : decode cX11_alarm 26 = .ok (.istore_n 2, 1) := by decide +kernel
theorem dX11_alarm_27 : decode cX11_alarm 27 = .ok (.iconst 0, 1) := by decide +kernel
theorem dX11_alarm_28 : decode cX11_alarm 28 = .ok (.istore_n 3, 1) := by decide +kernel
theorem dX11_alarm_29 : decode cX11_alarm 29 = .ok (.iload_n 3, 1) := by decide +kernel
theorem dX11_alarm_30 : decode cX11_alarm 30 = .ok (.aload_n 0, 1) := by decide +kernel
theorem dX11_alarm_31 : decode cX11_alarm 31 = .ok (.getfield 18, 3) := by decide +kernel
theorem dX11_alarm_34 : decode cX11_alarm 34 = .ok (.iload_n 1, 1) := by decide +kernel
theorem dX11_alarm_35 : decode cX11_alarm 35 = .ok (.aaload, 1) := by decide +kernel
theorem dX11_alarm_36 : decode cX11_alarm 36 = .ok (.getfield 114, 3) := by decide +kernel
theorem dX11_alarm_39 : decode cX11_alarm 39 = .ok (.if_icmp .ge 63, 3) := by decide +kernel
theorem dX11_alarm_42 : decode cX11_alarm 42 = .ok (.iload_n 2, 1) := by decide +kernel
theorem dX11_alarm_43 : decode cX11_alarm 43 = .ok (.bipush (-4), 2) := by decide +kernel
theorem dX11_alarm_45 : decode cX11_alarm 45 = .ok (.if_icmp .eq 28, 3) := by decide +kernel
theorem dX11_alarm_48 : decode cX11_alarm 48 = .ok (.aload_n 0, 1) := by decide +kernel
theorem dX11_alarm_49 : decode cX11_alarm 49 = .ok (.getfield 18, 3) := by decide +kernel
theorem dX11_alarm_52 : decode cX11_alarm 52 = .ok (.iload_n 1, 1) := by decide +kernel
theorem dX11_alarm_53 : decode cX11_alarm 53 = .ok (.aaload, 1) := by decide +kernel
theorem dX11_alarm_54 : decode cX11_alarm 54 = .ok (.iload_n 3, 1) := by decide +kernel
theorem dX11_alarm_55 : decode cX11_alarm 55 = .ok (.iconst 3, 1) := by decide +kernel
theorem dX11_alarm_56 : decode cX11_alarm 56 = .ok (.invokevirtual 122, 3) := by decide +kernel
theorem dX11_alarm_59 : decode cX11_alarm 59 = .ok (.aload_n 0, 1) := by decide +kernel
theorem dX11_alarm_60 : decode cX11_alarm 60 = .ok (.getfield 18, 3) := by decide +kernel
theorem dX11_alarm_63 : decode cX11_alarm 63 = .ok (.iload_n 1, 1) := by decide +kernel
theorem dX11_alarm_64 : decode cX11_alarm 64 = .ok (.aaload, 1) := by decide +kernel
theorem dX11_alarm_65 : decode cX11_alarm 65 = .ok (.iload_n 2, 1) := by decide +kernel
theorem dX11_alarm_66 : decode cX11_alarm 66 = .ok (.iconst 3, 1) := by decide +kernel
theorem dX11_alarm_67 : decode cX11_alarm 67 = .ok (.invokevirtual 122, 3) := by decide +kernel
theorem dX11_alarm_70 : decode cX11_alarm 70 = .ok (.if_icmp .ge 7, 3) := by decide +kernel
theorem dX11_alarm_73 : decode cX11_alarm 73 = .ok (.iconst 1, 1) := by decide +kernel
theorem dX11_alarm_74 : decode cX11_alarm 74 = .ok (.goto 4, 3) := by decide +kernel
theorem dX11_alarm_77 : decode cX11_alarm 77 = .ok (.iconst 0, 1) := by decide +kernel
theorem dX11_alarm_78 : decode cX11_alarm 78 = .ok (.istore 4, 2) := by decide +kernel
theorem dX11_alarm_80 : decode cX11_alarm 80 = .ok (.iload 4, 2) := by decide +kernel
theorem dX11_alarm_82 : decode cX11_alarm 82 = .ok (.ifCond .eq 14, 3) := by decide +kernel
theorem dX11_alarm_85 : decode cX11_alarm 85 = .ok (.aload_n 0, 1) := by decide +kernel
theorem dX11_alarm_86 : decode cX11_alarm 86 = .ok (.iload_n 1, 1) := by decide +kernel
theorem dX11_alarm_87 : decode cX11_alarm 87 = .ok (.iload_n 3, 1) := by decide +kernel
theorem dX11_alarm_88 : decode cX11_alarm 88 = .ok (.invokevirtual 253, 3) := by decide +kernel
theorem dX11_alarm_91 : decode cX11_alarm 91 = .ok (.ifCond .eq 5, 3) := by decide +kernel
theorem dX11_alarm_94 : decode cX11_alarm 94 = .ok (.iload_n 3, 1) := by decide +kernel
theorem dX11_alarm_95 : decode cX11_alarm 95 = .ok (.istore_n 2, 1) := by decide +kernel
theorem dX11_alarm_96 : decode cX11_alarm 96 = .ok (.iinc 3 1, 3) := by decide +kernel
theorem dX11_alarm_99 : decode cX11_alarm 99 = .ok (.goto (-70), 3) := by decide +kernel
theorem dX11_alarm_102 : decode cX11_alarm 102 = .ok (.iload_n 2, 1) := by decide +kernel
theorem dX11_alarm_103 : decode cX11_alarm 103 = .ok (.ireturn, 1) := by decide +kernel
set_option maxRecDepth 20000 in
theorem ggX11_count_X11_countingArrivals : GoodIn wsX11_count wsX11_countingArrivals := goodIn_r _ [7, 8, 20, 21, 22, 23, 24, 25, 26, 27, 28, 29, 47, 48, 49, 50] (by decide +kernel) (by decide +kernel)
set_option maxRecDepth 20000 in
theorem gX11_count_X11_countingArrivals : GoodIn wsX11_count (wsV RX11 256 RX11 yX11_countingArrivals wsX11_countingArrivals) := goodIn_app (goodIn_of _ (by decide +kernel)) ggX11_count_X11_countingArrivals
set_option maxRecDepth 20000 in
theorem ggX11_count_X11_standingModels : GoodIn wsX11_count wsX11_standingModels := goodIn_r _ [12, 13, 14, 15, 16, 17, 18, 19, 20, 21, 22, 23, 24, 25, 26, 27, 28, 29, 51, 52, 53] (by decide +kernel) (by decide +kernel)
set_option maxRecDepth 20000 in
theorem gX11_count_X11_standingModels : GoodIn wsX11_count (wsV RX11 259 RX11 yX11_standingModels wsX11_standingModels) := goodIn_app (goodIn_of _ (by decide +kernel)) ggX11_count_X11_standingModels
theorem dX11_count_0 : decode cX11_count 0 = .ok (.iload_n 1, 1) := by decide +kernel
theorem dX11_count_1 : decode cX11_count 1 = .ok (.tableswitch 57 0 3 #[31, 36, 41, 49], 31) := by decide +kernel
theorem dX11_count_32 : decode cX11_count 32 = .ok (.aload_n 0, 1) := by decide +kernel
theorem dX11_count_33 : decode cX11_count 33 = .ok (.invokevirtual 256, 3) := by decide +kernel
theorem dX11_count_36 : decode cX11_count 36 = .ok (.ireturn, 1) := by decide +kernel
theorem dX11_count_37 : decode cX11_count 37 = .ok (.aload_n 0, 1) := by decide +kernel
theorem dX11_count_38 : decode cX11_count 38 = .ok (.invokevirtual 259, 3) := by decide +kernel
theorem dX11_count_41 : decode cX11_count 41 = .ok (.ireturn, 1) := by decide +kernel
theorem dX11_count_42 : decode cX11_count 42 = .ok (.aload_n 0, 1) := by decide +kernel
theorem dX11_count_43 : decode cX11_count 43 = .ok (.getfield 31, 3) := by decide +kernel
theorem dX11_count_46 : decode cX11_count 46 = .ok (.getfield 262, 3) := by decide +kernel
theorem dX11_count_49 : decode cX11_count 49 = .ok (.ireturn, 1) := by decide +kernel
theorem dX11_count_50 : decode cX11_count 50 = .ok (.aload_n 0, 1) := by decide +kernel
theorem dX11_count_51 : decode cX11_count 51 = .ok (.getfield 45, 3) := by decide +kernel
theorem dX11_count_54 : decode cX11_count 54 = .ok (.getfield 188, 3) := by decide +kernel
theorem dX11_count_57 : decode cX11_count 57 = .ok (.ireturn, 1) := by decide +kernel
theorem dX11_count_58 : decode cX11_count 58 = .ok (.iconst (-1), 1) := by decide +kernel
theorem dX11_count_59 : decode cX11_count 59 = .ok (.ireturn, 1) := by decide +kernel
theorem dX11_within_0 : decode cX11_within 0 = .ok (.iload_n 0, 1) := by decide +kernel
theorem dX11_within_1 : decode cX11_within 1 = .ok (.iload_n 1, 1) := by decide +kernel
theorem dX11_within_2 : decode cX11_within 2 = .ok (.if_icmp .lt 12, 3) := by decide +kernel
theorem dX11_within_5 : decode cX11_within 5 = .ok (.iload_n 0, 1) := by decide +kernel
theorem dX11_within_6 : decode cX11_within 6 = .ok (.iload_n 2, 1) := by decide +kernel
theorem dX11_within_7 : decode cX11_within 7 = .ok (.if_icmp .gt 7, 3) := by decide +kernel
theorem dX11_within_10 : decode cX11_within 10 = .ok (.iconst 1, 1) := by decide +kernel
theorem dX11_within_11 : decode cX11_within 11 = .ok (.goto 4, 3) := by decide +kernel
theorem dX11_within_14 : decode cX11_within 14 = .ok (.iconst 0, 1) := by decide +kernel
theorem dX11_within_15 : decode cX11_within 15 = .ok (.ireturn, 1) := by decide +kernel
set_option maxRecDepth 20000 in
theorem ggX11_isStar_X11_within : GoodIn wsX11_isStar wsX11_within := goodIn_r _ [4] (by decide +kernel) (by decide +kernel)
set_option maxRecDepth 20000 in
theorem gX11_isStar_X11_within : GoodIn wsX11_isStar (va_wsS RX11 73 yX11_within wsX11_within) := goodIn_app (goodIn_of _ (by decide +kernel)) ggX11_isStar_X11_within
theorem dX11_isStar_0 : decode cX11_isStar 0 = .ok (.iload_n 0, 1) := by decide +kernel
theorem dX11_isStar_1 : decode cX11_isStar 1 = .ok (.iconst 0, 1) := by decide +kernel
theorem dX11_isStar_2 : decode cX11_isStar 2 = .ok (.iconst 3, 1) := by decide +kernel
theorem dX11_isStar_3 : decode cX11_isStar 3 = .ok (.invokestatic 73, 3) := by decide +kernel
theorem dX11_isStar_6 : decode cX11_isStar 6 = .ok (.ireturn, 1) := by decide +kernel
set_option maxRecDepth 20000 in
theorem ggX11_isInstrument_X11_within : GoodIn wsX11_isInstrument wsX11_within := goodIn_r _ [4] (by decide +kernel) (by decide +kernel)
set_option maxRecDepth 20000 in
theorem gX11_isInstrument_X11_within : GoodIn wsX11_isInstrument (va_wsS RX11 73 yX11_within wsX11_within) := goodIn_app (goodIn_of _ (by decide +kernel)) ggX11_isInstrument_X11_within
theorem dX11_isInstrument_0 : decode cX11_isInstrument 0 = .ok (.iload_n 0, 1) := by decide +kernel
theorem dX11_isInstrument_1 : decode cX11_isInstrument 1 = .ok (.iconst 0, 1) := by decide +kernel
theorem dX11_isInstrument_2 : decode cX11_isInstrument 2 = .ok (.iconst 2, 1) := by decide +kernel
theorem dX11_isInstrument_3 : decode cX11_isInstrument 3 = .ok (.invokestatic 73, 3) := by decide +kernel
theorem dX11_isInstrument_6 : decode cX11_isInstrument 6 = .ok (.ireturn, 1) := by decide +kernel
set_option maxRecDepth 20000 in
theorem ggX11_isPlace_X11_within : GoodIn wsX11_isPlace wsX11_within := goodIn_r _ [4] (by decide +kernel) (by decide +kernel)
set_option maxRecDepth 20000 in
theorem gX11_isPlace_X11_within : GoodIn wsX11_isPlace (va_wsS RX11 73 yX11_within wsX11_within) := goodIn_app (goodIn_of _ (by decide +kernel)) ggX11_isPlace_X11_within
theorem dX11_isPlace_0 : decode cX11_isPlace 0 = .ok (.iload_n 0, 1) := by decide +kernel
theorem dX11_isPlace_1 : decode cX11_isPlace 1 = .ok (.iconst 0, 1) := by decide +kernel
theorem dX11_isPlace_2 : decode cX11_isPlace 2 = .ok (.bipush 23, 2) := by decide +kernel
theorem dX11_isPlace_4 : decode cX11_isPlace 4 = .ok (.invokestatic 73, 3) := by decide +kernel
theorem dX11_isPlace_7 : decode cX11_isPlace 7 = .ok (.ireturn, 1) := by decide +kernel
set_option maxRecDepth 20000 in
theorem ggX11_seeAll_X7_see : GoodIn wsX11_seeAll wsX7_see := goodIn_r _ [7, 8, 9, 10, 11, 26, 27, 28, 29] (by decide +kernel) (by decide +kernel)
set_option maxRecDepth 20000 in
theorem gX11_seeAll_X7_see : GoodIn wsX11_seeAll (wsV RX11 265 RX7 yX7_see wsX7_see) := goodIn_app (goodIn_of _ (by decide +kernel)) ggX11_seeAll_X7_see
theorem dX11_seeAll_0 : decode cX11_seeAll 0 = .ok (.iconst 0, 1) := by decide +kernel
theorem dX11_seeAll_1 : decode cX11_seeAll 1 = .ok (.istore_n 1, 1) := by decide +kernel
theorem dX11_seeAll_2 : decode cX11_seeAll 2 = .ok (.iload_n 1, 1) := by decide +kernel
theorem dX11_seeAll_3 : decode cX11_seeAll 3 = .ok (.iconst 4, 1) := by decide +kernel
theorem dX11_seeAll_4 : decode cX11_seeAll 4 = .ok (.if_icmp .ge 25, 3) := by decide +kernel
theorem dX11_seeAll_7 : decode cX11_seeAll 7 = .ok (.aload_n 0, 1) := by decide +kernel
theorem dX11_seeAll_8 : decode cX11_seeAll 8 = .ok (.getfield 18, 3) := by decide +kernel
theorem dX11_seeAll_11 : decode cX11_seeAll 11 = .ok (.iload_n 1, 1) := by decide +kernel
theorem dX11_seeAll_12 : decode cX11_seeAll 12 = .ok (.aaload, 1) := by decide +kernel
theorem dX11_seeAll_13 : decode cX11_seeAll 13 = .ok (.aload_n 0, 1) := by decide +kernel
theorem dX11_seeAll_14 : decode cX11_seeAll 14 = .ok (.getfield 10, 3) := by decide +kernel
theorem dX11_seeAll_17 : decode cX11_seeAll 17 = .ok (.getfield 85, 3) := by decide +kernel
theorem dX11_seeAll_20 : decode cX11_seeAll 20 = .ok (.invokevirtual 265, 3) := by decide +kernel
theorem dX11_seeAll_23 : decode cX11_seeAll 23 = .ok (.iinc 1 1, 3) := by decide +kernel
theorem dX11_seeAll_26 : decode cX11_seeAll 26 = .ok (.goto (-24), 3) := by decide +kernel
theorem dX11_seeAll_29 : decode cX11_seeAll 29 = .ok (.return_, 1) := by decide +kernel
set_option maxRecDepth 20000 in
theorem ggX11_corrected_X7_value : GoodIn wsX11_corrected wsX7_value := goodIn_r _ [7, 8, 9, 28, 29, 30, 31] (by decide +kernel) (by decide +kernel)
set_option maxRecDepth 20000 in
theorem gX11_corrected_X7_value : GoodIn wsX11_corrected (wsV RX11 122 RX7 yX7_value wsX7_value) := goodIn_app (goodIn_of _ (by decide +kernel)) ggX11_corrected_X7_value
set_option maxRecDepth 20000 in
theorem ggX11_corrected_X8_correct : GoodIn wsX11_corrected wsX8_correct := goodIn_r _ [14, 15, 16, 17, 32, 33, 34, 35] (by decide +kernel) (by decide +kernel)
set_option maxRecDepth 20000 in
theorem gX11_corrected_X8_correct : GoodIn wsX11_corrected (wsV RX11 268 RX8 yX8_correct wsX8_correct) := goodIn_app (goodIn_of _ (by decide +kernel)) ggX11_corrected_X8_correct
theorem dX11_corrected_0 : decode cX11_corrected 0 = .ok (.aload_n 0, 1) := by decide +kernel
theorem dX11_corrected_1 : decode cX11_corrected 1 = .ok (.getfield 10, 3) := by decide +kernel
theorem dX11_corrected_4 : decode cX11_corrected 4 = .ok (.aload_n 0, 1) := by decide +kernel
theorem dX11_corrected_5 : decode cX11_corrected 5 = .ok (.getfield 18, 3) := by decide +kernel
theorem dX11_corrected_8 : decode cX11_corrected 8 = .ok (.iload_n 1, 1) := by decide +kernel
theorem dX11_corrected_9 : decode cX11_corrected 9 = .ok (.aaload, 1) := by decide +kernel
theorem dX11_corrected_10 : decode cX11_corrected 10 = .ok (.iload_n 2, 1) := by decide +kernel
theorem dX11_corrected_11 : decode cX11_corrected 11 = .ok (.iconst 0, 1) := by decide +kernel
theorem dX11_corrected_12 : decode cX11_corrected 12 = .ok (.invokevirtual 122, 3) := by decide +kernel
theorem dX11_corrected_15 : decode cX11_corrected 15 = .ok (.aload_n 0, 1) := by decide +kernel
theorem dX11_corrected_16 : decode cX11_corrected 16 = .ok (.getfield 18, 3) := by decide +kernel
theorem dX11_corrected_19 : decode cX11_corrected 19 = .ok (.iload_n 1, 1) := by decide +kernel
theorem dX11_corrected_20 : decode cX11_corrected 20 = .ok (.aaload, 1) := by decide +kernel
theorem dX11_corrected_21 : decode cX11_corrected 21 = .ok (.iload_n 2, 1) := by decide +kernel
theorem dX11_corrected_22 : decode cX11_corrected 22 = .ok (.iconst 2, 1) := by decide +kernel
theorem dX11_corrected_23 : decode cX11_corrected 23 = .ok (.invokevirtual 122, 3) := by decide +kernel
theorem dX11_corrected_26 : decode cX11_corrected 26 = .ok (.iload_n 3, 1) := by decide +kernel
theorem dX11_corrected_27 : decode cX11_corrected 27 = .ok (.invokevirtual 268, 3) := by decide +kernel
theorem dX11_corrected_30 : decode cX11_corrected 30 = .ok (.ireturn, 1) := by decide +kernel
set_option maxRecDepth 20000 in
theorem ggX11_hasResidue_X10_stands : GoodIn wsX11_hasResidue wsX10_stands := goodIn_r _ [7, 8, 23, 24, 25] (by decide +kernel) (by decide +kernel)
set_option maxRecDepth 20000 in
theorem gX11_hasResidue_X10_stands : GoodIn wsX11_hasResidue (wsV RX11 247 RX10 yX10_stands wsX10_stands) := goodIn_app (goodIn_of _ (by decide +kernel)) ggX11_hasResidue_X10_stands
theorem dX11_hasResidue_0 : decode cX11_hasResidue 0 = .ok (.aload_n 0, 1) := by decide +kernel
theorem dX11_hasResidue_1 : decode cX11_hasResidue 1 = .ok (.getfield 24, 3) := by decide +kernel
theorem dX11_hasResidue_4 : decode cX11_hasResidue 4 = .ok (.iload_n 1, 1) := by decide +kernel
theorem dX11_hasResidue_5 : decode cX11_hasResidue 5 = .ok (.aaload, 1) := by decide +kernel
theorem dX11_hasResidue_6 : decode cX11_hasResidue 6 = .ok (.invokevirtual 247, 3) := by decide +kernel
theorem dX11_hasResidue_9 : decode cX11_hasResidue 9 = .ok (.ifCond .eq 20, 3) := by decide +kernel
theorem dX11_hasResidue_12 : decode cX11_hasResidue 12 = .ok (.iload_n 2, 1) := by decide +kernel
theorem dX11_hasResidue_13 : decode cX11_hasResidue 13 = .ok (.aload_n 0, 1) := by decide +kernel
theorem dX11_hasResidue_14 : decode cX11_hasResidue 14 = .ok (.getfield 18, 3) := by decide +kernel
theorem dX11_hasResidue_17 : decode cX11_hasResidue 17 = .ok (.iload_n 1, 1) := by decide +kernel
theorem dX11_hasResidue_18 : decode cX11_hasResidue 18 = .ok (.aaload, 1) := by decide +kernel
theorem dX11_hasResidue_19 : decode cX11_hasResidue 19 = .ok (.getfield 114, 3) := by decide +kernel
theorem dX11_hasResidue_22 : decode cX11_hasResidue 22 = .ok (.if_icmp .ge 7, 3) := by decide +kernel
theorem dX11_hasResidue_25 : decode cX11_hasResidue 25 = .ok (.iconst 1, 1) := by decide +kernel
theorem dX11_hasResidue_26 : decode cX11_hasResidue 26 = .ok (.goto 4, 3) := by decide +kernel
theorem dX11_hasResidue_29 : decode cX11_hasResidue 29 = .ok (.iconst 0, 1) := by decide +kernel
theorem dX11_hasResidue_30 : decode cX11_hasResidue 30 = .ok (.ireturn, 1) := by decide +kernel
set_option maxRecDepth 20000 in
theorem ggX11_residueBy_X11_corrected : GoodIn wsX11_residueBy wsX11_corrected := goodIn_r _ [6, 7, 8, 9, 10, 11, 12, 13, 14, 15, 16, 17, 18, 19, 20, 21, 22, 23, 60, 61, 62, 63, 64, 65, 66, 67, 68, 69, 70, 71, 72, 73, 74, 75, 76, 77] (by decide +kernel) (by decide +kernel)
set_option maxRecDepth 20000 in
theorem gX11_residueBy_X11_corrected : GoodIn wsX11_residueBy (wsV RX11 118 RX11 yX11_corrected wsX11_corrected) := goodIn_app (goodIn_of _ (by decide +kernel)) ggX11_residueBy_X11_corrected
set_option maxRecDepth 20000 in
theorem ggX11_residueBy_X10_residueAt : GoodIn wsX11_residueBy wsX10_residueAt := goodIn_r _ [28, 29, 30, 31, 32, 27, 33, 34, 35, 36, 37, 38, 39, 40, 41, 42, 43, 44, 45, 46, 47, 48, 49, 50, 51, 52, 53, 54, 55, 56, 57, 58, 59, 78, 79, 80, 81, 82, 83, 84, 85, 86, 87, 88, 89, 90, 91, 92] (by decide +kernel) (by decide +kernel)
set_option maxRecDepth 20000 in
theorem gX11_residueBy_X10_residueAt : GoodIn wsX11_residueBy (wsV RX11 271 RX10 yX10_residueAt wsX10_residueAt) := goodIn_app (goodIn_of _ (by decide +kernel)) ggX11_residueBy_X10_residueAt
theorem dX11_residueBy_0 : decode cX11_residueBy 0 = .ok (.aload_n 0, 1) := by decide +kernel
theorem dX11_residueBy_1 : decode cX11_residueBy 1 = .ok (.getfield 24, 3) := by decide +kernel
theorem dX11_residueBy_4 : decode cX11_residueBy 4 = .ok (.iload_n 1, 1) := by decide +kernel
theorem dX11_residueBy_5 : decode cX11_residueBy 5 = .ok (.aaload, 1) := by decide +kernel
theorem dX11_residueBy_6 : decode cX11_residueBy 6 = .ok (.aload_n 0, 1) := by decide +kernel
theorem dX11_residueBy_7 : decode cX11_residueBy 7 = .ok (.iload_n 1, 1) := by decide +kernel
theorem dX11_residueBy_8 : decode cX11_residueBy 8 = .ok (.iload_n 2, 1) := by decide +kernel
theorem dX11_residueBy_9 : decode cX11_residueBy 9 = .ok (.iload_n 3, 1) := by decide +kernel
theorem dX11_residueBy_10 : decode cX11_residueBy 10 = .ok (.invokevirtual 118, 3) := by decide +kernel
theorem dX11_residueBy_13 : decode cX11_residueBy 13 = .ok (.invokevirtual 271, 3) := by decide +kernel
theorem dX11_residueBy_16 : decode cX11_residueBy 16 = .ok (.ireturn, 1) := by decide +kernel
set_option maxRecDepth 20000 in
theorem ggX11_turnOf_X11_corrected : GoodIn wsX11_turnOf wsX11_corrected := goodIn_r _ [8, 2, 9, 10, 11, 12, 13, 14, 15, 16, 17, 18, 19, 20, 21, 22, 23, 24, 56, 57, 58, 59, 60, 61, 62, 63, 64, 65, 70, 71, 72, 73, 66, 67, 68, 69] (by decide +kernel) (by decide +kernel)
set_option maxRecDepth 20000 in
theorem gX11_turnOf_X11_corrected : GoodIn wsX11_turnOf (wsV RX11 118 RX11 yX11_corrected wsX11_corrected) := goodIn_app (goodIn_of _ (by decide +kernel)) ggX11_turnOf_X11_corrected
set_option maxRecDepth 20000 in
theorem ggX11_turnOf_X10_nearest : GoodIn wsX11_turnOf wsX10_nearest := goodIn_r _ [29, 30, 31, 32, 33, 34, 35, 36, 37, 38, 39, 40, 28, 41, 42, 43, 44, 45, 46, 47, 48, 49, 50, 51, 52, 53, 54, 55, 74, 75, 76, 77, 78, 79, 80, 81, 82, 83, 84, 85, 86, 87, 88] (by decide +kernel) (by decide +kernel)
set_option maxRecDepth 20000 in
theorem gX11_turnOf_X10_nearest : GoodIn wsX11_turnOf (wsV RX11 276 RX10 yX10_nearest wsX10_nearest) := goodIn_app (goodIn_of _ (by decide +kernel)) ggX11_turnOf_X10_nearest
theorem dX11_turnOf_0 : decode cX11_turnOf 0 = .ok (.aload_n 0, 1) := by decide +kernel
theorem dX11_turnOf_1 : decode cX11_turnOf 1 = .ok (.getfield 24, 3) := by decide +kernel
theorem dX11_turnOf_4 : decode cX11_turnOf 4 = .ok (.iload_n 1, 1) := by decide +kernel
theorem dX11_turnOf_5 : decode cX11_turnOf 5 = .ok (.aaload, 1) := by decide +kernel
theorem dX11_turnOf_6 : decode cX11_turnOf 6 = .ok (.aload_n 0, 1) := by decide +kernel
theorem dX11_turnOf_7 : decode cX11_turnOf 7 = .ok (.iload_n 1, 1) := by decide +kernel
theorem dX11_turnOf_8 : decode cX11_turnOf 8 = .ok (.iload_n 2, 1) := by decide +kernel
theorem dX11_turnOf_9 : decode cX11_turnOf 9 = .ok (.aload_n 0, 1) := by decide +kernel
theorem dX11_turnOf_10 : decode cX11_turnOf 10 = .ok (.getfield 10, 3) := by decide +kernel
theorem dX11_turnOf_13 : decode cX11_turnOf 13 = .ok (.getfield 105, 3) := by decide +kernel
theorem dX11_turnOf_16 : decode cX11_turnOf 16 = .ok (.invokevirtual 118, 3) := by decide +kernel
theorem dX11_turnOf_19 : decode cX11_turnOf 19 = .ok (.i2l, 1) := by decide +kernel
theorem dX11_turnOf_20 : decode cX11_turnOf 20 = .ok (.ldc2_w 274, 3) := by decide +kernel
theorem dX11_turnOf_23 : decode cX11_turnOf 23 = .ok (.lmul, 1) := by decide +kernel
theorem dX11_turnOf_24 : decode cX11_turnOf 24 = .ok (.invokevirtual 276, 3) := by decide +kernel
theorem dX11_turnOf_27 : decode cX11_turnOf 27 = .ok (.ireturn, 1) := by decide +kernel
set_option maxRecDepth 20000 in
theorem ggX11_residuesOf_X10_stands : GoodIn wsX11_residuesOf wsX10_stands := goodIn_r _ [8, 9, 86, 87, 88] (by decide +kernel) (by decide +kernel)
set_option maxRecDepth 20000 in
theorem gX11_residuesOf_X10_stands : GoodIn wsX11_residuesOf (wsV RX11 247 RX10 yX10_stands wsX10_stands) := goodIn_app (goodIn_of _ (by decide +kernel)) ggX11_residuesOf_X10_stands
set_option maxRecDepth 20000 in
theorem ggX11_residuesOf_X11_residueBy : GoodIn wsX11_residuesOf wsX11_residueBy := goodIn_r _ [14, 1, 15, 16, 17, 13, 18, 3, 2, 19, 20, 21, 22, 23, 24, 25, 26, 27, 28, 29, 30, 31, 32, 33, 34, 35, 36, 7, 37, 38, 39, 40, 41, 42, 43, 44, 45, 46, 47, 48, 49, 9, 50, 51, 52, 53, 54, 55, 56, 57, 58, 59, 60, 61, 62, 63, 64, 65, 66, 67, 68, 69, 70, 71, 72, 73, 74, 75, 76, 77, 78, 79, 80, 81, 82, 83, 84, 85, 86, 87, 88, 89, 90, 91, 92, 93, 94, 95, 96, 97, 98, 99, 100] (by decide +kernel) (by decide +kernel)
set_option maxRecDepth 20000 in
theorem gX11_residuesOf_X11_residueBy : GoodIn wsX11_residuesOf (wsV RX11 163 RX11 yX11_residueBy wsX11_residueBy) := goodIn_app (goodIn_of _ (by decide +kernel)) ggX11_residuesOf_X11_residueBy
theorem dX11_residuesOf_0 : decode cX11_residuesOf 0 = .ok (.aload_n 0, 1) := by decide +kernel
theorem dX11_residuesOf_1 : decode cX11_residuesOf 1 = .ok (.getfield 24, 3) := by decide +kernel
theorem dX11_residuesOf_4 : decode cX11_residuesOf 4 = .ok (.iload_n 1, 1) := by decide +kernel
theorem dX11_residuesOf_5 : decode cX11_residuesOf 5 = .ok (.aaload, 1) := by decide +kernel
theorem dX11_residuesOf_6 : decode cX11_residuesOf 6 = .ok (.invokevirtual 247, 3) := by decide +kernel
theorem dX11_residuesOf_9 : decode cX11_residuesOf 9 = .ok (.ifCond .ne 5, 3) := by decide +kernel
theorem dX11_residuesOf_12 : decode cX11_residuesOf 12 = .ok (.iconst 0, 1) := by decide +kernel
theorem dX11_residuesOf_13 : decode cX11_residuesOf 13 = .ok (.ireturn, 1) := by decide +kernel
theorem dX11_residuesOf_14 : decode cX11_residuesOf 14 = .ok (.aload_n 0, 1) := by decide +kernel
theorem dX11_residuesOf_15 : decode cX11_residuesOf 15 = .ok (.getfield 18, 3) := by decide +kernel
theorem dX11_residuesOf_18 : decode cX11_residuesOf 18 = .ok (.iload_n 1, 1) := by decide +kernel
theorem dX11_residuesOf_19 : decode cX11_residuesOf 19 = .ok (.aaload, 1) := by decide +kernel
theorem dX11_residuesOf_20 : decode cX11_residuesOf 20 = .ok (.getfield 114, 3) := by decide +kernel
theorem dX11_residuesOf_23 : decode cX11_residuesOf 23 = .ok (.istore_n 3, 1) := by decide +kernel
theorem dX11_residuesOf_24 : decode cX11_residuesOf 24 = .ok (.iconst 0, 1) := by decide +kernel
theorem dX11_residuesOf_25 : decode cX11_residuesOf 25 = .ok (.istore 4, 2) := by decide +kernel
theorem dX11_residuesOf_27 : decode cX11_residuesOf 27 = .ok (.iload 4, 2) := by decide +kernel
theorem dX11_residuesOf_29 : decode cX11_residuesOf 29 = .ok (.iload_n 3, 1) := by decide +kernel
theorem dX11_residuesOf_30 : decode cX11_residuesOf 30 = .ok (.if_icmp .ge 27, 3) := by decide +kernel
theorem dX11_residuesOf_33 : decode cX11_residuesOf 33 = .ok (.aload_n 2, 1) := by decide +kernel
theorem dX11_residuesOf_34 : decode cX11_residuesOf 34 = .ok (.iload 4, 2) := by decide +kernel
theorem dX11_residuesOf_36 : decode cX11_residuesOf 36 = .ok (.aload_n 0, 1) := by decide +kernel
theorem dX11_residuesOf_37 : decode cX11_residuesOf 37 = .ok (.iload_n 1, 1) := by decide +kernel
theorem dX11_residuesOf_38 : decode cX11_residuesOf 38 = .ok (.iload 4, 2) := by decide +kernel
theorem dX11_residuesOf_40 : decode cX11_residuesOf 40 = .ok (.aload_n 0, 1) := by decide +kernel
theorem dX11_residuesOf_41 : decode cX11_residuesOf 41 = .ok (.getfield 10, 3) := by decide +kernel
theorem dX11_residuesOf_44 : decode cX11_residuesOf 44 = .ok (.getfield 105, 3) := by decide +kernel
theorem dX11_residuesOf_47 : decode cX11_residuesOf 47 = .ok (.invokevirtual 163, 3) := by decide +kernel
theorem dX11_residuesOf_50 : decode cX11_residuesOf 50 = .ok (.iastore, 1) := by decide +kernel
theorem dX11_residuesOf_51 : decode cX11_residuesOf 51 = .ok (.iinc 4 1, 3) := by decide +kernel
theorem dX11_residuesOf_54 : decode cX11_residuesOf 54 = .ok (.goto (-27), 3) := by decide +kernel
theorem dX11_residuesOf_57 : decode cX11_residuesOf 57 = .ok (.iload_n 3, 1) := by decide +kernel
theorem dX11_residuesOf_58 : decode cX11_residuesOf 58 = .ok (.ireturn, 1) := by decide +kernel
set_option maxRecDepth 20000 in
theorem ggX11_commonResidues_X11_residuesOf : GoodIn wsX11_commonResidues wsX11_residuesOf := goodIn_r _ [11, 12, 13, 14, 15, 16, 17, 18, 19, 20, 21, 22, 23, 10, 24, 25, 26, 27, 28, 29, 30, 31, 32, 33, 34, 35, 36, 37, 38, 39, 40, 41, 42, 43, 44, 45, 46, 47, 48, 49, 50, 51, 52, 53, 54, 55, 56, 57, 5, 58, 59, 60, 61, 62, 63, 64, 65, 66, 67, 68, 69, 70, 71, 72, 73, 74, 75, 76, 77, 78, 79, 80, 81, 82, 83, 84, 85, 86, 87, 88, 89, 90, 91, 92, 93, 94, 95, 96, 97, 98, 99, 100, 101, 102, 103, 104, 105, 106, 107, 108, 109] (by decide +kernel) (by decide +kernel)
set_option maxRecDepth 20000 in
theorem gX11_commonResidues_X11_residuesOf : GoodIn wsX11_commonResidues (wsV RX11 216 RX11 yX11_residuesOf wsX11_residuesOf) := goodIn_app (goodIn_of _ (by decide +kernel)) ggX11_commonResidues_X11_residuesOf
theorem dX11_commonResidues_0 : decode cX11_commonResidues 0 = .ok (.aload_n 0, 1) := by decide +kernel
theorem dX11_commonResidues_1 : decode cX11_commonResidues 1 = .ok (.iload_n 1, 1) := by decide +kernel
theorem dX11_commonResidues_2 : decode cX11_commonResidues 2 = .ok (.aload_n 0, 1) := by decide +kernel
theorem dX11_commonResidues_3 : decode cX11_commonResidues 3 = .ok (.getfield 49, 3) := by decide +kernel
theorem dX11_commonResidues_6 : decode cX11_commonResidues 6 = .ok (.invokevirtual 216, 3) := by decide +kernel
theorem dX11_commonResidues_9 : decode cX11_commonResidues 9 = .ok (.aload_n 0, 1) := by decide +kernel
theorem dX11_commonResidues_10 : decode cX11_commonResidues 10 = .ok (.iload_n 2, 1) := by decide +kernel
theorem dX11_commonResidues_11 : decode cX11_commonResidues 11 = .ok (.aload_n 0, 1) := by decide +kernel
theorem dX11_commonResidues_12 : decode cX11_commonResidues 12 = .ok (.getfield 53, 3) := by decide +kernel
theorem dX11_commonResidues_15 : decode cX11_commonResidues 15 = .ok (.invokevirtual 216, 3) := by decide +kernel
theorem dX11_commonResidues_18 : decode cX11_commonResidues 18 = .ok (.invokestatic 280, 3) := by decide +kernel
theorem dX11_commonResidues_21 : decode cX11_commonResidues 21 = .ok (.istore_n 3, 1) := by decide +kernel
theorem dX11_commonResidues_22 : decode cX11_commonResidues 22 = .ok (.iload_n 3, 1) := by decide +kernel
theorem dX11_commonResidues_23 : decode cX11_commonResidues 23 = .ok (.bipush 7, 2) := by decide +kernel
theorem dX11_commonResidues_25 : decode cX11_commonResidues 25 = .ok (.invokestatic 280, 3) := by decide +kernel
theorem dX11_commonResidues_28 : decode cX11_commonResidues 28 = .ok (.ireturn, 1) := by decide +kernel
set_option maxRecDepth 20000 in
theorem ggX11_isLoud_X11_residueBy : GoodIn wsX11_isLoud wsX11_residueBy := goodIn_r _ [11, 12, 13, 14, 15, 10, 16, 1, 6, 17, 18, 19, 20, 21, 22, 23, 24, 25, 26, 27, 28, 29, 30, 31, 32, 33, 34, 35, 36, 37, 38, 39, 40, 41, 42, 43, 44, 45, 46, 4, 47, 48, 49, 50, 51, 52, 53, 54, 55, 56, 57, 58, 59, 60, 61, 62, 63, 64, 65, 66, 67, 68, 69, 70, 71, 72, 73, 74, 75, 76, 81, 82, 83, 84, 77, 78, 79, 80, 85, 86, 87, 88, 89, 90, 91, 92, 93, 94, 95, 96, 97, 98, 99] (by decide +kernel) (by decide +kernel)
set_option maxRecDepth 20000 in
theorem gX11_isLoud_X11_residueBy : GoodIn wsX11_isLoud (wsV RX11 163 RX11 yX11_residueBy wsX11_residueBy) := goodIn_app (goodIn_of _ (by decide +kernel)) ggX11_isLoud_X11_residueBy
set_option maxRecDepth 20000 in
theorem ggX11_isLoud_X7_value : GoodIn wsX11_isLoud wsX7_value := goodIn_r _ [21, 22, 23, 81, 82, 83, 84] (by decide +kernel) (by decide +kernel)
set_option maxRecDepth 20000 in
theorem gX11_isLoud_X7_value : GoodIn wsX11_isLoud (wsV RX11 122 RX7 yX7_value wsX7_value) := goodIn_app (goodIn_of _ (by decide +kernel)) ggX11_isLoud_X7_value
theorem dX11_isLoud_0 : decode cX11_isLoud 0 = .ok (.aload_n 0, 1) := by decide +kernel
theorem dX11_isLoud_1 : decode cX11_isLoud 1 = .ok (.iload_n 1, 1) := by decide +kernel
theorem dX11_isLoud_2 : decode cX11_isLoud 2 = .ok (.iload_n 2, 1) := by decide +kernel
theorem dX11_isLoud_3 : decode cX11_isLoud 3 = .ok (.aload_n 0, 1) := by decide +kernel
theorem dX11_isLoud_4 : decode cX11_isLoud 4 = .ok (.getfield 10, 3) := by decide +kernel
theorem dX11_isLoud_7 : decode cX11_isLoud 7 = .ok (.getfield 105, 3) := by decide +kernel
theorem dX11_isLoud_10 : decode cX11_isLoud 10 = .ok (.invokevirtual 163, 3) := by decide +kernel
theorem dX11_isLoud_13 : decode cX11_isLoud 13 = .ok (.invokestatic 248, 3) := by decide +kernel
theorem dX11_isLoud_16 : decode cX11_isLoud 16 = .ok (.iconst 3, 1) := by decide +kernel
theorem dX11_isLoud_17 : decode cX11_isLoud 17 = .ok (.aload_n 0, 1) := by decide +kernel
theorem dX11_isLoud_18 : decode cX11_isLoud 18 = .ok (.getfield 18, 3) := by decide +kernel
theorem dX11_isLoud_21 : decode cX11_isLoud 21 = .ok (.iload_n 1, 1) := by decide +kernel
theorem dX11_isLoud_22 : decode cX11_isLoud 22 = .ok (.aaload, 1) := by decide +kernel
theorem dX11_isLoud_23 : decode cX11_isLoud 23 = .ok (.iload_n 2, 1) := by decide +kernel
theorem dX11_isLoud_24 : decode cX11_isLoud 24 = .ok (.iconst 1, 1) := by decide +kernel
theorem dX11_isLoud_25 : decode cX11_isLoud 25 = .ok (.invokevirtual 122, 3) := by decide +kernel
theorem dX11_isLoud_28 : decode cX11_isLoud 28 = .ok (.imul, 1) := by decide +kernel
theorem dX11_isLoud_29 : decode cX11_isLoud 29 = .ok (.if_icmp .le 7, 3) := by decide +kernel
theorem dX11_isLoud_32 : decode cX11_isLoud 32 = .ok (.iconst 1, 1) := by decide +kernel
theorem dX11_isLoud_33 : decode cX11_isLoud 33 = .ok (.goto 4, 3) := by decide +kernel
theorem dX11_isLoud_36 : decode cX11_isLoud 36 = .ok (.iconst 0, 1) := by decide +kernel
theorem dX11_isLoud_37 : decode cX11_isLoud 37 = .ok (.ireturn, 1) := by decide +kernel
set_option maxRecDepth 20000 in
theorem ggX11_middleGap_X2_empty : GoodIn wsX11_middleGap wsX2_empty := goodIn_r _ [8, 9, 106, 107] (by decide +kernel) (by decide +kernel)
set_option maxRecDepth 20000 in
theorem gX11_middleGap_X2_empty : GoodIn wsX11_middleGap (wsV RX11 283 RX2 yX2_empty wsX2_empty) := goodIn_app (goodIn_of _ (by decide +kernel)) ggX11_middleGap_X2_empty
set_option maxRecDepth 20000 in
theorem ggX11_middleGap_X10_stands : GoodIn wsX11_middleGap wsX10_stands := goodIn_r _ [14, 15, 108, 109, 110] (by decide +kernel) (by decide +kernel)
set_option maxRecDepth 20000 in
theorem gX11_middleGap_X10_stands : GoodIn wsX11_middleGap (wsV RX11 247 RX10 yX10_stands wsX10_stands) := goodIn_app (goodIn_of _ (by decide +kernel)) ggX11_middleGap_X10_stands
set_option maxRecDepth 20000 in
theorem ggX11_middleGap_X11_gatherGaps : GoodIn wsX11_middleGap wsX11_gatherGaps := goodIn_r _ [20, 21, 22, 1, 23, 24, 25, 19, 26, 2, 27, 28, 29, 30, 31, 32, 33, 34, 35, 36, 37, 38, 39, 40, 41, 42, 43, 44, 45, 46, 47, 48, 49, 50, 13, 51, 52, 53, 54, 55, 56, 57, 58, 15, 59, 60, 61, 62, 63, 64, 65, 66, 67, 68, 69, 70, 71, 72, 73, 74, 75, 76, 77, 78, 79, 7, 80, 9, 81, 96, 97, 98, 99, 100, 101, 102, 103, 104, 105, 111, 112, 113, 114, 115, 116, 117, 118, 108, 109, 110, 119, 120, 121, 122, 123, 124, 125, 126, 127, 128, 129, 130, 106, 107] (by decide +kernel) (by decide +kernel)
set_option maxRecDepth 20000 in
theorem gX11_middleGap_X11_gatherGaps : GoodIn wsX11_middleGap (wsV RX11 285 RX11 yX11_gatherGaps wsX11_gatherGaps) := goodIn_app (goodIn_of _ (by decide +kernel)) ggX11_middleGap_X11_gatherGaps
set_option maxRecDepth 20000 in
theorem ggX11_middleGap_X2_middle : GoodIn wsX11_middleGap wsX2_middle := goodIn_r _ [85, 86, 87, 9, 88, 89, 90, 91, 92, 93, 94, 7, 95, 81, 106, 107] (by decide +kernel) (by decide +kernel)
set_option maxRecDepth 20000 in
theorem gX11_middleGap_X2_middle : GoodIn wsX11_middleGap (wsV RX11 291 RX2 yX2_middle wsX2_middle) := goodIn_app (goodIn_of _ (by decide +kernel)) ggX11_middleGap_X2_middle
theorem dX11_middleGap_0 : decode cX11_middleGap 0 = .ok (.aload_n 0, 1) := by decide +kernel
theorem dX11_middleGap_1 : decode cX11_middleGap 1 = .ok (.getfield 62, 3) := by decide +kernel
theorem dX11_middleGap_4 : decode cX11_middleGap 4 = .ok (.invokevirtual 283, 3) := by decide +kernel
theorem dX11_middleGap_7 : decode cX11_middleGap 7 = .ok (.iconst 0, 1) := by decide +kernel
theorem dX11_middleGap_8 : decode cX11_middleGap 8 = .ok (.istore_n 3, 1) := by decide +kernel
theorem dX11_middleGap_9 : decode cX11_middleGap 9 = .ok (.iload_n 3, 1) := by decide +kernel
theorem dX11_middleGap_10 : decode cX11_middleGap 10 = .ok (.iconst 4, 1) := by decide +kernel
theorem dX11_middleGap_11 : decode cX11_middleGap 11 = .ok (.if_icmp .ge 28, 3) := by decide +kernel
theorem dX11_middleGap_14 : decode cX11_middleGap 14 = .ok (.aload_n 0, 1) := by decide +kernel
theorem dX11_middleGap_15 : decode cX11_middleGap 15 = .ok (.getfield 24, 3) := by decide +kernel
theorem dX11_middleGap_18 : decode cX11_middleGap 18 = .ok (.iload_n 3, 1) := by decide +kernel
theorem dX11_middleGap_19 : decode cX11_middleGap 19 = .ok (.aaload, 1) := by decide +kernel
theorem dX11_middleGap_20 : decode cX11_middleGap 20 = .ok (.invokevirtual 247, 3) := by decide +kernel
theorem dX11_middleGap_23 : decode cX11_middleGap 23 = .ok (.ifCond .eq 10, 3) := by decide +kernel
theorem dX11_middleGap_26 : decode cX11_middleGap 26 = .ok (.aload_n 0, 1) := by decide +kernel
theorem dX11_middleGap_27 : decode cX11_middleGap 27 = .ok (.iload_n 3, 1) := by decide +kernel
theorem dX11_middleGap_28 : decode cX11_middleGap 28 = .ok (.iload_n 1, 1) := by decide +kernel
theorem dX11_middleGap_29 : decode cX11_middleGap 29 = .ok (.iload_n 2, 1) := by decide +kernel
theorem dX11_middleGap_30 : decode cX11_middleGap 30 = .ok (.invokevirtual 285, 3) := by decide +kernel
theorem dX11_middleGap_33 : decode cX11_middleGap 33 = .ok (.iinc 3 1, 3) := by decide +kernel
theorem dX11_middleGap_36 : decode cX11_middleGap 36 = .ok (.goto (-27), 3) := by decide +kernel
theorem dX11_middleGap_39 : decode cX11_middleGap 39 = .ok (.aload_n 0, 1) := by decide +kernel
theorem dX11_middleGap_40 : decode cX11_middleGap 40 = .ok (.getfield 62, 3) := by decide +kernel
theorem dX11_middleGap_43 : decode cX11_middleGap 43 = .ok (.getfield 288, 3) := by decide +kernel
theorem dX11_middleGap_46 : decode cX11_middleGap 46 = .ok (.ifCond .ne 8, 3) := by decide +kernel
theorem dX11_middleGap_49 : decode cX11_middleGap 49 = .ok (.ldc 246, 2) := by decide +kernel
theorem dX11_middleGap_51 : decode cX11_middleGap 51 = .ok (.goto 10, 3) := by decide +kernel
theorem dX11_middleGap_54 : decode cX11_middleGap 54 = .ok (.aload_n 0, 1) := by decide +kernel
theorem dX11_middleGap_55 : decode cX11_middleGap 55 = .ok (.getfield 62, 3) := by decide +kernel
theorem dX11_middleGap_58 : decode cX11_middleGap 58 = .ok (.invokevirtual 291, 3) := by decide +kernel
theorem dX11_middleGap_61 : decode cX11_middleGap 61 = .ok (.ireturn, 1) := by decide +kernel
set_option maxRecDepth 20000 in
theorem ggX11_gatherGaps_X11_turnOf : GoodIn wsX11_gatherGaps wsX11_turnOf := goodIn_r _ [8, 9, 10, 11, 12, 13, 14, 7, 15, 1, 16, 17, 18, 19, 20, 21, 22, 23, 24, 25, 26, 27, 28, 29, 30, 31, 32, 33, 34, 35, 36, 37, 38, 39, 40, 41, 42, 43, 44, 45, 46, 47, 48, 49, 50, 51, 52, 53, 54, 55, 56, 57, 58, 59, 60, 61, 69, 70, 71, 72, 73, 74, 75, 76, 77, 78, 83, 84, 85, 86, 79, 80, 81, 82, 87, 88, 89, 90, 91, 92, 93, 94, 95, 96, 97, 98, 99, 100, 101] (by decide +kernel) (by decide +kernel)
set_option maxRecDepth 20000 in
theorem gX11_gatherGaps_X11_turnOf : GoodIn wsX11_gatherGaps (wsV RX11 167 RX11 yX11_turnOf wsX11_turnOf) := goodIn_app (goodIn_of _ (by decide +kernel)) ggX11_gatherGaps_X11_turnOf
set_option maxRecDepth 20000 in
theorem ggX11_gatherGaps_X7_value : GoodIn wsX11_gatherGaps wsX7_value := goodIn_r _ [20, 21, 22, 79, 80, 81, 82] (by decide +kernel) (by decide +kernel)
set_option maxRecDepth 20000 in
theorem gX11_gatherGaps_X7_value : GoodIn wsX11_gatherGaps (wsV RX11 122 RX7 yX7_value wsX7_value) := goodIn_app (goodIn_of _ (by decide +kernel)) ggX11_gatherGaps_X7_value
set_option maxRecDepth 20000 in
theorem ggX11_gatherGaps_X2_put : GoodIn wsX11_gatherGaps wsX2_put := goodIn_r _ [66, 67, 68, 102, 103] (by decide +kernel) (by decide +kernel)
set_option maxRecDepth 20000 in
theorem gX11_gatherGaps_X2_put : GoodIn wsX11_gatherGaps (wsV RX11 294 RX2 yX2_put wsX2_put) := goodIn_app (goodIn_of _ (by decide +kernel)) ggX11_gatherGaps_X2_put
theorem dX11_gatherGaps_0 : decode cX11_gatherGaps 0 = .ok (.aload_n 0, 1) := by decide +kernel
theorem dX11_gatherGaps_1 : decode cX11_gatherGaps 1 = .ok (.getfield 18, 3) := by decide +kernel
theorem dX11_gatherGaps_4 : decode cX11_gatherGaps 4 = .ok (.iload_n 1, 1) := by decide +kernel
theorem dX11_gatherGaps_5 : decode cX11_gatherGaps 5 = .ok (.aaload, 1) := by decide +kernel
theorem dX11_gatherGaps_6 : decode cX11_gatherGaps 6 = .ok (.astore 4, 2) := by decide +kernel
theorem dX11_gatherGaps_8 : decode cX11_gatherGaps 8 = .ok (.iconst 0, 1) := by decide +kernel
theorem dX11_gatherGaps_9 : decode cX11_gatherGaps 9 = .ok (.istore 5, 2) := by decide +kernel
theorem dX11_gatherGaps_11 : decode cX11_gatherGaps 11 = .ok (.iload 5, 2) := by decide +kernel
theorem dX11_gatherGaps_13 : decode cX11_gatherGaps 13 = .ok (.aload 4, 2) := by decide +kernel
theorem dX11_gatherGaps_15 : decode cX11_gatherGaps 15 = .ok (.getfield 114, 3) := by decide +kernel
theorem dX11_gatherGaps_18 : decode cX11_gatherGaps 18 = .ok (.if_icmp .ge 23, 3) := by decide +kernel
theorem dX11_gatherGaps_21 : decode cX11_gatherGaps 21 = .ok (.aload_n 0, 1) := by decide +kernel
theorem dX11_gatherGaps_22 : decode cX11_gatherGaps 22 = .ok (.getfield 56, 3) := by decide +kernel
theorem dX11_gatherGaps_25 : decode cX11_gatherGaps 25 = .ok (.iload 5, 2) := by decide +kernel
theorem dX11_gatherGaps_27 : decode cX11_gatherGaps 27 = .ok (.aload_n 0, 1) := by decide +kernel
theorem dX11_gatherGaps_28 : decode cX11_gatherGaps 28 = .ok (.iload_n 1, 1) := by decide +kernel
theorem dX11_gatherGaps_29 : decode cX11_gatherGaps 29 = .ok (.iload 5, 2) := by decide +kernel
theorem dX11_gatherGaps_31 : decode cX11_gatherGaps 31 = .ok (.invokevirtual 167, 3) := by decide +kernel
theorem dX11_gatherGaps_34 : decode cX11_gatherGaps 34 = .ok (.iastore, 1) := by decide +kernel
theorem dX11_gatherGaps_35 : decode cX11_gatherGaps 35 = .ok (.iinc 5 1, 3) := by decide +kernel
theorem dX11_gatherGaps_38 : decode cX11_gatherGaps 38 = .ok (.goto (-27), 3) := by decide +kernel
theorem dX11_gatherGaps_41 : decode cX11_gatherGaps 41 = .ok (.iconst 0, 1) := by decide +kernel
theorem dX11_gatherGaps_42 : decode cX11_gatherGaps 42 = .ok (.istore 5, 2) := by decide +kernel
theorem dX11_gatherGaps_44 : decode cX11_gatherGaps 44 = .ok (.iload 5, 2) := by decide +kernel
theorem dX11_gatherGaps_46 : decode cX11_gatherGaps 46 = .ok (.aload 4, 2) := by decide +kernel
theorem dX11_gatherGaps_48 : decode cX11_gatherGaps 48 = .ok (.getfield 114, 3) := by decide +kernel
theorem dX11_gatherGaps_51 : decode cX11_gatherGaps 51 = .ok (.if_icmp .ge 93, 3) := by decide +kernel
theorem dX11_gatherGaps_54 : decode cX11_gatherGaps 54 = .ok (.iconst 0, 1) := by decide +kernel
theorem dX11_gatherGaps_55 : decode cX11_gatherGaps 55 = .ok (.istore 6, 2) := by decide +kernel
theorem dX11_gatherGaps_57 : decode cX11_gatherGaps 57 = .ok (.iload 6, 2) := by decide +kernel
theorem dX11_gatherGaps_59 : decode cX11_gatherGaps 59 = .ok (.aload 4, 2) := by decide +kernel
theorem dX11_gatherGaps_61 : decode cX11_gatherGaps 61 = .ok (.getfield 114, 3) := by decide +kernel
theorem dX11_gatherGaps_64 : decode cX11_gatherGaps 64 = .ok (.if_icmp .ge 74, 3) := by decide +kernel
theorem dX11_gatherGaps_67 : decode cX11_gatherGaps 67 = .ok (.aload 4, 2) := by decide +kernel
theorem dX11_gatherGaps_69 : decode cX11_gatherGaps 69 = .ok (.iload 5, 2) := by decide +kernel
theorem dX11_gatherGaps_71 : decode cX11_gatherGaps 71 = .ok (.iconst 2, 1) := by decide +kernel
theorem dX11_gatherGaps_72 : decode cX11_gatherGaps 72 = .ok (.invokevirtual 122, 3) := by decide +kernel
theorem dX11_gatherGaps_75 : decode cX11_gatherGaps 75 = .ok (.iload_n 2, 1) := by decide +kernel
theorem dX11_gatherGaps_76 : decode cX11_gatherGaps 76 = .ok (.if_icmp .ne 56, 3) := by decide +kernel
theorem dX11_gatherGaps_79 : decode cX11_gatherGaps 79 = .ok (.aload 4, 2) := by decide +kernel
theorem dX11_gatherGaps_81 : decode cX11_gatherGaps 81 = .ok (.iload 6, 2) := by decide +kernel
theorem dX11_gatherGaps_83 : decode cX11_gatherGaps 83 = .ok (.iconst 2, 1) := by decide +kernel
theorem dX11_gatherGaps_84 : decode cX11_gatherGaps 84 = .ok (.invokevirtual 122, 3) := by decide +kernel
theorem dX11_gatherGaps_87 : decode cX11_gatherGaps 87 = .ok (.iload_n 3, 1) := by decide +kernel
theorem dX11_gatherGaps_88 : decode cX11_gatherGaps 88 = .ok (.if_icmp .ne 44, 3) := by decide +kernel
theorem dX11_gatherGaps_91 : decode cX11_gatherGaps 91 = .ok (.aload_n 0, 1) := by decide +kernel
theorem dX11_gatherGaps_92 : decode cX11_gatherGaps 92 = .ok (.getfield 56, 3) := by decide +kernel
theorem dX11_gatherGaps_95 : decode cX11_gatherGaps 95 = .ok (.iload 5, 2) := by decide +kernel
theorem dX11_gatherGaps_97 : decode cX11_gatherGaps 97 = .ok (.iaload, 1) := by decide +kernel
theorem dX11_gatherGaps_98 : decode cX11_gatherGaps 98 = .ok (.aload_n 0, 1) := by decide +kernel
theorem dX11_gatherGaps_99 : decode cX11_gatherGaps 99 = .ok (.getfield 56, 3) := by decide +kernel
theorem dX11_gatherGaps_102 : decode cX11_gatherGaps 102 = .ok (.iload 6, 2) := by decide +kernel
theorem dX11_gatherGaps_104 : decode cX11_gatherGaps 104 = .ok (.iaload, 1) := by decide +kernel
theorem dX11_gatherGaps_105 : decode cX11_gatherGaps 105 = .ok (.if_icmp .ne 27, 3) := by decide +kernel
theorem dX11_gatherGaps_108 : decode cX11_gatherGaps 108 = .ok (.aload_n 0, 1) := by decide +kernel
theorem dX11_gatherGaps_109 : decode cX11_gatherGaps 109 = .ok (.getfield 62, 3) := by decide +kernel
theorem dX11_gatherGaps_112 : decode cX11_gatherGaps 112 = .ok (.aload 4, 2) := by decide +kernel
theorem dX11_gatherGaps_114 : decode cX11_gatherGaps 114 = .ok (.iload 5, 2) := by decide +kernel
theorem dX11_gatherGaps_116 : decode cX11_gatherGaps 116 = .ok (.iconst 0, 1) := by decide +kernel
theorem dX11_gatherGaps_117 : decode cX11_gatherGaps 117 = .ok (.invokevirtual 122, 3) := by decide +kernel
theorem dX11_gatherGaps_120 : decode cX11_gatherGaps 120 = .ok (.aload 4, 2) := by decide +kernel
theorem dX11_gatherGaps_122 : decode cX11_gatherGaps 122 = .ok (.iload 6, 2) := by decide +kernel
theorem dX11_gatherGaps_124 : decode cX11_gatherGaps 124 = .ok (.iconst 0, 1) := by decide +kernel
theorem dX11_gatherGaps_125 : decode cX11_gatherGaps 125 = .ok (.invokevirtual 122, 3) := by decide +kernel
theorem dX11_gatherGaps_128 : decode cX11_gatherGaps 128 = .ok (.isub, 1) := by decide +kernel
theorem dX11_gatherGaps_129 : decode cX11_gatherGaps 129 = .ok (.invokevirtual 294, 3) := by decide +kernel
theorem dX11_gatherGaps_132 : decode cX11_gatherGaps 132 = .ok (.iinc 6 1, 3) := by decide +kernel
theorem dX11_gatherGaps_135 : decode cX11_gatherGaps 135 = .ok (.goto (-78), 3) := by decide +kernel
theorem dX11_gatherGaps_138 : decode cX11_gatherGaps 138 = .ok (.iinc 5 1, 3) := by decide +kernel
theorem dX11_gatherGaps_141 : decode cX11_gatherGaps 141 = .ok (.goto (-97), 3) := by decide +kernel
theorem dX11_gatherGaps_144 : decode cX11_gatherGaps 144 = .ok (.return_, 1) := by decide +kernel
theorem dX11_countingArrivals_0 : decode cX11_countingArrivals 0 = .ok (.iconst 0, 1) := by decide +kernel
theorem dX11_countingArrivals_1 : decode cX11_countingArrivals 1 = .ok (.istore_n 1, 1) := by decide +kernel
theorem dX11_countingArrivals_2 : decode cX11_countingArrivals 2 = .ok (.iconst 0, 1) := by decide +kernel
theorem dX11_countingArrivals_3 : decode cX11_countingArrivals 3 = .ok (.istore_n 2, 1) := by decide +kernel
theorem dX11_countingArrivals_4 : decode cX11_countingArrivals 4 = .ok (.iload_n 2, 1) := by decide +kernel
theorem dX11_countingArrivals_5 : decode cX11_countingArrivals 5 = .ok (.iconst 4, 1) := by decide +kernel
theorem dX11_countingArrivals_6 : decode cX11_countingArrivals 6 = .ok (.if_icmp .ge 21, 3) := by decide +kernel
theorem dX11_countingArrivals_9 : decode cX11_countingArrivals 9 = .ok (.iload_n 1, 1) := by decide +kernel
theorem dX11_countingArrivals_10 : decode cX11_countingArrivals 10 = .ok (.aload_n 0, 1) := by decide +kernel
theorem dX11_countingArrivals_11 : decode cX11_countingArrivals 11 = .ok (.getfield 18, 3) := by decide +kernel
theorem dX11_countingArrivals_14 : decode cX11_countingArrivals 14 = .ok (.iload_n 2, 1) := by decide +kernel
theorem dX11_countingArrivals_15 : decode cX11_countingArrivals 15 = .ok (.aaload, 1) := by decide +kernel
theorem dX11_countingArrivals_16 : decode cX11_countingArrivals 16 = .ok (.getfield 114, 3) := by decide +kernel
theorem dX11_countingArrivals_19 : decode cX11_countingArrivals 19 = .ok (.iadd, 1) := by decide +kernel
theorem dX11_countingArrivals_20 : decode cX11_countingArrivals 20 = .ok (.istore_n 1, 1) := by decide +kernel
theorem dX11_countingArrivals_21 : decode cX11_countingArrivals 21 = .ok (.iinc 2 1, 3) := by decide +kernel
theorem dX11_countingArrivals_24 : decode cX11_countingArrivals 24 = .ok (.goto (-20), 3) := by decide +kernel
theorem dX11_countingArrivals_27 : decode cX11_countingArrivals 27 = .ok (.iload_n 1, 1) := by decide +kernel
theorem dX11_countingArrivals_28 : decode cX11_countingArrivals 28 = .ok (.ireturn, 1) := by decide +kernel
set_option maxRecDepth 20000 in
theorem ggX11_standingModels_X10_stands : GoodIn wsX11_standingModels wsX10_stands := goodIn_r _ [6, 7, 18, 19, 20] (by decide +kernel) (by decide +kernel)
set_option maxRecDepth 20000 in
theorem gX11_standingModels_X10_stands : GoodIn wsX11_standingModels (wsV RX11 247 RX10 yX10_stands wsX10_stands) := goodIn_app (goodIn_of _ (by decide +kernel)) ggX11_standingModels_X10_stands
theorem dX11_standingModels_0 : decode cX11_standingModels 0 = .ok (.iconst 0, 1) := by decide +kernel
theorem dX11_standingModels_1 : decode cX11_standingModels 1 = .ok (.istore_n 1, 1) := by decide +kernel
theorem dX11_standingModels_2 : decode cX11_standingModels 2 = .ok (.iconst 0, 1) := by decide +kernel
theorem dX11_standingModels_3 : decode cX11_standingModels 3 = .ok (.istore_n 2, 1) := by decide +kernel
theorem dX11_standingModels_4 : decode cX11_standingModels 4 = .ok (.iload_n 2, 1) := by decide +kernel
theorem dX11_standingModels_5 : decode cX11_standingModels 5 = .ok (.iconst 4, 1) := by decide +kernel
theorem dX11_standingModels_6 : decode cX11_standingModels 6 = .ok (.if_icmp .ge 24, 3) := by decide +kernel
theorem dX11_standingModels_9 : decode cX11_standingModels 9 = .ok (.aload_n 0, 1) := by decide +kernel
theorem dX11_standingModels_10 : decode cX11_standingModels 10 = .ok (.getfield 24, 3) := by decide +kernel
theorem dX11_standingModels_13 : decode cX11_standingModels 13 = .ok (.iload_n 2, 1) := by decide +kernel
theorem dX11_standingModels_14 : decode cX11_standingModels 14 = .ok (.aaload, 1) := by decide +kernel
theorem dX11_standingModels_15 : decode cX11_standingModels 15 = .ok (.invokevirtual 247, 3) := by decide +kernel
theorem dX11_standingModels_18 : decode cX11_standingModels 18 = .ok (.ifCond .eq 6, 3) := by decide +kernel
theorem dX11_standingModels_21 : decode cX11_standingModels 21 = .ok (.iinc 1 1, 3) := by decide +kernel
theorem dX11_standingModels_24 : decode cX11_standingModels 24 = .ok (.iinc 2 1, 3) := by decide +kernel
theorem dX11_standingModels_27 : decode cX11_standingModels 27 = .ok (.goto (-23), 3) := by decide +kernel
theorem dX11_standingModels_30 : decode cX11_standingModels 30 = .ok (.iload_n 1, 1) := by decide +kernel
theorem dX11_standingModels_31 : decode cX11_standingModels 31 = .ok (.ireturn, 1) := by decide +kernel
theorem dX12_init_0 : decode cX12_init 0 = .ok (.aload_n 0, 1) := by decide +kernel
theorem dX12_init_1 : decode cX12_init 1 = .ok (.invokespecial 1, 3) := by decide +kernel
theorem dX12_init_4 : decode cX12_init 4 = .ok (.aload_n 0, 1) := by decide +kernel
theorem dX12_init_5 : decode cX12_init 5 = .ok (.iconst 4, 1) := by decide +kernel
theorem dX12_init_6 : decode cX12_init 6 = .ok (.newarray .int, 2) := by decide +kernel
theorem dX12_init_8 : decode cX12_init 8 = .ok (.putfield 7, 3) := by decide +kernel
theorem dX12_init_11 : decode cX12_init 11 = .ok (.aload_n 0, 1) := by decide +kernel
theorem dX12_init_12 : decode cX12_init 12 = .ok (.bipush 96, 2) := by decide +kernel
theorem dX12_init_14 : decode cX12_init 14 = .ok (.newarray .int, 2) := by decide +kernel
theorem dX12_init_16 : decode cX12_init 16 = .ok (.putfield 13, 3) := by decide +kernel
theorem dX12_init_19 : decode cX12_init 19 = .ok (.aload_n 0, 1) := by decide +kernel
theorem dX12_init_20 : decode cX12_init 20 = .ok (.bipush 96, 2) := by decide +kernel
theorem dX12_init_22 : decode cX12_init 22 = .ok (.newarray .int, 2) := by decide +kernel
theorem dX12_init_24 : decode cX12_init 24 = .ok (.putfield 16, 3) := by decide +kernel
theorem dX12_init_27 : decode cX12_init 27 = .ok (.aload_n 0, 1) := by decide +kernel
theorem dX12_init_28 : decode cX12_init 28 = .ok (.bipush 96, 2) := by decide +kernel
theorem dX12_init_30 : decode cX12_init 30 = .ok (.newarray .int, 2) := by decide +kernel
theorem dX12_init_32 : decode cX12_init 32 = .ok (.putfield 19, 3) := by decide +kernel
theorem dX12_init_35 : decode cX12_init 35 = .ok (.aload_n 0, 1) := by decide +kernel
theorem dX12_init_36 : decode cX12_init 36 = .ok (.bipush 96, 2) := by decide +kernel
theorem dX12_init_38 : decode cX12_init 38 = .ok (.newarray .int, 2) := by decide +kernel
theorem dX12_init_40 : decode cX12_init 40 = .ok (.putfield 22, 3) := by decide +kernel
theorem dX12_init_43 : decode cX12_init 43 = .ok (.aload_n 0, 1) := by decide +kernel
theorem dX12_init_44 : decode cX12_init 44 = .ok (.iconst 3, 1) := by decide +kernel
theorem dX12_init_45 : decode cX12_init 45 = .ok (.newarray .int, 2) := by decide +kernel
theorem dX12_init_47 : decode cX12_init 47 = .ok (.putfield 25, 3) := by decide +kernel
theorem dX12_init_50 : decode cX12_init 50 = .ok (.aload_n 0, 1) := by decide +kernel
theorem dX12_init_51 : decode cX12_init 51 = .ok (.bipush 22, 2) := by decide +kernel
theorem dX12_init_53 : decode cX12_init 53 = .ok (.newarray .int, 2) := by decide +kernel
theorem dX12_init_55 : decode cX12_init 55 = .ok (.putfield 28, 3) := by decide +kernel
theorem dX12_init_58 : decode cX12_init 58 = .ok (.aload_n 0, 1) := by decide +kernel
theorem dX12_init_59 : decode cX12_init 59 = .ok (.ldc 31, 2) := by decide +kernel
theorem dX12_init_61 : decode cX12_init 61 = .ok (.putfield 32, 3) := by decide +kernel
theorem dX12_init_64 : decode cX12_init 64 = .ok (.aload_n 0, 1) := by decide +kernel
theorem dX12_init_65 : decode cX12_init 65 = .ok (.iconst 4, 1) := by decide +kernel
theorem dX12_init_66 : decode cX12_init 66 = .ok (.newarray .boolean, 2) := by decide +kernel
theorem dX12_init_68 : decode cX12_init 68 = .ok (.putfield 36, 3) := by decide +kernel
theorem dX12_init_71 : decode cX12_init 71 = .ok (.aload_n 0, 1) := by decide +kernel
theorem dX12_init_72 : decode cX12_init 72 = .ok (.iconst 5, 1) := by decide +kernel
theorem dX12_init_73 : decode cX12_init 73 = .ok (.newarray .int, 2) := by decide +kernel
theorem dX12_init_75 : decode cX12_init 75 = .ok (.putfield 40, 3) := by decide +kernel
theorem dX12_init_78 : decode cX12_init 78 = .ok (.aload_n 0, 1) := by decide +kernel
theorem dX12_init_79 : decode cX12_init 79 = .ok (.iconst 5, 1) := by decide +kernel
theorem dX12_init_80 : decode cX12_init 80 = .ok (.newarray .int, 2) := by decide +kernel
theorem dX12_init_82 : decode cX12_init 82 = .ok (.putfield 43, 3) := by decide +kernel
theorem dX12_init_85 : decode cX12_init 85 = .ok (.aload_n 0, 1) := by decide +kernel
theorem dX12_init_86 : decode cX12_init 86 = .ok (.iconst 5, 1) := by decide +kernel
theorem dX12_init_87 : decode cX12_init 87 = .ok (.newarray .int, 2) := by decide +kernel
theorem dX12_init_89 : decode cX12_init 89 = .ok (.putfield 46, 3) := by decide +kernel
theorem dX12_init_92 : decode cX12_init 92 = .ok (.aload_n 0, 1) := by decide +kernel
theorem dX12_init_93 : decode cX12_init 93 = .ok (.iconst 5, 1) := by decide +kernel
theorem dX12_init_94 : decode cX12_init 94 = .ok (.newarray .int, 2) := by decide +kernel
theorem dX12_init_96 : decode cX12_init 96 = .ok (.putfield 49, 3) := by decide +kernel
theorem dX12_init_99 : decode cX12_init 99 = .ok (.aload_n 0, 1) := by decide +kernel
theorem dX12_init_100 : decode cX12_init 100 = .ok (.bipush 15, 2) := by decide +kernel
theorem dX12_init_102 : decode cX12_init 102 = .ok (.newarray .int, 2) := by decide +kernel
theorem dX12_init_104 : decode cX12_init 104 = .ok (.putfield 52, 3) := by decide +kernel
theorem dX12_init_107 : decode cX12_init 107 = .ok (.aload_n 0, 1) := by decide +kernel
theorem dX12_init_108 : decode cX12_init 108 = .ok (.bipush 15, 2) := by decide +kernel
theorem dX12_init_110 : decode cX12_init 110 = .ok (.newarray .int, 2) := by decide +kernel
theorem dX12_init_112 : decode cX12_init 112 = .ok (.putfield 55, 3) := by decide +kernel
theorem dX12_init_115 : decode cX12_init 115 = .ok (.aload_n 0, 1) := by decide +kernel
theorem dX12_init_116 : decode cX12_init 116 = .ok (.iconst 5, 1) := by decide +kernel
theorem dX12_init_117 : decode cX12_init 117 = .ok (.newarray .int, 2) := by decide +kernel
theorem dX12_init_119 : decode cX12_init 119 = .ok (.putfield 58, 3) := by decide +kernel
theorem dX12_init_122 : decode cX12_init 122 = .ok (.aload_n 0, 1) := by decide +kernel
theorem dX12_init_123 : decode cX12_init 123 = .ok (.bipush 10, 2) := by decide +kernel
theorem dX12_init_125 : decode cX12_init 125 = .ok (.newarray .int, 2) := by decide +kernel
theorem dX12_init_127 : decode cX12_init 127 = .ok (.putfield 61, 3) := by decide +kernel
theorem dX12_init_130 : decode cX12_init 130 = .ok (.aload_n 0, 1) := by decide +kernel
theorem dX12_init_131 : decode cX12_init 131 = .ok (.bipush 40, 2) := by decide +kernel
theorem dX12_init_133 : decode cX12_init 133 = .ok (.newarray .int, 2) := by decide +kernel
theorem dX12_init_135 : decode cX12_init 135 = .ok (.putfield 64, 3) := by decide +kernel
theorem dX12_init_138 : decode cX12_init 138 = .ok (.aload_n 0, 1) := by decide +kernel
theorem dX12_init_139 : decode cX12_init 139 = .ok (.sipush 200, 3) := by decide +kernel
theorem dX12_init_142 : decode cX12_init 142 = .ok (.newarray .int, 2) := by decide +kernel
theorem dX12_init_144 : decode cX12_init 144 = .ok (.putfield 67, 3) := by decide +kernel
theorem dX12_init_147 : decode cX12_init 147 = .ok (.aload_n 0, 1) := by decide +kernel
theorem dX12_init_148 : decode cX12_init 148 = .ok (.bipush 24, 2) := by decide +kernel
theorem dX12_init_150 : decode cX12_init 150 = .ok (.newarray .int, 2) := by decide +kernel
theorem dX12_init_152 : decode cX12_init 152 = .ok (.putfield 70, 3) := by decide +kernel
theorem dX12_init_155 : decode cX12_init 155 = .ok (.aload_n 0, 1) := by decide +kernel
theorem dX12_init_156 : decode cX12_init 156 = .ok (.sipush 10001, 3) := by decide +kernel
theorem dX12_init_159 : decode cX12_init 159 = .ok (.newarray .long, 2) := by decide +kernel
theorem dX12_init_161 : decode cX12_init 161 = .ok (.putfield 73, 3) := by decide +kernel
theorem dX12_init_164 : decode cX12_init 164 = .ok (.aload_n 0, 1) := by decide +kernel
theorem dX12_init_165 : decode cX12_init 165 = .ok (.bipush 24, 2) := by decide +kernel
theorem dX12_init_167 : decode cX12_init 167 = .ok (.newarray .int, 2) := by decide +kernel
theorem dX12_init_169 : decode cX12_init 169 = .ok (.putfield 77, 3) := by decide +kernel
theorem dX12_init_172 : decode cX12_init 172 = .ok (.aload_n 0, 1) := by decide +kernel
theorem dX12_init_173 : decode cX12_init 173 = .ok (.bipush 24, 2) := by decide +kernel
theorem dX12_init_175 : decode cX12_init 175 = .ok (.newarray .int, 2) := by decide +kernel
theorem dX12_init_177 : decode cX12_init 177 = .ok (.putfield 80, 3) := by decide +kernel
theorem dX12_init_180 : decode cX12_init 180 = .ok (.aload_n 0, 1) := by decide +kernel
theorem dX12_init_181 : decode cX12_init 181 = .ok (.bipush 24, 2) := by decide +kernel
theorem dX12_init_183 : decode cX12_init 183 = .ok (.newarray .int, 2) := by decide +kernel
theorem dX12_init_185 : decode cX12_init 185 = .ok (.putfield 83, 3) := by decide +kernel
theorem dX12_init_188 : decode cX12_init 188 = .ok (.aload_n 0, 1) := by decide +kernel
theorem dX12_init_189 : decode cX12_init 189 = .ok (.bipush 24, 2) := by decide +kernel
theorem dX12_init_191 : decode cX12_init 191 = .ok (.newarray .int, 2) := by decide +kernel
theorem dX12_init_193 : decode cX12_init 193 = .ok (.putfield 86, 3) := by decide +kernel
theorem dX12_init_196 : decode cX12_init 196 = .ok (.aload_n 0, 1) := by decide +kernel
theorem dX12_init_197 : decode cX12_init 197 = .ok (.sipush 12000, 3) := by decide +kernel
theorem dX12_init_200 : decode cX12_init 200 = .ok (.newarray .int, 2) := by decide +kernel
theorem dX12_init_202 : decode cX12_init 202 = .ok (.putfield 89, 3) := by decide +kernel
theorem dX12_init_205 : decode cX12_init 205 = .ok (.aload_n 0, 1) := by decide +kernel
theorem dX12_init_206 : decode cX12_init 206 = .ok (.sipush 500, 3) := by decide +kernel
theorem dX12_init_209 : decode cX12_init 209 = .ok (.newarray .long, 2) := by decide +kernel
theorem dX12_init_211 : decode cX12_init 211 = .ok (.putfield 92, 3) := by decide +kernel
theorem dX12_init_214 : decode cX12_init 214 = .ok (.aload_n 0, 1) := by decide +kernel
theorem dX12_init_215 : decode cX12_init 215 = .ok (.sipush 500, 3) := by decide +kernel
theorem dX12_init_218 : decode cX12_init 218 = .ok (.newarray .long, 2) := by decide +kernel
theorem dX12_init_220 : decode cX12_init 220 = .ok (.putfield 95, 3) := by decide +kernel
theorem dX12_init_223 : decode cX12_init 223 = .ok (.aload_n 0, 1) := by decide +kernel
theorem dX12_init_224 : decode cX12_init 224 = .ok (.sipush 500, 3) := by decide +kernel
theorem dX12_init_227 : decode cX12_init 227 = .ok (.newarray .long, 2) := by decide +kernel
theorem dX12_init_229 : decode cX12_init 229 = .ok (.putfield 98, 3) := by decide +kernel
theorem dX12_init_232 : decode cX12_init 232 = .ok (.aload_n 0, 1) := by decide +kernel
theorem dX12_init_233 : decode cX12_init 233 = .ok (.sipush 500, 3) := by decide +kernel
theorem dX12_init_236 : decode cX12_init 236 = .ok (.newarray .long, 2) := by decide +kernel
theorem dX12_init_238 : decode cX12_init 238 = .ok (.putfield 101, 3) := by decide +kernel
theorem dX12_init_241 : decode cX12_init 241 = .ok (.aload_n 0, 1) := by decide +kernel
theorem dX12_init_242 : decode cX12_init 242 = .ok (.bipush 24, 2) := by decide +kernel
theorem dX12_init_244 : decode cX12_init 244 = .ok (.newarray .int, 2) := by decide +kernel
theorem dX12_init_246 : decode cX12_init 246 = .ok (.putfield 104, 3) := by decide +kernel
theorem dX12_init_249 : decode cX12_init 249 = .ok (.aload_n 0, 1) := by decide +kernel
theorem dX12_init_250 : decode cX12_init 250 = .ok (.bipush 24, 2) := by decide +kernel
theorem dX12_init_252 : decode cX12_init 252 = .ok (.newarray .long, 2) := by decide +kernel
theorem dX12_init_254 : decode cX12_init 254 = .ok (.putfield 107, 3) := by decide +kernel
theorem dX12_init_257 : decode cX12_init 257 = .ok (.aload_n 0, 1) := by decide +kernel
theorem dX12_init_258 : decode cX12_init 258 = .ok (.bipush 24, 2) := by decide +kernel
theorem dX12_init_260 : decode cX12_init 260 = .ok (.newarray .long, 2) := by decide +kernel
theorem dX12_init_262 : decode cX12_init 262 = .ok (.putfield 110, 3) := by decide +kernel
theorem dX12_init_265 : decode cX12_init 265 = .ok (.aload_n 0, 1) := by decide +kernel
theorem dX12_init_266 : decode cX12_init 266 = .ok (.bipush 24, 2) := by decide +kernel
theorem dX12_init_268 : decode cX12_init 268 = .ok (.newarray .long, 2) := by decide +kernel
theorem dX12_init_270 : decode cX12_init 270 = .ok (.putfield 113, 3) := by decide +kernel
theorem dX12_init_273 : decode cX12_init 273 = .ok (.aload_n 0, 1) := by decide +kernel
theorem dX12_init_274 : decode cX12_init 274 = .ok (.bipush 24, 2) := by decide +kernel
theorem dX12_init_276 : decode cX12_init 276 = .ok (.newarray .long, 2) := by decide +kernel
theorem dX12_init_278 : decode cX12_init 278 = .ok (.putfield 116, 3) := by decide +kernel
theorem dX12_init_281 : decode cX12_init 281 = .ok (.aload_n 0, 1) := by decide +kernel
theorem dX12_init_282 : decode cX12_init 282 = .ok (.bipush 24, 2) := by decide +kernel
theorem dX12_init_284 : decode cX12_init 284 = .ok (.newarray .long, 2) := by decide +kernel
theorem dX12_init_286 : decode cX12_init 286 = .ok (.putfield 119, 3) := by decide +kernel
theorem dX12_init_289 : decode cX12_init 289 = .ok (.aload_n 0, 1) := by decide +kernel
theorem dX12_init_290 : decode cX12_init 290 = .ok (.bipush 24, 2) := by decide +kernel
theorem dX12_init_292 : decode cX12_init 292 = .ok (.newarray .long, 2) := by decide +kernel
theorem dX12_init_294 : decode cX12_init 294 = .ok (.putfield 122, 3) := by decide +kernel
theorem dX12_init_297 : decode cX12_init 297 = .ok (.aload_n 0, 1) := by decide +kernel
theorem dX12_init_298 : decode cX12_init 298 = .ok (.bipush 7, 2) := by decide +kernel
theorem dX12_init_300 : decode cX12_init 300 = .ok (.newarray .int, 2) := by decide +kernel
theorem dX12_init_302 : decode cX12_init 302 = .ok (.putfield 125, 3) := by decide +kernel
theorem dX12_init_305 : decode cX12_init 305 = .ok (.aload_n 0, 1) := by decide +kernel
theorem dX12_init_306 : decode cX12_init 306 = .ok (.bipush 7, 2) := by decide +kernel
theorem dX12_init_308 : decode cX12_init 308 = .ok (.newarray .int, 2) := by decide +kernel
theorem dX12_init_310 : decode cX12_init 310 = .ok (.putfield 128, 3) := by decide +kernel
theorem dX12_init_313 : decode cX12_init 313 = .ok (.aload_n 0, 1) := by decide +kernel
theorem dX12_init_314 : decode cX12_init 314 = .ok (.sipush 2304, 3) := by decide +kernel
theorem dX12_init_317 : decode cX12_init 317 = .ok (.newarray .int, 2) := by decide +kernel
theorem dX12_init_319 : decode cX12_init 319 = .ok (.putfield 131, 3) := by decide +kernel
theorem dX12_init_322 : decode cX12_init 322 = .ok (.return_, 1) := by decide +kernel
theorem dX12_in_0 : decode cX12_in 0 = .ok (.lload_n 0, 1) := by decide +kernel
theorem dX12_in_1 : decode cX12_in 1 = .ok (.lload_n 2, 1) := by decide +kernel
theorem dX12_in_2 : decode cX12_in 2 = .ok (.lcmp, 1) := by decide +kernel
theorem dX12_in_3 : decode cX12_in 3 = .ok (.ifCond .lt 14, 3) := by decide +kernel
theorem dX12_in_6 : decode cX12_in 6 = .ok (.lload_n 0, 1) := by decide +kernel
theorem dX12_in_7 : decode cX12_in 7 = .ok (.lload 4, 2) := by decide +kernel
theorem dX12_in_9 : decode cX12_in 9 = .ok (.lcmp, 1) := by decide +kernel
theorem dX12_in_10 : decode cX12_in 10 = .ok (.ifCond .gt 7, 3) := by decide +kernel
theorem dX12_in_13 : decode cX12_in 13 = .ok (.iconst 1, 1) := by decide +kernel
theorem dX12_in_14 : decode cX12_in 14 = .ok (.goto 4, 3) := by decide +kernel
theorem dX12_in_17 : decode cX12_in 17 = .ok (.iconst 0, 1) := by decide +kernel
theorem dX12_in_18 : decode cX12_in 18 = .ok (.ireturn, 1) := by decide +kernel
set_option maxRecDepth 20000 in
theorem ggX12_isStar_X12_in : GoodIn wsX12_isStar wsX12_in := goodIn_r _ [5] (by decide +kernel) (by decide +kernel)
set_option maxRecDepth 20000 in
theorem gX12_isStar_X12_in : GoodIn wsX12_isStar (va_wsS RX12 136 yX12_in wsX12_in) := goodIn_app (goodIn_of _ (by decide +kernel)) ggX12_isStar_X12_in
theorem dX12_isStar_0 : decode cX12_isStar 0 = .ok (.iload_n 0, 1) := by decide +kernel
theorem dX12_isStar_1 : decode cX12_isStar 1 = .ok (.i2l, 1) := by decide +kernel
theorem dX12_isStar_2 : decode cX12_isStar 2 = .ok (.lconst 0, 1) := by decide +kernel
theorem dX12_isStar_3 : decode cX12_isStar 3 = .ok (.ldc2_w 134, 3) := by decide +kernel
theorem dX12_isStar_6 : decode cX12_isStar 6 = .ok (.invokestatic 136, 3) := by decide +kernel
theorem dX12_isStar_9 : decode cX12_isStar 9 = .ok (.ireturn, 1) := by decide +kernel
set_option maxRecDepth 20000 in
theorem ggX12_isTool_X12_in : GoodIn wsX12_isTool wsX12_in := goodIn_r _ [5] (by decide +kernel) (by decide +kernel)
set_option maxRecDepth 20000 in
theorem gX12_isTool_X12_in : GoodIn wsX12_isTool (va_wsS RX12 136 yX12_in wsX12_in) := goodIn_app (goodIn_of _ (by decide +kernel)) ggX12_isTool_X12_in
theorem dX12_isTool_0 : decode cX12_isTool 0 = .ok (.iload_n 0, 1) := by decide +kernel
theorem dX12_isTool_1 : decode cX12_isTool 1 = .ok (.i2l, 1) := by decide +kernel
theorem dX12_isTool_2 : decode cX12_isTool 2 = .ok (.lconst 0, 1) := by decide +kernel
theorem dX12_isTool_3 : decode cX12_isTool 3 = .ok (.ldc2_w 140, 3) := by decide +kernel
theorem dX12_isTool_6 : decode cX12_isTool 6 = .ok (.invokestatic 136, 3) := by decide +kernel
theorem dX12_isTool_9 : decode cX12_isTool 9 = .ok (.ireturn, 1) := by decide +kernel
set_option maxRecDepth 20000 in
theorem ggX12_arrival_X12_isStar : GoodIn wsX12_arrival wsX12_isStar := goodIn_r _ [12, 13, 14, 15, 11, 16] (by decide +kernel) (by decide +kernel)
set_option maxRecDepth 20000 in
theorem gX12_arrival_X12_isStar : GoodIn wsX12_arrival (va_wsS RX12 142 yX12_isStar wsX12_isStar) := goodIn_app (goodIn_of _ (by decide +kernel)) ggX12_arrival_X12_isStar
set_option maxRecDepth 20000 in
theorem ggX12_arrival_X12_in : GoodIn wsX12_arrival wsX12_in := goodIn_r _ [16] (by decide +kernel) (by decide +kernel)
set_option maxRecDepth 20000 in
theorem gX12_arrival_X12_in : GoodIn wsX12_arrival (va_wsS RX12 136 yX12_in wsX12_in) := goodIn_app (goodIn_of _ (by decide +kernel)) ggX12_arrival_X12_in
set_option maxRecDepth 20000 in
theorem ggX12_arrival_X12_isTool : GoodIn wsX12_arrival wsX12_isTool := goodIn_r _ [19, 20, 14, 15, 11, 16] (by decide +kernel) (by decide +kernel)
set_option maxRecDepth 20000 in
theorem gX12_arrival_X12_isTool : GoodIn wsX12_arrival (va_wsS RX12 150 yX12_isTool wsX12_isTool) := goodIn_app (goodIn_of _ (by decide +kernel)) ggX12_arrival_X12_isTool
theorem dX12_arrival_0 : decode cX12_arrival 0 = .ok (.iload_n 1, 1) := by decide +kernel
theorem dX12_arrival_1 : decode cX12_arrival 1 = .ok (.invokestatic 142, 3) := by decide +kernel
theorem dX12_arrival_4 : decode cX12_arrival 4 = .ok (.ifCond .eq 48, 3) := by decide +kernel
theorem dX12_arrival_7 : decode cX12_arrival 7 = .ok (.iload_n 2, 1) := by decide +kernel
theorem dX12_arrival_8 : decode cX12_arrival 8 = .ok (.i2l, 1) := by decide +kernel
theorem dX12_arrival_9 : decode cX12_arrival 9 = .ok (.lconst 0, 1) := by decide +kernel
theorem dX12_arrival_10 : decode cX12_arrival 10 = .ok (.ldc2_w 146, 3) := by decide +kernel
theorem dX12_arrival_13 : decode cX12_arrival 13 = .ok (.invokestatic 136, 3) := by decide +kernel
theorem dX12_arrival_16 : decode cX12_arrival 16 = .ok (.ifCond .eq 36, 3) := by decide +kernel
theorem dX12_arrival_19 : decode cX12_arrival 19 = .ok (.iload_n 3, 1) := by decide +kernel
theorem dX12_arrival_20 : decode cX12_arrival 20 = .ok (.i2l, 1) := by decide +kernel
theorem dX12_arrival_21 : decode cX12_arrival 21 = .ok (.lconst 0, 1) := by decide +kernel
theorem dX12_arrival_22 : decode cX12_arrival 22 = .ok (.ldc2_w 148, 3) := by decide +kernel
theorem dX12_arrival_25 : decode cX12_arrival 25 = .ok (.invokestatic 136, 3) := by decide +kernel
theorem dX12_arrival_28 : decode cX12_arrival 28 = .ok (.ifCond .eq 24, 3) := by decide +kernel
theorem dX12_arrival_31 : decode cX12_arrival 31 = .ok (.iload 4, 2) := by decide +kernel
theorem dX12_arrival_33 : decode cX12_arrival 33 = .ok (.invokestatic 150, 3) := by decide +kernel
theorem dX12_arrival_36 : decode cX12_arrival 36 = .ok (.ifCond .eq 16, 3) := by decide +kernel
theorem dX12_arrival_39 : decode cX12_arrival 39 = .ok (.iload 5, 2) := by decide +kernel
theorem dX12_arrival_41 : decode cX12_arrival 41 = .ok (.i2l, 1) := by decide +kernel
theorem dX12_arrival_42 : decode cX12_arrival 42 = .ok (.lconst 0, 1) := by decide +kernel
theorem dX12_arrival_43 : decode cX12_arrival 43 = .ok (.ldc2_w 153, 3) := by decide +kernel
theorem dX12_arrival_46 : decode cX12_arrival 46 = .ok (.invokestatic 136, 3) := by decide +kernel
theorem dX12_arrival_49 : decode cX12_arrival 49 = .ok (.ifCond .ne 5, 3) := by decide +kernel
theorem dX12_arrival_52 : decode cX12_arrival 52 = .ok (.iconst (-1), 1) := by decide +kernel
theorem dX12_arrival_53 : decode cX12_arrival 53 = .ok (.ireturn, 1) := by decide +kernel
theorem dX12_arrival_54 : decode cX12_arrival 54 = .ok (.aload_n 0, 1) := by decide +kernel
theorem dX12_arrival_55 : decode cX12_arrival 55 = .ok (.getfield 7, 3) := by decide +kernel
theorem dX12_arrival_58 : decode cX12_arrival 58 = .ok (.iload_n 1, 1) := by decide +kernel
theorem dX12_arrival_59 : decode cX12_arrival 59 = .ok (.iaload, 1) := by decide +kernel
theorem dX12_arrival_60 : decode cX12_arrival 60 = .ok (.bipush 24, 2) := by decide +kernel
theorem dX12_arrival_62 : decode cX12_arrival 62 = .ok (.if_icmp .ne 6, 3) := by decide +kernel
theorem dX12_arrival_65 : decode cX12_arrival 65 = .ok (.bipush (-3), 2) := by decide +kernel
theorem dX12_arrival_67 : decode cX12_arrival 67 = .ok (.ireturn, 1) := by decide +kernel
theorem dX12_arrival_68 : decode cX12_arrival 68 = .ok (.bipush 24, 2) := by decide +kernel
theorem dX12_arrival_70 : decode cX12_arrival 70 = .ok (.iload_n 1, 1) := by decide +kernel
theorem dX12_arrival_71 : decode cX12_arrival 71 = .ok (.imul, 1) := by decide +kernel
theorem dX12_arrival_72 : decode cX12_arrival 72 = .ok (.aload_n 0, 1) := by decide +kernel
theorem dX12_arrival_73 : decode cX12_arrival 73 = .ok (.getfield 7, 3) := by decide +kernel
theorem dX12_arrival_76 : decode cX12_arrival 76 = .ok (.iload_n 1, 1) := by decide +kernel
theorem dX12_arrival_77 : decode cX12_arrival 77 = .ok (.iaload, 1) := by decide +kernel
theorem dX12_arrival_78 : decode cX12_arrival 78 = .ok (.iadd, 1) := by decide +kernel
theorem dX12_arrival_79 : decode cX12_arrival 79 = .ok (.istore 6, 2) := by decide +kernel
theorem dX12_arrival_81 : decode cX12_arrival 81 = .ok (.iload 6, 2) := by decide +kernel
theorem dX12_arrival_83 : decode cX12_arrival 83 = .ok (.bipush 24, 2) := by decide +kernel
theorem dX12_arrival_85 : decode cX12_arrival 85 = .ok (.iload_n 1, 1) := by decide +kernel
theorem dX12_arrival_86 : decode cX12_arrival 86 = .ok (.imul, 1) := by decide +kernel
theorem dX12_arrival_87 : decode cX12_arrival 87 = .ok (.if_icmp .le 86, 3) := by decide +kernel
theorem dX12_arrival_90 : decode cX12_arrival 90 = .ok (.aload_n 0, 1) := by decide +kernel
theorem dX12_arrival_91 : decode cX12_arrival 91 = .ok (.getfield 13, 3) := by decide +kernel
theorem dX12_arrival_94 : decode cX12_arrival 94 = .ok (.iload 6, 2) := by decide +kernel
theorem dX12_arrival_96 : decode cX12_arrival 96 = .ok (.iconst 1, 1) := by decide +kernel
theorem dX12_arrival_97 : decode cX12_arrival 97 = .ok (.isub, 1) := by decide +kernel
theorem dX12_arrival_98 : decode cX12_arrival 98 = .ok (.iaload, 1) := by decide +kernel
theorem dX12_arrival_99 : decode cX12_arrival 99 = .ok (.iload_n 2, 1) := by decide +kernel
theorem dX12_arrival_100 : decode cX12_arrival 100 = .ok (.if_icmp .le 73, 3) := by decide +kernel
theorem dX12_arrival_103 : decode cX12_arrival 103 = .ok (.aload_n 0, 1) := by decide +kernel
theorem dX12_arrival_104 : decode cX12_arrival 104 = .ok (.getfield 13, 3) := by decide +kernel
theorem dX12_arrival_107 : decode cX12_arrival 107 = .ok (.iload 6, 2) := by decide +kernel
theorem dX12_arrival_109 : decode cX12_arrival 109 = .ok (.aload_n 0, 1) := by decide +kernel
theorem dX12_arrival_110 : decode cX12_arrival 110 = .ok (.getfield 13, 3) := by decide +kernel
theorem dX12_arrival_113 : decode cX12_arrival 113 = .ok (.iload 6, 2) := by decide +kernel
theorem dX12_arrival_115 : decode cX12_arrival 115 = .ok (.iconst 1, 1) := by decide +kernel
theorem dX12_arrival_116 : decode cX12_arrival 116 = .ok (.isub, 1) := by decide +kernel
theorem dX12_arrival_117 : decode cX12_arrival 117 = .ok (.iaload, 1) := by decide +kernel
theorem dX12_arrival_118 : decode cX12_arrival 118 = .ok (.iastore, 1) := by decide +kernel
theorem dX12_arrival_119 : decode cX12_arrival 119 = .ok (.aload_n 0, 1) := by decide +kernel
theorem dX12_arrival_120 : decode cX12_arrival 120 = .ok (.getfield 16, 3) := by decide +kernel
theorem dX12_arrival_123 : decode cX12_arrival 123 = .ok (.iload 6, 2) := by decide +kernel
theorem dX12_arrival_125 : decode cX12_arrival 125 = .ok (.aload_n 0, 1) := by decide +kernel
theorem dX12_arrival_126 : decode cX12_arrival 126 = .ok (.getfield 16, 3) := by decide +kernel
theorem dX12_arrival_129 : decode cX12_arrival 129 = .ok (.iload 6, 2) := by decide +kernel
theorem dX12_arrival_131 : decode cX12_arrival 131 = .ok (.iconst 1, 1) := by decide +kernel
theorem dX12_arrival_132 : decode cX12_arrival 132 = .ok (.isub, 1) := by decide +kernel
theorem dX12_arrival_133 : decode cX12_arrival 133 = .ok (.iaload, 1) := by decide +kernel
theorem dX12_arrival_134 : decode cX12_arrival 134 = .ok (.iastore, 1) := by decide +kernel
theorem dX12_arrival_135 : decode cX12_arrival 135 = .ok (.aload_n 0, 1) := by decide +kernel
theorem dX12_arrival_136 : decode cX12_arrival 136 = .ok (.getfield 19, 3) := by decide +kernel
theorem dX12_arrival_139 : decode cX12_arrival 139 = .ok (.iload 6, 2) := by decide +kernel
theorem dX12_arrival_141 : decode cX12_arrival 141 = .ok (.aload_n 0, 1) := by decide +kernel
theorem dX12_arrival_142 : decode cX12_arrival 142 = .ok (.getfield 19, 3) := by decide +kernel
theorem dX12_arrival_145 : decode cX12_arrival 145 = .ok (.iload 6, 2) := by decide +kernel
theorem dX12_arrival_147 : decode cX12_arrival 147 = .ok (.iconst 1, 1) := by decide +kernel
theorem dX12_arrival_148 : decode cX12_arrival 148 = .ok (.isub, 1) := by decide +kernel
theorem dX12_arrival_149 : decode cX12_arrival 149 = .ok (.iaload, 1) := by decide +kernel
theorem dX12_arrival_150 : decode cX12_arrival 150 = .ok (.iastore, 1) := by decide +kernel
theorem dX12_arrival_151 : decode cX12_arrival 151 = .ok (.aload_n 0, 1) := by decide +kernel
theorem dX12_arrival_152 : decode cX12_arrival 152 = .ok (.getfield 22, 3) := by decide +kernel
theorem dX12_arrival_155 : decode cX12_arrival 155 = .ok (.iload 6, 2) := by decide +kernel
theorem dX12_arrival_157 : decode cX12_arrival 157 = .ok (.aload_n 0, 1) := by decide +kernel
theorem dX12_arrival_158 : decode cX12_arrival 158 = .ok (.getfield 22, 3) := by decide +kernel
theorem dX12_arrival_161 : decode cX12_arrival 161 = .ok (.iload 6, 2) := by decide +kernel
theorem dX12_arrival_163 : decode cX12_arrival 163 = .ok (.iconst 1, 1) := by decide +kernel
theorem dX12_arrival_164 : decode cX12_arrival 164 = .ok (.isub, 1) := by decide +kernel
theorem dX12_arrival_165 : decode cX12_arrival 165 = .ok (.iaload, 1) := by decide +kernel
theorem dX12_arrival_166 : decode cX12_arrival 166 = .ok (.iastore, 1) := by decide +kernel
theorem dX12_arrival_167 : decode cX12_arrival 167 = .ok (.iinc 6 (-1), 3) := by decide +kernel
theorem dX12_arrival_170 : decode cX12_arrival 170 = .ok (.goto (-89), 3) := by decide +kernel
theorem dX12_arrival_173 : decode cX12_arrival 173 = .ok (.aload_n 0, 1) := by decide +kernel
theorem dX12_arrival_174 : decode cX12_arrival 174 = .ok (.getfield 13, 3) := by decide +kernel
theorem dX12_arrival_177 : decode cX12_arrival 177 = .ok (.iload 6, 2) := by decide +kernel
theorem dX12_arrival_179 : decode cX12_arrival 179 = .ok (.iload_n 2, 1) := by decide +kernel
theorem dX12_arrival_180 : decode cX12_arrival 180 = .ok (.iastore, 1) := by decide +kernel
theorem dX12_arrival_181 : decode cX12_arrival 181 = .ok (.aload_n 0, 1) := by decide +kernel
theorem dX12_arrival_182 : decode cX12_arrival 182 = .ok (.getfield 16, 3) := by decide +kernel
theorem dX12_arrival_185 : decode cX12_arrival 185 = .ok (.iload 6, 2) := by decide +kernel
theorem dX12_arrival_187 : decode cX12_arrival 187 = .ok (.iload_n 3, 1) := by decide +kernel
theorem dX12_arrival_188 : decode cX12_arrival 188 = .ok (.iastore, 1) := by decide +kernel
theorem dX12_arrival_189 : decode cX12_arrival 189 = .ok (.aload_n 0, 1) := by decide +kernel
theorem dX12_arrival_190 : decode cX12_arrival 190 = .ok (.getfield 19, 3) := by decide +kernel
theorem dX12_arrival_193 : decode cX12_arrival 193 = .ok (.iload 6, 2) := by decide +kernel
theorem dX12_arrival_195 : decode cX12_arrival 195 = .ok (.iload 4, 2) := by decide +kernel
theorem dX12_arrival_197 : decode cX12_arrival 197 = .ok (.iastore, 1) := by decide +kernel
theorem dX12_arrival_198 : decode cX12_arrival 198 = .ok (.aload_n 0, 1) := by decide +kernel
theorem dX12_arrival_199 : decode cX12_arrival 199 = .ok (.getfield 22, 3) := by decide +kernel
theorem dX12_arrival_202 : decode cX12_arrival 202 = .ok (.iload 6, 2) := by decide +kernel
theorem dX12_arrival_204 : decode cX12_arrival 204 = .ok (.iload 5, 2) := by decide +kernel
theorem dX12_arrival_206 : decode cX12_arrival 206 = .ok (.iastore, 1) := by decide +kernel
theorem dX12_arrival_207 : decode cX12_arrival 207 = .ok (.aload_n 0, 1) := by decide +kernel
theorem dX12_arrival_208 : decode cX12_arrival 208 = .ok (.getfield 7, 3) := by decide +kernel
theorem dX12_arrival_211 : decode cX12_arrival 211 = .ok (.iload_n 1, 1) := by decide +kernel
theorem dX12_arrival_212 : decode cX12_arrival 212 = .ok (.dup2, 1) := by decide +kernel
theorem dX12_arrival_213 : decode cX12_arrival 213 = .ok (.iaload, 1) := by decide +kernel
theorem dX12_arrival_214 : decode cX12_arrival 214 = .ok (.iconst 1, 1) := by decide +kernel
theorem dX12_arrival_215 : decode cX12_arrival 215 = .ok (.iadd, 1) := by decide +kernel
theorem dX12_arrival_216 : decode cX12_arrival 216 = .ok (.iastore, 1) := by decide +kernel
theorem dX12_arrival_217 : decode cX12_arrival 217 = .ok (.aload_n 0, 1) := by decide +kernel
theorem dX12_arrival_218 : decode cX12_arrival 218 = .ok (.getfield 7, 3) := by decide +kernel
theorem dX12_arrival_221 : decode cX12_arrival 221 = .ok (.iload_n 1, 1) := by decide +kernel
theorem dX12_arrival_222 : decode cX12_arrival 222 = .ok (.iaload, 1) := by decide +kernel
theorem dX12_arrival_223 : decode cX12_arrival 223 = .ok (.ireturn, 1) := by decide +kernel
set_option maxRecDepth 20000 in
theorem ggX12_clear_X12_isStar : GoodIn wsX12_clear wsX12_isStar := goodIn_r _ [5, 6, 7, 8, 4, 9] (by decide +kernel) (by decide +kernel)
set_option maxRecDepth 20000 in
theorem gX12_clear_X12_isStar : GoodIn wsX12_clear (va_wsS RX12 142 yX12_isStar wsX12_isStar) := goodIn_app (goodIn_of _ (by decide +kernel)) ggX12_clear_X12_isStar
theorem dX12_clear_0 : decode cX12_clear 0 = .ok (.iload_n 1, 1) := by decide +kernel
theorem dX12_clear_1 : decode cX12_clear 1 = .ok (.invokestatic 142, 3) := by decide +kernel
theorem dX12_clear_4 : decode cX12_clear 4 = .ok (.ifCond .ne 5, 3) := by decide +kernel
theorem dX12_clear_7 : decode cX12_clear 7 = .ok (.iconst (-1), 1) := by decide +kernel
theorem dX12_clear_8 : decode cX12_clear 8 = .ok (.ireturn, 1) := by decide +kernel
theorem dX12_clear_9 : decode cX12_clear 9 = .ok (.aload_n 0, 1) := by decide +kernel
theorem dX12_clear_10 : decode cX12_clear 10 = .ok (.getfield 7, 3) := by decide +kernel
theorem dX12_clear_13 : decode cX12_clear 13 = .ok (.iload_n 1, 1) := by decide +kernel
theorem dX12_clear_14 : decode cX12_clear 14 = .ok (.iaload, 1) := by decide +kernel
theorem dX12_clear_15 : decode cX12_clear 15 = .ok (.istore_n 2, 1) := by decide +kernel
theorem dX12_clear_16 : decode cX12_clear 16 = .ok (.aload_n 0, 1) := by decide +kernel
theorem dX12_clear_17 : decode cX12_clear 17 = .ok (.getfield 7, 3) := by decide +kernel
theorem dX12_clear_20 : decode cX12_clear 20 = .ok (.iload_n 1, 1) := by decide +kernel
theorem dX12_clear_21 : decode cX12_clear 21 = .ok (.iconst 0, 1) := by decide +kernel
theorem dX12_clear_22 : decode cX12_clear 22 = .ok (.iastore, 1) := by decide +kernel
theorem dX12_clear_23 : decode cX12_clear 23 = .ok (.iload_n 2, 1) := by decide +kernel
theorem dX12_clear_24 : decode cX12_clear 24 = .ok (.ireturn, 1) := by decide +kernel
set_option maxRecDepth 20000 in
theorem ggX12_offset_X12_isTool : GoodIn wsX12_offset wsX12_isTool := goodIn_r _ [8, 9, 10, 11, 7, 12] (by decide +kernel) (by decide +kernel)
set_option maxRecDepth 20000 in
theorem gX12_offset_X12_isTool : GoodIn wsX12_offset (va_wsS RX12 150 yX12_isTool wsX12_isTool) := goodIn_app (goodIn_of _ (by decide +kernel)) ggX12_offset_X12_isTool
set_option maxRecDepth 20000 in
theorem ggX12_offset_X12_in : GoodIn wsX12_offset wsX12_in := goodIn_r _ [12] (by decide +kernel) (by decide +kernel)
set_option maxRecDepth 20000 in
theorem gX12_offset_X12_in : GoodIn wsX12_offset (va_wsS RX12 136 yX12_in wsX12_in) := goodIn_app (goodIn_of _ (by decide +kernel)) ggX12_offset_X12_in
theorem dX12_offset_0 : decode cX12_offset 0 = .ok (.iload_n 1, 1) := by decide +kernel
theorem dX12_offset_1 : decode cX12_offset 1 = .ok (.invokestatic 150, 3) := by decide +kernel
theorem dX12_offset_4 : decode cX12_offset 4 = .ok (.ifCond .eq 17, 3) := by decide +kernel
theorem dX12_offset_7 : decode cX12_offset 7 = .ok (.iload_n 2, 1) := by decide +kernel
theorem dX12_offset_8 : decode cX12_offset 8 = .ok (.i2l, 1) := by decide +kernel
theorem dX12_offset_9 : decode cX12_offset 9 = .ok (.ldc2_w 155, 3) := by decide +kernel
theorem dX12_offset_12 : decode cX12_offset 12 = .ok (.ldc2_w 148, 3) := by decide +kernel
theorem dX12_offset_15 : decode cX12_offset 15 = .ok (.invokestatic 136, 3) := by decide +kernel
theorem dX12_offset_18 : decode cX12_offset 18 = .ok (.ifCond .ne 6, 3) := by decide +kernel
theorem dX12_offset_21 : decode cX12_offset 21 = .ok (.ldc 157, 2) := by decide +kernel
theorem dX12_offset_23 : decode cX12_offset 23 = .ok (.ireturn, 1) := by decide +kernel
theorem dX12_offset_24 : decode cX12_offset 24 = .ok (.aload_n 0, 1) := by decide +kernel
theorem dX12_offset_25 : decode cX12_offset 25 = .ok (.getfield 25, 3) := by decide +kernel
theorem dX12_offset_28 : decode cX12_offset 28 = .ok (.iload_n 1, 1) := by decide +kernel
theorem dX12_offset_29 : decode cX12_offset 29 = .ok (.iaload, 1) := by decide +kernel
theorem dX12_offset_30 : decode cX12_offset 30 = .ok (.istore_n 3, 1) := by decide +kernel
theorem dX12_offset_31 : decode cX12_offset 31 = .ok (.aload_n 0, 1) := by decide +kernel
theorem dX12_offset_32 : decode cX12_offset 32 = .ok (.getfield 25, 3) := by decide +kernel
theorem dX12_offset_35 : decode cX12_offset 35 = .ok (.iload_n 1, 1) := by decide +kernel
theorem dX12_offset_36 : decode cX12_offset 36 = .ok (.iload_n 2, 1) := by decide +kernel
theorem dX12_offset_37 : decode cX12_offset 37 = .ok (.iastore, 1) := by decide +kernel
theorem dX12_offset_38 : decode cX12_offset 38 = .ok (.iload_n 3, 1) := by decide +kernel
theorem dX12_offset_39 : decode cX12_offset 39 = .ok (.ireturn, 1) := by decide +kernel
set_option maxRecDepth 20000 in
theorem ggX12_shift_X12_in : GoodIn wsX12_shift wsX12_in := goodIn_r _ [9] (by decide +kernel) (by decide +kernel)
set_option maxRecDepth 20000 in
theorem gX12_shift_X12_in : GoodIn wsX12_shift (va_wsS RX12 136 yX12_in wsX12_in) := goodIn_app (goodIn_of _ (by decide +kernel)) ggX12_shift_X12_in
theorem dX12_shift_0 : decode cX12_shift 0 = .ok (.iload_n 1, 1) := by decide +kernel
theorem dX12_shift_1 : decode cX12_shift 1 = .ok (.i2l, 1) := by decide +kernel
theorem dX12_shift_2 : decode cX12_shift 2 = .ok (.lconst 0, 1) := by decide +kernel
theorem dX12_shift_3 : decode cX12_shift 3 = .ok (.lconst 1, 1) := by decide +kernel
theorem dX12_shift_4 : decode cX12_shift 4 = .ok (.invokestatic 136, 3) := by decide +kernel
theorem dX12_shift_7 : decode cX12_shift 7 = .ok (.ifCond .eq 29, 3) := by decide +kernel
theorem dX12_shift_10 : decode cX12_shift 10 = .ok (.iload_n 2, 1) := by decide +kernel
theorem dX12_shift_11 : decode cX12_shift 11 = .ok (.i2l, 1) := by decide +kernel
theorem dX12_shift_12 : decode cX12_shift 12 = .ok (.lconst 0, 1) := by decide +kernel
theorem dX12_shift_13 : decode cX12_shift 13 = .ok (.ldc2_w 158, 3) := by decide +kernel
theorem dX12_shift_16 : decode cX12_shift 16 = .ok (.invokestatic 136, 3) := by decide +kernel
theorem dX12_shift_19 : decode cX12_shift 19 = .ok (.ifCond .eq 17, 3) := by decide +kernel
theorem dX12_shift_22 : decode cX12_shift 22 = .ok (.iload_n 3, 1) := by decide +kernel
theorem dX12_shift_23 : decode cX12_shift 23 = .ok (.i2l, 1) := by decide +kernel
theorem dX12_shift_24 : decode cX12_shift 24 = .ok (.ldc2_w 160, 3) := by decide +kernel
theorem dX12_shift_27 : decode cX12_shift 27 = .ok (.ldc2_w 162, 3) := by decide +kernel
theorem dX12_shift_30 : decode cX12_shift 30 = .ok (.invokestatic 136, 3) := by decide +kernel
