theorem dX12_leftAt_124 : decode cX12_leftAt 124 = .ok (.lload 9, 2) := by decide +kernel
theorem dX12_leftAt_126 : decode cX12_leftAt 126 = .ok (.lload 5, 2) := by decide +kernel
theorem dX12_leftAt_128 : decode cX12_leftAt 128 = .ok (.aload_n 0, 1) := by decide +kernel
theorem dX12_leftAt_129 : decode cX12_leftAt 129 = .ok (.getfield 95, 3) := by decide +kernel
theorem dX12_leftAt_132 : decode cX12_leftAt 132 = .ok (.iload 8, 2) := by decide +kernel
theorem dX12_leftAt_134 : decode cX12_leftAt 134 = .ok (.laload, 1) := by decide +kernel
theorem dX12_leftAt_135 : decode cX12_leftAt 135 = .ok (.lmul, 1) := by decide +kernel
theorem dX12_leftAt_136 : decode cX12_leftAt 136 = .ok (.aload_n 0, 1) := by decide +kernel
theorem dX12_leftAt_137 : decode cX12_leftAt 137 = .ok (.getfield 92, 3) := by decide +kernel
theorem dX12_leftAt_140 : decode cX12_leftAt 140 = .ok (.iload 8, 2) := by decide +kernel
theorem dX12_leftAt_142 : decode cX12_leftAt 142 = .ok (.laload, 1) := by decide +kernel
theorem dX12_leftAt_143 : decode cX12_leftAt 143 = .ok (.invokestatic 276, 3) := by decide +kernel
theorem dX12_leftAt_146 : decode cX12_leftAt 146 = .ok (.lcmp, 1) := by decide +kernel
theorem dX12_leftAt_147 : decode cX12_leftAt 147 = .ok (.ifCond .gt 7, 3) := by decide +kernel
theorem dX12_leftAt_150 : decode cX12_leftAt 150 = .ok (.iconst 1, 1) := by decide +kernel
theorem dX12_leftAt_151 : decode cX12_leftAt 151 = .ok (.goto 4, 3) := by decide +kernel
theorem dX12_leftAt_154 : decode cX12_leftAt 154 = .ok (.iconst 0, 1) := by decide +kernel
theorem dX12_leftAt_155 : decode cX12_leftAt 155 = .ok (.iadd, 1) := by decide +kernel
theorem dX12_leftAt_156 : decode cX12_leftAt 156 = .ok (.istore 7, 2) := by decide +kernel
theorem dX12_leftAt_158 : decode cX12_leftAt 158 = .ok (.iinc 8 1, 3) := by decide +kernel
theorem dX12_leftAt_161 : decode cX12_leftAt 161 = .ok (.goto (-108), 3) := by decide +kernel
theorem dX12_leftAt_164 : decode cX12_leftAt 164 = .ok (.iload 7, 2) := by decide +kernel
theorem dX12_leftAt_166 : decode cX12_leftAt 166 = .ok (.ireturn, 1) := by decide +kernel
set_option maxRecDepth 20000 in
theorem ggX12_left_X12_in : GoodIn wsX12_left wsX12_in := goodIn_r _ [9] (by decide +kernel) (by decide +kernel)
set_option maxRecDepth 20000 in
theorem gX12_left_X12_in : GoodIn wsX12_left (va_wsS RX12 136 yX12_in wsX12_in) := goodIn_app (goodIn_of _ (by decide +kernel)) ggX12_left_X12_in
set_option maxRecDepth 20000 in
theorem ggX12_left_X12_leftAt : GoodIn wsX12_left wsX12_leftAt := goodIn_r _ [13, 2, 4, 14, 15, 16, 17, 18, 5, 19, 20, 21, 22, 8, 23, 24, 25, 26, 27, 28, 29, 30, 31, 32, 33, 34, 35, 36, 37, 38, 39, 40, 41, 42, 43, 44, 45, 46, 47, 48, 49, 50, 51, 52, 53, 54, 55, 56, 57, 58, 59, 60, 61, 62, 63, 64, 65, 66, 67, 68, 69, 70, 71, 72, 73, 74, 75, 76, 77, 78, 79, 80, 81, 82, 83] (by decide +kernel) (by decide +kernel)
set_option maxRecDepth 20000 in
theorem gX12_left_X12_leftAt : GoodIn wsX12_left (wsV RX12 311 RX12 yX12_leftAt wsX12_leftAt) := goodIn_app (goodIn_of _ (by decide +kernel)) ggX12_left_X12_leftAt
theorem dX12_left_0 : decode cX12_left 0 = .ok (.iload_n 1, 1) := by decide +kernel
theorem dX12_left_1 : decode cX12_left 1 = .ok (.i2l, 1) := by decide +kernel
theorem dX12_left_2 : decode cX12_left 2 = .ok (.lconst 0, 1) := by decide +kernel
theorem dX12_left_3 : decode cX12_left 3 = .ok (.ldc2_w 153, 3) := by decide +kernel
theorem dX12_left_6 : decode cX12_left 6 = .ok (.invokestatic 136, 3) := by decide +kernel
theorem dX12_left_9 : decode cX12_left 9 = .ok (.ifCond .eq 15, 3) := by decide +kernel
theorem dX12_left_12 : decode cX12_left 12 = .ok (.iload_n 2, 1) := by decide +kernel
theorem dX12_left_13 : decode cX12_left 13 = .ok (.i2l, 1) := by decide +kernel
theorem dX12_left_14 : decode cX12_left 14 = .ok (.lconst 0, 1) := by decide +kernel
theorem dX12_left_15 : decode cX12_left 15 = .ok (.ldc2_w 148, 3) := by decide +kernel
theorem dX12_left_18 : decode cX12_left 18 = .ok (.invokestatic 136, 3) := by decide +kernel
theorem dX12_left_21 : decode cX12_left 21 = .ok (.ifCond .ne 5, 3) := by decide +kernel
theorem dX12_left_24 : decode cX12_left 24 = .ok (.iconst (-1), 1) := by decide +kernel
theorem dX12_left_25 : decode cX12_left 25 = .ok (.ireturn, 1) := by decide +kernel
theorem dX12_left_26 : decode cX12_left 26 = .ok (.aload_n 0, 1) := by decide +kernel
theorem dX12_left_27 : decode cX12_left 27 = .ok (.getfield 301, 3) := by decide +kernel
theorem dX12_left_30 : decode cX12_left 30 = .ok (.iconst 1, 1) := by decide +kernel
theorem dX12_left_31 : decode cX12_left 31 = .ok (.if_icmp .ne 18, 3) := by decide +kernel
theorem dX12_left_34 : decode cX12_left 34 = .ok (.iload_n 1, 1) := by decide +kernel
theorem dX12_left_35 : decode cX12_left 35 = .ok (.aload_n 0, 1) := by decide +kernel
theorem dX12_left_36 : decode cX12_left 36 = .ok (.getfield 83, 3) := by decide +kernel
theorem dX12_left_39 : decode cX12_left 39 = .ok (.aload_n 0, 1) := by decide +kernel
theorem dX12_left_40 : decode cX12_left 40 = .ok (.getfield 279, 3) := by decide +kernel
theorem dX12_left_43 : decode cX12_left 43 = .ok (.iconst 1, 1) := by decide +kernel
theorem dX12_left_44 : decode cX12_left 44 = .ok (.isub, 1) := by decide +kernel
theorem dX12_left_45 : decode cX12_left 45 = .ok (.iaload, 1) := by decide +kernel
theorem dX12_left_46 : decode cX12_left 46 = .ok (.if_icmp .ge 8, 3) := by decide +kernel
theorem dX12_left_49 : decode cX12_left 49 = .ok (.bipush (-2), 2) := by decide +kernel
theorem dX12_left_51 : decode cX12_left 51 = .ok (.goto 9, 3) := by decide +kernel
theorem dX12_left_54 : decode cX12_left 54 = .ok (.aload_n 0, 1) := by decide +kernel
theorem dX12_left_55 : decode cX12_left 55 = .ok (.iload_n 1, 1) := by decide +kernel
theorem dX12_left_56 : decode cX12_left 56 = .ok (.iload_n 2, 1) := by decide +kernel
theorem dX12_left_57 : decode cX12_left 57 = .ok (.invokevirtual 311, 3) := by decide +kernel
theorem dX12_left_60 : decode cX12_left 60 = .ok (.ireturn, 1) := by decide +kernel
set_option maxRecDepth 20000 in
theorem ggX12_look_X12_in : GoodIn wsX12_look wsX12_in := goodIn_r _ [12] (by decide +kernel) (by decide +kernel)
set_option maxRecDepth 20000 in
theorem gX12_look_X12_in : GoodIn wsX12_look (va_wsS RX12 136 yX12_in wsX12_in) := goodIn_app (goodIn_of _ (by decide +kernel)) ggX12_look_X12_in
set_option maxRecDepth 20000 in
theorem ggX12_look_X12_leftAt : GoodIn wsX12_look wsX12_leftAt := goodIn_r _ [16, 4, 7, 17, 18, 19, 20, 21, 8, 22, 23, 24, 25, 11, 26, 27, 28, 29, 30, 31, 32, 33, 34, 35, 36, 37, 38, 39, 40, 41, 42, 43, 44, 45, 46, 47, 48, 49, 50, 51, 52, 53, 54, 55, 56, 57, 58, 59, 60, 61, 62, 63, 64, 65, 66, 67, 68, 69, 70, 71, 72, 73, 74, 75, 76, 77, 78, 79, 80, 81, 82, 83, 84, 85, 86] (by decide +kernel) (by decide +kernel)
set_option maxRecDepth 20000 in
theorem gX12_look_X12_leftAt : GoodIn wsX12_look (wsV RX12 311 RX12 yX12_leftAt wsX12_leftAt) := goodIn_app (goodIn_of _ (by decide +kernel)) ggX12_look_X12_leftAt
theorem dX12_look_0 : decode cX12_look 0 = .ok (.iload_n 1, 1) := by decide +kernel
theorem dX12_look_1 : decode cX12_look 1 = .ok (.i2l, 1) := by decide +kernel
theorem dX12_look_2 : decode cX12_look 2 = .ok (.lconst 0, 1) := by decide +kernel
theorem dX12_look_3 : decode cX12_look 3 = .ok (.ldc2_w 153, 3) := by decide +kernel
theorem dX12_look_6 : decode cX12_look 6 = .ok (.invokestatic 136, 3) := by decide +kernel
theorem dX12_look_9 : decode cX12_look 9 = .ok (.ifCond .eq 52, 3) := by decide +kernel
theorem dX12_look_12 : decode cX12_look 12 = .ok (.iload_n 2, 1) := by decide +kernel
theorem dX12_look_13 : decode cX12_look 13 = .ok (.i2l, 1) := by decide +kernel
theorem dX12_look_14 : decode cX12_look 14 = .ok (.lconst 1, 1) := by decide +kernel
theorem dX12_look_15 : decode cX12_look 15 = .ok (.ldc2_w 294, 3) := by decide +kernel
theorem dX12_look_18 : decode cX12_look 18 = .ok (.invokestatic 136, 3) := by decide +kernel
theorem dX12_look_21 : decode cX12_look 21 = .ok (.ifCond .eq 40, 3) := by decide +kernel
theorem dX12_look_24 : decode cX12_look 24 = .ok (.iload_n 3, 1) := by decide +kernel
theorem dX12_look_25 : decode cX12_look 25 = .ok (.i2l, 1) := by decide +kernel
theorem dX12_look_26 : decode cX12_look 26 = .ok (.lconst 1, 1) := by decide +kernel
theorem dX12_look_27 : decode cX12_look 27 = .ok (.ldc2_w 314, 3) := by decide +kernel
theorem dX12_look_30 : decode cX12_look 30 = .ok (.invokestatic 136, 3) := by decide +kernel
theorem dX12_look_33 : decode cX12_look 33 = .ok (.ifCond .eq 28, 3) := by decide +kernel
theorem dX12_look_36 : decode cX12_look 36 = .ok (.iload 4, 2) := by decide +kernel
theorem dX12_look_38 : decode cX12_look 38 = .ok (.i2l, 1) := by decide +kernel
theorem dX12_look_39 : decode cX12_look 39 = .ok (.lconst 0, 1) := by decide +kernel
theorem dX12_look_40 : decode cX12_look 40 = .ok (.ldc2_w 148, 3) := by decide +kernel
theorem dX12_look_43 : decode cX12_look 43 = .ok (.invokestatic 136, 3) := by decide +kernel
theorem dX12_look_46 : decode cX12_look 46 = .ok (.ifCond .eq 15, 3) := by decide +kernel
theorem dX12_look_49 : decode cX12_look 49 = .ok (.iload_n 1, 1) := by decide +kernel
theorem dX12_look_50 : decode cX12_look 50 = .ok (.iload_n 2, 1) := by decide +kernel
theorem dX12_look_51 : decode cX12_look 51 = .ok (.iload_n 3, 1) := by decide +kernel
theorem dX12_look_52 : decode cX12_look 52 = .ok (.iconst 1, 1) := by decide +kernel
theorem dX12_look_53 : decode cX12_look 53 = .ok (.isub, 1) := by decide +kernel
theorem dX12_look_54 : decode cX12_look 54 = .ok (.imul, 1) := by decide +kernel
theorem dX12_look_55 : decode cX12_look 55 = .ok (.iadd, 1) := by decide +kernel
theorem dX12_look_56 : decode cX12_look 56 = .ok (.ldc 31, 2) := by decide +kernel
theorem dX12_look_58 : decode cX12_look 58 = .ok (.if_icmp .le 5, 3) := by decide +kernel
theorem dX12_look_61 : decode cX12_look 61 = .ok (.iconst (-1), 1) := by decide +kernel
theorem dX12_look_62 : decode cX12_look 62 = .ok (.ireturn, 1) := by decide +kernel
theorem dX12_look_63 : decode cX12_look 63 = .ok (.aload_n 0, 1) := by decide +kernel
theorem dX12_look_64 : decode cX12_look 64 = .ok (.getfield 301, 3) := by decide +kernel
theorem dX12_look_67 : decode cX12_look 67 = .ok (.iconst 1, 1) := by decide +kernel
theorem dX12_look_68 : decode cX12_look 68 = .ok (.if_icmp .ne 18, 3) := by decide +kernel
theorem dX12_look_71 : decode cX12_look 71 = .ok (.iload_n 1, 1) := by decide +kernel
theorem dX12_look_72 : decode cX12_look 72 = .ok (.aload_n 0, 1) := by decide +kernel
theorem dX12_look_73 : decode cX12_look 73 = .ok (.getfield 83, 3) := by decide +kernel
theorem dX12_look_76 : decode cX12_look 76 = .ok (.aload_n 0, 1) := by decide +kernel
theorem dX12_look_77 : decode cX12_look 77 = .ok (.getfield 279, 3) := by decide +kernel
theorem dX12_look_80 : decode cX12_look 80 = .ok (.iconst 1, 1) := by decide +kernel
theorem dX12_look_81 : decode cX12_look 81 = .ok (.isub, 1) := by decide +kernel
theorem dX12_look_82 : decode cX12_look 82 = .ok (.iaload, 1) := by decide +kernel
theorem dX12_look_83 : decode cX12_look 83 = .ok (.if_icmp .ge 6, 3) := by decide +kernel
theorem dX12_look_86 : decode cX12_look 86 = .ok (.bipush (-2), 2) := by decide +kernel
theorem dX12_look_88 : decode cX12_look 88 = .ok (.ireturn, 1) := by decide +kernel
theorem dX12_look_89 : decode cX12_look 89 = .ok (.bipush (-4), 2) := by decide +kernel
theorem dX12_look_91 : decode cX12_look 91 = .ok (.istore 5, 2) := by decide +kernel
theorem dX12_look_93 : decode cX12_look 93 = .ok (.iconst 0, 1) := by decide +kernel
theorem dX12_look_94 : decode cX12_look 94 = .ok (.istore 6, 2) := by decide +kernel
theorem dX12_look_96 : decode cX12_look 96 = .ok (.iconst 0, 1) := by decide +kernel
theorem dX12_look_97 : decode cX12_look 97 = .ok (.istore 7, 2) := by decide +kernel
theorem dX12_look_99 : decode cX12_look 99 = .ok (.iload 7, 2) := by decide +kernel
theorem dX12_look_101 : decode cX12_look 101 = .ok (.iload_n 3, 1) := by decide +kernel
theorem dX12_look_102 : decode cX12_look 102 = .ok (.if_icmp .ge 54, 3) := by decide +kernel
theorem dX12_look_105 : decode cX12_look 105 = .ok (.aload_n 0, 1) := by decide +kernel
theorem dX12_look_106 : decode cX12_look 106 = .ok (.iload_n 1, 1) := by decide +kernel
theorem dX12_look_107 : decode cX12_look 107 = .ok (.iload_n 2, 1) := by decide +kernel
theorem dX12_look_108 : decode cX12_look 108 = .ok (.iload 7, 2) := by decide +kernel
theorem dX12_look_110 : decode cX12_look 110 = .ok (.imul, 1) := by decide +kernel
theorem dX12_look_111 : decode cX12_look 111 = .ok (.iadd, 1) := by decide +kernel
theorem dX12_look_112 : decode cX12_look 112 = .ok (.iload 4, 2) := by decide +kernel
theorem dX12_look_114 : decode cX12_look 114 = .ok (.invokevirtual 311, 3) := by decide +kernel
theorem dX12_look_117 : decode cX12_look 117 = .ok (.istore 8, 2) := by decide +kernel
theorem dX12_look_119 : decode cX12_look 119 = .ok (.iload 8, 2) := by decide +kernel
theorem dX12_look_121 : decode cX12_look 121 = .ok (.ifCond .le 29, 3) := by decide +kernel
theorem dX12_look_124 : decode cX12_look 124 = .ok (.iload 5, 2) := by decide +kernel
theorem dX12_look_126 : decode cX12_look 126 = .ok (.bipush (-4), 2) := by decide +kernel
theorem dX12_look_128 : decode cX12_look 128 = .ok (.if_icmp .eq 10, 3) := by decide +kernel
theorem dX12_look_131 : decode cX12_look 131 = .ok (.iload 8, 2) := by decide +kernel
theorem dX12_look_133 : decode cX12_look 133 = .ok (.iload 6, 2) := by decide +kernel
theorem dX12_look_135 : decode cX12_look 135 = .ok (.if_icmp .ge 15, 3) := by decide +kernel
theorem dX12_look_138 : decode cX12_look 138 = .ok (.iload_n 1, 1) := by decide +kernel
theorem dX12_look_139 : decode cX12_look 139 = .ok (.iload_n 2, 1) := by decide +kernel
theorem dX12_look_140 : decode cX12_look 140 = .ok (.iload 7, 2) := by decide +kernel
theorem dX12_look_142 : decode cX12_look 142 = .ok (.imul, 1) := by decide +kernel
theorem dX12_look_143 : decode cX12_look 143 = .ok (.iadd, 1) := by decide +kernel
theorem dX12_look_144 : decode cX12_look 144 = .ok (.istore 5, 2) := by decide +kernel
theorem dX12_look_146 : decode cX12_look 146 = .ok (.iload 8, 2) := by decide +kernel
theorem dX12_look_148 : decode cX12_look 148 = .ok (.istore 6, 2) := by decide +kernel
theorem dX12_look_150 : decode cX12_look 150 = .ok (.iinc 7 1, 3) := by decide +kernel
theorem dX12_look_153 : decode cX12_look 153 = .ok (.goto (-54), 3) := by decide +kernel
theorem dX12_look_156 : decode cX12_look 156 = .ok (.iload 5, 2) := by decide +kernel
theorem dX12_look_158 : decode cX12_look 158 = .ok (.ireturn, 1) := by decide +kernel
theorem dX12_isAbove_0 : decode cX12_isAbove 0 = .ok (.lload_n 0, 1) := by decide +kernel
theorem dX12_isAbove_1 : decode cX12_isAbove 1 = .ok (.lload_n 2, 1) := by decide +kernel
theorem dX12_isAbove_2 : decode cX12_isAbove 2 = .ok (.ldiv, 1) := by decide +kernel
theorem dX12_isAbove_3 : decode cX12_isAbove 3 = .ok (.lload 4, 2) := by decide +kernel
theorem dX12_isAbove_5 : decode cX12_isAbove 5 = .ok (.lload 6, 2) := by decide +kernel
theorem dX12_isAbove_7 : decode cX12_isAbove 7 = .ok (.ldiv, 1) := by decide +kernel
theorem dX12_isAbove_8 : decode cX12_isAbove 8 = .ok (.lcmp, 1) := by decide +kernel
theorem dX12_isAbove_9 : decode cX12_isAbove 9 = .ok (.ifCond .eq 23, 3) := by decide +kernel
theorem dX12_isAbove_12 : decode cX12_isAbove 12 = .ok (.lload_n 0, 1) := by decide +kernel
theorem dX12_isAbove_13 : decode cX12_isAbove 13 = .ok (.lload_n 2, 1) := by decide +kernel
theorem dX12_isAbove_14 : decode cX12_isAbove 14 = .ok (.ldiv, 1) := by decide +kernel
theorem dX12_isAbove_15 : decode cX12_isAbove 15 = .ok (.lload 4, 2) := by decide +kernel
theorem dX12_isAbove_17 : decode cX12_isAbove 17 = .ok (.lload 6, 2) := by decide +kernel
theorem dX12_isAbove_19 : decode cX12_isAbove 19 = .ok (.ldiv, 1) := by decide +kernel
theorem dX12_isAbove_20 : decode cX12_isAbove 20 = .ok (.lcmp, 1) := by decide +kernel
theorem dX12_isAbove_21 : decode cX12_isAbove 21 = .ok (.ifCond .le 7, 3) := by decide +kernel
theorem dX12_isAbove_24 : decode cX12_isAbove 24 = .ok (.iconst 1, 1) := by decide +kernel
theorem dX12_isAbove_25 : decode cX12_isAbove 25 = .ok (.goto 29, 3) := by decide +kernel
theorem dX12_isAbove_28 : decode cX12_isAbove 28 = .ok (.iconst 0, 1) := by decide +kernel
theorem dX12_isAbove_29 : decode cX12_isAbove 29 = .ok (.goto 25, 3) := by decide +kernel
theorem dX12_isAbove_32 : decode cX12_isAbove 32 = .ok (.lload_n 0, 1) := by decide +kernel
theorem dX12_isAbove_33 : decode cX12_isAbove 33 = .ok (.lload_n 2, 1) := by decide +kernel
theorem dX12_isAbove_34 : decode cX12_isAbove 34 = .ok (.lrem, 1) := by decide +kernel
theorem dX12_isAbove_35 : decode cX12_isAbove 35 = .ok (.lload 6, 2) := by decide +kernel
theorem dX12_isAbove_37 : decode cX12_isAbove 37 = .ok (.lmul, 1) := by decide +kernel
theorem dX12_isAbove_38 : decode cX12_isAbove 38 = .ok (.lload 4, 2) := by decide +kernel
theorem dX12_isAbove_40 : decode cX12_isAbove 40 = .ok (.lload 6, 2) := by decide +kernel
theorem dX12_isAbove_42 : decode cX12_isAbove 42 = .ok (.lrem, 1) := by decide +kernel
theorem dX12_isAbove_43 : decode cX12_isAbove 43 = .ok (.lload_n 2, 1) := by decide +kernel
theorem dX12_isAbove_44 : decode cX12_isAbove 44 = .ok (.lmul, 1) := by decide +kernel
theorem dX12_isAbove_45 : decode cX12_isAbove 45 = .ok (.lcmp, 1) := by decide +kernel
theorem dX12_isAbove_46 : decode cX12_isAbove 46 = .ok (.ifCond .le 7, 3) := by decide +kernel
theorem dX12_isAbove_49 : decode cX12_isAbove 49 = .ok (.iconst 1, 1) := by decide +kernel
theorem dX12_isAbove_50 : decode cX12_isAbove 50 = .ok (.goto 4, 3) := by decide +kernel
theorem dX12_isAbove_53 : decode cX12_isAbove 53 = .ok (.iconst 0, 1) := by decide +kernel
theorem dX12_isAbove_54 : decode cX12_isAbove 54 = .ok (.ireturn, 1) := by decide +kernel
set_option maxRecDepth 20000 in
theorem ggX12_layGreat_X12_isAbove : GoodIn wsX12_layGreat wsX12_isAbove := goodIn_r _ [8] (by decide +kernel) (by decide +kernel)
set_option maxRecDepth 20000 in
theorem gX12_layGreat_X12_isAbove : GoodIn wsX12_layGreat (va_wsS RX12 326 yX12_isAbove wsX12_isAbove) := goodIn_app (goodIn_of _ (by decide +kernel)) ggX12_layGreat_X12_isAbove
theorem dX12_layGreat_0 : decode cX12_layGreat 0 = .ok (.lconst 0, 1) := by decide +kernel
theorem dX12_layGreat_1 : decode cX12_layGreat 1 = .ok (.lstore_n 2, 1) := by decide +kernel
theorem dX12_layGreat_2 : decode cX12_layGreat 2 = .ok (.iconst 0, 1) := by decide +kernel
theorem dX12_layGreat_3 : decode cX12_layGreat 3 = .ok (.istore 4, 2) := by decide +kernel
theorem dX12_layGreat_5 : decode cX12_layGreat 5 = .ok (.iload 4, 2) := by decide +kernel
theorem dX12_layGreat_7 : decode cX12_layGreat 7 = .ok (.iload_n 1, 1) := by decide +kernel
theorem dX12_layGreat_8 : decode cX12_layGreat 8 = .ok (.if_icmp .ge 19, 3) := by decide +kernel
theorem dX12_layGreat_11 : decode cX12_layGreat 11 = .ok (.lload_n 2, 1) := by decide +kernel
theorem dX12_layGreat_12 : decode cX12_layGreat 12 = .ok (.aload_n 0, 1) := by decide +kernel
theorem dX12_layGreat_13 : decode cX12_layGreat 13 = .ok (.getfield 122, 3) := by decide +kernel
theorem dX12_layGreat_16 : decode cX12_layGreat 16 = .ok (.iload 4, 2) := by decide +kernel
theorem dX12_layGreat_18 : decode cX12_layGreat 18 = .ok (.laload, 1) := by decide +kernel
theorem dX12_layGreat_19 : decode cX12_layGreat 19 = .ok (.ladd, 1) := by decide +kernel
theorem dX12_layGreat_20 : decode cX12_layGreat 20 = .ok (.lstore_n 2, 1) := by decide +kernel
theorem dX12_layGreat_21 : decode cX12_layGreat 21 = .ok (.iinc 4 1, 3) := by decide +kernel
theorem dX12_layGreat_24 : decode cX12_layGreat 24 = .ok (.goto (-19), 3) := by decide +kernel
theorem dX12_layGreat_27 : decode cX12_layGreat 27 = .ok (.aload_n 0, 1) := by decide +kernel
theorem dX12_layGreat_28 : decode cX12_layGreat 28 = .ok (.bipush (-4), 2) := by decide +kernel
theorem dX12_layGreat_30 : decode cX12_layGreat 30 = .ok (.putfield 316, 3) := by decide +kernel
theorem dX12_layGreat_33 : decode cX12_layGreat 33 = .ok (.aload_n 0, 1) := by decide +kernel
theorem dX12_layGreat_34 : decode cX12_layGreat 34 = .ok (.getfield 122, 3) := by decide +kernel
theorem dX12_layGreat_37 : decode cX12_layGreat 37 = .ok (.iconst 0, 1) := by decide +kernel
theorem dX12_layGreat_38 : decode cX12_layGreat 38 = .ok (.laload, 1) := by decide +kernel
theorem dX12_layGreat_39 : decode cX12_layGreat 39 = .ok (.lstore 4, 2) := by decide +kernel
theorem dX12_layGreat_41 : decode cX12_layGreat 41 = .ok (.iconst 2, 1) := by decide +kernel
theorem dX12_layGreat_42 : decode cX12_layGreat 42 = .ok (.istore 6, 2) := by decide +kernel
theorem dX12_layGreat_44 : decode cX12_layGreat 44 = .ok (.iload 6, 2) := by decide +kernel
theorem dX12_layGreat_46 : decode cX12_layGreat 46 = .ok (.iload_n 1, 1) := by decide +kernel
theorem dX12_layGreat_47 : decode cX12_layGreat 47 = .ok (.iconst 2, 1) := by decide +kernel
theorem dX12_layGreat_48 : decode cX12_layGreat 48 = .ok (.isub, 1) := by decide +kernel
theorem dX12_layGreat_49 : decode cX12_layGreat 49 = .ok (.if_icmp .gt 101, 3) := by decide +kernel
theorem dX12_layGreat_52 : decode cX12_layGreat 52 = .ok (.lload 4, 2) := by decide +kernel
theorem dX12_layGreat_54 : decode cX12_layGreat 54 = .ok (.aload_n 0, 1) := by decide +kernel
theorem dX12_layGreat_55 : decode cX12_layGreat 55 = .ok (.getfield 122, 3) := by decide +kernel
theorem dX12_layGreat_58 : decode cX12_layGreat 58 = .ok (.iload 6, 2) := by decide +kernel
theorem dX12_layGreat_60 : decode cX12_layGreat 60 = .ok (.iconst 1, 1) := by decide +kernel
theorem dX12_layGreat_61 : decode cX12_layGreat 61 = .ok (.isub, 1) := by decide +kernel
theorem dX12_layGreat_62 : decode cX12_layGreat 62 = .ok (.laload, 1) := by decide +kernel
theorem dX12_layGreat_63 : decode cX12_layGreat 63 = .ok (.ladd, 1) := by decide +kernel
theorem dX12_layGreat_64 : decode cX12_layGreat 64 = .ok (.lstore 4, 2) := by decide +kernel
theorem dX12_layGreat_66 : decode cX12_layGreat 66 = .ok (.iload_n 1, 1) := by decide +kernel
theorem dX12_layGreat_67 : decode cX12_layGreat 67 = .ok (.i2l, 1) := by decide +kernel
theorem dX12_layGreat_68 : decode cX12_layGreat 68 = .ok (.lload 4, 2) := by decide +kernel
theorem dX12_layGreat_70 : decode cX12_layGreat 70 = .ok (.lmul, 1) := by decide +kernel
theorem dX12_layGreat_71 : decode cX12_layGreat 71 = .ok (.iload 6, 2) := by decide +kernel
theorem dX12_layGreat_73 : decode cX12_layGreat 73 = .ok (.i2l, 1) := by decide +kernel
theorem dX12_layGreat_74 : decode cX12_layGreat 74 = .ok (.lload_n 2, 1) := by decide +kernel
theorem dX12_layGreat_75 : decode cX12_layGreat 75 = .ok (.lmul, 1) := by decide +kernel
theorem dX12_layGreat_76 : decode cX12_layGreat 76 = .ok (.lsub, 1) := by decide +kernel
theorem dX12_layGreat_77 : decode cX12_layGreat 77 = .ok (.lstore 7, 2) := by decide +kernel
theorem dX12_layGreat_79 : decode cX12_layGreat 79 = .ok (.aload_n 0, 1) := by decide +kernel
theorem dX12_layGreat_80 : decode cX12_layGreat 80 = .ok (.getfield 316, 3) := by decide +kernel
theorem dX12_layGreat_83 : decode cX12_layGreat 83 = .ok (.bipush (-4), 2) := by decide +kernel
theorem dX12_layGreat_85 : decode cX12_layGreat 85 = .ok (.if_icmp .eq 31, 3) := by decide +kernel
theorem dX12_layGreat_88 : decode cX12_layGreat 88 = .ok (.lload 7, 2) := by decide +kernel
theorem dX12_layGreat_90 : decode cX12_layGreat 90 = .ok (.lload 7, 2) := by decide +kernel
theorem dX12_layGreat_92 : decode cX12_layGreat 92 = .ok (.lmul, 1) := by decide +kernel
theorem dX12_layGreat_93 : decode cX12_layGreat 93 = .ok (.iload 6, 2) := by decide +kernel
theorem dX12_layGreat_95 : decode cX12_layGreat 95 = .ok (.i2l, 1) := by decide +kernel
theorem dX12_layGreat_96 : decode cX12_layGreat 96 = .ok (.iload_n 1, 1) := by decide +kernel
theorem dX12_layGreat_97 : decode cX12_layGreat 97 = .ok (.iload 6, 2) := by decide +kernel
theorem dX12_layGreat_99 : decode cX12_layGreat 99 = .ok (.isub, 1) := by decide +kernel
theorem dX12_layGreat_100 : decode cX12_layGreat 100 = .ok (.i2l, 1) := by decide +kernel
theorem dX12_layGreat_101 : decode cX12_layGreat 101 = .ok (.lmul, 1) := by decide +kernel
theorem dX12_layGreat_102 : decode cX12_layGreat 102 = .ok (.aload_n 0, 1) := by decide +kernel
theorem dX12_layGreat_103 : decode cX12_layGreat 103 = .ok (.getfield 319, 3) := by decide +kernel
theorem dX12_layGreat_106 : decode cX12_layGreat 106 = .ok (.aload_n 0, 1) := by decide +kernel
theorem dX12_layGreat_107 : decode cX12_layGreat 107 = .ok (.getfield 323, 3) := by decide +kernel
theorem dX12_layGreat_110 : decode cX12_layGreat 110 = .ok (.invokestatic 326, 3) := by decide +kernel
theorem dX12_layGreat_113 : decode cX12_layGreat 113 = .ok (.ifCond .eq 31, 3) := by decide +kernel
theorem dX12_layGreat_116 : decode cX12_layGreat 116 = .ok (.aload_n 0, 1) := by decide +kernel
theorem dX12_layGreat_117 : decode cX12_layGreat 117 = .ok (.iload 6, 2) := by decide +kernel
theorem dX12_layGreat_119 : decode cX12_layGreat 119 = .ok (.putfield 316, 3) := by decide +kernel
theorem dX12_layGreat_122 : decode cX12_layGreat 122 = .ok (.aload_n 0, 1) := by decide +kernel
theorem dX12_layGreat_123 : decode cX12_layGreat 123 = .ok (.lload 7, 2) := by decide +kernel
theorem dX12_layGreat_125 : decode cX12_layGreat 125 = .ok (.lload 7, 2) := by decide +kernel
theorem dX12_layGreat_127 : decode cX12_layGreat 127 = .ok (.lmul, 1) := by decide +kernel
theorem dX12_layGreat_128 : decode cX12_layGreat 128 = .ok (.putfield 319, 3) := by decide +kernel
theorem dX12_layGreat_131 : decode cX12_layGreat 131 = .ok (.aload_n 0, 1) := by decide +kernel
theorem dX12_layGreat_132 : decode cX12_layGreat 132 = .ok (.iload 6, 2) := by decide +kernel
theorem dX12_layGreat_134 : decode cX12_layGreat 134 = .ok (.i2l, 1) := by decide +kernel
theorem dX12_layGreat_135 : decode cX12_layGreat 135 = .ok (.iload_n 1, 1) := by decide +kernel
theorem dX12_layGreat_136 : decode cX12_layGreat 136 = .ok (.iload 6, 2) := by decide +kernel
theorem dX12_layGreat_138 : decode cX12_layGreat 138 = .ok (.isub, 1) := by decide +kernel
theorem dX12_layGreat_139 : decode cX12_layGreat 139 = .ok (.i2l, 1) := by decide +kernel
theorem dX12_layGreat_140 : decode cX12_layGreat 140 = .ok (.lmul, 1) := by decide +kernel
theorem dX12_layGreat_141 : decode cX12_layGreat 141 = .ok (.putfield 323, 3) := by decide +kernel
theorem dX12_layGreat_144 : decode cX12_layGreat 144 = .ok (.iinc 6 1, 3) := by decide +kernel
theorem dX12_layGreat_147 : decode cX12_layGreat 147 = .ok (.goto (-103), 3) := by decide +kernel
theorem dX12_layGreat_150 : decode cX12_layGreat 150 = .ok (.return_, 1) := by decide +kernel
set_option maxRecDepth 20000 in
theorem ggX12_slip_X12_isStar : GoodIn wsX12_slip wsX12_isStar := goodIn_r _ [9, 10, 11, 12, 8, 13] (by decide +kernel) (by decide +kernel)
set_option maxRecDepth 20000 in
theorem gX12_slip_X12_isStar : GoodIn wsX12_slip (va_wsS RX12 142 yX12_isStar wsX12_isStar) := goodIn_app (goodIn_of _ (by decide +kernel)) ggX12_slip_X12_isStar
set_option maxRecDepth 20000 in
theorem ggX12_slip_X12_layRest : GoodIn wsX12_slip wsX12_layRest := goodIn_r _ [17, 18, 2, 19, 20, 21, 22, 4, 23, 24, 25, 26, 8, 27, 28, 29, 30, 31, 32, 33, 34, 35, 36, 37, 38, 39, 40, 41, 42, 43, 44, 45, 46, 47, 48, 49, 50, 51, 52, 53, 54, 55, 56, 57, 58, 59, 60, 61, 71, 72, 73, 74, 75, 76, 77, 78, 79, 80, 81, 82, 83, 84, 85, 86, 87, 88, 89, 90, 91, 92, 93, 94, 95, 96, 97, 98, 99, 100, 101, 102, 103, 104, 105, 106, 107, 108, 109, 110, 111, 112, 113, 114, 115, 116, 117, 118, 119, 120, 121, 122, 123, 124, 125, 126, 127] (by decide +kernel) (by decide +kernel)
set_option maxRecDepth 20000 in
theorem gX12_slip_X12_layRest : GoodIn wsX12_slip (wsV RX12 261 RX12 yX12_layRest wsX12_layRest) := goodIn_app (goodIn_of _ (by decide +kernel)) ggX12_slip_X12_layRest
set_option maxRecDepth 20000 in
theorem ggX12_slip_X12_layGreat : GoodIn wsX12_slip wsX12_layGreat := goodIn_r _ [65, 3, 5, 66, 67, 68, 69, 8, 70, 71, 72, 73, 74, 75, 76, 77, 78, 79, 80, 81, 82, 83, 84, 85, 86, 87, 88, 89, 90, 91, 92, 93, 94, 95, 96, 97, 98, 99, 100, 101, 102, 103, 104, 105, 106, 107, 108, 109, 110, 111, 112, 113, 114, 115, 116, 117, 118, 119, 120, 121, 122, 123, 124, 125, 126, 127] (by decide +kernel) (by decide +kernel)
set_option maxRecDepth 20000 in
theorem gX12_slip_X12_layGreat : GoodIn wsX12_slip (wsV RX12 330 RX12 yX12_layGreat wsX12_layGreat) := goodIn_app (goodIn_of _ (by decide +kernel)) ggX12_slip_X12_layGreat
theorem dX12_slip_0 : decode cX12_slip 0 = .ok (.iload_n 1, 1) := by decide +kernel
theorem dX12_slip_1 : decode cX12_slip 1 = .ok (.invokestatic 142, 3) := by decide +kernel
theorem dX12_slip_4 : decode cX12_slip 4 = .ok (.ifCond .ne 5, 3) := by decide +kernel
theorem dX12_slip_7 : decode cX12_slip 7 = .ok (.iconst (-1), 1) := by decide +kernel
theorem dX12_slip_8 : decode cX12_slip 8 = .ok (.ireturn, 1) := by decide +kernel
theorem dX12_slip_9 : decode cX12_slip 9 = .ok (.aload_n 0, 1) := by decide +kernel
theorem dX12_slip_10 : decode cX12_slip 10 = .ok (.iload_n 1, 1) := by decide +kernel
theorem dX12_slip_11 : decode cX12_slip 11 = .ok (.aload_n 0, 1) := by decide +kernel
theorem dX12_slip_12 : decode cX12_slip 12 = .ok (.getfield 164, 3) := by decide +kernel
theorem dX12_slip_15 : decode cX12_slip 15 = .ok (.invokevirtual 261, 3) := by decide +kernel
theorem dX12_slip_18 : decode cX12_slip 18 = .ok (.ifCond .eq 11, 3) := by decide +kernel
theorem dX12_slip_21 : decode cX12_slip 21 = .ok (.aload_n 0, 1) := by decide +kernel
theorem dX12_slip_22 : decode cX12_slip 22 = .ok (.getfield 167, 3) := by decide +kernel
theorem dX12_slip_25 : decode cX12_slip 25 = .ok (.iconst 4, 1) := by decide +kernel
theorem dX12_slip_26 : decode cX12_slip 26 = .ok (.if_icmp .ge 6, 3) := by decide +kernel
theorem dX12_slip_29 : decode cX12_slip 29 = .ok (.bipush (-2), 2) := by decide +kernel
theorem dX12_slip_31 : decode cX12_slip 31 = .ok (.ireturn, 1) := by decide +kernel
theorem dX12_slip_32 : decode cX12_slip 32 = .ok (.iconst 0, 1) := by decide +kernel
theorem dX12_slip_33 : decode cX12_slip 33 = .ok (.istore_n 2, 1) := by decide +kernel
theorem dX12_slip_34 : decode cX12_slip 34 = .ok (.iload_n 2, 1) := by decide +kernel
theorem dX12_slip_35 : decode cX12_slip 35 = .ok (.aload_n 0, 1) := by decide +kernel
theorem dX12_slip_36 : decode cX12_slip 36 = .ok (.getfield 167, 3) := by decide +kernel
theorem dX12_slip_39 : decode cX12_slip 39 = .ok (.if_icmp .ge 22, 3) := by decide +kernel
theorem dX12_slip_42 : decode cX12_slip 42 = .ok (.aload_n 0, 1) := by decide +kernel
theorem dX12_slip_43 : decode cX12_slip 43 = .ok (.getfield 122, 3) := by decide +kernel
theorem dX12_slip_46 : decode cX12_slip 46 = .ok (.iload_n 2, 1) := by decide +kernel
theorem dX12_slip_47 : decode cX12_slip 47 = .ok (.aload_n 0, 1) := by decide +kernel
theorem dX12_slip_48 : decode cX12_slip 48 = .ok (.getfield 77, 3) := by decide +kernel
theorem dX12_slip_51 : decode cX12_slip 51 = .ok (.iload_n 2, 1) := by decide +kernel
theorem dX12_slip_52 : decode cX12_slip 52 = .ok (.iaload, 1) := by decide +kernel
theorem dX12_slip_53 : decode cX12_slip 53 = .ok (.i2l, 1) := by decide +kernel
theorem dX12_slip_54 : decode cX12_slip 54 = .ok (.lastore, 1) := by decide +kernel
theorem dX12_slip_55 : decode cX12_slip 55 = .ok (.iinc 2 1, 3) := by decide +kernel
theorem dX12_slip_58 : decode cX12_slip 58 = .ok (.goto (-24), 3) := by decide +kernel
theorem dX12_slip_61 : decode cX12_slip 61 = .ok (.aload_n 0, 1) := by decide +kernel
theorem dX12_slip_62 : decode cX12_slip 62 = .ok (.aload_n 0, 1) := by decide +kernel
theorem dX12_slip_63 : decode cX12_slip 63 = .ok (.getfield 167, 3) := by decide +kernel
theorem dX12_slip_66 : decode cX12_slip 66 = .ok (.invokevirtual 330, 3) := by decide +kernel
theorem dX12_slip_69 : decode cX12_slip 69 = .ok (.aload_n 0, 1) := by decide +kernel
theorem dX12_slip_70 : decode cX12_slip 70 = .ok (.getfield 316, 3) := by decide +kernel
theorem dX12_slip_73 : decode cX12_slip 73 = .ok (.ireturn, 1) := by decide +kernel
set_option maxRecDepth 20000 in
theorem ggX12_falseShare_X12_isStar : GoodIn wsX12_falseShare wsX12_isStar := goodIn_r _ [9, 10, 11, 12, 8, 13] (by decide +kernel) (by decide +kernel)
set_option maxRecDepth 20000 in
theorem gX12_falseShare_X12_isStar : GoodIn wsX12_falseShare (va_wsS RX12 142 yX12_isStar wsX12_isStar) := goodIn_app (goodIn_of _ (by decide +kernel)) ggX12_falseShare_X12_isStar
set_option maxRecDepth 20000 in
theorem ggX12_falseShare_X12_slip : GoodIn wsX12_falseShare wsX12_slip := goodIn_r _ [17, 18, 1, 4, 5, 19, 6, 7, 8, 9, 10, 11, 12, 13, 20, 21, 22, 23, 24, 25, 26, 27, 28, 29, 30, 31, 32, 33, 34, 35, 36, 37, 38, 39, 40, 41, 42, 43, 44, 45, 46, 47, 48, 49, 50, 51, 52, 53, 54, 55, 56, 57, 58, 59, 60, 61, 62, 63, 64, 65, 66, 67, 68, 69, 70, 71, 2, 3, 72, 73, 74, 75, 76, 77, 78, 79, 80, 81, 82, 83, 84, 85, 86, 87, 88, 89, 90, 91, 92, 93, 94, 95, 96, 97, 98, 99, 100, 101, 102, 103, 104, 105, 106, 107, 108, 109, 110, 111, 112, 113, 114, 115, 116, 117, 118, 119, 120, 121, 122, 123, 124, 125, 126, 127, 128, 129, 130, 131] (by decide +kernel) (by decide +kernel)
set_option maxRecDepth 20000 in
theorem gX12_falseShare_X12_slip : GoodIn wsX12_falseShare (wsV RX12 333 RX12 yX12_slip wsX12_slip) := goodIn_app (goodIn_of _ (by decide +kernel)) ggX12_falseShare_X12_slip
set_option maxRecDepth 20000 in
theorem ggX12_falseShare_X12_layGreat : GoodIn wsX12_falseShare wsX12_layGreat := goodIn_r _ [71, 4, 19, 2, 3, 72, 73, 8, 74, 75, 76, 77, 78, 79, 80, 81, 82, 83, 84, 85, 86, 87, 88, 89, 90, 91, 92, 93, 94, 95, 96, 97, 98, 99, 100, 101, 102, 103, 104, 105, 106, 107, 108, 109, 110, 111, 112, 113, 114, 115, 116, 117, 118, 119, 120, 121, 122, 123, 124, 125, 126, 127, 128, 129, 130, 131] (by decide +kernel) (by decide +kernel)
set_option maxRecDepth 20000 in
theorem gX12_falseShare_X12_layGreat : GoodIn wsX12_falseShare (wsV RX12 330 RX12 yX12_layGreat wsX12_layGreat) := goodIn_app (goodIn_of _ (by decide +kernel)) ggX12_falseShare_X12_layGreat
set_option maxRecDepth 20000 in
theorem ggX12_falseShare_X12_isAbove : GoodIn wsX12_falseShare wsX12_isAbove := goodIn_r _ [74] (by decide +kernel) (by decide +kernel)
set_option maxRecDepth 20000 in
theorem gX12_falseShare_X12_isAbove : GoodIn wsX12_falseShare (va_wsS RX12 326 yX12_isAbove wsX12_isAbove) := goodIn_app (goodIn_of _ (by decide +kernel)) ggX12_falseShare_X12_isAbove
theorem dX12_falseShare_0 : decode cX12_falseShare 0 = .ok (.iload_n 1, 1) := by decide +kernel
theorem dX12_falseShare_1 : decode cX12_falseShare 1 = .ok (.invokestatic 142, 3) := by decide +kernel
theorem dX12_falseShare_4 : decode cX12_falseShare 4 = .ok (.ifCond .ne 5, 3) := by decide +kernel
theorem dX12_falseShare_7 : decode cX12_falseShare 7 = .ok (.iconst (-1), 1) := by decide +kernel
theorem dX12_falseShare_8 : decode cX12_falseShare 8 = .ok (.ireturn, 1) := by decide +kernel
theorem dX12_falseShare_9 : decode cX12_falseShare 9 = .ok (.aload_n 0, 1) := by decide +kernel
theorem dX12_falseShare_10 : decode cX12_falseShare 10 = .ok (.iload_n 1, 1) := by decide +kernel
theorem dX12_falseShare_11 : decode cX12_falseShare 11 = .ok (.invokevirtual 333, 3) := by decide +kernel
theorem dX12_falseShare_14 : decode cX12_falseShare 14 = .ok (.bipush (-2), 2) := by decide +kernel
theorem dX12_falseShare_16 : decode cX12_falseShare 16 = .ok (.if_icmp .eq 12, 3) := by decide +kernel
theorem dX12_falseShare_19 : decode cX12_falseShare 19 = .ok (.aload_n 0, 1) := by decide +kernel
theorem dX12_falseShare_20 : decode cX12_falseShare 20 = .ok (.getfield 167, 3) := by decide +kernel
theorem dX12_falseShare_23 : decode cX12_falseShare 23 = .ok (.bipush 12, 2) := by decide +kernel
theorem dX12_falseShare_25 : decode cX12_falseShare 25 = .ok (.if_icmp .le 6, 3) := by decide +kernel
theorem dX12_falseShare_28 : decode cX12_falseShare 28 = .ok (.bipush (-2), 2) := by decide +kernel
theorem dX12_falseShare_30 : decode cX12_falseShare 30 = .ok (.ireturn, 1) := by decide +kernel
theorem dX12_falseShare_31 : decode cX12_falseShare 31 = .ok (.aload_n 0, 1) := by decide +kernel
theorem dX12_falseShare_32 : decode cX12_falseShare 32 = .ok (.getfield 319, 3) := by decide +kernel
theorem dX12_falseShare_35 : decode cX12_falseShare 35 = .ok (.lstore_n 2, 1) := by decide +kernel
theorem dX12_falseShare_36 : decode cX12_falseShare 36 = .ok (.aload_n 0, 1) := by decide +kernel
theorem dX12_falseShare_37 : decode cX12_falseShare 37 = .ok (.getfield 323, 3) := by decide +kernel
theorem dX12_falseShare_40 : decode cX12_falseShare 40 = .ok (.lstore 4, 2) := by decide +kernel
theorem dX12_falseShare_42 : decode cX12_falseShare 42 = .ok (.iconst 0, 1) := by decide +kernel
theorem dX12_falseShare_43 : decode cX12_falseShare 43 = .ok (.istore 6, 2) := by decide +kernel
theorem dX12_falseShare_45 : decode cX12_falseShare 45 = .ok (.iconst 0, 1) := by decide +kernel
theorem dX12_falseShare_46 : decode cX12_falseShare 46 = .ok (.istore 7, 2) := by decide +kernel
theorem dX12_falseShare_48 : decode cX12_falseShare 48 = .ok (.iload 7, 2) := by decide +kernel
theorem dX12_falseShare_50 : decode cX12_falseShare 50 = .ok (.iconst 1, 1) := by decide +kernel
theorem dX12_falseShare_51 : decode cX12_falseShare 51 = .ok (.aload_n 0, 1) := by decide +kernel
theorem dX12_falseShare_52 : decode cX12_falseShare 52 = .ok (.getfield 167, 3) := by decide +kernel
theorem dX12_falseShare_55 : decode cX12_falseShare 55 = .ok (.ishl, 1) := by decide +kernel
theorem dX12_falseShare_56 : decode cX12_falseShare 56 = .ok (.if_icmp .ge 100, 3) := by decide +kernel
theorem dX12_falseShare_59 : decode cX12_falseShare 59 = .ok (.iconst 0, 1) := by decide +kernel
theorem dX12_falseShare_60 : decode cX12_falseShare 60 = .ok (.istore 8, 2) := by decide +kernel
theorem dX12_falseShare_62 : decode cX12_falseShare 62 = .ok (.iload 8, 2) := by decide +kernel
theorem dX12_falseShare_64 : decode cX12_falseShare 64 = .ok (.aload_n 0, 1) := by decide +kernel
theorem dX12_falseShare_65 : decode cX12_falseShare 65 = .ok (.getfield 167, 3) := by decide +kernel
theorem dX12_falseShare_68 : decode cX12_falseShare 68 = .ok (.if_icmp .ge 47, 3) := by decide +kernel
theorem dX12_falseShare_71 : decode cX12_falseShare 71 = .ok (.aload_n 0, 1) := by decide +kernel
theorem dX12_falseShare_72 : decode cX12_falseShare 72 = .ok (.getfield 122, 3) := by decide +kernel
theorem dX12_falseShare_75 : decode cX12_falseShare 75 = .ok (.iload 8, 2) := by decide +kernel
theorem dX12_falseShare_77 : decode cX12_falseShare 77 = .ok (.iload 7, 2) := by decide +kernel
theorem dX12_falseShare_79 : decode cX12_falseShare 79 = .ok (.iload 8, 2) := by decide +kernel
theorem dX12_falseShare_81 : decode cX12_falseShare 81 = .ok (.ishr, 1) := by decide +kernel
theorem dX12_falseShare_82 : decode cX12_falseShare 82 = .ok (.iconst 1, 1) := by decide +kernel
theorem dX12_falseShare_83 : decode cX12_falseShare 83 = .ok (.iand, 1) := by decide +kernel
theorem dX12_falseShare_84 : decode cX12_falseShare 84 = .ok (.iconst 1, 1) := by decide +kernel
theorem dX12_falseShare_85 : decode cX12_falseShare 85 = .ok (.if_icmp .ne 15, 3) := by decide +kernel
theorem dX12_falseShare_88 : decode cX12_falseShare 88 = .ok (.aload_n 0, 1) := by decide +kernel
theorem dX12_falseShare_89 : decode cX12_falseShare 89 = .ok (.getfield 77, 3) := by decide +kernel
theorem dX12_falseShare_92 : decode cX12_falseShare 92 = .ok (.iload 8, 2) := by decide +kernel
theorem dX12_falseShare_94 : decode cX12_falseShare 94 = .ok (.iaload, 1) := by decide +kernel
theorem dX12_falseShare_95 : decode cX12_falseShare 95 = .ok (.ineg, 1) := by decide +kernel
theorem dX12_falseShare_96 : decode cX12_falseShare 96 = .ok (.i2l, 1) := by decide +kernel
theorem dX12_falseShare_97 : decode cX12_falseShare 97 = .ok (.goto 11, 3) := by decide +kernel
theorem dX12_falseShare_100 : decode cX12_falseShare 100 = .ok (.aload_n 0, 1) := by decide +kernel
theorem dX12_falseShare_101 : decode cX12_falseShare 101 = .ok (.getfield 77, 3) := by decide +kernel
theorem dX12_falseShare_104 : decode cX12_falseShare 104 = .ok (.iload 8, 2) := by decide +kernel
theorem dX12_falseShare_106 : decode cX12_falseShare 106 = .ok (.iaload, 1) := by decide +kernel
theorem dX12_falseShare_107 : decode cX12_falseShare 107 = .ok (.i2l, 1) := by decide +kernel
theorem dX12_falseShare_108 : decode cX12_falseShare 108 = .ok (.lastore, 1) := by decide +kernel
theorem dX12_falseShare_109 : decode cX12_falseShare 109 = .ok (.iinc 8 1, 3) := by decide +kernel
theorem dX12_falseShare_112 : decode cX12_falseShare 112 = .ok (.goto (-50), 3) := by decide +kernel
theorem dX12_falseShare_115 : decode cX12_falseShare 115 = .ok (.aload_n 0, 1) := by decide +kernel
theorem dX12_falseShare_116 : decode cX12_falseShare 116 = .ok (.aload_n 0, 1) := by decide +kernel
theorem dX12_falseShare_117 : decode cX12_falseShare 117 = .ok (.getfield 167, 3) := by decide +kernel
theorem dX12_falseShare_120 : decode cX12_falseShare 120 = .ok (.invokevirtual 330, 3) := by decide +kernel
theorem dX12_falseShare_123 : decode cX12_falseShare 123 = .ok (.iload 6, 2) := by decide +kernel
theorem dX12_falseShare_125 : decode cX12_falseShare 125 = .ok (.lload_n 2, 1) := by decide +kernel
theorem dX12_falseShare_126 : decode cX12_falseShare 126 = .ok (.lload 4, 2) := by decide +kernel
theorem dX12_falseShare_128 : decode cX12_falseShare 128 = .ok (.aload_n 0, 1) := by decide +kernel
theorem dX12_falseShare_129 : decode cX12_falseShare 129 = .ok (.getfield 319, 3) := by decide +kernel
theorem dX12_falseShare_132 : decode cX12_falseShare 132 = .ok (.aload_n 0, 1) := by decide +kernel
theorem dX12_falseShare_133 : decode cX12_falseShare 133 = .ok (.getfield 323, 3) := by decide +kernel
theorem dX12_falseShare_136 : decode cX12_falseShare 136 = .ok (.invokestatic 326, 3) := by decide +kernel
theorem dX12_falseShare_139 : decode cX12_falseShare 139 = .ok (.ifCond .eq 7, 3) := by decide +kernel
theorem dX12_falseShare_142 : decode cX12_falseShare 142 = .ok (.iconst 0, 1) := by decide +kernel
theorem dX12_falseShare_143 : decode cX12_falseShare 143 = .ok (.goto 4, 3) := by decide +kernel
theorem dX12_falseShare_146 : decode cX12_falseShare 146 = .ok (.iconst 1, 1) := by decide +kernel
theorem dX12_falseShare_147 : decode cX12_falseShare 147 = .ok (.iadd, 1) := by decide +kernel
theorem dX12_falseShare_148 : decode cX12_falseShare 148 = .ok (.istore 6, 2) := by decide +kernel
theorem dX12_falseShare_150 : decode cX12_falseShare 150 = .ok (.iinc 7 1, 3) := by decide +kernel
theorem dX12_falseShare_153 : decode cX12_falseShare 153 = .ok (.goto (-105), 3) := by decide +kernel
theorem dX12_falseShare_156 : decode cX12_falseShare 156 = .ok (.iload 6, 2) := by decide +kernel
theorem dX12_falseShare_158 : decode cX12_falseShare 158 = .ok (.ireturn, 1) := by decide +kernel
set_option maxRecDepth 20000 in
theorem ggX12_layBoth_X12_layRest : GoodIn wsX12_layBoth wsX12_layRest := goodIn_r _ [11, 12, 2, 13, 14, 15, 16, 5, 17, 18, 19, 20, 10, 21, 22, 23, 24, 25, 26, 27, 28, 29, 30, 31, 32, 33, 34, 35, 36, 37, 38, 39, 40, 41, 42, 43, 44, 45, 46, 47, 48, 49, 50, 51, 52, 53, 54, 55, 56, 57, 58, 59, 60, 61, 62, 63, 64, 65, 66, 67, 68, 69, 70, 71, 72, 73, 74, 75, 76, 77, 78, 79, 80, 81, 82, 83, 84, 85, 86, 87, 88, 89, 90, 91, 92, 93, 94, 95, 96, 97, 98, 99, 100, 101, 102, 103, 104, 105, 106, 107, 108, 109, 110, 111, 112] (by decide +kernel) (by decide +kernel)
set_option maxRecDepth 20000 in
theorem gX12_layBoth_X12_layRest : GoodIn wsX12_layBoth (wsV RX12 261 RX12 yX12_layRest wsX12_layRest) := goodIn_app (goodIn_of _ (by decide +kernel)) ggX12_layBoth_X12_layRest
theorem dX12_layBoth_0 : decode cX12_layBoth 0 = .ok (.aload_n 0, 1) := by decide +kernel
theorem dX12_layBoth_1 : decode cX12_layBoth 1 = .ok (.iload_n 1, 1) := by decide +kernel
theorem dX12_layBoth_2 : decode cX12_layBoth 2 = .ok (.aload_n 0, 1) := by decide +kernel
theorem dX12_layBoth_3 : decode cX12_layBoth 3 = .ok (.getfield 164, 3) := by decide +kernel
theorem dX12_layBoth_6 : decode cX12_layBoth 6 = .ok (.invokevirtual 261, 3) := by decide +kernel
theorem dX12_layBoth_9 : decode cX12_layBoth 9 = .ok (.ifCond .ne 5, 3) := by decide +kernel
theorem dX12_layBoth_12 : decode cX12_layBoth 12 = .ok (.iconst 0, 1) := by decide +kernel
theorem dX12_layBoth_13 : decode cX12_layBoth 13 = .ok (.ireturn, 1) := by decide +kernel
theorem dX12_layBoth_14 : decode cX12_layBoth 14 = .ok (.aload_n 0, 1) := by decide +kernel
theorem dX12_layBoth_15 : decode cX12_layBoth 15 = .ok (.aload_n 0, 1) := by decide +kernel
theorem dX12_layBoth_16 : decode cX12_layBoth 16 = .ok (.getfield 167, 3) := by decide +kernel
theorem dX12_layBoth_19 : decode cX12_layBoth 19 = .ok (.bipush 7, 2) := by decide +kernel
theorem dX12_layBoth_21 : decode cX12_layBoth 21 = .ok (.if_icmp .ge 10, 3) := by decide +kernel
theorem dX12_layBoth_24 : decode cX12_layBoth 24 = .ok (.aload_n 0, 1) := by decide +kernel
theorem dX12_layBoth_25 : decode cX12_layBoth 25 = .ok (.getfield 167, 3) := by decide +kernel
theorem dX12_layBoth_28 : decode cX12_layBoth 28 = .ok (.goto 5, 3) := by decide +kernel
theorem dX12_layBoth_31 : decode cX12_layBoth 31 = .ok (.bipush 7, 2) := by decide +kernel
theorem dX12_layBoth_33 : decode cX12_layBoth 33 = .ok (.putfield 337, 3) := by decide +kernel
theorem dX12_layBoth_36 : decode cX12_layBoth 36 = .ok (.iconst 0, 1) := by decide +kernel
theorem dX12_layBoth_37 : decode cX12_layBoth 37 = .ok (.istore_n 3, 1) := by decide +kernel
theorem dX12_layBoth_38 : decode cX12_layBoth 38 = .ok (.iload_n 3, 1) := by decide +kernel
theorem dX12_layBoth_39 : decode cX12_layBoth 39 = .ok (.aload_n 0, 1) := by decide +kernel
theorem dX12_layBoth_40 : decode cX12_layBoth 40 = .ok (.getfield 337, 3) := by decide +kernel
theorem dX12_layBoth_43 : decode cX12_layBoth 43 = .ok (.if_icmp .ge 21, 3) := by decide +kernel
theorem dX12_layBoth_46 : decode cX12_layBoth 46 = .ok (.aload_n 0, 1) := by decide +kernel
theorem dX12_layBoth_47 : decode cX12_layBoth 47 = .ok (.getfield 125, 3) := by decide +kernel
theorem dX12_layBoth_50 : decode cX12_layBoth 50 = .ok (.iload_n 3, 1) := by decide +kernel
theorem dX12_layBoth_51 : decode cX12_layBoth 51 = .ok (.aload_n 0, 1) := by decide +kernel
theorem dX12_layBoth_52 : decode cX12_layBoth 52 = .ok (.getfield 77, 3) := by decide +kernel
theorem dX12_layBoth_55 : decode cX12_layBoth 55 = .ok (.iload_n 3, 1) := by decide +kernel
theorem dX12_layBoth_56 : decode cX12_layBoth 56 = .ok (.iaload, 1) := by decide +kernel
theorem dX12_layBoth_57 : decode cX12_layBoth 57 = .ok (.iastore, 1) := by decide +kernel
theorem dX12_layBoth_58 : decode cX12_layBoth 58 = .ok (.iinc 3 1, 3) := by decide +kernel
theorem dX12_layBoth_61 : decode cX12_layBoth 61 = .ok (.goto (-23), 3) := by decide +kernel
theorem dX12_layBoth_64 : decode cX12_layBoth 64 = .ok (.aload_n 0, 1) := by decide +kernel
theorem dX12_layBoth_65 : decode cX12_layBoth 65 = .ok (.iload_n 2, 1) := by decide +kernel
theorem dX12_layBoth_66 : decode cX12_layBoth 66 = .ok (.aload_n 0, 1) := by decide +kernel
theorem dX12_layBoth_67 : decode cX12_layBoth 67 = .ok (.getfield 164, 3) := by decide +kernel
theorem dX12_layBoth_70 : decode cX12_layBoth 70 = .ok (.invokevirtual 261, 3) := by decide +kernel
theorem dX12_layBoth_73 : decode cX12_layBoth 73 = .ok (.ifCond .ne 5, 3) := by decide +kernel
theorem dX12_layBoth_76 : decode cX12_layBoth 76 = .ok (.iconst 0, 1) := by decide +kernel
theorem dX12_layBoth_77 : decode cX12_layBoth 77 = .ok (.ireturn, 1) := by decide +kernel
theorem dX12_layBoth_78 : decode cX12_layBoth 78 = .ok (.aload_n 0, 1) := by decide +kernel
theorem dX12_layBoth_79 : decode cX12_layBoth 79 = .ok (.aload_n 0, 1) := by decide +kernel
theorem dX12_layBoth_80 : decode cX12_layBoth 80 = .ok (.getfield 167, 3) := by decide +kernel
theorem dX12_layBoth_83 : decode cX12_layBoth 83 = .ok (.aload_n 0, 1) := by decide +kernel
theorem dX12_layBoth_84 : decode cX12_layBoth 84 = .ok (.getfield 337, 3) := by decide +kernel
theorem dX12_layBoth_87 : decode cX12_layBoth 87 = .ok (.if_icmp .ge 10, 3) := by decide +kernel
theorem dX12_layBoth_90 : decode cX12_layBoth 90 = .ok (.aload_n 0, 1) := by decide +kernel
theorem dX12_layBoth_91 : decode cX12_layBoth 91 = .ok (.getfield 167, 3) := by decide +kernel
theorem dX12_layBoth_94 : decode cX12_layBoth 94 = .ok (.goto 7, 3) := by decide +kernel
theorem dX12_layBoth_97 : decode cX12_layBoth 97 = .ok (.aload_n 0, 1) := by decide +kernel
theorem dX12_layBoth_98 : decode cX12_layBoth 98 = .ok (.getfield 337, 3) := by decide +kernel
theorem dX12_layBoth_101 : decode cX12_layBoth 101 = .ok (.putfield 337, 3) := by decide +kernel
theorem dX12_layBoth_104 : decode cX12_layBoth 104 = .ok (.iconst 0, 1) := by decide +kernel
theorem dX12_layBoth_105 : decode cX12_layBoth 105 = .ok (.istore_n 3, 1) := by decide +kernel
theorem dX12_layBoth_106 : decode cX12_layBoth 106 = .ok (.iload_n 3, 1) := by decide +kernel
theorem dX12_layBoth_107 : decode cX12_layBoth 107 = .ok (.aload_n 0, 1) := by decide +kernel
theorem dX12_layBoth_108 : decode cX12_layBoth 108 = .ok (.getfield 337, 3) := by decide +kernel
theorem dX12_layBoth_111 : decode cX12_layBoth 111 = .ok (.if_icmp .ge 21, 3) := by decide +kernel
theorem dX12_layBoth_114 : decode cX12_layBoth 114 = .ok (.aload_n 0, 1) := by decide +kernel
theorem dX12_layBoth_115 : decode cX12_layBoth 115 = .ok (.getfield 128, 3) := by decide +kernel
theorem dX12_layBoth_118 : decode cX12_layBoth 118 = .ok (.iload_n 3, 1) := by decide +kernel
theorem dX12_layBoth_119 : decode cX12_layBoth 119 = .ok (.aload_n 0, 1) := by decide +kernel
theorem dX12_layBoth_120 : decode cX12_layBoth 120 = .ok (.getfield 77, 3) := by decide +kernel
theorem dX12_layBoth_123 : decode cX12_layBoth 123 = .ok (.iload_n 3, 1) := by decide +kernel
theorem dX12_layBoth_124 : decode cX12_layBoth 124 = .ok (.iaload, 1) := by decide +kernel
theorem dX12_layBoth_125 : decode cX12_layBoth 125 = .ok (.iastore, 1) := by decide +kernel
theorem dX12_layBoth_126 : decode cX12_layBoth 126 = .ok (.iinc 3 1, 3) := by decide +kernel
theorem dX12_layBoth_129 : decode cX12_layBoth 129 = .ok (.goto (-23), 3) := by decide +kernel
theorem dX12_layBoth_132 : decode cX12_layBoth 132 = .ok (.aload_n 0, 1) := by decide +kernel
theorem dX12_layBoth_133 : decode cX12_layBoth 133 = .ok (.getfield 337, 3) := by decide +kernel
theorem dX12_layBoth_136 : decode cX12_layBoth 136 = .ok (.iconst 2, 1) := by decide +kernel
theorem dX12_layBoth_137 : decode cX12_layBoth 137 = .ok (.if_icmp .lt 7, 3) := by decide +kernel
theorem dX12_layBoth_140 : decode cX12_layBoth 140 = .ok (.iconst 1, 1) := by decide +kernel
theorem dX12_layBoth_141 : decode cX12_layBoth 141 = .ok (.goto 4, 3) := by decide +kernel
theorem dX12_layBoth_144 : decode cX12_layBoth 144 = .ok (.iconst 0, 1) := by decide +kernel
theorem dX12_layBoth_145 : decode cX12_layBoth 145 = .ok (.ireturn, 1) := by decide +kernel
theorem dX12_productsBy_0 : decode cX12_productsBy 0 = .ok (.iload_n 1, 1) := by decide +kernel
theorem dX12_productsBy_1 : decode cX12_productsBy 1 = .ok (.istore_n 2, 1) := by decide +kernel
theorem dX12_productsBy_2 : decode cX12_productsBy 2 = .ok (.iconst 0, 1) := by decide +kernel
theorem dX12_productsBy_3 : decode cX12_productsBy 3 = .ok (.istore_n 3, 1) := by decide +kernel
theorem dX12_productsBy_4 : decode cX12_productsBy 4 = .ok (.lconst 0, 1) := by decide +kernel
theorem dX12_productsBy_5 : decode cX12_productsBy 5 = .ok (.lstore 4, 2) := by decide +kernel
theorem dX12_productsBy_7 : decode cX12_productsBy 7 = .ok (.iconst 0, 1) := by decide +kernel
theorem dX12_productsBy_8 : decode cX12_productsBy 8 = .ok (.istore 6, 2) := by decide +kernel
theorem dX12_productsBy_10 : decode cX12_productsBy 10 = .ok (.iload 6, 2) := by decide +kernel
theorem dX12_productsBy_12 : decode cX12_productsBy 12 = .ok (.aload_n 0, 1) := by decide +kernel
theorem dX12_productsBy_13 : decode cX12_productsBy 13 = .ok (.getfield 337, 3) := by decide +kernel
theorem dX12_productsBy_16 : decode cX12_productsBy 16 = .ok (.if_icmp .ge 103, 3) := by decide +kernel
theorem dX12_productsBy_19 : decode cX12_productsBy 19 = .ok (.iload_n 2, 1) := by decide +kernel
theorem dX12_productsBy_20 : decode cX12_productsBy 20 = .ok (.aload_n 0, 1) := by decide +kernel
theorem dX12_productsBy_21 : decode cX12_productsBy 21 = .ok (.getfield 337, 3) := by decide +kernel
theorem dX12_productsBy_24 : decode cX12_productsBy 24 = .ok (.iload 6, 2) := by decide +kernel
theorem dX12_productsBy_26 : decode cX12_productsBy 26 = .ok (.isub, 1) := by decide +kernel
theorem dX12_productsBy_27 : decode cX12_productsBy 27 = .ok (.irem, 1) := by decide +kernel
theorem dX12_productsBy_28 : decode cX12_productsBy 28 = .ok (.istore 7, 2) := by decide +kernel
theorem dX12_productsBy_30 : decode cX12_productsBy 30 = .ok (.iload_n 2, 1) := by decide +kernel
theorem dX12_productsBy_31 : decode cX12_productsBy 31 = .ok (.aload_n 0, 1) := by decide +kernel
theorem dX12_productsBy_32 : decode cX12_productsBy 32 = .ok (.getfield 337, 3) := by decide +kernel
theorem dX12_productsBy_35 : decode cX12_productsBy 35 = .ok (.iload 6, 2) := by decide +kernel
theorem dX12_productsBy_37 : decode cX12_productsBy 37 = .ok (.isub, 1) := by decide +kernel
theorem dX12_productsBy_38 : decode cX12_productsBy 38 = .ok (.idiv, 1) := by decide +kernel
theorem dX12_productsBy_39 : decode cX12_productsBy 39 = .ok (.istore_n 2, 1) := by decide +kernel
theorem dX12_productsBy_40 : decode cX12_productsBy 40 = .ok (.iconst 0, 1) := by decide +kernel
theorem dX12_productsBy_41 : decode cX12_productsBy 41 = .ok (.istore 8, 2) := by decide +kernel
theorem dX12_productsBy_43 : decode cX12_productsBy 43 = .ok (.iload_n 3, 1) := by decide +kernel
theorem dX12_productsBy_44 : decode cX12_productsBy 44 = .ok (.iload 8, 2) := by decide +kernel
theorem dX12_productsBy_46 : decode cX12_productsBy 46 = .ok (.ishr, 1) := by decide +kernel
theorem dX12_productsBy_47 : decode cX12_productsBy 47 = .ok (.iconst 1, 1) := by decide +kernel
theorem dX12_productsBy_48 : decode cX12_productsBy 48 = .ok (.iand, 1) := by decide +kernel
theorem dX12_productsBy_49 : decode cX12_productsBy 49 = .ok (.iconst 1, 1) := by decide +kernel
theorem dX12_productsBy_50 : decode cX12_productsBy 50 = .ok (.if_icmp .eq 8, 3) := by decide +kernel
theorem dX12_productsBy_53 : decode cX12_productsBy 53 = .ok (.iload 7, 2) := by decide +kernel
theorem dX12_productsBy_55 : decode cX12_productsBy 55 = .ok (.ifCond .le 29, 3) := by decide +kernel
theorem dX12_productsBy_58 : decode cX12_productsBy 58 = .ok (.iload 7, 2) := by decide +kernel
theorem dX12_productsBy_60 : decode cX12_productsBy 60 = .ok (.iload_n 3, 1) := by decide +kernel
theorem dX12_productsBy_61 : decode cX12_productsBy 61 = .ok (.iload 8, 2) := by decide +kernel
theorem dX12_productsBy_63 : decode cX12_productsBy 63 = .ok (.ishr, 1) := by decide +kernel
theorem dX12_productsBy_64 : decode cX12_productsBy 64 = .ok (.iconst 1, 1) := by decide +kernel
theorem dX12_productsBy_65 : decode cX12_productsBy 65 = .ok (.iand, 1) := by decide +kernel
theorem dX12_productsBy_66 : decode cX12_productsBy 66 = .ok (.iconst 1, 1) := by decide +kernel
theorem dX12_productsBy_67 : decode cX12_productsBy 67 = .ok (.if_icmp .ne 7, 3) := by decide +kernel
theorem dX12_productsBy_70 : decode cX12_productsBy 70 = .ok (.iconst 0, 1) := by decide +kernel
theorem dX12_productsBy_71 : decode cX12_productsBy 71 = .ok (.goto 4, 3) := by decide +kernel
theorem dX12_productsBy_74 : decode cX12_productsBy 74 = .ok (.iconst 1, 1) := by decide +kernel
theorem dX12_productsBy_75 : decode cX12_productsBy 75 = .ok (.isub, 1) := by decide +kernel
theorem dX12_productsBy_76 : decode cX12_productsBy 76 = .ok (.istore 7, 2) := by decide +kernel
theorem dX12_productsBy_78 : decode cX12_productsBy 78 = .ok (.iinc 8 1, 3) := by decide +kernel
theorem dX12_productsBy_81 : decode cX12_productsBy 81 = .ok (.goto (-38), 3) := by decide +kernel
theorem dX12_productsBy_84 : decode cX12_productsBy 84 = .ok (.iload_n 3, 1) := by decide +kernel
theorem dX12_productsBy_85 : decode cX12_productsBy 85 = .ok (.iconst 1, 1) := by decide +kernel
theorem dX12_productsBy_86 : decode cX12_productsBy 86 = .ok (.iload 8, 2) := by decide +kernel
theorem dX12_productsBy_88 : decode cX12_productsBy 88 = .ok (.ishl, 1) := by decide +kernel
theorem dX12_productsBy_89 : decode cX12_productsBy 89 = .ok (.ior, 1) := by decide +kernel
theorem dX12_productsBy_90 : decode cX12_productsBy 90 = .ok (.istore_n 3, 1) := by decide +kernel
theorem dX12_productsBy_91 : decode cX12_productsBy 91 = .ok (.lload 4, 2) := by decide +kernel
theorem dX12_productsBy_93 : decode cX12_productsBy 93 = .ok (.aload_n 0, 1) := by decide +kernel
theorem dX12_productsBy_94 : decode cX12_productsBy 94 = .ok (.getfield 125, 3) := by decide +kernel
theorem dX12_productsBy_97 : decode cX12_productsBy 97 = .ok (.iload 6, 2) := by decide +kernel
theorem dX12_productsBy_99 : decode cX12_productsBy 99 = .ok (.iaload, 1) := by decide +kernel
theorem dX12_productsBy_100 : decode cX12_productsBy 100 = .ok (.i2l, 1) := by decide +kernel
theorem dX12_productsBy_101 : decode cX12_productsBy 101 = .ok (.aload_n 0, 1) := by decide +kernel
theorem dX12_productsBy_102 : decode cX12_productsBy 102 = .ok (.getfield 128, 3) := by decide +kernel
theorem dX12_productsBy_105 : decode cX12_productsBy 105 = .ok (.iload 8, 2) := by decide +kernel
theorem dX12_productsBy_107 : decode cX12_productsBy 107 = .ok (.iaload, 1) := by decide +kernel
theorem dX12_productsBy_108 : decode cX12_productsBy 108 = .ok (.i2l, 1) := by decide +kernel
theorem dX12_productsBy_109 : decode cX12_productsBy 109 = .ok (.lmul, 1) := by decide +kernel
theorem dX12_productsBy_110 : decode cX12_productsBy 110 = .ok (.ladd, 1) := by decide +kernel
theorem dX12_productsBy_111 : decode cX12_productsBy 111 = .ok (.lstore 4, 2) := by decide +kernel
theorem dX12_productsBy_113 : decode cX12_productsBy 113 = .ok (.iinc 6 1, 3) := by decide +kernel
theorem dX12_productsBy_116 : decode cX12_productsBy 116 = .ok (.goto (-106), 3) := by decide +kernel
theorem dX12_productsBy_119 : decode cX12_productsBy 119 = .ok (.lload 4, 2) := by decide +kernel
theorem dX12_productsBy_121 : decode cX12_productsBy 121 = .ok (.lreturn, 1) := by decide +kernel
set_option maxRecDepth 20000 in
theorem ggX12_hum_X12_isStar : GoodIn wsX12_hum wsX12_isStar := goodIn_r _ [6, 7, 8, 9, 5, 10] (by decide +kernel) (by decide +kernel)
set_option maxRecDepth 20000 in
theorem gX12_hum_X12_isStar : GoodIn wsX12_hum (va_wsS RX12 142 yX12_isStar wsX12_isStar) := goodIn_app (goodIn_of _ (by decide +kernel)) ggX12_hum_X12_isStar
set_option maxRecDepth 20000 in
theorem ggX12_hum_X12_layBoth : GoodIn wsX12_hum wsX12_layBoth := goodIn_r _ [14, 15, 16, 17, 18, 19, 20, 21, 22, 23, 5, 24, 25, 26, 27, 28, 29, 30, 31, 32, 33, 34, 35, 36, 37, 38, 39, 40, 41, 42, 43, 44, 45, 46, 47, 48, 49, 50, 51, 52, 53, 54, 55, 56, 57, 58, 59, 60, 61, 62, 63, 64, 65, 66, 67, 68, 73, 74, 75, 76, 77, 78, 79, 80, 81, 82, 83, 84, 85, 86, 87, 88, 89, 90, 91, 92, 93, 94, 95, 96, 97, 98, 99, 100, 101, 102, 103, 104, 105, 106, 107, 108, 109, 110, 111, 112, 113, 114, 115, 116, 117, 118, 119, 120, 121, 122, 123, 124, 125, 126, 127, 128, 129] (by decide +kernel) (by decide +kernel)
set_option maxRecDepth 20000 in
theorem gX12_hum_X12_layBoth : GoodIn wsX12_hum (wsV RX12 340 RX12 yX12_layBoth wsX12_layBoth) := goodIn_app (goodIn_of _ (by decide +kernel)) ggX12_hum_X12_layBoth
set_option maxRecDepth 20000 in
theorem ggX12_hum_X12_productsBy : GoodIn wsX12_hum wsX12_productsBy := goodIn_r _ [72, 17, 18, 20, 73, 74, 75, 76, 77, 78, 79, 80, 81, 82, 83, 84, 85, 86, 87, 88, 89, 90, 91, 92, 93, 94, 95, 96, 97, 98, 99, 100, 101, 102, 103, 104, 105, 106, 107, 108, 109, 110, 111, 112, 113, 114, 115, 116, 117, 118, 119, 120, 121, 122, 123, 124, 125, 126, 127, 128, 129] (by decide +kernel) (by decide +kernel)
set_option maxRecDepth 20000 in
theorem gX12_hum_X12_productsBy : GoodIn wsX12_hum (wsV RX12 343 RX12 yX12_productsBy wsX12_productsBy) := goodIn_app (goodIn_of _ (by decide +kernel)) ggX12_hum_X12_productsBy
theorem dX12_hum_0 : decode cX12_hum 0 = .ok (.iload_n 1, 1) := by decide +kernel
theorem dX12_hum_1 : decode cX12_hum 1 = .ok (.invokestatic 142, 3) := by decide +kernel
theorem dX12_hum_4 : decode cX12_hum 4 = .ok (.ifCond .eq 15, 3) := by decide +kernel
theorem dX12_hum_7 : decode cX12_hum 7 = .ok (.iload_n 2, 1) := by decide +kernel
theorem dX12_hum_8 : decode cX12_hum 8 = .ok (.invokestatic 142, 3) := by decide +kernel
theorem dX12_hum_11 : decode cX12_hum 11 = .ok (.ifCond .eq 8, 3) := by decide +kernel
theorem dX12_hum_14 : decode cX12_hum 14 = .ok (.iload_n 1, 1) := by decide +kernel
theorem dX12_hum_15 : decode cX12_hum 15 = .ok (.iload_n 2, 1) := by decide +kernel
theorem dX12_hum_16 : decode cX12_hum 16 = .ok (.if_icmp .ne 7, 3) := by decide +kernel
theorem dX12_hum_19 : decode cX12_hum 19 = .ok (.ldc2_w 304, 3) := by decide +kernel
theorem dX12_hum_22 : decode cX12_hum 22 = .ok (.lreturn, 1) := by decide +kernel
theorem dX12_hum_23 : decode cX12_hum 23 = .ok (.aload_n 0, 1) := by decide +kernel
theorem dX12_hum_24 : decode cX12_hum 24 = .ok (.iload_n 1, 1) := by decide +kernel
theorem dX12_hum_25 : decode cX12_hum 25 = .ok (.iload_n 2, 1) := by decide +kernel
theorem dX12_hum_26 : decode cX12_hum 26 = .ok (.invokevirtual 340, 3) := by decide +kernel
theorem dX12_hum_29 : decode cX12_hum 29 = .ok (.ifCond .eq 11, 3) := by decide +kernel
theorem dX12_hum_32 : decode cX12_hum 32 = .ok (.aload_n 0, 1) := by decide +kernel
theorem dX12_hum_33 : decode cX12_hum 33 = .ok (.iconst 0, 1) := by decide +kernel
theorem dX12_hum_34 : decode cX12_hum 34 = .ok (.invokevirtual 343, 3) := by decide +kernel
theorem dX12_hum_37 : decode cX12_hum 37 = .ok (.goto 6, 3) := by decide +kernel
theorem dX12_hum_40 : decode cX12_hum 40 = .ok (.ldc2_w 306, 3) := by decide +kernel
theorem dX12_hum_43 : decode cX12_hum 43 = .ok (.lreturn, 1) := by decide +kernel
set_option maxRecDepth 20000 in
theorem ggX12_shuffled_X12_isStar : GoodIn wsX12_shuffled wsX12_isStar := goodIn_r _ [5, 6, 7, 8, 4, 9] (by decide +kernel) (by decide +kernel)
set_option maxRecDepth 20000 in
theorem gX12_shuffled_X12_isStar : GoodIn wsX12_shuffled (va_wsS RX12 142 yX12_isStar wsX12_isStar) := goodIn_app (goodIn_of _ (by decide +kernel)) ggX12_shuffled_X12_isStar
set_option maxRecDepth 20000 in
theorem ggX12_shuffled_X12_layBoth : GoodIn wsX12_shuffled wsX12_layBoth := goodIn_r _ [13, 14, 15, 1, 16, 17, 18, 19, 20, 21, 4, 22, 23, 24, 25, 26, 27, 28, 29, 30, 31, 32, 33, 34, 35, 36, 37, 38, 39, 40, 41, 42, 43, 44, 45, 46, 47, 48, 49, 50, 51, 52, 53, 54, 55, 56, 57, 58, 59, 60, 61, 62, 63, 64, 65, 66, 71, 72, 73, 74, 75, 76, 77, 78, 79, 80, 81, 82, 83, 84, 85, 86, 87, 88, 89, 90, 91, 92, 93, 94, 95, 96, 97, 98, 99, 100, 101, 102, 103, 104, 105, 106, 107, 108, 109, 110, 111, 112, 113, 114, 115, 116, 117, 118, 119, 120, 121, 122, 123, 124, 125, 126, 127] (by decide +kernel) (by decide +kernel)
set_option maxRecDepth 20000 in
theorem gX12_shuffled_X12_layBoth : GoodIn wsX12_shuffled (wsV RX12 340 RX12 yX12_layBoth wsX12_layBoth) := goodIn_app (goodIn_of _ (by decide +kernel)) ggX12_shuffled_X12_layBoth
set_option maxRecDepth 20000 in
theorem ggX12_shuffled_X12_productsBy : GoodIn wsX12_shuffled wsX12_productsBy := goodIn_r _ [70, 1, 16, 18, 71, 72, 73, 74, 75, 76, 77, 78, 79, 80, 81, 82, 83, 84, 85, 86, 87, 88, 89, 90, 91, 92, 93, 94, 95, 96, 97, 98, 99, 100, 101, 102, 103, 104, 105, 106, 107, 108, 109, 110, 111, 112, 113, 114, 115, 116, 117, 118, 119, 120, 121, 122, 123, 124, 125, 126, 127] (by decide +kernel) (by decide +kernel)
set_option maxRecDepth 20000 in
theorem gX12_shuffled_X12_productsBy : GoodIn wsX12_shuffled (wsV RX12 343 RX12 yX12_productsBy wsX12_productsBy) := goodIn_app (goodIn_of _ (by decide +kernel)) ggX12_shuffled_X12_productsBy
theorem dX12_shuffled_0 : decode cX12_shuffled 0 = .ok (.iload_n 1, 1) := by decide +kernel
theorem dX12_shuffled_1 : decode cX12_shuffled 1 = .ok (.invokestatic 142, 3) := by decide +kernel
theorem dX12_shuffled_4 : decode cX12_shuffled 4 = .ok (.ifCond .eq 15, 3) := by decide +kernel
theorem dX12_shuffled_7 : decode cX12_shuffled 7 = .ok (.iload_n 2, 1) := by decide +kernel
theorem dX12_shuffled_8 : decode cX12_shuffled 8 = .ok (.invokestatic 142, 3) := by decide +kernel
theorem dX12_shuffled_11 : decode cX12_shuffled 11 = .ok (.ifCond .eq 8, 3) := by decide +kernel
theorem dX12_shuffled_14 : decode cX12_shuffled 14 = .ok (.iload_n 1, 1) := by decide +kernel
theorem dX12_shuffled_15 : decode cX12_shuffled 15 = .ok (.iload_n 2, 1) := by decide +kernel
theorem dX12_shuffled_16 : decode cX12_shuffled 16 = .ok (.if_icmp .ne 5, 3) := by decide +kernel
theorem dX12_shuffled_19 : decode cX12_shuffled 19 = .ok (.iconst (-1), 1) := by decide +kernel
theorem dX12_shuffled_20 : decode cX12_shuffled 20 = .ok (.ireturn, 1) := by decide +kernel
theorem dX12_shuffled_21 : decode cX12_shuffled 21 = .ok (.aload_n 0, 1) := by decide +kernel
theorem dX12_shuffled_22 : decode cX12_shuffled 22 = .ok (.iload_n 1, 1) := by decide +kernel
theorem dX12_shuffled_23 : decode cX12_shuffled 23 = .ok (.iload_n 2, 1) := by decide +kernel
theorem dX12_shuffled_24 : decode cX12_shuffled 24 = .ok (.invokevirtual 340, 3) := by decide +kernel
theorem dX12_shuffled_27 : decode cX12_shuffled 27 = .ok (.ifCond .ne 6, 3) := by decide +kernel
theorem dX12_shuffled_30 : decode cX12_shuffled 30 = .ok (.bipush (-2), 2) := by decide +kernel
theorem dX12_shuffled_32 : decode cX12_shuffled 32 = .ok (.ireturn, 1) := by decide +kernel
theorem dX12_shuffled_33 : decode cX12_shuffled 33 = .ok (.iconst 1, 1) := by decide +kernel
theorem dX12_shuffled_34 : decode cX12_shuffled 34 = .ok (.istore_n 3, 1) := by decide +kernel
theorem dX12_shuffled_35 : decode cX12_shuffled 35 = .ok (.iconst 2, 1) := by decide +kernel
theorem dX12_shuffled_36 : decode cX12_shuffled 36 = .ok (.istore 4, 2) := by decide +kernel
theorem dX12_shuffled_38 : decode cX12_shuffled 38 = .ok (.iload 4, 2) := by decide +kernel
theorem dX12_shuffled_40 : decode cX12_shuffled 40 = .ok (.aload_n 0, 1) := by decide +kernel
theorem dX12_shuffled_41 : decode cX12_shuffled 41 = .ok (.getfield 337, 3) := by decide +kernel
theorem dX12_shuffled_44 : decode cX12_shuffled 44 = .ok (.if_icmp .gt 14, 3) := by decide +kernel
theorem dX12_shuffled_47 : decode cX12_shuffled 47 = .ok (.iload_n 3, 1) := by decide +kernel
theorem dX12_shuffled_48 : decode cX12_shuffled 48 = .ok (.iload 4, 2) := by decide +kernel
theorem dX12_shuffled_50 : decode cX12_shuffled 50 = .ok (.imul, 1) := by decide +kernel
theorem dX12_shuffled_51 : decode cX12_shuffled 51 = .ok (.istore_n 3, 1) := by decide +kernel
theorem dX12_shuffled_52 : decode cX12_shuffled 52 = .ok (.iinc 4 1, 3) := by decide +kernel
theorem dX12_shuffled_55 : decode cX12_shuffled 55 = .ok (.goto (-17), 3) := by decide +kernel
theorem dX12_shuffled_58 : decode cX12_shuffled 58 = .ok (.aload_n 0, 1) := by decide +kernel
theorem dX12_shuffled_59 : decode cX12_shuffled 59 = .ok (.iconst 0, 1) := by decide +kernel
theorem dX12_shuffled_60 : decode cX12_shuffled 60 = .ok (.invokevirtual 343, 3) := by decide +kernel
theorem dX12_shuffled_63 : decode cX12_shuffled 63 = .ok (.lstore 4, 2) := by decide +kernel
theorem dX12_shuffled_65 : decode cX12_shuffled 65 = .ok (.iconst 0, 1) := by decide +kernel
theorem dX12_shuffled_66 : decode cX12_shuffled 66 = .ok (.istore 6, 2) := by decide +kernel
theorem dX12_shuffled_68 : decode cX12_shuffled 68 = .ok (.iconst 0, 1) := by decide +kernel
theorem dX12_shuffled_69 : decode cX12_shuffled 69 = .ok (.istore 7, 2) := by decide +kernel
theorem dX12_shuffled_71 : decode cX12_shuffled 71 = .ok (.iload 7, 2) := by decide +kernel
theorem dX12_shuffled_73 : decode cX12_shuffled 73 = .ok (.iload_n 3, 1) := by decide +kernel
theorem dX12_shuffled_74 : decode cX12_shuffled 74 = .ok (.if_icmp .ge 31, 3) := by decide +kernel
theorem dX12_shuffled_77 : decode cX12_shuffled 77 = .ok (.iload 6, 2) := by decide +kernel
theorem dX12_shuffled_79 : decode cX12_shuffled 79 = .ok (.aload_n 0, 1) := by decide +kernel
theorem dX12_shuffled_80 : decode cX12_shuffled 80 = .ok (.iload 7, 2) := by decide +kernel
theorem dX12_shuffled_82 : decode cX12_shuffled 82 = .ok (.invokevirtual 343, 3) := by decide +kernel
theorem dX12_shuffled_85 : decode cX12_shuffled 85 = .ok (.lload 4, 2) := by decide +kernel
theorem dX12_shuffled_87 : decode cX12_shuffled 87 = .ok (.lcmp, 1) := by decide +kernel
theorem dX12_shuffled_88 : decode cX12_shuffled 88 = .ok (.ifCond .lt 7, 3) := by decide +kernel
theorem dX12_shuffled_91 : decode cX12_shuffled 91 = .ok (.iconst 1, 1) := by decide +kernel
theorem dX12_shuffled_92 : decode cX12_shuffled 92 = .ok (.goto 4, 3) := by decide +kernel
theorem dX12_shuffled_95 : decode cX12_shuffled 95 = .ok (.iconst 0, 1) := by decide +kernel
theorem dX12_shuffled_96 : decode cX12_shuffled 96 = .ok (.iadd, 1) := by decide +kernel
theorem dX12_shuffled_97 : decode cX12_shuffled 97 = .ok (.istore 6, 2) := by decide +kernel
theorem dX12_shuffled_99 : decode cX12_shuffled 99 = .ok (.iinc 7 1, 3) := by decide +kernel
theorem dX12_shuffled_102 : decode cX12_shuffled 102 = .ok (.goto (-31), 3) := by decide +kernel
theorem dX12_shuffled_105 : decode cX12_shuffled 105 = .ok (.iload 6, 2) := by decide +kernel
theorem dX12_shuffled_107 : decode cX12_shuffled 107 = .ok (.ireturn, 1) := by decide +kernel
set_option maxRecDepth 20000 in
theorem ggX12_layPairs_X12_layRest : GoodIn wsX12_layPairs wsX12_layRest := goodIn_r _ [13, 14, 3, 15, 5, 16, 17, 18, 6, 19, 20, 21, 12, 22, 23, 24, 25, 26, 27, 28, 29, 30, 31, 32, 33, 34, 35, 36, 37, 38, 39, 40, 41, 42, 43, 44, 45, 46, 47, 48, 8, 49, 4, 50, 51, 52, 53, 54, 55, 56, 57, 58, 59, 60, 61, 62, 63, 64, 65, 66, 67, 68, 69, 70, 71, 72, 73, 74, 75, 76, 77, 78, 79, 80, 81, 82, 83, 84, 85, 86, 87, 88, 89, 90, 91, 92, 93, 94, 95, 96, 97, 98, 99, 100, 101, 102, 103, 104, 105, 106, 107, 108, 109, 110, 111] (by decide +kernel) (by decide +kernel)
set_option maxRecDepth 20000 in
theorem gX12_layPairs_X12_layRest : GoodIn wsX12_layPairs (wsV RX12 261 RX12 yX12_layRest wsX12_layRest) := goodIn_app (goodIn_of _ (by decide +kernel)) ggX12_layPairs_X12_layRest
theorem dX12_layPairs_0 : decode cX12_layPairs 0 = .ok (.aload_n 0, 1) := by decide +kernel
theorem dX12_layPairs_1 : decode cX12_layPairs 1 = .ok (.iconst 0, 1) := by decide +kernel
theorem dX12_layPairs_2 : decode cX12_layPairs 2 = .ok (.putfield 346, 3) := by decide +kernel
theorem dX12_layPairs_5 : decode cX12_layPairs 5 = .ok (.iconst 0, 1) := by decide +kernel
theorem dX12_layPairs_6 : decode cX12_layPairs 6 = .ok (.istore_n 3, 1) := by decide +kernel
theorem dX12_layPairs_7 : decode cX12_layPairs 7 = .ok (.iload_n 3, 1) := by decide +kernel
theorem dX12_layPairs_8 : decode cX12_layPairs 8 = .ok (.iconst 4, 1) := by decide +kernel
theorem dX12_layPairs_9 : decode cX12_layPairs 9 = .ok (.if_icmp .ge 162, 3) := by decide +kernel
theorem dX12_layPairs_12 : decode cX12_layPairs 12 = .ok (.aload_n 0, 1) := by decide +kernel
theorem dX12_layPairs_13 : decode cX12_layPairs 13 = .ok (.iload_n 3, 1) := by decide +kernel
theorem dX12_layPairs_14 : decode cX12_layPairs 14 = .ok (.aload_n 0, 1) := by decide +kernel
theorem dX12_layPairs_15 : decode cX12_layPairs 15 = .ok (.getfield 164, 3) := by decide +kernel
theorem dX12_layPairs_18 : decode cX12_layPairs 18 = .ok (.invokevirtual 261, 3) := by decide +kernel
theorem dX12_layPairs_21 : decode cX12_layPairs 21 = .ok (.ifCond .eq 144, 3) := by decide +kernel
theorem dX12_layPairs_24 : decode cX12_layPairs 24 = .ok (.iconst 0, 1) := by decide +kernel
theorem dX12_layPairs_25 : decode cX12_layPairs 25 = .ok (.istore 4, 2) := by decide +kernel
theorem dX12_layPairs_27 : decode cX12_layPairs 27 = .ok (.iload 4, 2) := by decide +kernel
theorem dX12_layPairs_29 : decode cX12_layPairs 29 = .ok (.aload_n 0, 1) := by decide +kernel
theorem dX12_layPairs_30 : decode cX12_layPairs 30 = .ok (.getfield 167, 3) := by decide +kernel
theorem dX12_layPairs_33 : decode cX12_layPairs 33 = .ok (.aload_n 0, 1) := by decide +kernel
theorem dX12_layPairs_34 : decode cX12_layPairs 34 = .ok (.getfield 167, 3) := by decide +kernel
theorem dX12_layPairs_37 : decode cX12_layPairs 37 = .ok (.imul, 1) := by decide +kernel
theorem dX12_layPairs_38 : decode cX12_layPairs 38 = .ok (.if_icmp .ge 127, 3) := by decide +kernel
theorem dX12_layPairs_41 : decode cX12_layPairs 41 = .ok (.iload 4, 2) := by decide +kernel
theorem dX12_layPairs_43 : decode cX12_layPairs 43 = .ok (.aload_n 0, 1) := by decide +kernel
theorem dX12_layPairs_44 : decode cX12_layPairs 44 = .ok (.getfield 167, 3) := by decide +kernel
theorem dX12_layPairs_47 : decode cX12_layPairs 47 = .ok (.idiv, 1) := by decide +kernel
theorem dX12_layPairs_48 : decode cX12_layPairs 48 = .ok (.istore 5, 2) := by decide +kernel
theorem dX12_layPairs_50 : decode cX12_layPairs 50 = .ok (.iload 4, 2) := by decide +kernel
theorem dX12_layPairs_52 : decode cX12_layPairs 52 = .ok (.aload_n 0, 1) := by decide +kernel
theorem dX12_layPairs_53 : decode cX12_layPairs 53 = .ok (.getfield 167, 3) := by decide +kernel
theorem dX12_layPairs_56 : decode cX12_layPairs 56 = .ok (.irem, 1) := by decide +kernel
theorem dX12_layPairs_57 : decode cX12_layPairs 57 = .ok (.istore 6, 2) := by decide +kernel
theorem dX12_layPairs_59 : decode cX12_layPairs 59 = .ok (.iload 5, 2) := by decide +kernel
theorem dX12_layPairs_61 : decode cX12_layPairs 61 = .ok (.iload 6, 2) := by decide +kernel
theorem dX12_layPairs_63 : decode cX12_layPairs 63 = .ok (.if_icmp .eq 96, 3) := by decide +kernel
theorem dX12_layPairs_66 : decode cX12_layPairs 66 = .ok (.aload_n 0, 1) := by decide +kernel
theorem dX12_layPairs_67 : decode cX12_layPairs 67 = .ok (.getfield 19, 3) := by decide +kernel
theorem dX12_layPairs_70 : decode cX12_layPairs 70 = .ok (.aload_n 0, 1) := by decide +kernel
theorem dX12_layPairs_71 : decode cX12_layPairs 71 = .ok (.getfield 70, 3) := by decide +kernel
theorem dX12_layPairs_74 : decode cX12_layPairs 74 = .ok (.iload 5, 2) := by decide +kernel
theorem dX12_layPairs_76 : decode cX12_layPairs 76 = .ok (.iaload, 1) := by decide +kernel
theorem dX12_layPairs_77 : decode cX12_layPairs 77 = .ok (.iaload, 1) := by decide +kernel
theorem dX12_layPairs_78 : decode cX12_layPairs 78 = .ok (.iload_n 1, 1) := by decide +kernel
theorem dX12_layPairs_79 : decode cX12_layPairs 79 = .ok (.if_icmp .ne 80, 3) := by decide +kernel
theorem dX12_layPairs_82 : decode cX12_layPairs 82 = .ok (.aload_n 0, 1) := by decide +kernel
theorem dX12_layPairs_83 : decode cX12_layPairs 83 = .ok (.getfield 19, 3) := by decide +kernel
theorem dX12_layPairs_86 : decode cX12_layPairs 86 = .ok (.aload_n 0, 1) := by decide +kernel
theorem dX12_layPairs_87 : decode cX12_layPairs 87 = .ok (.getfield 70, 3) := by decide +kernel
theorem dX12_layPairs_90 : decode cX12_layPairs 90 = .ok (.iload 6, 2) := by decide +kernel
theorem dX12_layPairs_92 : decode cX12_layPairs 92 = .ok (.iaload, 1) := by decide +kernel
theorem dX12_layPairs_93 : decode cX12_layPairs 93 = .ok (.iaload, 1) := by decide +kernel
theorem dX12_layPairs_94 : decode cX12_layPairs 94 = .ok (.iload_n 2, 1) := by decide +kernel
theorem dX12_layPairs_95 : decode cX12_layPairs 95 = .ok (.if_icmp .ne 64, 3) := by decide +kernel
theorem dX12_layPairs_98 : decode cX12_layPairs 98 = .ok (.aload_n 0, 1) := by decide +kernel
theorem dX12_layPairs_99 : decode cX12_layPairs 99 = .ok (.getfield 80, 3) := by decide +kernel
theorem dX12_layPairs_102 : decode cX12_layPairs 102 = .ok (.iload 5, 2) := by decide +kernel
theorem dX12_layPairs_104 : decode cX12_layPairs 104 = .ok (.iaload, 1) := by decide +kernel
theorem dX12_layPairs_105 : decode cX12_layPairs 105 = .ok (.aload_n 0, 1) := by decide +kernel
theorem dX12_layPairs_106 : decode cX12_layPairs 106 = .ok (.getfield 80, 3) := by decide +kernel
theorem dX12_layPairs_109 : decode cX12_layPairs 109 = .ok (.iload 6, 2) := by decide +kernel
theorem dX12_layPairs_111 : decode cX12_layPairs 111 = .ok (.iaload, 1) := by decide +kernel
theorem dX12_layPairs_112 : decode cX12_layPairs 112 = .ok (.if_icmp .ne 47, 3) := by decide +kernel
theorem dX12_layPairs_115 : decode cX12_layPairs 115 = .ok (.aload_n 0, 1) := by decide +kernel
theorem dX12_layPairs_116 : decode cX12_layPairs 116 = .ok (.getfield 131, 3) := by decide +kernel
theorem dX12_layPairs_119 : decode cX12_layPairs 119 = .ok (.aload_n 0, 1) := by decide +kernel
theorem dX12_layPairs_120 : decode cX12_layPairs 120 = .ok (.getfield 346, 3) := by decide +kernel
theorem dX12_layPairs_123 : decode cX12_layPairs 123 = .ok (.aload_n 0, 1) := by decide +kernel
theorem dX12_layPairs_124 : decode cX12_layPairs 124 = .ok (.getfield 13, 3) := by decide +kernel
theorem dX12_layPairs_127 : decode cX12_layPairs 127 = .ok (.aload_n 0, 1) := by decide +kernel
theorem dX12_layPairs_128 : decode cX12_layPairs 128 = .ok (.getfield 70, 3) := by decide +kernel
theorem dX12_layPairs_131 : decode cX12_layPairs 131 = .ok (.iload 5, 2) := by decide +kernel
theorem dX12_layPairs_133 : decode cX12_layPairs 133 = .ok (.iaload, 1) := by decide +kernel
theorem dX12_layPairs_134 : decode cX12_layPairs 134 = .ok (.iaload, 1) := by decide +kernel
theorem dX12_layPairs_135 : decode cX12_layPairs 135 = .ok (.aload_n 0, 1) := by decide +kernel
theorem dX12_layPairs_136 : decode cX12_layPairs 136 = .ok (.getfield 13, 3) := by decide +kernel
theorem dX12_layPairs_139 : decode cX12_layPairs 139 = .ok (.aload_n 0, 1) := by decide +kernel
theorem dX12_layPairs_140 : decode cX12_layPairs 140 = .ok (.getfield 70, 3) := by decide +kernel
theorem dX12_layPairs_143 : decode cX12_layPairs 143 = .ok (.iload 6, 2) := by decide +kernel
theorem dX12_layPairs_145 : decode cX12_layPairs 145 = .ok (.iaload, 1) := by decide +kernel
theorem dX12_layPairs_146 : decode cX12_layPairs 146 = .ok (.iaload, 1) := by decide +kernel
theorem dX12_layPairs_147 : decode cX12_layPairs 147 = .ok (.isub, 1) := by decide +kernel
theorem dX12_layPairs_148 : decode cX12_layPairs 148 = .ok (.iastore, 1) := by decide +kernel
theorem dX12_layPairs_149 : decode cX12_layPairs 149 = .ok (.aload_n 0, 1) := by decide +kernel
theorem dX12_layPairs_150 : decode cX12_layPairs 150 = .ok (.dup, 1) := by decide +kernel
theorem dX12_layPairs_151 : decode cX12_layPairs 151 = .ok (.getfield 346, 3) := by decide +kernel
theorem dX12_layPairs_154 : decode cX12_layPairs 154 = .ok (.iconst 1, 1) := by decide +kernel
theorem dX12_layPairs_155 : decode cX12_layPairs 155 = .ok (.iadd, 1) := by decide +kernel
theorem dX12_layPairs_156 : decode cX12_layPairs 156 = .ok (.putfield 346, 3) := by decide +kernel
theorem dX12_layPairs_159 : decode cX12_layPairs 159 = .ok (.iinc 4 1, 3) := by decide +kernel
theorem dX12_layPairs_162 : decode cX12_layPairs 162 = .ok (.goto (-135), 3) := by decide +kernel
theorem dX12_layPairs_165 : decode cX12_layPairs 165 = .ok (.iinc 3 1, 3) := by decide +kernel
theorem dX12_layPairs_168 : decode cX12_layPairs 168 = .ok (.goto (-161), 3) := by decide +kernel
theorem dX12_layPairs_171 : decode cX12_layPairs 171 = .ok (.return_, 1) := by decide +kernel
theorem dX12_middle_0 : decode cX12_middle 0 = .ok (.iconst 0, 1) := by decide +kernel
theorem dX12_middle_1 : decode cX12_middle 1 = .ok (.istore_n 1, 1) := by decide +kernel
theorem dX12_middle_2 : decode cX12_middle 2 = .ok (.iconst 0, 1) := by decide +kernel
theorem dX12_middle_3 : decode cX12_middle 3 = .ok (.istore_n 2, 1) := by decide +kernel
theorem dX12_middle_4 : decode cX12_middle 4 = .ok (.iload_n 2, 1) := by decide +kernel
theorem dX12_middle_5 : decode cX12_middle 5 = .ok (.aload_n 0, 1) := by decide +kernel
theorem dX12_middle_6 : decode cX12_middle 6 = .ok (.getfield 346, 3) := by decide +kernel
theorem dX12_middle_9 : decode cX12_middle 9 = .ok (.if_icmp .ge 120, 3) := by decide +kernel
theorem dX12_middle_12 : decode cX12_middle 12 = .ok (.iconst 0, 1) := by decide +kernel
theorem dX12_middle_13 : decode cX12_middle 13 = .ok (.istore_n 3, 1) := by decide +kernel
theorem dX12_middle_14 : decode cX12_middle 14 = .ok (.iconst 0, 1) := by decide +kernel
theorem dX12_middle_15 : decode cX12_middle 15 = .ok (.istore 4, 2) := by decide +kernel
theorem dX12_middle_17 : decode cX12_middle 17 = .ok (.iconst 0, 1) := by decide +kernel
theorem dX12_middle_18 : decode cX12_middle 18 = .ok (.istore 5, 2) := by decide +kernel
theorem dX12_middle_20 : decode cX12_middle 20 = .ok (.iload 5, 2) := by decide +kernel
theorem dX12_middle_22 : decode cX12_middle 22 = .ok (.aload_n 0, 1) := by decide +kernel
theorem dX12_middle_23 : decode cX12_middle 23 = .ok (.getfield 346, 3) := by decide +kernel
theorem dX12_middle_26 : decode cX12_middle 26 = .ok (.if_icmp .ge 59, 3) := by decide +kernel
theorem dX12_middle_29 : decode cX12_middle 29 = .ok (.iload_n 3, 1) := by decide +kernel
theorem dX12_middle_30 : decode cX12_middle 30 = .ok (.aload_n 0, 1) := by decide +kernel
theorem dX12_middle_31 : decode cX12_middle 31 = .ok (.getfield 131, 3) := by decide +kernel
theorem dX12_middle_34 : decode cX12_middle 34 = .ok (.iload 5, 2) := by decide +kernel
theorem dX12_middle_36 : decode cX12_middle 36 = .ok (.iaload, 1) := by decide +kernel
theorem dX12_middle_37 : decode cX12_middle 37 = .ok (.aload_n 0, 1) := by decide +kernel
theorem dX12_middle_38 : decode cX12_middle 38 = .ok (.getfield 131, 3) := by decide +kernel
theorem dX12_middle_41 : decode cX12_middle 41 = .ok (.iload_n 2, 1) := by decide +kernel
theorem dX12_middle_42 : decode cX12_middle 42 = .ok (.iaload, 1) := by decide +kernel
theorem dX12_middle_43 : decode cX12_middle 43 = .ok (.if_icmp .ge 7, 3) := by decide +kernel
theorem dX12_middle_46 : decode cX12_middle 46 = .ok (.iconst 1, 1) := by decide +kernel
theorem dX12_middle_47 : decode cX12_middle 47 = .ok (.goto 4, 3) := by decide +kernel
theorem dX12_middle_50 : decode cX12_middle 50 = .ok (.iconst 0, 1) := by decide +kernel
theorem dX12_middle_51 : decode cX12_middle 51 = .ok (.iadd, 1) := by decide +kernel
theorem dX12_middle_52 : decode cX12_middle 52 = .ok (.istore_n 3, 1) := by decide +kernel
theorem dX12_middle_53 : decode cX12_middle 53 = .ok (.iload 4, 2) := by decide +kernel
theorem dX12_middle_55 : decode cX12_middle 55 = .ok (.aload_n 0, 1) := by decide +kernel
theorem dX12_middle_56 : decode cX12_middle 56 = .ok (.getfield 131, 3) := by decide +kernel
theorem dX12_middle_59 : decode cX12_middle 59 = .ok (.iload 5, 2) := by decide +kernel
theorem dX12_middle_61 : decode cX12_middle 61 = .ok (.iaload, 1) := by decide +kernel
theorem dX12_middle_62 : decode cX12_middle 62 = .ok (.aload_n 0, 1) := by decide +kernel
theorem dX12_middle_63 : decode cX12_middle 63 = .ok (.getfield 131, 3) := by decide +kernel
theorem dX12_middle_66 : decode cX12_middle 66 = .ok (.iload_n 2, 1) := by decide +kernel
theorem dX12_middle_67 : decode cX12_middle 67 = .ok (.iaload, 1) := by decide +kernel
theorem dX12_middle_68 : decode cX12_middle 68 = .ok (.if_icmp .ne 7, 3) := by decide +kernel
theorem dX12_middle_71 : decode cX12_middle 71 = .ok (.iconst 1, 1) := by decide +kernel
theorem dX12_middle_72 : decode cX12_middle 72 = .ok (.goto 4, 3) := by decide +kernel
theorem dX12_middle_75 : decode cX12_middle 75 = .ok (.iconst 0, 1) := by decide +kernel
theorem dX12_middle_76 : decode cX12_middle 76 = .ok (.iadd, 1) := by decide +kernel
theorem dX12_middle_77 : decode cX12_middle 77 = .ok (.istore 4, 2) := by decide +kernel
theorem dX12_middle_79 : decode cX12_middle 79 = .ok (.iinc 5 1, 3) := by decide +kernel
theorem dX12_middle_82 : decode cX12_middle 82 = .ok (.goto (-62), 3) := by decide +kernel
theorem dX12_middle_85 : decode cX12_middle 85 = .ok (.iload_n 3, 1) := by decide +kernel
theorem dX12_middle_86 : decode cX12_middle 86 = .ok (.aload_n 0, 1) := by decide +kernel
theorem dX12_middle_87 : decode cX12_middle 87 = .ok (.getfield 346, 3) := by decide +kernel
theorem dX12_middle_90 : decode cX12_middle 90 = .ok (.iconst 1, 1) := by decide +kernel
theorem dX12_middle_91 : decode cX12_middle 91 = .ok (.isub, 1) := by decide +kernel
theorem dX12_middle_92 : decode cX12_middle 92 = .ok (.iconst 2, 1) := by decide +kernel
theorem dX12_middle_93 : decode cX12_middle 93 = .ok (.idiv, 1) := by decide +kernel
theorem dX12_middle_94 : decode cX12_middle 94 = .ok (.if_icmp .gt 27, 3) := by decide +kernel
theorem dX12_middle_97 : decode cX12_middle 97 = .ok (.iload_n 3, 1) := by decide +kernel
theorem dX12_middle_98 : decode cX12_middle 98 = .ok (.iload 4, 2) := by decide +kernel
theorem dX12_middle_100 : decode cX12_middle 100 = .ok (.iadd, 1) := by decide +kernel
theorem dX12_middle_101 : decode cX12_middle 101 = .ok (.aload_n 0, 1) := by decide +kernel
theorem dX12_middle_102 : decode cX12_middle 102 = .ok (.getfield 346, 3) := by decide +kernel
theorem dX12_middle_105 : decode cX12_middle 105 = .ok (.iconst 1, 1) := by decide +kernel
theorem dX12_middle_106 : decode cX12_middle 106 = .ok (.isub, 1) := by decide +kernel
theorem dX12_middle_107 : decode cX12_middle 107 = .ok (.iconst 2, 1) := by decide +kernel
theorem dX12_middle_108 : decode cX12_middle 108 = .ok (.idiv, 1) := by decide +kernel
theorem dX12_middle_109 : decode cX12_middle 109 = .ok (.if_icmp .le 12, 3) := by decide +kernel
theorem dX12_middle_112 : decode cX12_middle 112 = .ok (.aload_n 0, 1) := by decide +kernel
theorem dX12_middle_113 : decode cX12_middle 113 = .ok (.getfield 131, 3) := by decide +kernel
theorem dX12_middle_116 : decode cX12_middle 116 = .ok (.iload_n 2, 1) := by decide +kernel
theorem dX12_middle_117 : decode cX12_middle 117 = .ok (.iaload, 1) := by decide +kernel
theorem dX12_middle_118 : decode cX12_middle 118 = .ok (.goto 4, 3) := by decide +kernel
theorem dX12_middle_121 : decode cX12_middle 121 = .ok (.iload_n 1, 1) := by decide +kernel
theorem dX12_middle_122 : decode cX12_middle 122 = .ok (.istore_n 1, 1) := by decide +kernel
theorem dX12_middle_123 : decode cX12_middle 123 = .ok (.iinc 2 1, 3) := by decide +kernel
theorem dX12_middle_126 : decode cX12_middle 126 = .ok (.goto (-122), 3) := by decide +kernel
theorem dX12_middle_129 : decode cX12_middle 129 = .ok (.iload_n 1, 1) := by decide +kernel
theorem dX12_middle_130 : decode cX12_middle 130 = .ok (.ireturn, 1) := by decide +kernel
set_option maxRecDepth 20000 in
theorem ggX12_between_X12_isTool : GoodIn wsX12_between wsX12_isTool := goodIn_r _ [7, 8, 9, 10, 6, 11] (by decide +kernel) (by decide +kernel)
set_option maxRecDepth 20000 in
theorem gX12_between_X12_isTool : GoodIn wsX12_between (va_wsS RX12 150 yX12_isTool wsX12_isTool) := goodIn_app (goodIn_of _ (by decide +kernel)) ggX12_between_X12_isTool
set_option maxRecDepth 20000 in
theorem ggX12_between_X12_layPairs : GoodIn wsX12_between wsX12_layPairs := goodIn_r _ [15, 2, 16, 17, 18, 19, 20, 21, 22, 23, 24, 25, 6, 26, 27, 28, 29, 30, 31, 32, 33, 34, 35, 36, 37, 38, 39, 40, 41, 42, 43, 44, 45, 46, 47, 48, 49, 50, 51, 52, 53, 54, 55, 56, 57, 58, 59, 60, 61, 62, 63, 64, 65, 66, 67, 72, 73, 74, 75, 76, 77, 78, 79, 80, 81, 82, 83, 84, 85, 86, 87, 88, 89, 90, 91, 92, 93, 94, 95, 96, 97, 98, 99, 100, 101, 102, 103, 104, 105, 106, 107, 108, 109, 110, 111, 112, 113, 114, 115, 116, 117, 118, 119, 120, 121, 122, 123, 124, 125, 126, 127, 128] (by decide +kernel) (by decide +kernel)
set_option maxRecDepth 20000 in
theorem gX12_between_X12_layPairs : GoodIn wsX12_between (wsV RX12 350 RX12 yX12_layPairs wsX12_layPairs) := goodIn_app (goodIn_of _ (by decide +kernel)) ggX12_between_X12_layPairs
set_option maxRecDepth 20000 in
theorem ggX12_between_X12_middle : GoodIn wsX12_between wsX12_middle := goodIn_r _ [71, 2, 21, 72, 73, 74, 75, 76, 77, 78, 79, 80, 81, 82, 83, 84, 85, 86, 87, 88, 89, 90, 91, 92, 93, 94, 95, 96, 97, 98, 99, 100, 101, 102, 103, 104, 105, 106, 107, 108, 109, 110, 111, 112, 113, 114, 115, 116, 117, 118, 119, 120, 121, 122, 123, 124, 125, 126, 127, 128] (by decide +kernel) (by decide +kernel)
set_option maxRecDepth 20000 in
theorem gX12_between_X12_middle : GoodIn wsX12_between (wsV RX12 355 RX12 yX12_middle wsX12_middle) := goodIn_app (goodIn_of _ (by decide +kernel)) ggX12_between_X12_middle
theorem dX12_between_0 : decode cX12_between 0 = .ok (.iload_n 1, 1) := by decide +kernel
theorem dX12_between_1 : decode cX12_between 1 = .ok (.invokestatic 150, 3) := by decide +kernel
theorem dX12_between_4 : decode cX12_between 4 = .ok (.ifCond .eq 15, 3) := by decide +kernel
theorem dX12_between_7 : decode cX12_between 7 = .ok (.iload_n 2, 1) := by decide +kernel
theorem dX12_between_8 : decode cX12_between 8 = .ok (.invokestatic 150, 3) := by decide +kernel
theorem dX12_between_11 : decode cX12_between 11 = .ok (.ifCond .eq 8, 3) := by decide +kernel
theorem dX12_between_14 : decode cX12_between 14 = .ok (.iload_n 1, 1) := by decide +kernel
theorem dX12_between_15 : decode cX12_between 15 = .ok (.iload_n 2, 1) := by decide +kernel
theorem dX12_between_16 : decode cX12_between 16 = .ok (.if_icmp .ne 7, 3) := by decide +kernel
theorem dX12_between_19 : decode cX12_between 19 = .ok (.ldc_w 349, 3) := by decide +kernel
theorem dX12_between_22 : decode cX12_between 22 = .ok (.ireturn, 1) := by decide +kernel
theorem dX12_between_23 : decode cX12_between 23 = .ok (.aload_n 0, 1) := by decide +kernel
theorem dX12_between_24 : decode cX12_between 24 = .ok (.iload_n 1, 1) := by decide +kernel
theorem dX12_between_25 : decode cX12_between 25 = .ok (.iload_n 2, 1) := by decide +kernel
theorem dX12_between_26 : decode cX12_between 26 = .ok (.invokevirtual 350, 3) := by decide +kernel
theorem dX12_between_29 : decode cX12_between 29 = .ok (.aload_n 0, 1) := by decide +kernel
theorem dX12_between_30 : decode cX12_between 30 = .ok (.getfield 346, 3) := by decide +kernel
theorem dX12_between_33 : decode cX12_between 33 = .ok (.ifCond .ne 9, 3) := by decide +kernel
theorem dX12_between_36 : decode cX12_between 36 = .ok (.ldc_w 354, 3) := by decide +kernel
theorem dX12_between_39 : decode cX12_between 39 = .ok (.goto 7, 3) := by decide +kernel
theorem dX12_between_42 : decode cX12_between 42 = .ok (.aload_n 0, 1) := by decide +kernel
theorem dX12_between_43 : decode cX12_between 43 = .ok (.invokevirtual 355, 3) := by decide +kernel
theorem dX12_between_46 : decode cX12_between 46 = .ok (.ireturn, 1) := by decide +kernel
set_option maxRecDepth 20000 in
theorem ggX12_loop_X12_isTool : GoodIn wsX12_loop wsX12_isTool := goodIn_r _ [6, 7, 8, 9, 5, 10] (by decide +kernel) (by decide +kernel)
set_option maxRecDepth 20000 in
theorem gX12_loop_X12_isTool : GoodIn wsX12_loop (va_wsS RX12 150 yX12_isTool wsX12_isTool) := goodIn_app (goodIn_of _ (by decide +kernel)) ggX12_loop_X12_isTool
set_option maxRecDepth 20000 in
theorem ggX12_loop_X12_between : GoodIn wsX12_loop wsX12_between := goodIn_r _ [14, 1, 15, 2, 3, 4, 5, 6, 7, 8, 9, 10, 16, 17, 18, 19, 20, 21, 22, 23, 24, 25, 26, 27, 28, 29, 30, 31, 32, 33, 34, 35, 36, 37, 38, 39, 40, 41, 42, 43, 44, 45, 46, 47, 48, 49, 50, 51, 52, 53, 54, 55, 56, 57, 58, 59, 60, 61, 62, 63, 64, 65, 66, 67, 68, 69, 70, 71, 72, 73, 74, 75, 76, 77, 78, 79, 80, 81, 82, 83, 84, 85, 86, 87, 88, 89, 90, 91, 92, 93, 94, 95, 96, 97, 98, 99, 100, 101, 102, 103, 104, 105, 106, 107, 108, 109, 110, 111, 112, 113, 114, 115, 116, 117, 118, 119, 120, 121, 122, 123, 124, 125, 126, 127, 128, 129, 130, 131, 132] (by decide +kernel) (by decide +kernel)
set_option maxRecDepth 20000 in
theorem gX12_loop_X12_between : GoodIn wsX12_loop (wsV RX12 358 RX12 yX12_between wsX12_between) := goodIn_app (goodIn_of _ (by decide +kernel)) ggX12_loop_X12_between
theorem dX12_loop_0 : decode cX12_loop 0 = .ok (.iload_n 1, 1) := by decide +kernel
theorem dX12_loop_1 : decode cX12_loop 1 = .ok (.invokestatic 150, 3) := by decide +kernel
theorem dX12_loop_4 : decode cX12_loop 4 = .ok (.ifCond .eq 32, 3) := by decide +kernel
theorem dX12_loop_7 : decode cX12_loop 7 = .ok (.iload_n 2, 1) := by decide +kernel
theorem dX12_loop_8 : decode cX12_loop 8 = .ok (.invokestatic 150, 3) := by decide +kernel
theorem dX12_loop_11 : decode cX12_loop 11 = .ok (.ifCond .eq 25, 3) := by decide +kernel
theorem dX12_loop_14 : decode cX12_loop 14 = .ok (.iload_n 3, 1) := by decide +kernel
theorem dX12_loop_15 : decode cX12_loop 15 = .ok (.invokestatic 150, 3) := by decide +kernel
theorem dX12_loop_18 : decode cX12_loop 18 = .ok (.ifCond .eq 18, 3) := by decide +kernel
theorem dX12_loop_21 : decode cX12_loop 21 = .ok (.iload_n 1, 1) := by decide +kernel
theorem dX12_loop_22 : decode cX12_loop 22 = .ok (.iload_n 2, 1) := by decide +kernel
theorem dX12_loop_23 : decode cX12_loop 23 = .ok (.if_icmp .eq 13, 3) := by decide +kernel
theorem dX12_loop_26 : decode cX12_loop 26 = .ok (.iload_n 2, 1) := by decide +kernel
theorem dX12_loop_27 : decode cX12_loop 27 = .ok (.iload_n 3, 1) := by decide +kernel
theorem dX12_loop_28 : decode cX12_loop 28 = .ok (.if_icmp .eq 8, 3) := by decide +kernel
theorem dX12_loop_31 : decode cX12_loop 31 = .ok (.iload_n 1, 1) := by decide +kernel
theorem dX12_loop_32 : decode cX12_loop 32 = .ok (.iload_n 3, 1) := by decide +kernel
theorem dX12_loop_33 : decode cX12_loop 33 = .ok (.if_icmp .ne 7, 3) := by decide +kernel
theorem dX12_loop_36 : decode cX12_loop 36 = .ok (.ldc_w 349, 3) := by decide +kernel
theorem dX12_loop_39 : decode cX12_loop 39 = .ok (.ireturn, 1) := by decide +kernel
theorem dX12_loop_40 : decode cX12_loop 40 = .ok (.aload_n 0, 1) := by decide +kernel
theorem dX12_loop_41 : decode cX12_loop 41 = .ok (.iload_n 1, 1) := by decide +kernel
theorem dX12_loop_42 : decode cX12_loop 42 = .ok (.iload_n 2, 1) := by decide +kernel
theorem dX12_loop_43 : decode cX12_loop 43 = .ok (.invokevirtual 358, 3) := by decide +kernel
theorem dX12_loop_46 : decode cX12_loop 46 = .ok (.istore 4, 2) := by decide +kernel
theorem dX12_loop_48 : decode cX12_loop 48 = .ok (.aload_n 0, 1) := by decide +kernel
theorem dX12_loop_49 : decode cX12_loop 49 = .ok (.iload_n 2, 1) := by decide +kernel
theorem dX12_loop_50 : decode cX12_loop 50 = .ok (.iload_n 3, 1) := by decide +kernel
theorem dX12_loop_51 : decode cX12_loop 51 = .ok (.invokevirtual 358, 3) := by decide +kernel
theorem dX12_loop_54 : decode cX12_loop 54 = .ok (.istore 5, 2) := by decide +kernel
theorem dX12_loop_56 : decode cX12_loop 56 = .ok (.aload_n 0, 1) := by decide +kernel
theorem dX12_loop_57 : decode cX12_loop 57 = .ok (.iload_n 1, 1) := by decide +kernel
theorem dX12_loop_58 : decode cX12_loop 58 = .ok (.iload_n 3, 1) := by decide +kernel
theorem dX12_loop_59 : decode cX12_loop 59 = .ok (.invokevirtual 358, 3) := by decide +kernel
theorem dX12_loop_62 : decode cX12_loop 62 = .ok (.istore 6, 2) := by decide +kernel
theorem dX12_loop_64 : decode cX12_loop 64 = .ok (.iload 4, 2) := by decide +kernel
theorem dX12_loop_66 : decode cX12_loop 66 = .ok (.ldc_w 354, 3) := by decide +kernel
theorem dX12_loop_69 : decode cX12_loop 69 = .ok (.if_icmp .eq 19, 3) := by decide +kernel
theorem dX12_loop_72 : decode cX12_loop 72 = .ok (.iload 5, 2) := by decide +kernel
theorem dX12_loop_74 : decode cX12_loop 74 = .ok (.ldc_w 354, 3) := by decide +kernel
theorem dX12_loop_77 : decode cX12_loop 77 = .ok (.if_icmp .eq 11, 3) := by decide +kernel
theorem dX12_loop_80 : decode cX12_loop 80 = .ok (.iload 6, 2) := by decide +kernel
theorem dX12_loop_82 : decode cX12_loop 82 = .ok (.ldc_w 354, 3) := by decide +kernel
theorem dX12_loop_85 : decode cX12_loop 85 = .ok (.if_icmp .ne 9, 3) := by decide +kernel
theorem dX12_loop_88 : decode cX12_loop 88 = .ok (.ldc_w 354, 3) := by decide +kernel
theorem dX12_loop_91 : decode cX12_loop 91 = .ok (.goto 11, 3) := by decide +kernel
theorem dX12_loop_94 : decode cX12_loop 94 = .ok (.iload 4, 2) := by decide +kernel
theorem dX12_loop_96 : decode cX12_loop 96 = .ok (.iload 5, 2) := by decide +kernel
theorem dX12_loop_98 : decode cX12_loop 98 = .ok (.iadd, 1) := by decide +kernel
theorem dX12_loop_99 : decode cX12_loop 99 = .ok (.iload 6, 2) := by decide +kernel
theorem dX12_loop_101 : decode cX12_loop 101 = .ok (.isub, 1) := by decide +kernel
theorem dX12_loop_102 : decode cX12_loop 102 = .ok (.ireturn, 1) := by decide +kernel
set_option maxRecDepth 20000 in
theorem ggX12_moved_X12_isStar : GoodIn wsX12_moved wsX12_isStar := goodIn_r _ [9, 10, 11, 12, 8, 13] (by decide +kernel) (by decide +kernel)
set_option maxRecDepth 20000 in
theorem gX12_moved_X12_isStar : GoodIn wsX12_moved (va_wsS RX12 142 yX12_isStar wsX12_isStar) := goodIn_app (goodIn_of _ (by decide +kernel)) ggX12_moved_X12_isStar
set_option maxRecDepth 20000 in
theorem ggX12_moved_X12_layRest : GoodIn wsX12_moved wsX12_layRest := goodIn_r _ [17, 18, 3, 19, 20, 21, 22, 5, 23, 24, 25, 26, 8, 27, 28, 29, 30, 31, 32, 33, 34, 35, 36, 37, 38, 39, 40, 41, 42, 43, 44, 45, 46, 47, 48, 49, 50, 51, 52, 53, 54, 55, 56, 57, 58, 59, 60, 61, 62, 63, 64, 65, 66, 67, 68, 69, 70, 71, 72, 73, 74, 75, 76, 77, 78, 79, 80, 81, 82, 83, 84, 85, 86, 87, 88, 89, 90, 91, 92, 93, 94, 95, 96, 97, 98, 99, 100, 101, 102, 103, 104, 105, 106, 107, 108, 109, 110, 111, 112, 113, 114, 115, 116, 117, 118] (by decide +kernel) (by decide +kernel)
set_option maxRecDepth 20000 in
theorem gX12_moved_X12_layRest : GoodIn wsX12_moved (wsV RX12 261 RX12 yX12_layRest wsX12_layRest) := goodIn_app (goodIn_of _ (by decide +kernel)) ggX12_moved_X12_layRest
set_option maxRecDepth 20000 in
theorem ggX12_moved_X12_size : GoodIn wsX12_moved wsX12_size := goodIn_r _ [61] (by decide +kernel) (by decide +kernel)
set_option maxRecDepth 20000 in
theorem gX12_moved_X12_size : GoodIn wsX12_moved (va_wsS RX12 256 yX12_size wsX12_size) := goodIn_app (goodIn_of _ (by decide +kernel)) ggX12_moved_X12_size
theorem dX12_moved_0 : decode cX12_moved 0 = .ok (.iload_n 1, 1) := by decide +kernel
theorem dX12_moved_1 : decode cX12_moved 1 = .ok (.invokestatic 142, 3) := by decide +kernel
theorem dX12_moved_4 : decode cX12_moved 4 = .ok (.ifCond .ne 7, 3) := by decide +kernel
theorem dX12_moved_7 : decode cX12_moved 7 = .ok (.ldc2_w 249, 3) := by decide +kernel
theorem dX12_moved_10 : decode cX12_moved 10 = .ok (.lreturn, 1) := by decide +kernel
theorem dX12_moved_11 : decode cX12_moved 11 = .ok (.aload_n 0, 1) := by decide +kernel
theorem dX12_moved_12 : decode cX12_moved 12 = .ok (.iload_n 1, 1) := by decide +kernel
theorem dX12_moved_13 : decode cX12_moved 13 = .ok (.iconst 0, 1) := by decide +kernel
theorem dX12_moved_14 : decode cX12_moved 14 = .ok (.invokevirtual 261, 3) := by decide +kernel
theorem dX12_moved_17 : decode cX12_moved 17 = .ok (.ifCond .ne 7, 3) := by decide +kernel
theorem dX12_moved_20 : decode cX12_moved 20 = .ok (.ldc2_w 251, 3) := by decide +kernel
theorem dX12_moved_23 : decode cX12_moved 23 = .ok (.lreturn, 1) := by decide +kernel
theorem dX12_moved_24 : decode cX12_moved 24 = .ok (.iconst 0, 1) := by decide +kernel
theorem dX12_moved_25 : decode cX12_moved 25 = .ok (.istore_n 2, 1) := by decide +kernel
theorem dX12_moved_26 : decode cX12_moved 26 = .ok (.iload_n 2, 1) := by decide +kernel
theorem dX12_moved_27 : decode cX12_moved 27 = .ok (.aload_n 0, 1) := by decide +kernel
theorem dX12_moved_28 : decode cX12_moved 28 = .ok (.getfield 167, 3) := by decide +kernel
theorem dX12_moved_31 : decode cX12_moved 31 = .ok (.if_icmp .ge 22, 3) := by decide +kernel
theorem dX12_moved_34 : decode cX12_moved 34 = .ok (.aload_n 0, 1) := by decide +kernel
theorem dX12_moved_35 : decode cX12_moved 35 = .ok (.getfield 122, 3) := by decide +kernel
theorem dX12_moved_38 : decode cX12_moved 38 = .ok (.iload_n 2, 1) := by decide +kernel
theorem dX12_moved_39 : decode cX12_moved 39 = .ok (.aload_n 0, 1) := by decide +kernel
theorem dX12_moved_40 : decode cX12_moved 40 = .ok (.getfield 77, 3) := by decide +kernel
theorem dX12_moved_43 : decode cX12_moved 43 = .ok (.iload_n 2, 1) := by decide +kernel
theorem dX12_moved_44 : decode cX12_moved 44 = .ok (.iaload, 1) := by decide +kernel
theorem dX12_moved_45 : decode cX12_moved 45 = .ok (.i2l, 1) := by decide +kernel
theorem dX12_moved_46 : decode cX12_moved 46 = .ok (.lastore, 1) := by decide +kernel
theorem dX12_moved_47 : decode cX12_moved 47 = .ok (.iinc 2 1, 3) := by decide +kernel
theorem dX12_moved_50 : decode cX12_moved 50 = .ok (.goto (-24), 3) := by decide +kernel
theorem dX12_moved_53 : decode cX12_moved 53 = .ok (.aload_n 0, 1) := by decide +kernel
theorem dX12_moved_54 : decode cX12_moved 54 = .ok (.iload_n 1, 1) := by decide +kernel
theorem dX12_moved_55 : decode cX12_moved 55 = .ok (.iconst 1, 1) := by decide +kernel
theorem dX12_moved_56 : decode cX12_moved 56 = .ok (.invokevirtual 261, 3) := by decide +kernel
theorem dX12_moved_59 : decode cX12_moved 59 = .ok (.pop, 1) := by decide +kernel
theorem dX12_moved_60 : decode cX12_moved 60 = .ok (.lconst 0, 1) := by decide +kernel
theorem dX12_moved_61 : decode cX12_moved 61 = .ok (.lstore_n 2, 1) := by decide +kernel
theorem dX12_moved_62 : decode cX12_moved 62 = .ok (.iconst 0, 1) := by decide +kernel
theorem dX12_moved_63 : decode cX12_moved 63 = .ok (.istore 4, 2) := by decide +kernel
theorem dX12_moved_65 : decode cX12_moved 65 = .ok (.iload 4, 2) := by decide +kernel
theorem dX12_moved_67 : decode cX12_moved 67 = .ok (.aload_n 0, 1) := by decide +kernel
theorem dX12_moved_68 : decode cX12_moved 68 = .ok (.getfield 167, 3) := by decide +kernel
theorem dX12_moved_71 : decode cX12_moved 71 = .ok (.if_icmp .ge 31, 3) := by decide +kernel
theorem dX12_moved_74 : decode cX12_moved 74 = .ok (.lload_n 2, 1) := by decide +kernel
theorem dX12_moved_75 : decode cX12_moved 75 = .ok (.aload_n 0, 1) := by decide +kernel
theorem dX12_moved_76 : decode cX12_moved 76 = .ok (.getfield 77, 3) := by decide +kernel
theorem dX12_moved_79 : decode cX12_moved 79 = .ok (.iload 4, 2) := by decide +kernel
theorem dX12_moved_81 : decode cX12_moved 81 = .ok (.iaload, 1) := by decide +kernel
theorem dX12_moved_82 : decode cX12_moved 82 = .ok (.i2l, 1) := by decide +kernel
theorem dX12_moved_83 : decode cX12_moved 83 = .ok (.aload_n 0, 1) := by decide +kernel
theorem dX12_moved_84 : decode cX12_moved 84 = .ok (.getfield 122, 3) := by decide +kernel
theorem dX12_moved_87 : decode cX12_moved 87 = .ok (.iload 4, 2) := by decide +kernel
theorem dX12_moved_89 : decode cX12_moved 89 = .ok (.laload, 1) := by decide +kernel
theorem dX12_moved_90 : decode cX12_moved 90 = .ok (.lsub, 1) := by decide +kernel
theorem dX12_moved_91 : decode cX12_moved 91 = .ok (.invokestatic 256, 3) := by decide +kernel
theorem dX12_moved_94 : decode cX12_moved 94 = .ok (.ladd, 1) := by decide +kernel
theorem dX12_moved_95 : decode cX12_moved 95 = .ok (.lstore_n 2, 1) := by decide +kernel
theorem dX12_moved_96 : decode cX12_moved 96 = .ok (.iinc 4 1, 3) := by decide +kernel
theorem dX12_moved_99 : decode cX12_moved 99 = .ok (.goto (-34), 3) := by decide +kernel
theorem dX12_moved_102 : decode cX12_moved 102 = .ok (.lload_n 2, 1) := by decide +kernel
theorem dX12_moved_103 : decode cX12_moved 103 = .ok (.lreturn, 1) := by decide +kernel
set_option maxRecDepth 20000 in
theorem ggX12_alarm_X12_isStar : GoodIn wsX12_alarm wsX12_isStar := goodIn_r _ [11, 4, 12, 13, 10, 14] (by decide +kernel) (by decide +kernel)
set_option maxRecDepth 20000 in
theorem gX12_alarm_X12_isStar : GoodIn wsX12_alarm (va_wsS RX12 142 yX12_isStar wsX12_isStar) := goodIn_app (goodIn_of _ (by decide +kernel)) ggX12_alarm_X12_isStar
set_option maxRecDepth 20000 in
theorem ggX12_alarm_X12_layRest : GoodIn wsX12_alarm wsX12_layRest := goodIn_r _ [18, 19, 2, 20, 6, 21, 22, 3, 23, 24, 25, 26, 10, 27, 28, 7, 29, 30, 31, 32, 33, 34, 35, 36, 37, 38, 39, 40, 41, 42, 43, 44, 45, 46, 47, 48, 49, 50, 51, 52, 53, 54, 55, 56, 57, 58, 59, 60, 61, 62, 63, 64, 65, 66, 67, 68, 69, 70, 71, 72, 73, 74, 75, 76, 77, 78, 79, 80, 81, 82, 83, 84, 85, 86, 87, 88, 89, 90, 91, 92, 93, 94, 95, 96, 97, 98, 99, 100, 101, 102, 103, 104, 105, 106, 107, 108, 109, 110, 111, 112, 113, 114, 115, 116, 117] (by decide +kernel) (by decide +kernel)
set_option maxRecDepth 20000 in
theorem gX12_alarm_X12_layRest : GoodIn wsX12_alarm (wsV RX12 261 RX12 yX12_layRest wsX12_layRest) := goodIn_app (goodIn_of _ (by decide +kernel)) ggX12_alarm_X12_layRest
set_option maxRecDepth 20000 in
theorem ggX12_alarm_X12_size : GoodIn wsX12_alarm wsX12_size := goodIn_r _ [60] (by decide +kernel) (by decide +kernel)
set_option maxRecDepth 20000 in
theorem gX12_alarm_X12_size : GoodIn wsX12_alarm (va_wsS RX12 256 yX12_size wsX12_size) := goodIn_app (goodIn_of _ (by decide +kernel)) ggX12_alarm_X12_size
theorem dX12_alarm_0 : decode cX12_alarm 0 = .ok (.iload_n 1, 1) := by decide +kernel
theorem dX12_alarm_1 : decode cX12_alarm 1 = .ok (.invokestatic 142, 3) := by decide +kernel
theorem dX12_alarm_4 : decode cX12_alarm 4 = .ok (.ifCond .ne 5, 3) := by decide +kernel
theorem dX12_alarm_7 : decode cX12_alarm 7 = .ok (.iconst (-1), 1) := by decide +kernel
theorem dX12_alarm_8 : decode cX12_alarm 8 = .ok (.ireturn, 1) := by decide +kernel
theorem dX12_alarm_9 : decode cX12_alarm 9 = .ok (.aload_n 0, 1) := by decide +kernel
theorem dX12_alarm_10 : decode cX12_alarm 10 = .ok (.iload_n 1, 1) := by decide +kernel
theorem dX12_alarm_11 : decode cX12_alarm 11 = .ok (.aload_n 0, 1) := by decide +kernel
theorem dX12_alarm_12 : decode cX12_alarm 12 = .ok (.getfield 164, 3) := by decide +kernel
theorem dX12_alarm_15 : decode cX12_alarm 15 = .ok (.invokevirtual 261, 3) := by decide +kernel
theorem dX12_alarm_18 : decode cX12_alarm 18 = .ok (.ifCond .ne 6, 3) := by decide +kernel
theorem dX12_alarm_21 : decode cX12_alarm 21 = .ok (.bipush (-2), 2) := by decide +kernel
theorem dX12_alarm_23 : decode cX12_alarm 23 = .ok (.ireturn, 1) := by decide +kernel
theorem dX12_alarm_24 : decode cX12_alarm 24 = .ok (.bipush (-4), 2) := by decide +kernel
theorem dX12_alarm_26 : decode cX12_alarm 26 = .ok (.istore_n 2, 1) := by decide +kernel
theorem dX12_alarm_27 : decode cX12_alarm 27 = .ok (.iconst 0, 1) := by decide +kernel
theorem dX12_alarm_28 : decode cX12_alarm 28 = .ok (.istore_n 3, 1) := by decide +kernel
theorem dX12_alarm_29 : decode cX12_alarm 29 = .ok (.iload_n 3, 1) := by decide +kernel
theorem dX12_alarm_30 : decode cX12_alarm 30 = .ok (.aload_n 0, 1) := by decide +kernel
theorem dX12_alarm_31 : decode cX12_alarm 31 = .ok (.getfield 167, 3) := by decide +kernel
theorem dX12_alarm_34 : decode cX12_alarm 34 = .ok (.if_icmp .ge 88, 3) := by decide +kernel
theorem dX12_alarm_37 : decode cX12_alarm 37 = .ok (.aload_n 0, 1) := by decide +kernel
theorem dX12_alarm_38 : decode cX12_alarm 38 = .ok (.getfield 77, 3) := by decide +kernel
theorem dX12_alarm_41 : decode cX12_alarm 41 = .ok (.iload_n 3, 1) := by decide +kernel
theorem dX12_alarm_42 : decode cX12_alarm 42 = .ok (.iaload, 1) := by decide +kernel
theorem dX12_alarm_43 : decode cX12_alarm 43 = .ok (.i2l, 1) := by decide +kernel
theorem dX12_alarm_44 : decode cX12_alarm 44 = .ok (.invokestatic 256, 3) := by decide +kernel
theorem dX12_alarm_47 : decode cX12_alarm 47 = .ok (.ldc2_w 134, 3) := by decide +kernel
theorem dX12_alarm_50 : decode cX12_alarm 50 = .ok (.aload_n 0, 1) := by decide +kernel
theorem dX12_alarm_51 : decode cX12_alarm 51 = .ok (.getfield 16, 3) := by decide +kernel
theorem dX12_alarm_54 : decode cX12_alarm 54 = .ok (.aload_n 0, 1) := by decide +kernel
theorem dX12_alarm_55 : decode cX12_alarm 55 = .ok (.getfield 70, 3) := by decide +kernel
theorem dX12_alarm_58 : decode cX12_alarm 58 = .ok (.iload_n 3, 1) := by decide +kernel
theorem dX12_alarm_59 : decode cX12_alarm 59 = .ok (.iaload, 1) := by decide +kernel
theorem dX12_alarm_60 : decode cX12_alarm 60 = .ok (.iaload, 1) := by decide +kernel
theorem dX12_alarm_61 : decode cX12_alarm 61 = .ok (.i2l, 1) := by decide +kernel
theorem dX12_alarm_62 : decode cX12_alarm 62 = .ok (.lmul, 1) := by decide +kernel
theorem dX12_alarm_63 : decode cX12_alarm 63 = .ok (.lcmp, 1) := by decide +kernel
theorem dX12_alarm_64 : decode cX12_alarm 64 = .ok (.ifCond .le 7, 3) := by decide +kernel
theorem dX12_alarm_67 : decode cX12_alarm 67 = .ok (.iconst 1, 1) := by decide +kernel
theorem dX12_alarm_68 : decode cX12_alarm 68 = .ok (.goto 4, 3) := by decide +kernel
theorem dX12_alarm_71 : decode cX12_alarm 71 = .ok (.iconst 0, 1) := by decide +kernel
theorem dX12_alarm_72 : decode cX12_alarm 72 = .ok (.istore 4, 2) := by decide +kernel
theorem dX12_alarm_74 : decode cX12_alarm 74 = .ok (.iload 4, 2) := by decide +kernel
theorem dX12_alarm_76 : decode cX12_alarm 76 = .ok (.ifCond .eq 38, 3) := by decide +kernel
theorem dX12_alarm_79 : decode cX12_alarm 79 = .ok (.iload_n 2, 1) := by decide +kernel
theorem dX12_alarm_80 : decode cX12_alarm 80 = .ok (.bipush (-4), 2) := by decide +kernel
theorem dX12_alarm_82 : decode cX12_alarm 82 = .ok (.if_icmp .eq 28, 3) := by decide +kernel
theorem dX12_alarm_85 : decode cX12_alarm 85 = .ok (.aload_n 0, 1) := by decide +kernel
theorem dX12_alarm_86 : decode cX12_alarm 86 = .ok (.getfield 22, 3) := by decide +kernel
theorem dX12_alarm_89 : decode cX12_alarm 89 = .ok (.aload_n 0, 1) := by decide +kernel
theorem dX12_alarm_90 : decode cX12_alarm 90 = .ok (.getfield 70, 3) := by decide +kernel
theorem dX12_alarm_93 : decode cX12_alarm 93 = .ok (.iload_n 3, 1) := by decide +kernel
theorem dX12_alarm_94 : decode cX12_alarm 94 = .ok (.iaload, 1) := by decide +kernel
theorem dX12_alarm_95 : decode cX12_alarm 95 = .ok (.iaload, 1) := by decide +kernel
theorem dX12_alarm_96 : decode cX12_alarm 96 = .ok (.aload_n 0, 1) := by decide +kernel
theorem dX12_alarm_97 : decode cX12_alarm 97 = .ok (.getfield 22, 3) := by decide +kernel
theorem dX12_alarm_100 : decode cX12_alarm 100 = .ok (.aload_n 0, 1) := by decide +kernel
theorem dX12_alarm_101 : decode cX12_alarm 101 = .ok (.getfield 70, 3) := by decide +kernel
theorem dX12_alarm_104 : decode cX12_alarm 104 = .ok (.iload_n 2, 1) := by decide +kernel
theorem dX12_alarm_105 : decode cX12_alarm 105 = .ok (.iaload, 1) := by decide +kernel
theorem dX12_alarm_106 : decode cX12_alarm 106 = .ok (.iaload, 1) := by decide +kernel
theorem dX12_alarm_107 : decode cX12_alarm 107 = .ok (.if_icmp .ge 7, 3) := by decide +kernel
theorem dX12_alarm_110 : decode cX12_alarm 110 = .ok (.iload_n 3, 1) := by decide +kernel
theorem dX12_alarm_111 : decode cX12_alarm 111 = .ok (.goto 4, 3) := by decide +kernel
theorem dX12_alarm_114 : decode cX12_alarm 114 = .ok (.iload_n 2, 1) := by decide +kernel
theorem dX12_alarm_115 : decode cX12_alarm 115 = .ok (.istore_n 2, 1) := by decide +kernel
theorem dX12_alarm_116 : decode cX12_alarm 116 = .ok (.iinc 3 1, 3) := by decide +kernel
theorem dX12_alarm_119 : decode cX12_alarm 119 = .ok (.goto (-90), 3) := by decide +kernel
theorem dX12_alarm_122 : decode cX12_alarm 122 = .ok (.iload_n 2, 1) := by decide +kernel
theorem dX12_alarm_123 : decode cX12_alarm 123 = .ok (.ireturn, 1) := by decide +kernel
set_option maxRecDepth 20000 in
theorem ggX12_count_X12_layCounts : GoodIn wsX12_count wsX12_layCounts := goodIn_r _ [10, 1, 11, 12, 13, 14, 15, 16, 17, 18, 19, 20, 21, 22, 23, 24, 25, 26, 27, 28, 29, 30, 31, 32, 33, 34, 35, 36, 37, 38, 39, 40, 41, 42, 43, 44, 45, 46, 47, 48, 49, 50, 51, 52, 53, 54, 55, 56, 57, 58, 59, 60, 61, 62, 63, 64, 65, 66, 67, 68, 69, 70, 71] (by decide +kernel) (by decide +kernel)
set_option maxRecDepth 20000 in
theorem gX12_count_X12_layCounts : GoodIn wsX12_count (wsV RX12 175 RX12 yX12_layCounts wsX12_layCounts) := goodIn_app (goodIn_of _ (by decide +kernel)) ggX12_count_X12_layCounts
theorem dX12_count_0 : decode cX12_count 0 = .ok (.iconst 0, 1) := by decide +kernel
theorem dX12_count_1 : decode cX12_count 1 = .ok (.istore_n 2, 1) := by decide +kernel
theorem dX12_count_2 : decode cX12_count 2 = .ok (.iload_n 1, 1) := by decide +kernel
theorem dX12_count_3 : decode cX12_count 3 = .ok (.tableswitch 110 0 3 #[29, 56, 88, 93], 29) := by decide +kernel
theorem dX12_count_32 : decode cX12_count 32 = .ok (.iconst 0, 1) := by decide +kernel
theorem dX12_count_33 : decode cX12_count 33 = .ok (.istore_n 3, 1) := by decide +kernel
theorem dX12_count_34 : decode cX12_count 34 = .ok (.iload_n 3, 1) := by decide +kernel
theorem dX12_count_35 : decode cX12_count 35 = .ok (.iconst 4, 1) := by decide +kernel
theorem dX12_count_36 : decode cX12_count 36 = .ok (.if_icmp .ge 21, 3) := by decide +kernel
theorem dX12_count_39 : decode cX12_count 39 = .ok (.aload_n 0, 1) := by decide +kernel
theorem dX12_count_40 : decode cX12_count 40 = .ok (.iload_n 3, 1) := by decide +kernel
theorem dX12_count_41 : decode cX12_count 41 = .ok (.invokevirtual 175, 3) := by decide +kernel
theorem dX12_count_44 : decode cX12_count 44 = .ok (.iload_n 2, 1) := by decide +kernel
theorem dX12_count_45 : decode cX12_count 45 = .ok (.aload_n 0, 1) := by decide +kernel
theorem dX12_count_46 : decode cX12_count 46 = .ok (.getfield 167, 3) := by decide +kernel
theorem dX12_count_49 : decode cX12_count 49 = .ok (.iadd, 1) := by decide +kernel
theorem dX12_count_50 : decode cX12_count 50 = .ok (.istore_n 2, 1) := by decide +kernel
theorem dX12_count_51 : decode cX12_count 51 = .ok (.iinc 3 1, 3) := by decide +kernel
theorem dX12_count_54 : decode cX12_count 54 = .ok (.goto (-20), 3) := by decide +kernel
theorem dX12_count_57 : decode cX12_count 57 = .ok (.iload_n 2, 1) := by decide +kernel
theorem dX12_count_58 : decode cX12_count 58 = .ok (.ireturn, 1) := by decide +kernel
theorem dX12_count_59 : decode cX12_count 59 = .ok (.iconst 0, 1) := by decide +kernel
theorem dX12_count_60 : decode cX12_count 60 = .ok (.istore_n 3, 1) := by decide +kernel
theorem dX12_count_61 : decode cX12_count 61 = .ok (.iload_n 3, 1) := by decide +kernel
theorem dX12_count_62 : decode cX12_count 62 = .ok (.iconst 4, 1) := by decide +kernel
theorem dX12_count_63 : decode cX12_count 63 = .ok (.if_icmp .ge 26, 3) := by decide +kernel
theorem dX12_count_66 : decode cX12_count 66 = .ok (.iload_n 2, 1) := by decide +kernel
theorem dX12_count_67 : decode cX12_count 67 = .ok (.aload_n 0, 1) := by decide +kernel
theorem dX12_count_68 : decode cX12_count 68 = .ok (.getfield 36, 3) := by decide +kernel
theorem dX12_count_71 : decode cX12_count 71 = .ok (.iload_n 3, 1) := by decide +kernel
theorem dX12_count_72 : decode cX12_count 72 = .ok (.baload, 1) := by decide +kernel
theorem dX12_count_73 : decode cX12_count 73 = .ok (.ifCond .eq 7, 3) := by decide +kernel
theorem dX12_count_76 : decode cX12_count 76 = .ok (.iconst 1, 1) := by decide +kernel
theorem dX12_count_77 : decode cX12_count 77 = .ok (.goto 4, 3) := by decide +kernel
theorem dX12_count_80 : decode cX12_count 80 = .ok (.iconst 0, 1) := by decide +kernel
theorem dX12_count_81 : decode cX12_count 81 = .ok (.iadd, 1) := by decide +kernel
theorem dX12_count_82 : decode cX12_count 82 = .ok (.istore_n 2, 1) := by decide +kernel
theorem dX12_count_83 : decode cX12_count 83 = .ok (.iinc 3 1, 3) := by decide +kernel
theorem dX12_count_86 : decode cX12_count 86 = .ok (.goto (-25), 3) := by decide +kernel
theorem dX12_count_89 : decode cX12_count 89 = .ok (.iload_n 2, 1) := by decide +kernel
theorem dX12_count_90 : decode cX12_count 90 = .ok (.ireturn, 1) := by decide +kernel
theorem dX12_count_91 : decode cX12_count 91 = .ok (.aload_n 0, 1) := by decide +kernel
theorem dX12_count_92 : decode cX12_count 92 = .ok (.getfield 186, 3) := by decide +kernel
theorem dX12_count_95 : decode cX12_count 95 = .ok (.ireturn, 1) := by decide +kernel
theorem dX12_count_96 : decode cX12_count 96 = .ok (.aload_n 0, 1) := by decide +kernel
theorem dX12_count_97 : decode cX12_count 97 = .ok (.getfield 301, 3) := by decide +kernel
theorem dX12_count_100 : decode cX12_count 100 = .ok (.iconst 1, 1) := by decide +kernel
theorem dX12_count_101 : decode cX12_count 101 = .ok (.if_icmp .ne 10, 3) := by decide +kernel
theorem dX12_count_104 : decode cX12_count 104 = .ok (.aload_n 0, 1) := by decide +kernel
theorem dX12_count_105 : decode cX12_count 105 = .ok (.getfield 282, 3) := by decide +kernel
theorem dX12_count_108 : decode cX12_count 108 = .ok (.goto 4, 3) := by decide +kernel
theorem dX12_count_111 : decode cX12_count 111 = .ok (.iconst 0, 1) := by decide +kernel
theorem dX12_count_112 : decode cX12_count 112 = .ok (.ireturn, 1) := by decide +kernel
theorem dX12_count_113 : decode cX12_count 113 = .ok (.iconst (-1), 1) := by decide +kernel
theorem dX12_count_114 : decode cX12_count 114 = .ok (.ireturn, 1) := by decide +kernel
theorem dJ9_floorDiv_7cf53_0 : decode cJ9_floorDiv_7cf53 0 = .ok (.iload_n 0, 1) := by decide +kernel
theorem dJ9_floorDiv_7cf53_1 : decode cJ9_floorDiv_7cf53 1 = .ok (.iload_n 1, 1) := by decide +kernel
theorem dJ9_floorDiv_7cf53_2 : decode cJ9_floorDiv_7cf53 2 = .ok (.idiv, 1) := by decide +kernel
theorem dJ9_floorDiv_7cf53_3 : decode cJ9_floorDiv_7cf53 3 = .ok (.istore_n 2, 1) := by decide +kernel
theorem dJ9_floorDiv_7cf53_4 : decode cJ9_floorDiv_7cf53 4 = .ok (.iload_n 0, 1) := by decide +kernel
theorem dJ9_floorDiv_7cf53_5 : decode cJ9_floorDiv_7cf53 5 = .ok (.iload_n 1, 1) := by decide +kernel
theorem dJ9_floorDiv_7cf53_6 : decode cJ9_floorDiv_7cf53 6 = .ok (.ixor, 1) := by decide +kernel
theorem dJ9_floorDiv_7cf53_7 : decode cJ9_floorDiv_7cf53 7 = .ok (.ifCond .ge 14, 3) := by decide +kernel
theorem dJ9_floorDiv_7cf53_10 : decode cJ9_floorDiv_7cf53 10 = .ok (.iload_n 2, 1) := by decide +kernel
theorem dJ9_floorDiv_7cf53_11 : decode cJ9_floorDiv_7cf53 11 = .ok (.iload_n 1, 1) := by decide +kernel
theorem dJ9_floorDiv_7cf53_12 : decode cJ9_floorDiv_7cf53 12 = .ok (.imul, 1) := by decide +kernel
theorem dJ9_floorDiv_7cf53_13 : decode cJ9_floorDiv_7cf53 13 = .ok (.iload_n 0, 1) := by decide +kernel
theorem dJ9_floorDiv_7cf53_14 : decode cJ9_floorDiv_7cf53 14 = .ok (.if_icmp .eq 7, 3) := by decide +kernel
theorem dJ9_floorDiv_7cf53_17 : decode cJ9_floorDiv_7cf53 17 = .ok (.iload_n 2, 1) := by decide +kernel
theorem dJ9_floorDiv_7cf53_18 : decode cJ9_floorDiv_7cf53 18 = .ok (.iconst 1, 1) := by decide +kernel
theorem dJ9_floorDiv_7cf53_19 : decode cJ9_floorDiv_7cf53 19 = .ok (.isub, 1) := by decide +kernel
theorem dJ9_floorDiv_7cf53_20 : decode cJ9_floorDiv_7cf53 20 = .ok (.ireturn, 1) := by decide +kernel
theorem dJ9_floorDiv_7cf53_21 : decode cJ9_floorDiv_7cf53 21 = .ok (.iload_n 2, 1) := by decide +kernel
theorem dJ9_floorDiv_7cf53_22 : decode cJ9_floorDiv_7cf53 22 = .ok (.ireturn, 1) := by decide +kernel
theorem dJ9_floorDiv_f86c9_0 : decode cJ9_floorDiv_f86c9 0 = .ok (.lload_n 0, 1) := by decide +kernel
theorem dJ9_floorDiv_f86c9_1 : decode cJ9_floorDiv_f86c9 1 = .ok (.lload_n 2, 1) := by decide +kernel
theorem dJ9_floorDiv_f86c9_2 : decode cJ9_floorDiv_f86c9 2 = .ok (.ldiv, 1) := by decide +kernel
theorem dJ9_floorDiv_f86c9_3 : decode cJ9_floorDiv_f86c9 3 = .ok (.lstore 4, 2) := by decide +kernel
theorem dJ9_floorDiv_f86c9_5 : decode cJ9_floorDiv_f86c9 5 = .ok (.lload_n 0, 1) := by decide +kernel
theorem dJ9_floorDiv_f86c9_6 : decode cJ9_floorDiv_f86c9 6 = .ok (.lload_n 2, 1) := by decide +kernel
theorem dJ9_floorDiv_f86c9_7 : decode cJ9_floorDiv_f86c9 7 = .ok (.lxor, 1) := by decide +kernel
theorem dJ9_floorDiv_f86c9_8 : decode cJ9_floorDiv_f86c9 8 = .ok (.lconst 0, 1) := by decide +kernel
theorem dJ9_floorDiv_f86c9_9 : decode cJ9_floorDiv_f86c9 9 = .ok (.lcmp, 1) := by decide +kernel
theorem dJ9_floorDiv_f86c9_10 : decode cJ9_floorDiv_f86c9 10 = .ok (.ifCond .ge 17, 3) := by decide +kernel
theorem dJ9_floorDiv_f86c9_13 : decode cJ9_floorDiv_f86c9 13 = .ok (.lload 4, 2) := by decide +kernel
theorem dJ9_floorDiv_f86c9_15 : decode cJ9_floorDiv_f86c9 15 = .ok (.lload_n 2, 1) := by decide +kernel
theorem dJ9_floorDiv_f86c9_16 : decode cJ9_floorDiv_f86c9 16 = .ok (.lmul, 1) := by decide +kernel
theorem dJ9_floorDiv_f86c9_17 : decode cJ9_floorDiv_f86c9 17 = .ok (.lload_n 0, 1) := by decide +kernel
theorem dJ9_floorDiv_f86c9_18 : decode cJ9_floorDiv_f86c9 18 = .ok (.lcmp, 1) := by decide +kernel
theorem dJ9_floorDiv_f86c9_19 : decode cJ9_floorDiv_f86c9 19 = .ok (.ifCond .eq 8, 3) := by decide +kernel
theorem dJ9_floorDiv_f86c9_22 : decode cJ9_floorDiv_f86c9 22 = .ok (.lload 4, 2) := by decide +kernel
theorem dJ9_floorDiv_f86c9_24 : decode cJ9_floorDiv_f86c9 24 = .ok (.lconst 1, 1) := by decide +kernel
theorem dJ9_floorDiv_f86c9_25 : decode cJ9_floorDiv_f86c9 25 = .ok (.lsub, 1) := by decide +kernel
theorem dJ9_floorDiv_f86c9_26 : decode cJ9_floorDiv_f86c9 26 = .ok (.lreturn, 1) := by decide +kernel
theorem dJ9_floorDiv_f86c9_27 : decode cJ9_floorDiv_f86c9 27 = .ok (.lload 4, 2) := by decide +kernel
theorem dJ9_floorDiv_f86c9_29 : decode cJ9_floorDiv_f86c9 29 = .ok (.lreturn, 1) := by decide +kernel
theorem dJ9_abs_0f7a4_0 : decode cJ9_abs_0f7a4 0 = .ok (.iload_n 0, 1) := by decide +kernel
theorem dJ9_abs_0f7a4_1 : decode cJ9_abs_0f7a4 1 = .ok (.ifCond .ge 8, 3) := by decide +kernel
theorem dJ9_abs_0f7a4_4 : decode cJ9_abs_0f7a4 4 = .ok (.iload_n 0, 1) := by decide +kernel
theorem dJ9_abs_0f7a4_5 : decode cJ9_abs_0f7a4 5 = .ok (.ineg, 1) := by decide +kernel
theorem dJ9_abs_0f7a4_6 : decode cJ9_abs_0f7a4 6 = .ok (.goto 4, 3) := by decide +kernel
theorem dJ9_abs_0f7a4_9 : decode cJ9_abs_0f7a4 9 = .ok (.iload_n 0, 1) := by decide +kernel
theorem dJ9_abs_0f7a4_10 : decode cJ9_abs_0f7a4 10 = .ok (.ireturn, 1) := by decide +kernel
theorem dJ9_abs_067f4_0 : decode cJ9_abs_067f4 0 = .ok (.lload_n 0, 1) := by decide +kernel
theorem dJ9_abs_067f4_1 : decode cJ9_abs_067f4 1 = .ok (.lconst 0, 1) := by decide +kernel
theorem dJ9_abs_067f4_2 : decode cJ9_abs_067f4 2 = .ok (.lcmp, 1) := by decide +kernel
theorem dJ9_abs_067f4_3 : decode cJ9_abs_067f4 3 = .ok (.ifCond .ge 8, 3) := by decide +kernel
theorem dJ9_abs_067f4_6 : decode cJ9_abs_067f4 6 = .ok (.lload_n 0, 1) := by decide +kernel
theorem dJ9_abs_067f4_7 : decode cJ9_abs_067f4 7 = .ok (.lneg, 1) := by decide +kernel
theorem dJ9_abs_067f4_8 : decode cJ9_abs_067f4 8 = .ok (.goto 4, 3) := by decide +kernel
theorem dJ9_abs_067f4_11 : decode cJ9_abs_067f4 11 = .ok (.lload_n 0, 1) := by decide +kernel
theorem dJ9_abs_067f4_12 : decode cJ9_abs_067f4 12 = .ok (.lreturn, 1) := by decide +kernel
theorem dJ9_max_f86c9_0 : decode cJ9_max_f86c9 0 = .ok (.lload_n 0, 1) := by decide +kernel
theorem dJ9_max_f86c9_1 : decode cJ9_max_f86c9 1 = .ok (.lload_n 2, 1) := by decide +kernel
theorem dJ9_max_f86c9_2 : decode cJ9_max_f86c9 2 = .ok (.lcmp, 1) := by decide +kernel
theorem dJ9_max_f86c9_3 : decode cJ9_max_f86c9 3 = .ok (.ifCond .lt 7, 3) := by decide +kernel
theorem dJ9_max_f86c9_6 : decode cJ9_max_f86c9 6 = .ok (.lload_n 0, 1) := by decide +kernel
theorem dJ9_max_f86c9_7 : decode cJ9_max_f86c9 7 = .ok (.goto 4, 3) := by decide +kernel
theorem dJ9_max_f86c9_10 : decode cJ9_max_f86c9 10 = .ok (.lload_n 2, 1) := by decide +kernel
theorem dJ9_max_f86c9_11 : decode cJ9_max_f86c9 11 = .ok (.lreturn, 1) := by decide +kernel
theorem dJ9_min_7cf53_0 : decode cJ9_min_7cf53 0 = .ok (.iload_n 0, 1) := by decide +kernel
theorem dJ9_min_7cf53_1 : decode cJ9_min_7cf53 1 = .ok (.iload_n 1, 1) := by decide +kernel
theorem dJ9_min_7cf53_2 : decode cJ9_min_7cf53 2 = .ok (.if_icmp .gt 7, 3) := by decide +kernel
theorem dJ9_min_7cf53_5 : decode cJ9_min_7cf53 5 = .ok (.iload_n 0, 1) := by decide +kernel
theorem dJ9_min_7cf53_6 : decode cJ9_min_7cf53 6 = .ok (.goto 4, 3) := by decide +kernel
theorem dJ9_min_7cf53_9 : decode cJ9_min_7cf53 9 = .ok (.iload_n 1, 1) := by decide +kernel
theorem dJ9_min_7cf53_10 : decode cJ9_min_7cf53 10 = .ok (.ireturn, 1) := by decide +kernel
abbrev vwCl : List vw_C := [(RX0, TX0, 13), (RX2, TX2, 2), (RX4, TX4, 12), (RX5, TX5, 4), (RX7, TX7, 4), (RX8, TX8, 4), (RX9, TX9, 4), (RX10, TX10, 3), (RX11, TX11, 10), (RX12, TX12, 57)]
