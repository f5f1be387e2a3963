theorem dX12_shift_33 : decode cX12_shift 33 = .ok (.ifCond .ne 6, 3) := by decide +kernel
theorem dX12_shift_36 : decode cX12_shift 36 = .ok (.ldc 157, 2) := by decide +kernel
theorem dX12_shift_38 : decode cX12_shift 38 = .ok (.ireturn, 1) := by decide +kernel
theorem dX12_shift_39 : decode cX12_shift 39 = .ok (.aload_n 0, 1) := by decide +kernel
theorem dX12_shift_40 : decode cX12_shift 40 = .ok (.getfield 28, 3) := by decide +kernel
theorem dX12_shift_43 : decode cX12_shift 43 = .ok (.bipush 11, 2) := by decide +kernel
theorem dX12_shift_45 : decode cX12_shift 45 = .ok (.iload_n 1, 1) := by decide +kernel
theorem dX12_shift_46 : decode cX12_shift 46 = .ok (.imul, 1) := by decide +kernel
theorem dX12_shift_47 : decode cX12_shift 47 = .ok (.iload_n 2, 1) := by decide +kernel
theorem dX12_shift_48 : decode cX12_shift 48 = .ok (.iadd, 1) := by decide +kernel
theorem dX12_shift_49 : decode cX12_shift 49 = .ok (.iaload, 1) := by decide +kernel
theorem dX12_shift_50 : decode cX12_shift 50 = .ok (.istore 4, 2) := by decide +kernel
theorem dX12_shift_52 : decode cX12_shift 52 = .ok (.aload_n 0, 1) := by decide +kernel
theorem dX12_shift_53 : decode cX12_shift 53 = .ok (.getfield 28, 3) := by decide +kernel
theorem dX12_shift_56 : decode cX12_shift 56 = .ok (.bipush 11, 2) := by decide +kernel
theorem dX12_shift_58 : decode cX12_shift 58 = .ok (.iload_n 1, 1) := by decide +kernel
theorem dX12_shift_59 : decode cX12_shift 59 = .ok (.imul, 1) := by decide +kernel
theorem dX12_shift_60 : decode cX12_shift 60 = .ok (.iload_n 2, 1) := by decide +kernel
theorem dX12_shift_61 : decode cX12_shift 61 = .ok (.iadd, 1) := by decide +kernel
theorem dX12_shift_62 : decode cX12_shift 62 = .ok (.iload_n 3, 1) := by decide +kernel
theorem dX12_shift_63 : decode cX12_shift 63 = .ok (.iastore, 1) := by decide +kernel
theorem dX12_shift_64 : decode cX12_shift 64 = .ok (.iload 4, 2) := by decide +kernel
theorem dX12_shift_66 : decode cX12_shift 66 = .ok (.ireturn, 1) := by decide +kernel
set_option maxRecDepth 20000 in
theorem ggX12_rule_X12_in : GoodIn wsX12_rule wsX12_in := goodIn_r _ [7] (by decide +kernel) (by decide +kernel)
set_option maxRecDepth 20000 in
theorem gX12_rule_X12_in : GoodIn wsX12_rule (va_wsS RX12 136 yX12_in wsX12_in) := goodIn_app (goodIn_of _ (by decide +kernel)) ggX12_rule_X12_in
theorem dX12_rule_0 : decode cX12_rule 0 = .ok (.iload_n 1, 1) := by decide +kernel
theorem dX12_rule_1 : decode cX12_rule 1 = .ok (.i2l, 1) := by decide +kernel
theorem dX12_rule_2 : decode cX12_rule 2 = .ok (.lconst 0, 1) := by decide +kernel
theorem dX12_rule_3 : decode cX12_rule 3 = .ok (.lconst 1, 1) := by decide +kernel
theorem dX12_rule_4 : decode cX12_rule 4 = .ok (.invokestatic 136, 3) := by decide +kernel
theorem dX12_rule_7 : decode cX12_rule 7 = .ok (.ifCond .eq 23, 3) := by decide +kernel
theorem dX12_rule_10 : decode cX12_rule 10 = .ok (.iload_n 2, 1) := by decide +kernel
theorem dX12_rule_11 : decode cX12_rule 11 = .ok (.i2l, 1) := by decide +kernel
theorem dX12_rule_12 : decode cX12_rule 12 = .ok (.lconst 0, 1) := by decide +kernel
theorem dX12_rule_13 : decode cX12_rule 13 = .ok (.iload_n 1, 1) := by decide +kernel
theorem dX12_rule_14 : decode cX12_rule 14 = .ok (.ifCond .ne 7, 3) := by decide +kernel
theorem dX12_rule_17 : decode cX12_rule 17 = .ok (.lconst 1, 1) := by decide +kernel
theorem dX12_rule_18 : decode cX12_rule 18 = .ok (.goto 6, 3) := by decide +kernel
theorem dX12_rule_21 : decode cX12_rule 21 = .ok (.ldc2_w 153, 3) := by decide +kernel
theorem dX12_rule_24 : decode cX12_rule 24 = .ok (.invokestatic 136, 3) := by decide +kernel
theorem dX12_rule_27 : decode cX12_rule 27 = .ok (.ifCond .ne 5, 3) := by decide +kernel
theorem dX12_rule_30 : decode cX12_rule 30 = .ok (.iconst (-1), 1) := by decide +kernel
theorem dX12_rule_31 : decode cX12_rule 31 = .ok (.ireturn, 1) := by decide +kernel
theorem dX12_rule_32 : decode cX12_rule 32 = .ok (.iload_n 1, 1) := by decide +kernel
theorem dX12_rule_33 : decode cX12_rule 33 = .ok (.ifCond .ne 10, 3) := by decide +kernel
theorem dX12_rule_36 : decode cX12_rule 36 = .ok (.aload_n 0, 1) := by decide +kernel
theorem dX12_rule_37 : decode cX12_rule 37 = .ok (.getfield 164, 3) := by decide +kernel
theorem dX12_rule_40 : decode cX12_rule 40 = .ok (.goto 7, 3) := by decide +kernel
theorem dX12_rule_43 : decode cX12_rule 43 = .ok (.aload_n 0, 1) := by decide +kernel
theorem dX12_rule_44 : decode cX12_rule 44 = .ok (.getfield 32, 3) := by decide +kernel
theorem dX12_rule_47 : decode cX12_rule 47 = .ok (.istore_n 3, 1) := by decide +kernel
theorem dX12_rule_48 : decode cX12_rule 48 = .ok (.aload_n 0, 1) := by decide +kernel
theorem dX12_rule_49 : decode cX12_rule 49 = .ok (.iload_n 1, 1) := by decide +kernel
theorem dX12_rule_50 : decode cX12_rule 50 = .ok (.ifCond .ne 7, 3) := by decide +kernel
theorem dX12_rule_53 : decode cX12_rule 53 = .ok (.iload_n 2, 1) := by decide +kernel
theorem dX12_rule_54 : decode cX12_rule 54 = .ok (.goto 7, 3) := by decide +kernel
theorem dX12_rule_57 : decode cX12_rule 57 = .ok (.aload_n 0, 1) := by decide +kernel
theorem dX12_rule_58 : decode cX12_rule 58 = .ok (.getfield 164, 3) := by decide +kernel
theorem dX12_rule_61 : decode cX12_rule 61 = .ok (.putfield 164, 3) := by decide +kernel
theorem dX12_rule_64 : decode cX12_rule 64 = .ok (.aload_n 0, 1) := by decide +kernel
theorem dX12_rule_65 : decode cX12_rule 65 = .ok (.iload_n 1, 1) := by decide +kernel
theorem dX12_rule_66 : decode cX12_rule 66 = .ok (.iconst 1, 1) := by decide +kernel
theorem dX12_rule_67 : decode cX12_rule 67 = .ok (.if_icmp .ne 7, 3) := by decide +kernel
theorem dX12_rule_70 : decode cX12_rule 70 = .ok (.iload_n 2, 1) := by decide +kernel
theorem dX12_rule_71 : decode cX12_rule 71 = .ok (.goto 7, 3) := by decide +kernel
theorem dX12_rule_74 : decode cX12_rule 74 = .ok (.aload_n 0, 1) := by decide +kernel
theorem dX12_rule_75 : decode cX12_rule 75 = .ok (.getfield 32, 3) := by decide +kernel
theorem dX12_rule_78 : decode cX12_rule 78 = .ok (.putfield 32, 3) := by decide +kernel
theorem dX12_rule_81 : decode cX12_rule 81 = .ok (.iload_n 3, 1) := by decide +kernel
theorem dX12_rule_82 : decode cX12_rule 82 = .ok (.ireturn, 1) := by decide +kernel
theorem dX12_layCounts_0 : decode cX12_layCounts 0 = .ok (.aload_n 0, 1) := by decide +kernel
theorem dX12_layCounts_1 : decode cX12_layCounts 1 = .ok (.iconst 0, 1) := by decide +kernel
theorem dX12_layCounts_2 : decode cX12_layCounts 2 = .ok (.putfield 167, 3) := by decide +kernel
theorem dX12_layCounts_5 : decode cX12_layCounts 5 = .ok (.bipush 24, 2) := by decide +kernel
theorem dX12_layCounts_7 : decode cX12_layCounts 7 = .ok (.iload_n 1, 1) := by decide +kernel
theorem dX12_layCounts_8 : decode cX12_layCounts 8 = .ok (.imul, 1) := by decide +kernel
theorem dX12_layCounts_9 : decode cX12_layCounts 9 = .ok (.istore_n 2, 1) := by decide +kernel
theorem dX12_layCounts_10 : decode cX12_layCounts 10 = .ok (.iload_n 2, 1) := by decide +kernel
theorem dX12_layCounts_11 : decode cX12_layCounts 11 = .ok (.bipush 24, 2) := by decide +kernel
theorem dX12_layCounts_13 : decode cX12_layCounts 13 = .ok (.iload_n 1, 1) := by decide +kernel
theorem dX12_layCounts_14 : decode cX12_layCounts 14 = .ok (.imul, 1) := by decide +kernel
theorem dX12_layCounts_15 : decode cX12_layCounts 15 = .ok (.aload_n 0, 1) := by decide +kernel
theorem dX12_layCounts_16 : decode cX12_layCounts 16 = .ok (.getfield 7, 3) := by decide +kernel
theorem dX12_layCounts_19 : decode cX12_layCounts 19 = .ok (.iload_n 1, 1) := by decide +kernel
theorem dX12_layCounts_20 : decode cX12_layCounts 20 = .ok (.iaload, 1) := by decide +kernel
theorem dX12_layCounts_21 : decode cX12_layCounts 21 = .ok (.iadd, 1) := by decide +kernel
theorem dX12_layCounts_22 : decode cX12_layCounts 22 = .ok (.if_icmp .ge 42, 3) := by decide +kernel
theorem dX12_layCounts_25 : decode cX12_layCounts 25 = .ok (.aload_n 0, 1) := by decide +kernel
theorem dX12_layCounts_26 : decode cX12_layCounts 26 = .ok (.getfield 22, 3) := by decide +kernel
theorem dX12_layCounts_29 : decode cX12_layCounts 29 = .ok (.iload_n 2, 1) := by decide +kernel
theorem dX12_layCounts_30 : decode cX12_layCounts 30 = .ok (.iaload, 1) := by decide +kernel
theorem dX12_layCounts_31 : decode cX12_layCounts 31 = .ok (.aload_n 0, 1) := by decide +kernel
theorem dX12_layCounts_32 : decode cX12_layCounts 32 = .ok (.getfield 32, 3) := by decide +kernel
theorem dX12_layCounts_35 : decode cX12_layCounts 35 = .ok (.if_icmp .gt 23, 3) := by decide +kernel
theorem dX12_layCounts_38 : decode cX12_layCounts 38 = .ok (.aload_n 0, 1) := by decide +kernel
theorem dX12_layCounts_39 : decode cX12_layCounts 39 = .ok (.getfield 70, 3) := by decide +kernel
theorem dX12_layCounts_42 : decode cX12_layCounts 42 = .ok (.aload_n 0, 1) := by decide +kernel
theorem dX12_layCounts_43 : decode cX12_layCounts 43 = .ok (.getfield 167, 3) := by decide +kernel
theorem dX12_layCounts_46 : decode cX12_layCounts 46 = .ok (.iload_n 2, 1) := by decide +kernel
theorem dX12_layCounts_47 : decode cX12_layCounts 47 = .ok (.iastore, 1) := by decide +kernel
theorem dX12_layCounts_48 : decode cX12_layCounts 48 = .ok (.aload_n 0, 1) := by decide +kernel
theorem dX12_layCounts_49 : decode cX12_layCounts 49 = .ok (.dup, 1) := by decide +kernel
theorem dX12_layCounts_50 : decode cX12_layCounts 50 = .ok (.getfield 167, 3) := by decide +kernel
theorem dX12_layCounts_53 : decode cX12_layCounts 53 = .ok (.iconst 1, 1) := by decide +kernel
theorem dX12_layCounts_54 : decode cX12_layCounts 54 = .ok (.iadd, 1) := by decide +kernel
theorem dX12_layCounts_55 : decode cX12_layCounts 55 = .ok (.putfield 167, 3) := by decide +kernel
theorem dX12_layCounts_58 : decode cX12_layCounts 58 = .ok (.iinc 2 1, 3) := by decide +kernel
theorem dX12_layCounts_61 : decode cX12_layCounts 61 = .ok (.goto (-51), 3) := by decide +kernel
theorem dX12_layCounts_64 : decode cX12_layCounts 64 = .ok (.return_, 1) := by decide +kernel
theorem dX12_corrected_0 : decode cX12_corrected 0 = .ok (.aload_n 0, 1) := by decide +kernel
theorem dX12_corrected_1 : decode cX12_corrected 1 = .ok (.getfield 13, 3) := by decide +kernel
theorem dX12_corrected_4 : decode cX12_corrected 4 = .ok (.iload_n 1, 1) := by decide +kernel
theorem dX12_corrected_5 : decode cX12_corrected 5 = .ok (.iaload, 1) := by decide +kernel
theorem dX12_corrected_6 : decode cX12_corrected 6 = .ok (.aload_n 0, 1) := by decide +kernel
theorem dX12_corrected_7 : decode cX12_corrected 7 = .ok (.getfield 25, 3) := by decide +kernel
theorem dX12_corrected_10 : decode cX12_corrected 10 = .ok (.aload_n 0, 1) := by decide +kernel
theorem dX12_corrected_11 : decode cX12_corrected 11 = .ok (.getfield 19, 3) := by decide +kernel
theorem dX12_corrected_14 : decode cX12_corrected 14 = .ok (.iload_n 1, 1) := by decide +kernel
theorem dX12_corrected_15 : decode cX12_corrected 15 = .ok (.iaload, 1) := by decide +kernel
theorem dX12_corrected_16 : decode cX12_corrected 16 = .ok (.iaload, 1) := by decide +kernel
theorem dX12_corrected_17 : decode cX12_corrected 17 = .ok (.isub, 1) := by decide +kernel
theorem dX12_corrected_18 : decode cX12_corrected 18 = .ok (.aload_n 0, 1) := by decide +kernel
theorem dX12_corrected_19 : decode cX12_corrected 19 = .ok (.getfield 28, 3) := by decide +kernel
theorem dX12_corrected_22 : decode cX12_corrected 22 = .ok (.bipush 11, 2) := by decide +kernel
theorem dX12_corrected_24 : decode cX12_corrected 24 = .ok (.iload_n 2, 1) := by decide +kernel
theorem dX12_corrected_25 : decode cX12_corrected 25 = .ok (.imul, 1) := by decide +kernel
theorem dX12_corrected_26 : decode cX12_corrected 26 = .ok (.aload_n 0, 1) := by decide +kernel
theorem dX12_corrected_27 : decode cX12_corrected 27 = .ok (.getfield 13, 3) := by decide +kernel
theorem dX12_corrected_30 : decode cX12_corrected 30 = .ok (.iload_n 1, 1) := by decide +kernel
theorem dX12_corrected_31 : decode cX12_corrected 31 = .ok (.iaload, 1) := by decide +kernel
theorem dX12_corrected_32 : decode cX12_corrected 32 = .ok (.ldc 170, 2) := by decide +kernel
theorem dX12_corrected_34 : decode cX12_corrected 34 = .ok (.idiv, 1) := by decide +kernel
theorem dX12_corrected_35 : decode cX12_corrected 35 = .ok (.iadd, 1) := by decide +kernel
theorem dX12_corrected_36 : decode cX12_corrected 36 = .ok (.iaload, 1) := by decide +kernel
theorem dX12_corrected_37 : decode cX12_corrected 37 = .ok (.iadd, 1) := by decide +kernel
theorem dX12_corrected_38 : decode cX12_corrected 38 = .ok (.ireturn, 1) := by decide +kernel
set_option maxRecDepth 20000 in
theorem ggX12_at_X12_isStar : GoodIn wsX12_at wsX12_isStar := goodIn_r _ [15, 16, 17, 18, 14, 19] (by decide +kernel) (by decide +kernel)
set_option maxRecDepth 20000 in
theorem gX12_at_X12_isStar : GoodIn wsX12_at (va_wsS RX12 142 yX12_isStar wsX12_isStar) := goodIn_app (goodIn_of _ (by decide +kernel)) ggX12_at_X12_isStar
set_option maxRecDepth 20000 in
theorem ggX12_at_X12_in : GoodIn wsX12_at wsX12_in := goodIn_r _ [19] (by decide +kernel) (by decide +kernel)
set_option maxRecDepth 20000 in
theorem gX12_at_X12_in : GoodIn wsX12_at (va_wsS RX12 136 yX12_in wsX12_in) := goodIn_app (goodIn_of _ (by decide +kernel)) ggX12_at_X12_in
set_option maxRecDepth 20000 in
theorem ggX12_at_X12_layCounts : GoodIn wsX12_at wsX12_layCounts := goodIn_r _ [23, 4, 24, 10, 25, 6, 33, 34, 35, 36, 37, 38, 39, 40, 41, 42, 43, 44, 45, 46, 47, 48, 49, 50, 51, 52, 53, 54, 55, 56, 57, 58, 59, 60, 61, 62, 63, 64, 65, 66, 67, 68, 69, 70, 71, 72, 73, 74, 75, 76, 77, 78, 79, 80, 81, 82, 83, 84, 85, 86, 87, 88, 89] (by decide +kernel) (by decide +kernel)
set_option maxRecDepth 20000 in
theorem gX12_at_X12_layCounts : GoodIn wsX12_at (wsV RX12 175 RX12 yX12_layCounts wsX12_layCounts) := goodIn_app (goodIn_of _ (by decide +kernel)) ggX12_at_X12_layCounts
set_option maxRecDepth 20000 in
theorem ggX12_at_X12_corrected : GoodIn wsX12_at wsX12_corrected := goodIn_r _ [29, 7, 30, 9, 31, 32, 33, 34, 35, 36, 37, 38, 39, 40, 41, 42, 43, 44, 45, 46, 47, 48, 49, 50, 51, 52, 53, 54, 55, 56, 57, 58, 59, 60, 61, 62, 63, 64, 65, 66, 67, 68, 69, 70, 71, 72, 73, 74, 75, 76, 77, 78, 79, 80, 81, 82, 83, 84, 85, 86, 87, 88, 89] (by decide +kernel) (by decide +kernel)
set_option maxRecDepth 20000 in
theorem gX12_at_X12_corrected : GoodIn wsX12_at (wsV RX12 180 RX12 yX12_corrected wsX12_corrected) := goodIn_app (goodIn_of _ (by decide +kernel)) ggX12_at_X12_corrected
theorem dX12_at_0 : decode cX12_at 0 = .ok (.iload_n 1, 1) := by decide +kernel
theorem dX12_at_1 : decode cX12_at 1 = .ok (.invokestatic 142, 3) := by decide +kernel
theorem dX12_at_4 : decode cX12_at 4 = .ok (.ifCond .eq 27, 3) := by decide +kernel
theorem dX12_at_7 : decode cX12_at 7 = .ok (.iload_n 2, 1) := by decide +kernel
theorem dX12_at_8 : decode cX12_at 8 = .ok (.i2l, 1) := by decide +kernel
theorem dX12_at_9 : decode cX12_at 9 = .ok (.lconst 0, 1) := by decide +kernel
theorem dX12_at_10 : decode cX12_at 10 = .ok (.ldc2_w 171, 3) := by decide +kernel
theorem dX12_at_13 : decode cX12_at 13 = .ok (.invokestatic 136, 3) := by decide +kernel
theorem dX12_at_16 : decode cX12_at 16 = .ok (.ifCond .eq 15, 3) := by decide +kernel
theorem dX12_at_19 : decode cX12_at 19 = .ok (.iload_n 3, 1) := by decide +kernel
theorem dX12_at_20 : decode cX12_at 20 = .ok (.i2l, 1) := by decide +kernel
theorem dX12_at_21 : decode cX12_at 21 = .ok (.lconst 0, 1) := by decide +kernel
theorem dX12_at_22 : decode cX12_at 22 = .ok (.ldc2_w 173, 3) := by decide +kernel
theorem dX12_at_25 : decode cX12_at 25 = .ok (.invokestatic 136, 3) := by decide +kernel
theorem dX12_at_28 : decode cX12_at 28 = .ok (.ifCond .ne 6, 3) := by decide +kernel
theorem dX12_at_31 : decode cX12_at 31 = .ok (.ldc 157, 2) := by decide +kernel
theorem dX12_at_33 : decode cX12_at 33 = .ok (.ireturn, 1) := by decide +kernel
theorem dX12_at_34 : decode cX12_at 34 = .ok (.aload_n 0, 1) := by decide +kernel
theorem dX12_at_35 : decode cX12_at 35 = .ok (.iload_n 1, 1) := by decide +kernel
theorem dX12_at_36 : decode cX12_at 36 = .ok (.invokevirtual 175, 3) := by decide +kernel
theorem dX12_at_39 : decode cX12_at 39 = .ok (.iload_n 2, 1) := by decide +kernel
theorem dX12_at_40 : decode cX12_at 40 = .ok (.aload_n 0, 1) := by decide +kernel
theorem dX12_at_41 : decode cX12_at 41 = .ok (.getfield 167, 3) := by decide +kernel
theorem dX12_at_44 : decode cX12_at 44 = .ok (.if_icmp .lt 6, 3) := by decide +kernel
theorem dX12_at_47 : decode cX12_at 47 = .ok (.ldc 179, 2) := by decide +kernel
theorem dX12_at_49 : decode cX12_at 49 = .ok (.ireturn, 1) := by decide +kernel
theorem dX12_at_50 : decode cX12_at 50 = .ok (.aload_n 0, 1) := by decide +kernel
theorem dX12_at_51 : decode cX12_at 51 = .ok (.getfield 70, 3) := by decide +kernel
theorem dX12_at_54 : decode cX12_at 54 = .ok (.iload_n 2, 1) := by decide +kernel
theorem dX12_at_55 : decode cX12_at 55 = .ok (.iaload, 1) := by decide +kernel
theorem dX12_at_56 : decode cX12_at 56 = .ok (.istore 4, 2) := by decide +kernel
theorem dX12_at_58 : decode cX12_at 58 = .ok (.iload_n 3, 1) := by decide +kernel
theorem dX12_at_59 : decode cX12_at 59 = .ok (.ifCond .ne 13, 3) := by decide +kernel
theorem dX12_at_62 : decode cX12_at 62 = .ok (.aload_n 0, 1) := by decide +kernel
theorem dX12_at_63 : decode cX12_at 63 = .ok (.getfield 13, 3) := by decide +kernel
theorem dX12_at_66 : decode cX12_at 66 = .ok (.iload 4, 2) := by decide +kernel
theorem dX12_at_68 : decode cX12_at 68 = .ok (.iaload, 1) := by decide +kernel
theorem dX12_at_69 : decode cX12_at 69 = .ok (.goto 58, 3) := by decide +kernel
theorem dX12_at_72 : decode cX12_at 72 = .ok (.iload_n 3, 1) := by decide +kernel
theorem dX12_at_73 : decode cX12_at 73 = .ok (.iconst 1, 1) := by decide +kernel
theorem dX12_at_74 : decode cX12_at 74 = .ok (.if_icmp .ne 13, 3) := by decide +kernel
theorem dX12_at_77 : decode cX12_at 77 = .ok (.aload_n 0, 1) := by decide +kernel
theorem dX12_at_78 : decode cX12_at 78 = .ok (.getfield 16, 3) := by decide +kernel
theorem dX12_at_81 : decode cX12_at 81 = .ok (.iload 4, 2) := by decide +kernel
theorem dX12_at_83 : decode cX12_at 83 = .ok (.iaload, 1) := by decide +kernel
theorem dX12_at_84 : decode cX12_at 84 = .ok (.goto 43, 3) := by decide +kernel
theorem dX12_at_87 : decode cX12_at 87 = .ok (.iload_n 3, 1) := by decide +kernel
theorem dX12_at_88 : decode cX12_at 88 = .ok (.iconst 2, 1) := by decide +kernel
theorem dX12_at_89 : decode cX12_at 89 = .ok (.if_icmp .ne 13, 3) := by decide +kernel
theorem dX12_at_92 : decode cX12_at 92 = .ok (.aload_n 0, 1) := by decide +kernel
theorem dX12_at_93 : decode cX12_at 93 = .ok (.getfield 19, 3) := by decide +kernel
theorem dX12_at_96 : decode cX12_at 96 = .ok (.iload 4, 2) := by decide +kernel
theorem dX12_at_98 : decode cX12_at 98 = .ok (.iaload, 1) := by decide +kernel
theorem dX12_at_99 : decode cX12_at 99 = .ok (.goto 28, 3) := by decide +kernel
theorem dX12_at_102 : decode cX12_at 102 = .ok (.iload_n 3, 1) := by decide +kernel
theorem dX12_at_103 : decode cX12_at 103 = .ok (.iconst 3, 1) := by decide +kernel
theorem dX12_at_104 : decode cX12_at 104 = .ok (.if_icmp .ne 13, 3) := by decide +kernel
theorem dX12_at_107 : decode cX12_at 107 = .ok (.aload_n 0, 1) := by decide +kernel
theorem dX12_at_108 : decode cX12_at 108 = .ok (.getfield 22, 3) := by decide +kernel
theorem dX12_at_111 : decode cX12_at 111 = .ok (.iload 4, 2) := by decide +kernel
theorem dX12_at_113 : decode cX12_at 113 = .ok (.iaload, 1) := by decide +kernel
theorem dX12_at_114 : decode cX12_at 114 = .ok (.goto 13, 3) := by decide +kernel
theorem dX12_at_117 : decode cX12_at 117 = .ok (.aload_n 0, 1) := by decide +kernel
theorem dX12_at_118 : decode cX12_at 118 = .ok (.iload 4, 2) := by decide +kernel
theorem dX12_at_120 : decode cX12_at 120 = .ok (.aload_n 0, 1) := by decide +kernel
theorem dX12_at_121 : decode cX12_at 121 = .ok (.getfield 164, 3) := by decide +kernel
theorem dX12_at_124 : decode cX12_at 124 = .ok (.invokevirtual 180, 3) := by decide +kernel
theorem dX12_at_127 : decode cX12_at 127 = .ok (.ireturn, 1) := by decide +kernel
set_option maxRecDepth 20000 in
theorem ggX12_many_X12_isStar : GoodIn wsX12_many wsX12_isStar := goodIn_r _ [5, 6, 7, 8, 4, 9] (by decide +kernel) (by decide +kernel)
set_option maxRecDepth 20000 in
theorem gX12_many_X12_isStar : GoodIn wsX12_many (va_wsS RX12 142 yX12_isStar wsX12_isStar) := goodIn_app (goodIn_of _ (by decide +kernel)) ggX12_many_X12_isStar
set_option maxRecDepth 20000 in
theorem ggX12_many_X12_layCounts : GoodIn wsX12_many wsX12_layCounts := goodIn_r _ [13, 1, 14, 15, 16, 17, 18, 19, 20, 21, 22, 23, 24, 25, 26, 27, 28, 29, 30, 31, 32, 33, 34, 35, 36, 37, 38, 39, 40, 41, 42, 43, 44, 45, 46, 47, 48, 49, 50, 51, 52, 53, 54, 55, 56, 57, 58, 59, 60, 61, 62, 63, 64, 65, 66, 67, 68, 69, 70, 71, 72, 73, 74] (by decide +kernel) (by decide +kernel)
set_option maxRecDepth 20000 in
theorem gX12_many_X12_layCounts : GoodIn wsX12_many (wsV RX12 175 RX12 yX12_layCounts wsX12_layCounts) := goodIn_app (goodIn_of _ (by decide +kernel)) ggX12_many_X12_layCounts
theorem dX12_many_0 : decode cX12_many 0 = .ok (.iload_n 1, 1) := by decide +kernel
theorem dX12_many_1 : decode cX12_many 1 = .ok (.invokestatic 142, 3) := by decide +kernel
theorem dX12_many_4 : decode cX12_many 4 = .ok (.ifCond .ne 5, 3) := by decide +kernel
theorem dX12_many_7 : decode cX12_many 7 = .ok (.iconst (-1), 1) := by decide +kernel
theorem dX12_many_8 : decode cX12_many 8 = .ok (.ireturn, 1) := by decide +kernel
theorem dX12_many_9 : decode cX12_many 9 = .ok (.aload_n 0, 1) := by decide +kernel
theorem dX12_many_10 : decode cX12_many 10 = .ok (.iload_n 1, 1) := by decide +kernel
theorem dX12_many_11 : decode cX12_many 11 = .ok (.invokevirtual 175, 3) := by decide +kernel
theorem dX12_many_14 : decode cX12_many 14 = .ok (.aload_n 0, 1) := by decide +kernel
theorem dX12_many_15 : decode cX12_many 15 = .ok (.getfield 167, 3) := by decide +kernel
theorem dX12_many_18 : decode cX12_many 18 = .ok (.ireturn, 1) := by decide +kernel
set_option maxRecDepth 20000 in
theorem ggX12_write_X12_in : GoodIn wsX12_write wsX12_in := goodIn_r _ [8] (by decide +kernel) (by decide +kernel)
set_option maxRecDepth 20000 in
theorem gX12_write_X12_in : GoodIn wsX12_write (va_wsS RX12 136 yX12_in wsX12_in) := goodIn_app (goodIn_of _ (by decide +kernel)) ggX12_write_X12_in
theorem dX12_write_0 : decode cX12_write 0 = .ok (.iload_n 1, 1) := by decide +kernel
theorem dX12_write_1 : decode cX12_write 1 = .ok (.i2l, 1) := by decide +kernel
theorem dX12_write_2 : decode cX12_write 2 = .ok (.lconst 1, 1) := by decide +kernel
theorem dX12_write_3 : decode cX12_write 3 = .ok (.ldc2_w 184, 3) := by decide +kernel
theorem dX12_write_6 : decode cX12_write 6 = .ok (.invokestatic 136, 3) := by decide +kernel
theorem dX12_write_9 : decode cX12_write 9 = .ok (.ifCond .ne 5, 3) := by decide +kernel
theorem dX12_write_12 : decode cX12_write 12 = .ok (.iconst (-1), 1) := by decide +kernel
theorem dX12_write_13 : decode cX12_write 13 = .ok (.ireturn, 1) := by decide +kernel
theorem dX12_write_14 : decode cX12_write 14 = .ok (.aload_n 0, 1) := by decide +kernel
theorem dX12_write_15 : decode cX12_write 15 = .ok (.getfield 186, 3) := by decide +kernel
theorem dX12_write_18 : decode cX12_write 18 = .ok (.iload_n 1, 1) := by decide +kernel
theorem dX12_write_19 : decode cX12_write 19 = .ok (.iadd, 1) := by decide +kernel
theorem dX12_write_20 : decode cX12_write 20 = .ok (.sipush 200, 3) := by decide +kernel
theorem dX12_write_23 : decode cX12_write 23 = .ok (.if_icmp .le 6, 3) := by decide +kernel
theorem dX12_write_26 : decode cX12_write 26 = .ok (.bipush (-3), 2) := by decide +kernel
theorem dX12_write_28 : decode cX12_write 28 = .ok (.ireturn, 1) := by decide +kernel
theorem dX12_write_29 : decode cX12_write 29 = .ok (.iload_n 1, 1) := by decide +kernel
theorem dX12_write_30 : decode cX12_write 30 = .ok (.iconst 1, 1) := by decide +kernel
theorem dX12_write_31 : decode cX12_write 31 = .ok (.isub, 1) := by decide +kernel
theorem dX12_write_32 : decode cX12_write 32 = .ok (.istore 4, 2) := by decide +kernel
theorem dX12_write_34 : decode cX12_write 34 = .ok (.iload 4, 2) := by decide +kernel
theorem dX12_write_36 : decode cX12_write 36 = .ok (.ifCond .lt 40, 3) := by decide +kernel
theorem dX12_write_39 : decode cX12_write 39 = .ok (.aload_n 0, 1) := by decide +kernel
theorem dX12_write_40 : decode cX12_write 40 = .ok (.getfield 67, 3) := by decide +kernel
theorem dX12_write_43 : decode cX12_write 43 = .ok (.aload_n 0, 1) := by decide +kernel
theorem dX12_write_44 : decode cX12_write 44 = .ok (.getfield 186, 3) := by decide +kernel
theorem dX12_write_47 : decode cX12_write 47 = .ok (.lload_n 2, 1) := by decide +kernel
theorem dX12_write_48 : decode cX12_write 48 = .ok (.bipush 8, 2) := by decide +kernel
theorem dX12_write_50 : decode cX12_write 50 = .ok (.iload 4, 2) := by decide +kernel
theorem dX12_write_52 : decode cX12_write 52 = .ok (.imul, 1) := by decide +kernel
theorem dX12_write_53 : decode cX12_write 53 = .ok (.lshr, 1) := by decide +kernel
theorem dX12_write_54 : decode cX12_write 54 = .ok (.ldc2_w 189, 3) := by decide +kernel
theorem dX12_write_57 : decode cX12_write 57 = .ok (.land, 1) := by decide +kernel
theorem dX12_write_58 : decode cX12_write 58 = .ok (.l2i, 1) := by decide +kernel
theorem dX12_write_59 : decode cX12_write 59 = .ok (.iastore, 1) := by decide +kernel
theorem dX12_write_60 : decode cX12_write 60 = .ok (.aload_n 0, 1) := by decide +kernel
theorem dX12_write_61 : decode cX12_write 61 = .ok (.dup, 1) := by decide +kernel
theorem dX12_write_62 : decode cX12_write 62 = .ok (.getfield 186, 3) := by decide +kernel
theorem dX12_write_65 : decode cX12_write 65 = .ok (.iconst 1, 1) := by decide +kernel
theorem dX12_write_66 : decode cX12_write 66 = .ok (.iadd, 1) := by decide +kernel
theorem dX12_write_67 : decode cX12_write 67 = .ok (.putfield 186, 3) := by decide +kernel
theorem dX12_write_70 : decode cX12_write 70 = .ok (.iinc 4 (-1), 3) := by decide +kernel
theorem dX12_write_73 : decode cX12_write 73 = .ok (.goto (-39), 3) := by decide +kernel
theorem dX12_write_76 : decode cX12_write 76 = .ok (.aload_n 0, 1) := by decide +kernel
theorem dX12_write_77 : decode cX12_write 77 = .ok (.getfield 186, 3) := by decide +kernel
theorem dX12_write_80 : decode cX12_write 80 = .ok (.ireturn, 1) := by decide +kernel
theorem dX12_wipe_0 : decode cX12_wipe 0 = .ok (.aload_n 0, 1) := by decide +kernel
theorem dX12_wipe_1 : decode cX12_wipe 1 = .ok (.getfield 186, 3) := by decide +kernel
theorem dX12_wipe_4 : decode cX12_wipe 4 = .ok (.istore_n 1, 1) := by decide +kernel
theorem dX12_wipe_5 : decode cX12_wipe 5 = .ok (.aload_n 0, 1) := by decide +kernel
theorem dX12_wipe_6 : decode cX12_wipe 6 = .ok (.iconst 0, 1) := by decide +kernel
theorem dX12_wipe_7 : decode cX12_wipe 7 = .ok (.putfield 186, 3) := by decide +kernel
theorem dX12_wipe_10 : decode cX12_wipe 10 = .ok (.iload_n 1, 1) := by decide +kernel
theorem dX12_wipe_11 : decode cX12_wipe 11 = .ok (.ireturn, 1) := by decide +kernel
theorem dX12_isAt_0 : decode cX12_isAt 0 = .ok (.aload_n 0, 1) := by decide +kernel
theorem dX12_isAt_1 : decode cX12_isAt 1 = .ok (.getfield 191, 3) := by decide +kernel
theorem dX12_isAt_4 : decode cX12_isAt 4 = .ok (.aload_n 0, 1) := by decide +kernel
theorem dX12_isAt_5 : decode cX12_isAt 5 = .ok (.getfield 186, 3) := by decide +kernel
theorem dX12_isAt_8 : decode cX12_isAt 8 = .ok (.if_icmp .ge 20, 3) := by decide +kernel
theorem dX12_isAt_11 : decode cX12_isAt 11 = .ok (.aload_n 0, 1) := by decide +kernel
theorem dX12_isAt_12 : decode cX12_isAt 12 = .ok (.getfield 67, 3) := by decide +kernel
theorem dX12_isAt_15 : decode cX12_isAt 15 = .ok (.aload_n 0, 1) := by decide +kernel
theorem dX12_isAt_16 : decode cX12_isAt 16 = .ok (.getfield 191, 3) := by decide +kernel
theorem dX12_isAt_19 : decode cX12_isAt 19 = .ok (.iaload, 1) := by decide +kernel
theorem dX12_isAt_20 : decode cX12_isAt 20 = .ok (.iload_n 1, 1) := by decide +kernel
theorem dX12_isAt_21 : decode cX12_isAt 21 = .ok (.if_icmp .ne 7, 3) := by decide +kernel
theorem dX12_isAt_24 : decode cX12_isAt 24 = .ok (.iconst 1, 1) := by decide +kernel
theorem dX12_isAt_25 : decode cX12_isAt 25 = .ok (.goto 4, 3) := by decide +kernel
theorem dX12_isAt_28 : decode cX12_isAt 28 = .ok (.iconst 0, 1) := by decide +kernel
theorem dX12_isAt_29 : decode cX12_isAt 29 = .ok (.ireturn, 1) := by decide +kernel
theorem dX12_isFigure_0 : decode cX12_isFigure 0 = .ok (.aload_n 0, 1) := by decide +kernel
theorem dX12_isFigure_1 : decode cX12_isFigure 1 = .ok (.getfield 191, 3) := by decide +kernel
theorem dX12_isFigure_4 : decode cX12_isFigure 4 = .ok (.aload_n 0, 1) := by decide +kernel
theorem dX12_isFigure_5 : decode cX12_isFigure 5 = .ok (.getfield 186, 3) := by decide +kernel
theorem dX12_isFigure_8 : decode cX12_isFigure 8 = .ok (.if_icmp .ge 35, 3) := by decide +kernel
theorem dX12_isFigure_11 : decode cX12_isFigure 11 = .ok (.aload_n 0, 1) := by decide +kernel
theorem dX12_isFigure_12 : decode cX12_isFigure 12 = .ok (.getfield 67, 3) := by decide +kernel
theorem dX12_isFigure_15 : decode cX12_isFigure 15 = .ok (.aload_n 0, 1) := by decide +kernel
theorem dX12_isFigure_16 : decode cX12_isFigure 16 = .ok (.getfield 191, 3) := by decide +kernel
theorem dX12_isFigure_19 : decode cX12_isFigure 19 = .ok (.iaload, 1) := by decide +kernel
theorem dX12_isFigure_20 : decode cX12_isFigure 20 = .ok (.bipush 48, 2) := by decide +kernel
theorem dX12_isFigure_22 : decode cX12_isFigure 22 = .ok (.if_icmp .lt 21, 3) := by decide +kernel
theorem dX12_isFigure_25 : decode cX12_isFigure 25 = .ok (.aload_n 0, 1) := by decide +kernel
theorem dX12_isFigure_26 : decode cX12_isFigure 26 = .ok (.getfield 67, 3) := by decide +kernel
theorem dX12_isFigure_29 : decode cX12_isFigure 29 = .ok (.aload_n 0, 1) := by decide +kernel
theorem dX12_isFigure_30 : decode cX12_isFigure 30 = .ok (.getfield 191, 3) := by decide +kernel
theorem dX12_isFigure_33 : decode cX12_isFigure 33 = .ok (.iaload, 1) := by decide +kernel
theorem dX12_isFigure_34 : decode cX12_isFigure 34 = .ok (.bipush 57, 2) := by decide +kernel
theorem dX12_isFigure_36 : decode cX12_isFigure 36 = .ok (.if_icmp .gt 7, 3) := by decide +kernel
theorem dX12_isFigure_39 : decode cX12_isFigure 39 = .ok (.iconst 1, 1) := by decide +kernel
theorem dX12_isFigure_40 : decode cX12_isFigure 40 = .ok (.goto 4, 3) := by decide +kernel
theorem dX12_isFigure_43 : decode cX12_isFigure 43 = .ok (.iconst 0, 1) := by decide +kernel
theorem dX12_isFigure_44 : decode cX12_isFigure 44 = .ok (.ireturn, 1) := by decide +kernel
set_option maxRecDepth 20000 in
theorem ggX12_skip_X12_isAt : GoodIn wsX12_skip wsX12_isAt := goodIn_r _ [6, 1, 7, 8, 9, 10, 11, 12, 13, 14, 15, 16, 17, 18, 19, 20, 21, 22, 23, 24, 25, 26, 27, 28, 29, 30, 31, 32, 33, 34, 35, 36, 37, 38, 39, 40, 41, 42, 43, 44, 45, 46, 47, 48, 49, 50, 51, 52, 53, 54, 55, 56, 57, 58, 59, 60, 61, 62, 63, 64, 65] (by decide +kernel) (by decide +kernel)
set_option maxRecDepth 20000 in
theorem gX12_skip_X12_isAt : GoodIn wsX12_skip (wsV RX12 194 RX12 yX12_isAt wsX12_isAt) := goodIn_app (goodIn_of _ (by decide +kernel)) ggX12_skip_X12_isAt
theorem dX12_skip_0 : decode cX12_skip 0 = .ok (.aload_n 0, 1) := by decide +kernel
theorem dX12_skip_1 : decode cX12_skip 1 = .ok (.iload_n 1, 1) := by decide +kernel
theorem dX12_skip_2 : decode cX12_skip 2 = .ok (.invokevirtual 194, 3) := by decide +kernel
theorem dX12_skip_5 : decode cX12_skip 5 = .ok (.istore_n 2, 1) := by decide +kernel
theorem dX12_skip_6 : decode cX12_skip 6 = .ok (.aload_n 0, 1) := by decide +kernel
theorem dX12_skip_7 : decode cX12_skip 7 = .ok (.dup, 1) := by decide +kernel
theorem dX12_skip_8 : decode cX12_skip 8 = .ok (.getfield 191, 3) := by decide +kernel
theorem dX12_skip_11 : decode cX12_skip 11 = .ok (.iload_n 2, 1) := by decide +kernel
theorem dX12_skip_12 : decode cX12_skip 12 = .ok (.ifCond .eq 7, 3) := by decide +kernel
theorem dX12_skip_15 : decode cX12_skip 15 = .ok (.iconst 1, 1) := by decide +kernel
theorem dX12_skip_16 : decode cX12_skip 16 = .ok (.goto 4, 3) := by decide +kernel
theorem dX12_skip_19 : decode cX12_skip 19 = .ok (.iconst 0, 1) := by decide +kernel
theorem dX12_skip_20 : decode cX12_skip 20 = .ok (.iadd, 1) := by decide +kernel
theorem dX12_skip_21 : decode cX12_skip 21 = .ok (.putfield 191, 3) := by decide +kernel
theorem dX12_skip_24 : decode cX12_skip 24 = .ok (.iload_n 2, 1) := by decide +kernel
theorem dX12_skip_25 : decode cX12_skip 25 = .ok (.ireturn, 1) := by decide +kernel
set_option maxRecDepth 20000 in
theorem ggX12_number_X12_skip : GoodIn wsX12_number wsX12_skip := goodIn_r _ [8, 2, 9, 10, 11, 7, 12, 13, 1, 21, 22, 23, 24, 25, 26, 27, 28, 29, 30, 31, 32, 33, 34, 35, 36, 37, 38, 39, 40, 41, 42, 43, 44, 45, 46, 47, 48, 49, 50, 51, 52, 53, 54, 55, 56, 57, 58, 59, 60, 61, 62, 63, 64, 65, 66, 67, 68, 69, 70, 71, 72, 73, 74, 75, 76, 77] (by decide +kernel) (by decide +kernel)
set_option maxRecDepth 20000 in
theorem gX12_number_X12_skip : GoodIn wsX12_number (wsV RX12 197 RX12 yX12_skip wsX12_skip) := goodIn_app (goodIn_of _ (by decide +kernel)) ggX12_number_X12_skip
set_option maxRecDepth 20000 in
theorem ggX12_number_X12_isFigure : GoodIn wsX12_number wsX12_isFigure := goodIn_r _ [17, 2, 13, 1, 21, 22, 23, 24, 25, 26, 27, 28, 29, 30, 31, 32, 33, 34, 35, 36, 37, 38, 39, 40, 41, 42, 43, 44, 45, 46, 47, 48, 49, 50, 51, 52, 53, 54, 55, 56, 57, 58, 59, 60, 61, 62, 63, 64, 65, 66, 67, 68, 69, 70, 71, 72, 73, 74, 75, 76, 77] (by decide +kernel) (by decide +kernel)
set_option maxRecDepth 20000 in
theorem gX12_number_X12_isFigure : GoodIn wsX12_number (wsV RX12 200 RX12 yX12_isFigure wsX12_isFigure) := goodIn_app (goodIn_of _ (by decide +kernel)) ggX12_number_X12_isFigure
set_option maxRecDepth 20000 in
theorem ggX12_number_X12_in : GoodIn wsX12_number wsX12_in := goodIn_r _ [20] (by decide +kernel) (by decide +kernel)
set_option maxRecDepth 20000 in
theorem gX12_number_X12_in : GoodIn wsX12_number (va_wsS RX12 136 yX12_in wsX12_in) := goodIn_app (goodIn_of _ (by decide +kernel)) ggX12_number_X12_in
theorem dX12_number_0 : decode cX12_number 0 = .ok (.aload_n 0, 1) := by decide +kernel
theorem dX12_number_1 : decode cX12_number 1 = .ok (.bipush 45, 2) := by decide +kernel
theorem dX12_number_3 : decode cX12_number 3 = .ok (.invokevirtual 197, 3) := by decide +kernel
theorem dX12_number_6 : decode cX12_number 6 = .ok (.istore_n 3, 1) := by decide +kernel
theorem dX12_number_7 : decode cX12_number 7 = .ok (.iconst 0, 1) := by decide +kernel
theorem dX12_number_8 : decode cX12_number 8 = .ok (.istore 4, 2) := by decide +kernel
theorem dX12_number_10 : decode cX12_number 10 = .ok (.iconst 0, 1) := by decide +kernel
theorem dX12_number_11 : decode cX12_number 11 = .ok (.istore 5, 2) := by decide +kernel
theorem dX12_number_13 : decode cX12_number 13 = .ok (.iload 4, 2) := by decide +kernel
theorem dX12_number_15 : decode cX12_number 15 = .ok (.bipush 9, 2) := by decide +kernel
theorem dX12_number_17 : decode cX12_number 17 = .ok (.if_icmp .ge 46, 3) := by decide +kernel
theorem dX12_number_20 : decode cX12_number 20 = .ok (.aload_n 0, 1) := by decide +kernel
theorem dX12_number_21 : decode cX12_number 21 = .ok (.invokevirtual 200, 3) := by decide +kernel
theorem dX12_number_24 : decode cX12_number 24 = .ok (.ifCond .eq 39, 3) := by decide +kernel
theorem dX12_number_27 : decode cX12_number 27 = .ok (.bipush 10, 2) := by decide +kernel
theorem dX12_number_29 : decode cX12_number 29 = .ok (.iload 5, 2) := by decide +kernel
theorem dX12_number_31 : decode cX12_number 31 = .ok (.imul, 1) := by decide +kernel
theorem dX12_number_32 : decode cX12_number 32 = .ok (.aload_n 0, 1) := by decide +kernel
theorem dX12_number_33 : decode cX12_number 33 = .ok (.getfield 67, 3) := by decide +kernel
theorem dX12_number_36 : decode cX12_number 36 = .ok (.aload_n 0, 1) := by decide +kernel
theorem dX12_number_37 : decode cX12_number 37 = .ok (.getfield 191, 3) := by decide +kernel
theorem dX12_number_40 : decode cX12_number 40 = .ok (.iaload, 1) := by decide +kernel
theorem dX12_number_41 : decode cX12_number 41 = .ok (.iadd, 1) := by decide +kernel
theorem dX12_number_42 : decode cX12_number 42 = .ok (.bipush 48, 2) := by decide +kernel
theorem dX12_number_44 : decode cX12_number 44 = .ok (.isub, 1) := by decide +kernel
theorem dX12_number_45 : decode cX12_number 45 = .ok (.istore 5, 2) := by decide +kernel
theorem dX12_number_47 : decode cX12_number 47 = .ok (.aload_n 0, 1) := by decide +kernel
theorem dX12_number_48 : decode cX12_number 48 = .ok (.dup, 1) := by decide +kernel
theorem dX12_number_49 : decode cX12_number 49 = .ok (.getfield 191, 3) := by decide +kernel
theorem dX12_number_52 : decode cX12_number 52 = .ok (.iconst 1, 1) := by decide +kernel
theorem dX12_number_53 : decode cX12_number 53 = .ok (.iadd, 1) := by decide +kernel
theorem dX12_number_54 : decode cX12_number 54 = .ok (.putfield 191, 3) := by decide +kernel
theorem dX12_number_57 : decode cX12_number 57 = .ok (.iinc 4 1, 3) := by decide +kernel
theorem dX12_number_60 : decode cX12_number 60 = .ok (.goto (-47), 3) := by decide +kernel
theorem dX12_number_63 : decode cX12_number 63 = .ok (.aload_n 0, 1) := by decide +kernel
theorem dX12_number_64 : decode cX12_number 64 = .ok (.iload_n 3, 1) := by decide +kernel
theorem dX12_number_65 : decode cX12_number 65 = .ok (.ifCond .eq 9, 3) := by decide +kernel
theorem dX12_number_68 : decode cX12_number 68 = .ok (.iload 5, 2) := by decide +kernel
theorem dX12_number_70 : decode cX12_number 70 = .ok (.ineg, 1) := by decide +kernel
theorem dX12_number_71 : decode cX12_number 71 = .ok (.goto 5, 3) := by decide +kernel
theorem dX12_number_74 : decode cX12_number 74 = .ok (.iload 5, 2) := by decide +kernel
theorem dX12_number_76 : decode cX12_number 76 = .ok (.putfield 204, 3) := by decide +kernel
theorem dX12_number_79 : decode cX12_number 79 = .ok (.iload 4, 2) := by decide +kernel
theorem dX12_number_81 : decode cX12_number 81 = .ok (.ifCond .le 22, 3) := by decide +kernel
theorem dX12_number_84 : decode cX12_number 84 = .ok (.aload_n 0, 1) := by decide +kernel
theorem dX12_number_85 : decode cX12_number 85 = .ok (.getfield 204, 3) := by decide +kernel
theorem dX12_number_88 : decode cX12_number 88 = .ok (.i2l, 1) := by decide +kernel
theorem dX12_number_89 : decode cX12_number 89 = .ok (.iload_n 1, 1) := by decide +kernel
theorem dX12_number_90 : decode cX12_number 90 = .ok (.i2l, 1) := by decide +kernel
theorem dX12_number_91 : decode cX12_number 91 = .ok (.iload_n 2, 1) := by decide +kernel
theorem dX12_number_92 : decode cX12_number 92 = .ok (.i2l, 1) := by decide +kernel
theorem dX12_number_93 : decode cX12_number 93 = .ok (.invokestatic 136, 3) := by decide +kernel
theorem dX12_number_96 : decode cX12_number 96 = .ok (.ifCond .eq 7, 3) := by decide +kernel
theorem dX12_number_99 : decode cX12_number 99 = .ok (.iconst 1, 1) := by decide +kernel
theorem dX12_number_100 : decode cX12_number 100 = .ok (.goto 4, 3) := by decide +kernel
theorem dX12_number_103 : decode cX12_number 103 = .ok (.iconst 0, 1) := by decide +kernel
theorem dX12_number_104 : decode cX12_number 104 = .ok (.ireturn, 1) := by decide +kernel
set_option maxRecDepth 20000 in
theorem ggX12_slipItem_X12_number : GoodIn wsX12_slipItem wsX12_number := goodIn_r _ [12, 13, 14, 4, 15, 16, 17, 11, 18, 19, 20, 21, 22, 23, 24, 25, 26, 27, 28, 29, 30, 31, 32, 33, 34, 35, 36, 37, 38, 39, 40, 41, 42, 43, 44, 45, 46, 47, 48, 49, 50, 51, 52, 53, 54, 55, 56, 57, 58, 59, 60, 61, 62, 63, 64, 65, 66, 67, 68, 69, 70, 71, 72, 73, 74, 75, 76, 77, 78, 79, 80, 81, 82, 83, 84, 85, 86, 87] (by decide +kernel) (by decide +kernel)
set_option maxRecDepth 20000 in
theorem gX12_slipItem_X12_number : GoodIn wsX12_slipItem (wsV RX12 208 RX12 yX12_number wsX12_number) := goodIn_app (goodIn_of _ (by decide +kernel)) ggX12_slipItem_X12_number
set_option maxRecDepth 20000 in
theorem ggX12_slipItem_X12_skip : GoodIn wsX12_slipItem wsX12_skip := goodIn_r _ [18, 14, 19, 20, 21, 11, 22, 23, 13, 31, 32, 33, 34, 35, 36, 37, 38, 39, 40, 41, 42, 43, 44, 45, 46, 47, 48, 49, 50, 51, 52, 53, 54, 55, 56, 57, 58, 59, 60, 61, 62, 63, 64, 65, 66, 67, 68, 69, 70, 71, 72, 73, 74, 75, 76, 77, 78, 79, 80, 81, 82, 83, 84, 85, 86, 87] (by decide +kernel) (by decide +kernel)
set_option maxRecDepth 20000 in
theorem gX12_slipItem_X12_skip : GoodIn wsX12_slipItem (wsV RX12 197 RX12 yX12_skip wsX12_skip) := goodIn_app (goodIn_of _ (by decide +kernel)) ggX12_slipItem_X12_skip
theorem dX12_slipItem_0 : decode cX12_slipItem 0 = .ok (.aload_n 0, 1) := by decide +kernel
theorem dX12_slipItem_1 : decode cX12_slipItem 1 = .ok (.getfield 49, 3) := by decide +kernel
theorem dX12_slipItem_4 : decode cX12_slipItem 4 = .ok (.iconst 4, 1) := by decide +kernel
theorem dX12_slipItem_5 : decode cX12_slipItem 5 = .ok (.iaload, 1) := by decide +kernel
theorem dX12_slipItem_6 : decode cX12_slipItem 6 = .ok (.iconst 3, 1) := by decide +kernel
theorem dX12_slipItem_7 : decode cX12_slipItem 7 = .ok (.if_icmp .eq 13, 3) := by decide +kernel
theorem dX12_slipItem_10 : decode cX12_slipItem 10 = .ok (.aload_n 0, 1) := by decide +kernel
theorem dX12_slipItem_11 : decode cX12_slipItem 11 = .ok (.iconst 0, 1) := by decide +kernel
theorem dX12_slipItem_12 : decode cX12_slipItem 12 = .ok (.ldc 207, 2) := by decide +kernel
theorem dX12_slipItem_14 : decode cX12_slipItem 14 = .ok (.invokevirtual 208, 3) := by decide +kernel
theorem dX12_slipItem_17 : decode cX12_slipItem 17 = .ok (.ifCond .ne 5, 3) := by decide +kernel
theorem dX12_slipItem_20 : decode cX12_slipItem 20 = .ok (.iconst 0, 1) := by decide +kernel
theorem dX12_slipItem_21 : decode cX12_slipItem 21 = .ok (.ireturn, 1) := by decide +kernel
theorem dX12_slipItem_22 : decode cX12_slipItem 22 = .ok (.aload_n 0, 1) := by decide +kernel
theorem dX12_slipItem_23 : decode cX12_slipItem 23 = .ok (.getfield 52, 3) := by decide +kernel
theorem dX12_slipItem_26 : decode cX12_slipItem 26 = .ok (.bipush 12, 2) := by decide +kernel
theorem dX12_slipItem_28 : decode cX12_slipItem 28 = .ok (.aload_n 0, 1) := by decide +kernel
theorem dX12_slipItem_29 : decode cX12_slipItem 29 = .ok (.getfield 49, 3) := by decide +kernel
theorem dX12_slipItem_32 : decode cX12_slipItem 32 = .ok (.iconst 4, 1) := by decide +kernel
theorem dX12_slipItem_33 : decode cX12_slipItem 33 = .ok (.iaload, 1) := by decide +kernel
theorem dX12_slipItem_34 : decode cX12_slipItem 34 = .ok (.iadd, 1) := by decide +kernel
theorem dX12_slipItem_35 : decode cX12_slipItem 35 = .ok (.aload_n 0, 1) := by decide +kernel
theorem dX12_slipItem_36 : decode cX12_slipItem 36 = .ok (.getfield 204, 3) := by decide +kernel
theorem dX12_slipItem_39 : decode cX12_slipItem 39 = .ok (.iastore, 1) := by decide +kernel
theorem dX12_slipItem_40 : decode cX12_slipItem 40 = .ok (.aload_n 0, 1) := by decide +kernel
theorem dX12_slipItem_41 : decode cX12_slipItem 41 = .ok (.bipush 44, 2) := by decide +kernel
theorem dX12_slipItem_43 : decode cX12_slipItem 43 = .ok (.invokevirtual 197, 3) := by decide +kernel
theorem dX12_slipItem_46 : decode cX12_slipItem 46 = .ok (.ifCond .eq 14, 3) := by decide +kernel
theorem dX12_slipItem_49 : decode cX12_slipItem 49 = .ok (.aload_n 0, 1) := by decide +kernel
theorem dX12_slipItem_50 : decode cX12_slipItem 50 = .ok (.ldc 212, 2) := by decide +kernel
theorem dX12_slipItem_52 : decode cX12_slipItem 52 = .ok (.ldc 213, 2) := by decide +kernel
theorem dX12_slipItem_54 : decode cX12_slipItem 54 = .ok (.invokevirtual 208, 3) := by decide +kernel
theorem dX12_slipItem_57 : decode cX12_slipItem 57 = .ok (.ifCond .ne 5, 3) := by decide +kernel
theorem dX12_slipItem_60 : decode cX12_slipItem 60 = .ok (.iconst 0, 1) := by decide +kernel
theorem dX12_slipItem_61 : decode cX12_slipItem 61 = .ok (.ireturn, 1) := by decide +kernel
theorem dX12_slipItem_62 : decode cX12_slipItem 62 = .ok (.aload_n 0, 1) := by decide +kernel
theorem dX12_slipItem_63 : decode cX12_slipItem 63 = .ok (.getfield 55, 3) := by decide +kernel
theorem dX12_slipItem_66 : decode cX12_slipItem 66 = .ok (.bipush 12, 2) := by decide +kernel
theorem dX12_slipItem_68 : decode cX12_slipItem 68 = .ok (.aload_n 0, 1) := by decide +kernel
theorem dX12_slipItem_69 : decode cX12_slipItem 69 = .ok (.getfield 49, 3) := by decide +kernel
theorem dX12_slipItem_72 : decode cX12_slipItem 72 = .ok (.iconst 4, 1) := by decide +kernel
theorem dX12_slipItem_73 : decode cX12_slipItem 73 = .ok (.iaload, 1) := by decide +kernel
theorem dX12_slipItem_74 : decode cX12_slipItem 74 = .ok (.iadd, 1) := by decide +kernel
theorem dX12_slipItem_75 : decode cX12_slipItem 75 = .ok (.aload_n 0, 1) := by decide +kernel
theorem dX12_slipItem_76 : decode cX12_slipItem 76 = .ok (.getfield 204, 3) := by decide +kernel
theorem dX12_slipItem_79 : decode cX12_slipItem 79 = .ok (.iastore, 1) := by decide +kernel
theorem dX12_slipItem_80 : decode cX12_slipItem 80 = .ok (.aload_n 0, 1) := by decide +kernel
theorem dX12_slipItem_81 : decode cX12_slipItem 81 = .ok (.getfield 49, 3) := by decide +kernel
theorem dX12_slipItem_84 : decode cX12_slipItem 84 = .ok (.iconst 4, 1) := by decide +kernel
theorem dX12_slipItem_85 : decode cX12_slipItem 85 = .ok (.dup2, 1) := by decide +kernel
theorem dX12_slipItem_86 : decode cX12_slipItem 86 = .ok (.iaload, 1) := by decide +kernel
theorem dX12_slipItem_87 : decode cX12_slipItem 87 = .ok (.iconst 1, 1) := by decide +kernel
theorem dX12_slipItem_88 : decode cX12_slipItem 88 = .ok (.iadd, 1) := by decide +kernel
theorem dX12_slipItem_89 : decode cX12_slipItem 89 = .ok (.iastore, 1) := by decide +kernel
theorem dX12_slipItem_90 : decode cX12_slipItem 90 = .ok (.iconst 1, 1) := by decide +kernel
theorem dX12_slipItem_91 : decode cX12_slipItem 91 = .ok (.ireturn, 1) := by decide +kernel
set_option maxRecDepth 20000 in
theorem ggX12_friendItem_X12_number : GoodIn wsX12_friendItem wsX12_number := goodIn_r _ [11, 12, 13, 3, 14, 15, 16, 10, 17, 18, 19, 20, 21, 22, 23, 24, 25, 26, 27, 28, 29, 30, 31, 32, 33, 34, 35, 36, 37, 38, 39, 40, 41, 42, 43, 44, 45, 46, 47, 48, 49, 50, 51, 52, 53, 54, 55, 56, 57, 58, 59, 60, 61, 62, 63, 64, 65, 66, 67, 68, 69, 70, 71, 72, 73, 74, 75, 76, 77, 78, 79, 80, 81, 82, 83, 84, 85, 86] (by decide +kernel) (by decide +kernel)
set_option maxRecDepth 20000 in
theorem gX12_friendItem_X12_number : GoodIn wsX12_friendItem (wsV RX12 208 RX12 yX12_number wsX12_number) := goodIn_app (goodIn_of _ (by decide +kernel)) ggX12_friendItem_X12_number
set_option maxRecDepth 20000 in
theorem ggX12_friendItem_X12_skip : GoodIn wsX12_friendItem wsX12_skip := goodIn_r _ [17, 13, 18, 19, 20, 10, 21, 22, 12, 30, 31, 32, 33, 34, 35, 36, 37, 38, 39, 40, 41, 42, 43, 44, 45, 46, 47, 48, 49, 50, 51, 52, 53, 54, 55, 56, 57, 58, 59, 60, 61, 62, 63, 64, 65, 66, 67, 68, 69, 70, 71, 72, 73, 74, 75, 76, 77, 78, 79, 80, 81, 82, 83, 84, 85, 86] (by decide +kernel) (by decide +kernel)
set_option maxRecDepth 20000 in
theorem gX12_friendItem_X12_skip : GoodIn wsX12_friendItem (wsV RX12 197 RX12 yX12_skip wsX12_skip) := goodIn_app (goodIn_of _ (by decide +kernel)) ggX12_friendItem_X12_skip
theorem dX12_friendItem_0 : decode cX12_friendItem 0 = .ok (.aload_n 0, 1) := by decide +kernel
theorem dX12_friendItem_1 : decode cX12_friendItem 1 = .ok (.getfield 58, 3) := by decide +kernel
theorem dX12_friendItem_4 : decode cX12_friendItem 4 = .ok (.iconst 4, 1) := by decide +kernel
theorem dX12_friendItem_5 : decode cX12_friendItem 5 = .ok (.iaload, 1) := by decide +kernel
theorem dX12_friendItem_6 : decode cX12_friendItem 6 = .ok (.iconst 2, 1) := by decide +kernel
theorem dX12_friendItem_7 : decode cX12_friendItem 7 = .ok (.if_icmp .eq 14, 3) := by decide +kernel
theorem dX12_friendItem_10 : decode cX12_friendItem 10 = .ok (.aload_n 0, 1) := by decide +kernel
theorem dX12_friendItem_11 : decode cX12_friendItem 11 = .ok (.iconst 4, 1) := by decide +kernel
theorem dX12_friendItem_12 : decode cX12_friendItem 12 = .ok (.sipush 1000, 3) := by decide +kernel
theorem dX12_friendItem_15 : decode cX12_friendItem 15 = .ok (.invokevirtual 208, 3) := by decide +kernel
theorem dX12_friendItem_18 : decode cX12_friendItem 18 = .ok (.ifCond .ne 5, 3) := by decide +kernel
theorem dX12_friendItem_21 : decode cX12_friendItem 21 = .ok (.iconst 0, 1) := by decide +kernel
theorem dX12_friendItem_22 : decode cX12_friendItem 22 = .ok (.ireturn, 1) := by decide +kernel
theorem dX12_friendItem_23 : decode cX12_friendItem 23 = .ok (.bipush 8, 2) := by decide +kernel
theorem dX12_friendItem_25 : decode cX12_friendItem 25 = .ok (.aload_n 0, 1) := by decide +kernel
theorem dX12_friendItem_26 : decode cX12_friendItem 26 = .ok (.getfield 58, 3) := by decide +kernel
theorem dX12_friendItem_29 : decode cX12_friendItem 29 = .ok (.iconst 4, 1) := by decide +kernel
theorem dX12_friendItem_30 : decode cX12_friendItem 30 = .ok (.iaload, 1) := by decide +kernel
theorem dX12_friendItem_31 : decode cX12_friendItem 31 = .ok (.iadd, 1) := by decide +kernel
theorem dX12_friendItem_32 : decode cX12_friendItem 32 = .ok (.istore_n 1, 1) := by decide +kernel
theorem dX12_friendItem_33 : decode cX12_friendItem 33 = .ok (.aload_n 0, 1) := by decide +kernel
theorem dX12_friendItem_34 : decode cX12_friendItem 34 = .ok (.getfield 61, 3) := by decide +kernel
theorem dX12_friendItem_37 : decode cX12_friendItem 37 = .ok (.iload_n 1, 1) := by decide +kernel
theorem dX12_friendItem_38 : decode cX12_friendItem 38 = .ok (.aload_n 0, 1) := by decide +kernel
theorem dX12_friendItem_39 : decode cX12_friendItem 39 = .ok (.getfield 204, 3) := by decide +kernel
theorem dX12_friendItem_42 : decode cX12_friendItem 42 = .ok (.iastore, 1) := by decide +kernel
theorem dX12_friendItem_43 : decode cX12_friendItem 43 = .ok (.iconst 0, 1) := by decide +kernel
theorem dX12_friendItem_44 : decode cX12_friendItem 44 = .ok (.istore_n 2, 1) := by decide +kernel
theorem dX12_friendItem_45 : decode cX12_friendItem 45 = .ok (.iload_n 2, 1) := by decide +kernel
theorem dX12_friendItem_46 : decode cX12_friendItem 46 = .ok (.iconst 4, 1) := by decide +kernel
theorem dX12_friendItem_47 : decode cX12_friendItem 47 = .ok (.if_icmp .ge 45, 3) := by decide +kernel
theorem dX12_friendItem_50 : decode cX12_friendItem 50 = .ok (.aload_n 0, 1) := by decide +kernel
theorem dX12_friendItem_51 : decode cX12_friendItem 51 = .ok (.bipush 44, 2) := by decide +kernel
theorem dX12_friendItem_53 : decode cX12_friendItem 53 = .ok (.invokevirtual 197, 3) := by decide +kernel
theorem dX12_friendItem_56 : decode cX12_friendItem 56 = .ok (.ifCond .eq 14, 3) := by decide +kernel
theorem dX12_friendItem_59 : decode cX12_friendItem 59 = .ok (.aload_n 0, 1) := by decide +kernel
theorem dX12_friendItem_60 : decode cX12_friendItem 60 = .ok (.ldc 212, 2) := by decide +kernel
theorem dX12_friendItem_62 : decode cX12_friendItem 62 = .ok (.ldc 213, 2) := by decide +kernel
theorem dX12_friendItem_64 : decode cX12_friendItem 64 = .ok (.invokevirtual 208, 3) := by decide +kernel
theorem dX12_friendItem_67 : decode cX12_friendItem 67 = .ok (.ifCond .ne 5, 3) := by decide +kernel
theorem dX12_friendItem_70 : decode cX12_friendItem 70 = .ok (.iconst 0, 1) := by decide +kernel
theorem dX12_friendItem_71 : decode cX12_friendItem 71 = .ok (.ireturn, 1) := by decide +kernel
theorem dX12_friendItem_72 : decode cX12_friendItem 72 = .ok (.aload_n 0, 1) := by decide +kernel
theorem dX12_friendItem_73 : decode cX12_friendItem 73 = .ok (.getfield 64, 3) := by decide +kernel
theorem dX12_friendItem_76 : decode cX12_friendItem 76 = .ok (.iconst 4, 1) := by decide +kernel
theorem dX12_friendItem_77 : decode cX12_friendItem 77 = .ok (.iload_n 1, 1) := by decide +kernel
theorem dX12_friendItem_78 : decode cX12_friendItem 78 = .ok (.imul, 1) := by decide +kernel
theorem dX12_friendItem_79 : decode cX12_friendItem 79 = .ok (.iload_n 2, 1) := by decide +kernel
theorem dX12_friendItem_80 : decode cX12_friendItem 80 = .ok (.iadd, 1) := by decide +kernel
theorem dX12_friendItem_81 : decode cX12_friendItem 81 = .ok (.aload_n 0, 1) := by decide +kernel
theorem dX12_friendItem_82 : decode cX12_friendItem 82 = .ok (.getfield 204, 3) := by decide +kernel
theorem dX12_friendItem_85 : decode cX12_friendItem 85 = .ok (.iastore, 1) := by decide +kernel
theorem dX12_friendItem_86 : decode cX12_friendItem 86 = .ok (.iinc 2 1, 3) := by decide +kernel
theorem dX12_friendItem_89 : decode cX12_friendItem 89 = .ok (.goto (-44), 3) := by decide +kernel
theorem dX12_friendItem_92 : decode cX12_friendItem 92 = .ok (.aload_n 0, 1) := by decide +kernel
theorem dX12_friendItem_93 : decode cX12_friendItem 93 = .ok (.getfield 58, 3) := by decide +kernel
theorem dX12_friendItem_96 : decode cX12_friendItem 96 = .ok (.iconst 4, 1) := by decide +kernel
theorem dX12_friendItem_97 : decode cX12_friendItem 97 = .ok (.dup2, 1) := by decide +kernel
theorem dX12_friendItem_98 : decode cX12_friendItem 98 = .ok (.iaload, 1) := by decide +kernel
theorem dX12_friendItem_99 : decode cX12_friendItem 99 = .ok (.iconst 1, 1) := by decide +kernel
theorem dX12_friendItem_100 : decode cX12_friendItem 100 = .ok (.iadd, 1) := by decide +kernel
theorem dX12_friendItem_101 : decode cX12_friendItem 101 = .ok (.iastore, 1) := by decide +kernel
theorem dX12_friendItem_102 : decode cX12_friendItem 102 = .ok (.iconst 1, 1) := by decide +kernel
theorem dX12_friendItem_103 : decode cX12_friendItem 103 = .ok (.ireturn, 1) := by decide +kernel
set_option maxRecDepth 20000 in
theorem ggX12_item_X12_number : GoodIn wsX12_item wsX12_number := goodIn_r _ [18, 1, 2, 7, 19, 20, 21, 17, 22, 23, 24, 25, 26, 27, 28, 29, 30, 31, 32, 33, 34, 51, 52, 53, 54, 55, 56, 57, 58, 59, 60, 61, 62, 63, 64, 65, 66, 67, 68, 69, 70, 71, 72, 73, 74, 75, 76, 77, 78, 79, 80, 81, 82, 83, 84, 85, 86, 87, 88, 89, 90, 91, 92, 93, 94, 95, 96, 97, 98, 99, 100, 101, 102, 103, 104, 105, 106, 107] (by decide +kernel) (by decide +kernel)
set_option maxRecDepth 20000 in
theorem gX12_item_X12_number : GoodIn wsX12_item (wsV RX12 208 RX12 yX12_number wsX12_number) := goodIn_app (goodIn_of _ (by decide +kernel)) ggX12_item_X12_number
set_option maxRecDepth 20000 in
theorem ggX12_item_X12_slipItem : GoodIn wsX12_item wsX12_slipItem := goodIn_r _ [38, 39, 9, 40, 7, 41, 42, 43, 14, 15, 16, 17, 18, 1, 2, 19, 20, 21, 22, 23, 24, 25, 26, 27, 28, 29, 30, 31, 32, 33, 34, 51, 52, 53, 54, 55, 56, 57, 58, 59, 60, 61, 62, 63, 64, 65, 66, 67, 68, 69, 70, 71, 72, 73, 74, 75, 76, 77, 78, 79, 80, 81, 82, 83, 84, 85, 86, 87, 88, 89, 90, 91, 92, 93, 94, 95, 96, 97, 98, 99, 100, 101, 102, 103, 104, 105, 106, 107] (by decide +kernel) (by decide +kernel)
set_option maxRecDepth 20000 in
theorem gX12_item_X12_slipItem : GoodIn wsX12_item (wsV RX12 225 RX12 yX12_slipItem wsX12_slipItem) := goodIn_app (goodIn_of _ (by decide +kernel)) ggX12_item_X12_slipItem
set_option maxRecDepth 20000 in
theorem ggX12_item_X12_friendItem : GoodIn wsX12_item wsX12_friendItem := goodIn_r _ [47, 48, 49, 7, 41, 42, 50, 14, 15, 16, 17, 18, 1, 2, 19, 20, 21, 22, 23, 24, 25, 26, 27, 28, 29, 30, 31, 32, 33, 34, 51, 52, 53, 54, 55, 56, 57, 58, 59, 60, 61, 62, 63, 64, 65, 66, 67, 68, 69, 70, 71, 72, 73, 74, 75, 76, 77, 78, 79, 80, 81, 82, 83, 84, 85, 86, 87, 88, 89, 90, 91, 92, 93, 94, 95, 96, 97, 98, 99, 100, 101, 102, 103, 104, 105, 106, 107] (by decide +kernel) (by decide +kernel)
set_option maxRecDepth 20000 in
theorem gX12_item_X12_friendItem : GoodIn wsX12_item (wsV RX12 228 RX12 yX12_friendItem wsX12_friendItem) := goodIn_app (goodIn_of _ (by decide +kernel)) ggX12_item_X12_friendItem
set_option maxRecDepth 20000 in
theorem ggX12_item_X12_skip : GoodIn wsX12_item wsX12_skip := goodIn_r _ [22, 2, 23, 24, 25, 17, 26, 27, 1, 51, 52, 53, 54, 55, 56, 57, 58, 59, 60, 61, 62, 63, 64, 65, 66, 67, 68, 69, 70, 71, 72, 73, 74, 75, 76, 77, 78, 79, 80, 81, 82, 83, 84, 85, 86, 87, 88, 89, 90, 91, 92, 93, 94, 95, 96, 97, 98, 99, 100, 101, 102, 103, 104, 105, 106, 107] (by decide +kernel) (by decide +kernel)
set_option maxRecDepth 20000 in
theorem gX12_item_X12_skip : GoodIn wsX12_item (wsV RX12 197 RX12 yX12_skip wsX12_skip) := goodIn_app (goodIn_of _ (by decide +kernel)) ggX12_item_X12_skip
theorem dX12_item_0 : decode cX12_item 0 = .ok (.aload_n 0, 1) := by decide +kernel
theorem dX12_item_1 : decode cX12_item 1 = .ok (.getfield 67, 3) := by decide +kernel
theorem dX12_item_4 : decode cX12_item 4 = .ok (.aload_n 0, 1) := by decide +kernel
theorem dX12_item_5 : decode cX12_item 5 = .ok (.getfield 191, 3) := by decide +kernel
theorem dX12_item_8 : decode cX12_item 8 = .ok (.iaload, 1) := by decide +kernel
theorem dX12_item_9 : decode cX12_item 9 = .ok (.istore_n 1, 1) := by decide +kernel
theorem dX12_item_10 : decode cX12_item 10 = .ok (.aload_n 0, 1) := by decide +kernel
theorem dX12_item_11 : decode cX12_item 11 = .ok (.dup, 1) := by decide +kernel
theorem dX12_item_12 : decode cX12_item 12 = .ok (.getfield 191, 3) := by decide +kernel
theorem dX12_item_15 : decode cX12_item 15 = .ok (.iconst 1, 1) := by decide +kernel
theorem dX12_item_16 : decode cX12_item 16 = .ok (.iadd, 1) := by decide +kernel
theorem dX12_item_17 : decode cX12_item 17 = .ok (.putfield 191, 3) := by decide +kernel
theorem dX12_item_20 : decode cX12_item 20 = .ok (.iconst 0, 1) := by decide +kernel
theorem dX12_item_21 : decode cX12_item 21 = .ok (.istore_n 2, 1) := by decide +kernel
theorem dX12_item_22 : decode cX12_item 22 = .ok (.iload_n 1, 1) := by decide +kernel
theorem dX12_item_23 : decode cX12_item 23 = .ok (.bipush 112, 2) := by decide +kernel
theorem dX12_item_25 : decode cX12_item 25 = .ok (.if_icmp .ne 40, 3) := by decide +kernel
theorem dX12_item_28 : decode cX12_item 28 = .ok (.aload_n 0, 1) := by decide +kernel
theorem dX12_item_29 : decode cX12_item 29 = .ok (.getfield 214, 3) := by decide +kernel
theorem dX12_item_32 : decode cX12_item 32 = .ok (.ifCond .ne 18, 3) := by decide +kernel
theorem dX12_item_35 : decode cX12_item 35 = .ok (.aload_n 0, 1) := by decide +kernel
theorem dX12_item_36 : decode cX12_item 36 = .ok (.ldc 170, 2) := by decide +kernel
theorem dX12_item_38 : decode cX12_item 38 = .ok (.ldc 217, 2) := by decide +kernel
theorem dX12_item_40 : decode cX12_item 40 = .ok (.invokevirtual 208, 3) := by decide +kernel
theorem dX12_item_43 : decode cX12_item 43 = .ok (.ifCond .eq 7, 3) := by decide +kernel
theorem dX12_item_46 : decode cX12_item 46 = .ok (.iconst 1, 1) := by decide +kernel
theorem dX12_item_47 : decode cX12_item 47 = .ok (.goto 4, 3) := by decide +kernel
theorem dX12_item_50 : decode cX12_item 50 = .ok (.iconst 0, 1) := by decide +kernel
theorem dX12_item_51 : decode cX12_item 51 = .ok (.istore_n 2, 1) := by decide +kernel
theorem dX12_item_52 : decode cX12_item 52 = .ok (.aload_n 0, 1) := by decide +kernel
theorem dX12_item_53 : decode cX12_item 53 = .ok (.getfield 40, 3) := by decide +kernel
theorem dX12_item_56 : decode cX12_item 56 = .ok (.iconst 4, 1) := by decide +kernel
theorem dX12_item_57 : decode cX12_item 57 = .ok (.aload_n 0, 1) := by decide +kernel
theorem dX12_item_58 : decode cX12_item 58 = .ok (.getfield 204, 3) := by decide +kernel
theorem dX12_item_61 : decode cX12_item 61 = .ok (.iastore, 1) := by decide +kernel
theorem dX12_item_62 : decode cX12_item 62 = .ok (.goto 167, 3) := by decide +kernel
theorem dX12_item_65 : decode cX12_item 65 = .ok (.iload_n 1, 1) := by decide +kernel
theorem dX12_item_66 : decode cX12_item 66 = .ok (.bipush 122, 2) := by decide +kernel
theorem dX12_item_68 : decode cX12_item 68 = .ok (.if_icmp .ne 51, 3) := by decide +kernel
theorem dX12_item_71 : decode cX12_item 71 = .ok (.aload_n 0, 1) := by decide +kernel
theorem dX12_item_72 : decode cX12_item 72 = .ok (.getfield 214, 3) := by decide +kernel
theorem dX12_item_75 : decode cX12_item 75 = .ok (.ifCond .le 24, 3) := by decide +kernel
theorem dX12_item_78 : decode cX12_item 78 = .ok (.aload_n 0, 1) := by decide +kernel
theorem dX12_item_79 : decode cX12_item 79 = .ok (.getfield 218, 3) := by decide +kernel
theorem dX12_item_82 : decode cX12_item 82 = .ok (.ifCond .ne 17, 3) := by decide +kernel
theorem dX12_item_85 : decode cX12_item 85 = .ok (.aload_n 0, 1) := by decide +kernel
theorem dX12_item_86 : decode cX12_item 86 = .ok (.iconst 0, 1) := by decide +kernel
theorem dX12_item_87 : decode cX12_item 87 = .ok (.ldc 207, 2) := by decide +kernel
theorem dX12_item_89 : decode cX12_item 89 = .ok (.invokevirtual 208, 3) := by decide +kernel
theorem dX12_item_92 : decode cX12_item 92 = .ok (.ifCond .eq 7, 3) := by decide +kernel
theorem dX12_item_95 : decode cX12_item 95 = .ok (.iconst 1, 1) := by decide +kernel
theorem dX12_item_96 : decode cX12_item 96 = .ok (.goto 4, 3) := by decide +kernel
theorem dX12_item_99 : decode cX12_item 99 = .ok (.iconst 0, 1) := by decide +kernel
theorem dX12_item_100 : decode cX12_item 100 = .ok (.istore_n 2, 1) := by decide +kernel
theorem dX12_item_101 : decode cX12_item 101 = .ok (.aload_n 0, 1) := by decide +kernel
theorem dX12_item_102 : decode cX12_item 102 = .ok (.getfield 43, 3) := by decide +kernel
theorem dX12_item_105 : decode cX12_item 105 = .ok (.iconst 4, 1) := by decide +kernel
theorem dX12_item_106 : decode cX12_item 106 = .ok (.aload_n 0, 1) := by decide +kernel
theorem dX12_item_107 : decode cX12_item 107 = .ok (.getfield 204, 3) := by decide +kernel
theorem dX12_item_110 : decode cX12_item 110 = .ok (.iastore, 1) := by decide +kernel
theorem dX12_item_111 : decode cX12_item 111 = .ok (.aload_n 0, 1) := by decide +kernel
theorem dX12_item_112 : decode cX12_item 112 = .ok (.iconst 1, 1) := by decide +kernel
theorem dX12_item_113 : decode cX12_item 113 = .ok (.putfield 218, 3) := by decide +kernel
theorem dX12_item_116 : decode cX12_item 116 = .ok (.goto 113, 3) := by decide +kernel
theorem dX12_item_119 : decode cX12_item 119 = .ok (.iload_n 1, 1) := by decide +kernel
theorem dX12_item_120 : decode cX12_item 120 = .ok (.bipush 100, 2) := by decide +kernel
theorem dX12_item_122 : decode cX12_item 122 = .ok (.if_icmp .ne 52, 3) := by decide +kernel
theorem dX12_item_125 : decode cX12_item 125 = .ok (.aload_n 0, 1) := by decide +kernel
theorem dX12_item_126 : decode cX12_item 126 = .ok (.getfield 214, 3) := by decide +kernel
theorem dX12_item_129 : decode cX12_item 129 = .ok (.ifCond .le 25, 3) := by decide +kernel
theorem dX12_item_132 : decode cX12_item 132 = .ok (.aload_n 0, 1) := by decide +kernel
theorem dX12_item_133 : decode cX12_item 133 = .ok (.getfield 222, 3) := by decide +kernel
theorem dX12_item_136 : decode cX12_item 136 = .ok (.ifCond .ne 18, 3) := by decide +kernel
theorem dX12_item_139 : decode cX12_item 139 = .ok (.aload_n 0, 1) := by decide +kernel
theorem dX12_item_140 : decode cX12_item 140 = .ok (.ldc 157, 2) := by decide +kernel
theorem dX12_item_142 : decode cX12_item 142 = .ok (.ldc 170, 2) := by decide +kernel
theorem dX12_item_144 : decode cX12_item 144 = .ok (.invokevirtual 208, 3) := by decide +kernel
theorem dX12_item_147 : decode cX12_item 147 = .ok (.ifCond .eq 7, 3) := by decide +kernel
theorem dX12_item_150 : decode cX12_item 150 = .ok (.iconst 1, 1) := by decide +kernel
theorem dX12_item_151 : decode cX12_item 151 = .ok (.goto 4, 3) := by decide +kernel
theorem dX12_item_154 : decode cX12_item 154 = .ok (.iconst 0, 1) := by decide +kernel
theorem dX12_item_155 : decode cX12_item 155 = .ok (.istore_n 2, 1) := by decide +kernel
theorem dX12_item_156 : decode cX12_item 156 = .ok (.aload_n 0, 1) := by decide +kernel
theorem dX12_item_157 : decode cX12_item 157 = .ok (.getfield 46, 3) := by decide +kernel
theorem dX12_item_160 : decode cX12_item 160 = .ok (.iconst 4, 1) := by decide +kernel
theorem dX12_item_161 : decode cX12_item 161 = .ok (.aload_n 0, 1) := by decide +kernel
theorem dX12_item_162 : decode cX12_item 162 = .ok (.getfield 204, 3) := by decide +kernel
theorem dX12_item_165 : decode cX12_item 165 = .ok (.iastore, 1) := by decide +kernel
theorem dX12_item_166 : decode cX12_item 166 = .ok (.aload_n 0, 1) := by decide +kernel
theorem dX12_item_167 : decode cX12_item 167 = .ok (.iconst 1, 1) := by decide +kernel
theorem dX12_item_168 : decode cX12_item 168 = .ok (.putfield 222, 3) := by decide +kernel
theorem dX12_item_171 : decode cX12_item 171 = .ok (.goto 58, 3) := by decide +kernel
theorem dX12_item_174 : decode cX12_item 174 = .ok (.iload_n 1, 1) := by decide +kernel
theorem dX12_item_175 : decode cX12_item 175 = .ok (.bipush 115, 2) := by decide +kernel
theorem dX12_item_177 : decode cX12_item 177 = .ok (.if_icmp .ne 26, 3) := by decide +kernel
theorem dX12_item_180 : decode cX12_item 180 = .ok (.aload_n 0, 1) := by decide +kernel
theorem dX12_item_181 : decode cX12_item 181 = .ok (.getfield 214, 3) := by decide +kernel
theorem dX12_item_184 : decode cX12_item 184 = .ok (.ifCond .le 14, 3) := by decide +kernel
theorem dX12_item_187 : decode cX12_item 187 = .ok (.aload_n 0, 1) := by decide +kernel
theorem dX12_item_188 : decode cX12_item 188 = .ok (.invokevirtual 225, 3) := by decide +kernel
theorem dX12_item_191 : decode cX12_item 191 = .ok (.ifCond .eq 7, 3) := by decide +kernel
theorem dX12_item_194 : decode cX12_item 194 = .ok (.iconst 1, 1) := by decide +kernel
theorem dX12_item_195 : decode cX12_item 195 = .ok (.goto 4, 3) := by decide +kernel
theorem dX12_item_198 : decode cX12_item 198 = .ok (.iconst 0, 1) := by decide +kernel
theorem dX12_item_199 : decode cX12_item 199 = .ok (.istore_n 2, 1) := by decide +kernel
theorem dX12_item_200 : decode cX12_item 200 = .ok (.goto 29, 3) := by decide +kernel
theorem dX12_item_203 : decode cX12_item 203 = .ok (.iload_n 1, 1) := by decide +kernel
theorem dX12_item_204 : decode cX12_item 204 = .ok (.bipush 99, 2) := by decide +kernel
theorem dX12_item_206 : decode cX12_item 206 = .ok (.if_icmp .ne 23, 3) := by decide +kernel
theorem dX12_item_209 : decode cX12_item 209 = .ok (.aload_n 0, 1) := by decide +kernel
theorem dX12_item_210 : decode cX12_item 210 = .ok (.getfield 214, 3) := by decide +kernel
theorem dX12_item_213 : decode cX12_item 213 = .ok (.ifCond .le 14, 3) := by decide +kernel
theorem dX12_item_216 : decode cX12_item 216 = .ok (.aload_n 0, 1) := by decide +kernel
theorem dX12_item_217 : decode cX12_item 217 = .ok (.invokevirtual 228, 3) := by decide +kernel
theorem dX12_item_220 : decode cX12_item 220 = .ok (.ifCond .eq 7, 3) := by decide +kernel
theorem dX12_item_223 : decode cX12_item 223 = .ok (.iconst 1, 1) := by decide +kernel
theorem dX12_item_224 : decode cX12_item 224 = .ok (.goto 4, 3) := by decide +kernel
theorem dX12_item_227 : decode cX12_item 227 = .ok (.iconst 0, 1) := by decide +kernel
theorem dX12_item_228 : decode cX12_item 228 = .ok (.istore_n 2, 1) := by decide +kernel
theorem dX12_item_229 : decode cX12_item 229 = .ok (.iload_n 2, 1) := by decide +kernel
theorem dX12_item_230 : decode cX12_item 230 = .ok (.ifCond .eq 16, 3) := by decide +kernel
theorem dX12_item_233 : decode cX12_item 233 = .ok (.aload_n 0, 1) := by decide +kernel
theorem dX12_item_234 : decode cX12_item 234 = .ok (.bipush 59, 2) := by decide +kernel
theorem dX12_item_236 : decode cX12_item 236 = .ok (.invokevirtual 197, 3) := by decide +kernel
theorem dX12_item_239 : decode cX12_item 239 = .ok (.ifCond .eq 7, 3) := by decide +kernel
theorem dX12_item_242 : decode cX12_item 242 = .ok (.iconst 1, 1) := by decide +kernel
theorem dX12_item_243 : decode cX12_item 243 = .ok (.goto 4, 3) := by decide +kernel
theorem dX12_item_246 : decode cX12_item 246 = .ok (.iconst 0, 1) := by decide +kernel
theorem dX12_item_247 : decode cX12_item 247 = .ok (.ireturn, 1) := by decide +kernel
set_option maxRecDepth 20000 in
theorem ggX12_fault_X12_item : GoodIn wsX12_fault wsX12_item := goodIn_r _ [14, 15, 1, 2, 16, 17, 18, 19, 3, 20, 5, 4, 21, 6, 22, 23, 24, 13, 25, 26, 27, 28, 29, 30, 31, 32, 33, 9, 34, 35, 36, 37, 38, 39, 40, 41, 42, 43, 44, 7, 45, 46, 47, 48, 49, 50, 51, 52, 8, 53, 54, 55, 56, 57, 58, 59, 60, 61, 62, 63, 64, 65, 66, 67, 68, 69, 70, 71, 72, 73, 74, 75, 76, 77, 78, 79, 80, 81, 82, 83, 84, 85, 86, 87, 88, 89, 90, 91, 92, 93, 94, 95, 96, 97, 98, 99, 100, 101, 102, 103, 104, 105, 106, 107, 108, 109, 110, 111] (by decide +kernel) (by decide +kernel)
set_option maxRecDepth 20000 in
theorem gX12_fault_X12_item : GoodIn wsX12_fault (wsV RX12 231 RX12 yX12_item wsX12_item) := goodIn_app (goodIn_of _ (by decide +kernel)) ggX12_fault_X12_item
theorem dX12_fault_0 : decode cX12_fault 0 = .ok (.aload_n 0, 1) := by decide +kernel
theorem dX12_fault_1 : decode cX12_fault 1 = .ok (.iconst 0, 1) := by decide +kernel
theorem dX12_fault_2 : decode cX12_fault 2 = .ok (.putfield 191, 3) := by decide +kernel
theorem dX12_fault_5 : decode cX12_fault 5 = .ok (.aload_n 0, 1) := by decide +kernel
theorem dX12_fault_6 : decode cX12_fault 6 = .ok (.iconst 0, 1) := by decide +kernel
theorem dX12_fault_7 : decode cX12_fault 7 = .ok (.putfield 214, 3) := by decide +kernel
theorem dX12_fault_10 : decode cX12_fault 10 = .ok (.aload_n 0, 1) := by decide +kernel
theorem dX12_fault_11 : decode cX12_fault 11 = .ok (.iconst 0, 1) := by decide +kernel
theorem dX12_fault_12 : decode cX12_fault 12 = .ok (.putfield 218, 3) := by decide +kernel
theorem dX12_fault_15 : decode cX12_fault 15 = .ok (.aload_n 0, 1) := by decide +kernel
theorem dX12_fault_16 : decode cX12_fault 16 = .ok (.iconst 0, 1) := by decide +kernel
theorem dX12_fault_17 : decode cX12_fault 17 = .ok (.putfield 222, 3) := by decide +kernel
theorem dX12_fault_20 : decode cX12_fault 20 = .ok (.aload_n 0, 1) := by decide +kernel
theorem dX12_fault_21 : decode cX12_fault 21 = .ok (.getfield 43, 3) := by decide +kernel
theorem dX12_fault_24 : decode cX12_fault 24 = .ok (.iconst 4, 1) := by decide +kernel
theorem dX12_fault_25 : decode cX12_fault 25 = .ok (.iconst 0, 1) := by decide +kernel
theorem dX12_fault_26 : decode cX12_fault 26 = .ok (.iastore, 1) := by decide +kernel
theorem dX12_fault_27 : decode cX12_fault 27 = .ok (.aload_n 0, 1) := by decide +kernel
theorem dX12_fault_28 : decode cX12_fault 28 = .ok (.getfield 46, 3) := by decide +kernel
theorem dX12_fault_31 : decode cX12_fault 31 = .ok (.iconst 4, 1) := by decide +kernel
theorem dX12_fault_32 : decode cX12_fault 32 = .ok (.iconst 0, 1) := by decide +kernel
theorem dX12_fault_33 : decode cX12_fault 33 = .ok (.iastore, 1) := by decide +kernel
theorem dX12_fault_34 : decode cX12_fault 34 = .ok (.aload_n 0, 1) := by decide +kernel
theorem dX12_fault_35 : decode cX12_fault 35 = .ok (.getfield 49, 3) := by decide +kernel
theorem dX12_fault_38 : decode cX12_fault 38 = .ok (.iconst 4, 1) := by decide +kernel
theorem dX12_fault_39 : decode cX12_fault 39 = .ok (.iconst 0, 1) := by decide +kernel
theorem dX12_fault_40 : decode cX12_fault 40 = .ok (.iastore, 1) := by decide +kernel
theorem dX12_fault_41 : decode cX12_fault 41 = .ok (.aload_n 0, 1) := by decide +kernel
theorem dX12_fault_42 : decode cX12_fault 42 = .ok (.getfield 58, 3) := by decide +kernel
theorem dX12_fault_45 : decode cX12_fault 45 = .ok (.iconst 4, 1) := by decide +kernel
theorem dX12_fault_46 : decode cX12_fault 46 = .ok (.iconst 0, 1) := by decide +kernel
theorem dX12_fault_47 : decode cX12_fault 47 = .ok (.iastore, 1) := by decide +kernel
theorem dX12_fault_48 : decode cX12_fault 48 = .ok (.aload_n 0, 1) := by decide +kernel
theorem dX12_fault_49 : decode cX12_fault 49 = .ok (.getfield 186, 3) := by decide +kernel
theorem dX12_fault_52 : decode cX12_fault 52 = .ok (.ifCond .ne 5, 3) := by decide +kernel
theorem dX12_fault_55 : decode cX12_fault 55 = .ok (.iconst 0, 1) := by decide +kernel
theorem dX12_fault_56 : decode cX12_fault 56 = .ok (.ireturn, 1) := by decide +kernel
theorem dX12_fault_57 : decode cX12_fault 57 = .ok (.aload_n 0, 1) := by decide +kernel
theorem dX12_fault_58 : decode cX12_fault 58 = .ok (.getfield 191, 3) := by decide +kernel
theorem dX12_fault_61 : decode cX12_fault 61 = .ok (.aload_n 0, 1) := by decide +kernel
theorem dX12_fault_62 : decode cX12_fault 62 = .ok (.getfield 186, 3) := by decide +kernel
theorem dX12_fault_65 : decode cX12_fault 65 = .ok (.if_icmp .ge 30, 3) := by decide +kernel
theorem dX12_fault_68 : decode cX12_fault 68 = .ok (.aload_n 0, 1) := by decide +kernel
theorem dX12_fault_69 : decode cX12_fault 69 = .ok (.getfield 191, 3) := by decide +kernel
theorem dX12_fault_72 : decode cX12_fault 72 = .ok (.istore_n 1, 1) := by decide +kernel
theorem dX12_fault_73 : decode cX12_fault 73 = .ok (.aload_n 0, 1) := by decide +kernel
theorem dX12_fault_74 : decode cX12_fault 74 = .ok (.invokevirtual 231, 3) := by decide +kernel
theorem dX12_fault_77 : decode cX12_fault 77 = .ok (.ifCond .ne 5, 3) := by decide +kernel
theorem dX12_fault_80 : decode cX12_fault 80 = .ok (.iload_n 1, 1) := by decide +kernel
theorem dX12_fault_81 : decode cX12_fault 81 = .ok (.ireturn, 1) := by decide +kernel
theorem dX12_fault_82 : decode cX12_fault 82 = .ok (.aload_n 0, 1) := by decide +kernel
theorem dX12_fault_83 : decode cX12_fault 83 = .ok (.dup, 1) := by decide +kernel
theorem dX12_fault_84 : decode cX12_fault 84 = .ok (.getfield 214, 3) := by decide +kernel
theorem dX12_fault_87 : decode cX12_fault 87 = .ok (.iconst 1, 1) := by decide +kernel
theorem dX12_fault_88 : decode cX12_fault 88 = .ok (.iadd, 1) := by decide +kernel
theorem dX12_fault_89 : decode cX12_fault 89 = .ok (.putfield 214, 3) := by decide +kernel
theorem dX12_fault_92 : decode cX12_fault 92 = .ok (.goto (-35), 3) := by decide +kernel
theorem dX12_fault_95 : decode cX12_fault 95 = .ok (.bipush (-4), 2) := by decide +kernel
theorem dX12_fault_97 : decode cX12_fault 97 = .ok (.ireturn, 1) := by decide +kernel
set_option maxRecDepth 20000 in
theorem ggX12_model_X12_isStar : GoodIn wsX12_model wsX12_isStar := goodIn_r _ [15, 16, 17, 18, 14, 19] (by decide +kernel) (by decide +kernel)
set_option maxRecDepth 20000 in
theorem gX12_model_X12_isStar : GoodIn wsX12_model (va_wsS RX12 142 yX12_isStar wsX12_isStar) := goodIn_app (goodIn_of _ (by decide +kernel)) ggX12_model_X12_isStar
set_option maxRecDepth 20000 in
theorem ggX12_model_X12_fault : GoodIn wsX12_model wsX12_fault := goodIn_r _ [23, 24, 11, 25, 26, 3, 4, 5, 8, 27, 28, 29, 30, 14, 31, 32, 33, 34, 2, 35, 36, 37, 38, 39, 40, 41, 42, 43, 44, 45, 46, 47, 48, 49, 50, 51, 52, 53, 17, 18, 19, 54, 55, 56, 57, 6, 58, 59, 7, 60, 61, 62, 63, 9, 10, 64, 65, 66, 67, 68, 69, 70, 71, 72, 73, 74, 75, 76, 77, 78, 79, 80, 81, 82, 83, 84, 85, 86, 87, 88, 89, 90, 91, 92, 93, 94, 95, 96, 97, 98, 99, 100, 101, 102, 103, 104, 105, 106, 107, 108, 109, 110, 111, 112, 113, 114, 115, 116, 117, 118, 119, 120] (by decide +kernel) (by decide +kernel)
set_option maxRecDepth 20000 in
theorem gX12_model_X12_fault : GoodIn wsX12_model (wsV RX12 234 RX12 yX12_fault wsX12_fault) := goodIn_app (goodIn_of _ (by decide +kernel)) ggX12_model_X12_fault
theorem dX12_model_0 : decode cX12_model 0 = .ok (.iload_n 1, 1) := by decide +kernel
theorem dX12_model_1 : decode cX12_model 1 = .ok (.invokestatic 142, 3) := by decide +kernel
theorem dX12_model_4 : decode cX12_model 4 = .ok (.ifCond .ne 5, 3) := by decide +kernel
theorem dX12_model_7 : decode cX12_model 7 = .ok (.iconst (-1), 1) := by decide +kernel
theorem dX12_model_8 : decode cX12_model 8 = .ok (.ireturn, 1) := by decide +kernel
theorem dX12_model_9 : decode cX12_model 9 = .ok (.aload_n 0, 1) := by decide +kernel
theorem dX12_model_10 : decode cX12_model 10 = .ok (.invokevirtual 234, 3) := by decide +kernel
theorem dX12_model_13 : decode cX12_model 13 = .ok (.bipush (-4), 2) := by decide +kernel
theorem dX12_model_15 : decode cX12_model 15 = .ok (.if_icmp .eq 6, 3) := by decide +kernel
theorem dX12_model_18 : decode cX12_model 18 = .ok (.bipush (-2), 2) := by decide +kernel
theorem dX12_model_20 : decode cX12_model 20 = .ok (.ireturn, 1) := by decide +kernel
theorem dX12_model_21 : decode cX12_model 21 = .ok (.aload_n 0, 1) := by decide +kernel
theorem dX12_model_22 : decode cX12_model 22 = .ok (.getfield 36, 3) := by decide +kernel
theorem dX12_model_25 : decode cX12_model 25 = .ok (.iload_n 1, 1) := by decide +kernel
theorem dX12_model_26 : decode cX12_model 26 = .ok (.iconst 1, 1) := by decide +kernel
theorem dX12_model_27 : decode cX12_model 27 = .ok (.bastore, 1) := by decide +kernel
theorem dX12_model_28 : decode cX12_model 28 = .ok (.aload_n 0, 1) := by decide +kernel
theorem dX12_model_29 : decode cX12_model 29 = .ok (.getfield 40, 3) := by decide +kernel
theorem dX12_model_32 : decode cX12_model 32 = .ok (.iload_n 1, 1) := by decide +kernel
theorem dX12_model_33 : decode cX12_model 33 = .ok (.aload_n 0, 1) := by decide +kernel
theorem dX12_model_34 : decode cX12_model 34 = .ok (.getfield 40, 3) := by decide +kernel
theorem dX12_model_37 : decode cX12_model 37 = .ok (.iconst 4, 1) := by decide +kernel
theorem dX12_model_38 : decode cX12_model 38 = .ok (.iaload, 1) := by decide +kernel
theorem dX12_model_39 : decode cX12_model 39 = .ok (.iastore, 1) := by decide +kernel
theorem dX12_model_40 : decode cX12_model 40 = .ok (.aload_n 0, 1) := by decide +kernel
theorem dX12_model_41 : decode cX12_model 41 = .ok (.getfield 43, 3) := by decide +kernel
theorem dX12_model_44 : decode cX12_model 44 = .ok (.iload_n 1, 1) := by decide +kernel
theorem dX12_model_45 : decode cX12_model 45 = .ok (.aload_n 0, 1) := by decide +kernel
theorem dX12_model_46 : decode cX12_model 46 = .ok (.getfield 43, 3) := by decide +kernel
theorem dX12_model_49 : decode cX12_model 49 = .ok (.iconst 4, 1) := by decide +kernel
theorem dX12_model_50 : decode cX12_model 50 = .ok (.iaload, 1) := by decide +kernel
theorem dX12_model_51 : decode cX12_model 51 = .ok (.iastore, 1) := by decide +kernel
theorem dX12_model_52 : decode cX12_model 52 = .ok (.aload_n 0, 1) := by decide +kernel
theorem dX12_model_53 : decode cX12_model 53 = .ok (.getfield 46, 3) := by decide +kernel
theorem dX12_model_56 : decode cX12_model 56 = .ok (.iload_n 1, 1) := by decide +kernel
theorem dX12_model_57 : decode cX12_model 57 = .ok (.aload_n 0, 1) := by decide +kernel
theorem dX12_model_58 : decode cX12_model 58 = .ok (.getfield 46, 3) := by decide +kernel
theorem dX12_model_61 : decode cX12_model 61 = .ok (.iconst 4, 1) := by decide +kernel
theorem dX12_model_62 : decode cX12_model 62 = .ok (.iaload, 1) := by decide +kernel
theorem dX12_model_63 : decode cX12_model 63 = .ok (.iastore, 1) := by decide +kernel
theorem dX12_model_64 : decode cX12_model 64 = .ok (.aload_n 0, 1) := by decide +kernel
theorem dX12_model_65 : decode cX12_model 65 = .ok (.getfield 49, 3) := by decide +kernel
theorem dX12_model_68 : decode cX12_model 68 = .ok (.iload_n 1, 1) := by decide +kernel
theorem dX12_model_69 : decode cX12_model 69 = .ok (.aload_n 0, 1) := by decide +kernel
theorem dX12_model_70 : decode cX12_model 70 = .ok (.getfield 49, 3) := by decide +kernel
theorem dX12_model_73 : decode cX12_model 73 = .ok (.iconst 4, 1) := by decide +kernel
theorem dX12_model_74 : decode cX12_model 74 = .ok (.iaload, 1) := by decide +kernel
theorem dX12_model_75 : decode cX12_model 75 = .ok (.iastore, 1) := by decide +kernel
theorem dX12_model_76 : decode cX12_model 76 = .ok (.iconst 0, 1) := by decide +kernel
theorem dX12_model_77 : decode cX12_model 77 = .ok (.istore_n 2, 1) := by decide +kernel
theorem dX12_model_78 : decode cX12_model 78 = .ok (.iload_n 2, 1) := by decide +kernel
theorem dX12_model_79 : decode cX12_model 79 = .ok (.iconst 3, 1) := by decide +kernel
theorem dX12_model_80 : decode cX12_model 80 = .ok (.if_icmp .ge 47, 3) := by decide +kernel
theorem dX12_model_83 : decode cX12_model 83 = .ok (.aload_n 0, 1) := by decide +kernel
theorem dX12_model_84 : decode cX12_model 84 = .ok (.getfield 52, 3) := by decide +kernel
theorem dX12_model_87 : decode cX12_model 87 = .ok (.iconst 3, 1) := by decide +kernel
theorem dX12_model_88 : decode cX12_model 88 = .ok (.iload_n 1, 1) := by decide +kernel
theorem dX12_model_89 : decode cX12_model 89 = .ok (.imul, 1) := by decide +kernel
theorem dX12_model_90 : decode cX12_model 90 = .ok (.iload_n 2, 1) := by decide +kernel
theorem dX12_model_91 : decode cX12_model 91 = .ok (.iadd, 1) := by decide +kernel
theorem dX12_model_92 : decode cX12_model 92 = .ok (.aload_n 0, 1) := by decide +kernel
theorem dX12_model_93 : decode cX12_model 93 = .ok (.getfield 52, 3) := by decide +kernel
theorem dX12_model_96 : decode cX12_model 96 = .ok (.bipush 12, 2) := by decide +kernel
theorem dX12_model_98 : decode cX12_model 98 = .ok (.iload_n 2, 1) := by decide +kernel
theorem dX12_model_99 : decode cX12_model 99 = .ok (.iadd, 1) := by decide +kernel
theorem dX12_model_100 : decode cX12_model 100 = .ok (.iaload, 1) := by decide +kernel
theorem dX12_model_101 : decode cX12_model 101 = .ok (.iastore, 1) := by decide +kernel
theorem dX12_model_102 : decode cX12_model 102 = .ok (.aload_n 0, 1) := by decide +kernel
theorem dX12_model_103 : decode cX12_model 103 = .ok (.getfield 55, 3) := by decide +kernel
theorem dX12_model_106 : decode cX12_model 106 = .ok (.iconst 3, 1) := by decide +kernel
theorem dX12_model_107 : decode cX12_model 107 = .ok (.iload_n 1, 1) := by decide +kernel
theorem dX12_model_108 : decode cX12_model 108 = .ok (.imul, 1) := by decide +kernel
theorem dX12_model_109 : decode cX12_model 109 = .ok (.iload_n 2, 1) := by decide +kernel
theorem dX12_model_110 : decode cX12_model 110 = .ok (.iadd, 1) := by decide +kernel
theorem dX12_model_111 : decode cX12_model 111 = .ok (.aload_n 0, 1) := by decide +kernel
theorem dX12_model_112 : decode cX12_model 112 = .ok (.getfield 55, 3) := by decide +kernel
theorem dX12_model_115 : decode cX12_model 115 = .ok (.bipush 12, 2) := by decide +kernel
theorem dX12_model_117 : decode cX12_model 117 = .ok (.iload_n 2, 1) := by decide +kernel
theorem dX12_model_118 : decode cX12_model 118 = .ok (.iadd, 1) := by decide +kernel
theorem dX12_model_119 : decode cX12_model 119 = .ok (.iaload, 1) := by decide +kernel
theorem dX12_model_120 : decode cX12_model 120 = .ok (.iastore, 1) := by decide +kernel
theorem dX12_model_121 : decode cX12_model 121 = .ok (.iinc 2 1, 3) := by decide +kernel
theorem dX12_model_124 : decode cX12_model 124 = .ok (.goto (-46), 3) := by decide +kernel
theorem dX12_model_127 : decode cX12_model 127 = .ok (.aload_n 0, 1) := by decide +kernel
theorem dX12_model_128 : decode cX12_model 128 = .ok (.getfield 58, 3) := by decide +kernel
theorem dX12_model_131 : decode cX12_model 131 = .ok (.iload_n 1, 1) := by decide +kernel
theorem dX12_model_132 : decode cX12_model 132 = .ok (.aload_n 0, 1) := by decide +kernel
theorem dX12_model_133 : decode cX12_model 133 = .ok (.getfield 58, 3) := by decide +kernel
theorem dX12_model_136 : decode cX12_model 136 = .ok (.iconst 4, 1) := by decide +kernel
theorem dX12_model_137 : decode cX12_model 137 = .ok (.iaload, 1) := by decide +kernel
theorem dX12_model_138 : decode cX12_model 138 = .ok (.iastore, 1) := by decide +kernel
theorem dX12_model_139 : decode cX12_model 139 = .ok (.iconst 0, 1) := by decide +kernel
theorem dX12_model_140 : decode cX12_model 140 = .ok (.istore_n 2, 1) := by decide +kernel
theorem dX12_model_141 : decode cX12_model 141 = .ok (.iload_n 2, 1) := by decide +kernel
theorem dX12_model_142 : decode cX12_model 142 = .ok (.iconst 2, 1) := by decide +kernel
theorem dX12_model_143 : decode cX12_model 143 = .ok (.if_icmp .ge 68, 3) := by decide +kernel
theorem dX12_model_146 : decode cX12_model 146 = .ok (.aload_n 0, 1) := by decide +kernel
theorem dX12_model_147 : decode cX12_model 147 = .ok (.getfield 61, 3) := by decide +kernel
theorem dX12_model_150 : decode cX12_model 150 = .ok (.iconst 2, 1) := by decide +kernel
theorem dX12_model_151 : decode cX12_model 151 = .ok (.iload_n 1, 1) := by decide +kernel
theorem dX12_model_152 : decode cX12_model 152 = .ok (.imul, 1) := by decide +kernel
theorem dX12_model_153 : decode cX12_model 153 = .ok (.iload_n 2, 1) := by decide +kernel
theorem dX12_model_154 : decode cX12_model 154 = .ok (.iadd, 1) := by decide +kernel
theorem dX12_model_155 : decode cX12_model 155 = .ok (.aload_n 0, 1) := by decide +kernel
theorem dX12_model_156 : decode cX12_model 156 = .ok (.getfield 61, 3) := by decide +kernel
theorem dX12_model_159 : decode cX12_model 159 = .ok (.bipush 8, 2) := by decide +kernel
theorem dX12_model_161 : decode cX12_model 161 = .ok (.iload_n 2, 1) := by decide +kernel
theorem dX12_model_162 : decode cX12_model 162 = .ok (.iadd, 1) := by decide +kernel
theorem dX12_model_163 : decode cX12_model 163 = .ok (.iaload, 1) := by decide +kernel
theorem dX12_model_164 : decode cX12_model 164 = .ok (.iastore, 1) := by decide +kernel
theorem dX12_model_165 : decode cX12_model 165 = .ok (.iconst 0, 1) := by decide +kernel
theorem dX12_model_166 : decode cX12_model 166 = .ok (.istore_n 3, 1) := by decide +kernel
theorem dX12_model_167 : decode cX12_model 167 = .ok (.iload_n 3, 1) := by decide +kernel
theorem dX12_model_168 : decode cX12_model 168 = .ok (.iconst 4, 1) := by decide +kernel
theorem dX12_model_169 : decode cX12_model 169 = .ok (.if_icmp .ge 36, 3) := by decide +kernel
theorem dX12_model_172 : decode cX12_model 172 = .ok (.aload_n 0, 1) := by decide +kernel
theorem dX12_model_173 : decode cX12_model 173 = .ok (.getfield 64, 3) := by decide +kernel
theorem dX12_model_176 : decode cX12_model 176 = .ok (.iconst 4, 1) := by decide +kernel
theorem dX12_model_177 : decode cX12_model 177 = .ok (.iconst 2, 1) := by decide +kernel
theorem dX12_model_178 : decode cX12_model 178 = .ok (.iload_n 1, 1) := by decide +kernel
theorem dX12_model_179 : decode cX12_model 179 = .ok (.imul, 1) := by decide +kernel
theorem dX12_model_180 : decode cX12_model 180 = .ok (.iload_n 2, 1) := by decide +kernel
theorem dX12_model_181 : decode cX12_model 181 = .ok (.iadd, 1) := by decide +kernel
theorem dX12_model_182 : decode cX12_model 182 = .ok (.imul, 1) := by decide +kernel
theorem dX12_model_183 : decode cX12_model 183 = .ok (.iload_n 3, 1) := by decide +kernel
theorem dX12_model_184 : decode cX12_model 184 = .ok (.iadd, 1) := by decide +kernel
theorem dX12_model_185 : decode cX12_model 185 = .ok (.aload_n 0, 1) := by decide +kernel
theorem dX12_model_186 : decode cX12_model 186 = .ok (.getfield 64, 3) := by decide +kernel
theorem dX12_model_189 : decode cX12_model 189 = .ok (.iconst 4, 1) := by decide +kernel
theorem dX12_model_190 : decode cX12_model 190 = .ok (.bipush 8, 2) := by decide +kernel
theorem dX12_model_192 : decode cX12_model 192 = .ok (.iload_n 2, 1) := by decide +kernel
theorem dX12_model_193 : decode cX12_model 193 = .ok (.iadd, 1) := by decide +kernel
theorem dX12_model_194 : decode cX12_model 194 = .ok (.imul, 1) := by decide +kernel
theorem dX12_model_195 : decode cX12_model 195 = .ok (.iload_n 3, 1) := by decide +kernel
theorem dX12_model_196 : decode cX12_model 196 = .ok (.iadd, 1) := by decide +kernel
theorem dX12_model_197 : decode cX12_model 197 = .ok (.iaload, 1) := by decide +kernel
theorem dX12_model_198 : decode cX12_model 198 = .ok (.iastore, 1) := by decide +kernel
theorem dX12_model_199 : decode cX12_model 199 = .ok (.iinc 3 1, 3) := by decide +kernel
theorem dX12_model_202 : decode cX12_model 202 = .ok (.goto (-35), 3) := by decide +kernel
theorem dX12_model_205 : decode cX12_model 205 = .ok (.iinc 2 1, 3) := by decide +kernel
theorem dX12_model_208 : decode cX12_model 208 = .ok (.goto (-67), 3) := by decide +kernel
theorem dX12_model_211 : decode cX12_model 211 = .ok (.aload_n 0, 1) := by decide +kernel
theorem dX12_model_212 : decode cX12_model 212 = .ok (.getfield 214, 3) := by decide +kernel
theorem dX12_model_215 : decode cX12_model 215 = .ok (.ireturn, 1) := by decide +kernel
theorem dX12_later_0 : decode cX12_later 0 = .ok (.lconst 0, 1) := by decide +kernel
theorem dX12_later_1 : decode cX12_later 1 = .ok (.lstore_n 3, 1) := by decide +kernel
theorem dX12_later_2 : decode cX12_later 2 = .ok (.iconst 0, 1) := by decide +kernel
theorem dX12_later_3 : decode cX12_later 3 = .ok (.istore 5, 2) := by decide +kernel
theorem dX12_later_5 : decode cX12_later 5 = .ok (.iload 5, 2) := by decide +kernel
theorem dX12_later_7 : decode cX12_later 7 = .ok (.aload_n 0, 1) := by decide +kernel
theorem dX12_later_8 : decode cX12_later 8 = .ok (.getfield 58, 3) := by decide +kernel
theorem dX12_later_11 : decode cX12_later 11 = .ok (.iload_n 1, 1) := by decide +kernel
theorem dX12_later_12 : decode cX12_later 12 = .ok (.iaload, 1) := by decide +kernel
theorem dX12_later_13 : decode cX12_later 13 = .ok (.if_icmp .ge 49, 3) := by decide +kernel
theorem dX12_later_16 : decode cX12_later 16 = .ok (.aload_n 0, 1) := by decide +kernel
theorem dX12_later_17 : decode cX12_later 17 = .ok (.getfield 61, 3) := by decide +kernel
theorem dX12_later_20 : decode cX12_later 20 = .ok (.iconst 2, 1) := by decide +kernel
theorem dX12_later_21 : decode cX12_later 21 = .ok (.iload_n 1, 1) := by decide +kernel
theorem dX12_later_22 : decode cX12_later 22 = .ok (.imul, 1) := by decide +kernel
theorem dX12_later_23 : decode cX12_later 23 = .ok (.iload 5, 2) := by decide +kernel
theorem dX12_later_25 : decode cX12_later 25 = .ok (.iadd, 1) := by decide +kernel
theorem dX12_later_26 : decode cX12_later 26 = .ok (.iaload, 1) := by decide +kernel
theorem dX12_later_27 : decode cX12_later 27 = .ok (.istore 6, 2) := by decide +kernel
theorem dX12_later_29 : decode cX12_later 29 = .ok (.lload_n 3, 1) := by decide +kernel
theorem dX12_later_30 : decode cX12_later 30 = .ok (.aload_n 0, 1) := by decide +kernel
theorem dX12_later_31 : decode cX12_later 31 = .ok (.getfield 64, 3) := by decide +kernel
theorem dX12_later_34 : decode cX12_later 34 = .ok (.iconst 4, 1) := by decide +kernel
theorem dX12_later_35 : decode cX12_later 35 = .ok (.iconst 2, 1) := by decide +kernel
theorem dX12_later_36 : decode cX12_later 36 = .ok (.iload_n 1, 1) := by decide +kernel
theorem dX12_later_37 : decode cX12_later 37 = .ok (.imul, 1) := by decide +kernel
theorem dX12_later_38 : decode cX12_later 38 = .ok (.iload 5, 2) := by decide +kernel
theorem dX12_later_40 : decode cX12_later 40 = .ok (.iadd, 1) := by decide +kernel
theorem dX12_later_41 : decode cX12_later 41 = .ok (.imul, 1) := by decide +kernel
theorem dX12_later_42 : decode cX12_later 42 = .ok (.iconst 4, 1) := by decide +kernel
theorem dX12_later_43 : decode cX12_later 43 = .ok (.iload_n 2, 1) := by decide +kernel
theorem dX12_later_44 : decode cX12_later 44 = .ok (.iload 6, 2) := by decide +kernel
theorem dX12_later_46 : decode cX12_later 46 = .ok (.irem, 1) := by decide +kernel
theorem dX12_later_47 : decode cX12_later 47 = .ok (.imul, 1) := by decide +kernel
theorem dX12_later_48 : decode cX12_later 48 = .ok (.iload 6, 2) := by decide +kernel
theorem dX12_later_50 : decode cX12_later 50 = .ok (.idiv, 1) := by decide +kernel
theorem dX12_later_51 : decode cX12_later 51 = .ok (.iadd, 1) := by decide +kernel
theorem dX12_later_52 : decode cX12_later 52 = .ok (.iaload, 1) := by decide +kernel
theorem dX12_later_53 : decode cX12_later 53 = .ok (.i2l, 1) := by decide +kernel
theorem dX12_later_54 : decode cX12_later 54 = .ok (.ladd, 1) := by decide +kernel
theorem dX12_later_55 : decode cX12_later 55 = .ok (.lstore_n 3, 1) := by decide +kernel
theorem dX12_later_56 : decode cX12_later 56 = .ok (.iinc 5 1, 3) := by decide +kernel
theorem dX12_later_59 : decode cX12_later 59 = .ok (.goto (-54), 3) := by decide +kernel
theorem dX12_later_62 : decode cX12_later 62 = .ok (.ldc2_w 148, 3) := by decide +kernel
theorem dX12_later_65 : decode cX12_later 65 = .ok (.lload_n 3, 1) := by decide +kernel
theorem dX12_later_66 : decode cX12_later 66 = .ok (.lmul, 1) := by decide +kernel
theorem dX12_later_67 : decode cX12_later 67 = .ok (.lreturn, 1) := by decide +kernel
set_option maxRecDepth 20000 in
theorem ggX12_layTurns_X12_later : GoodIn wsX12_layTurns wsX12_later := goodIn_r _ [16, 17, 18, 19, 6, 20, 21, 22, 23, 24, 25, 26, 27, 28, 29, 30, 31, 32, 33, 34, 35, 36, 37, 38, 39, 40, 41, 42, 43, 44, 45, 46, 47, 48, 49, 50, 51, 52, 53, 54, 55, 56, 57, 58, 59, 60, 61, 62, 63, 64, 65, 66, 67, 68, 69, 70, 71, 72, 73, 74, 75, 76] (by decide +kernel) (by decide +kernel)
set_option maxRecDepth 20000 in
theorem gX12_layTurns_X12_later : GoodIn wsX12_layTurns (wsV RX12 243 RX12 yX12_later wsX12_later) := goodIn_app (goodIn_of _ (by decide +kernel)) ggX12_layTurns_X12_later
theorem dX12_layTurns_0 : decode cX12_layTurns 0 = .ok (.aload_n 0, 1) := by decide +kernel
theorem dX12_layTurns_1 : decode cX12_layTurns 1 = .ok (.iconst 0, 1) := by decide +kernel
theorem dX12_layTurns_2 : decode cX12_layTurns 2 = .ok (.putfield 238, 3) := by decide +kernel
theorem dX12_layTurns_5 : decode cX12_layTurns 5 = .ok (.ldc2_w 146, 3) := by decide +kernel
theorem dX12_layTurns_8 : decode cX12_layTurns 8 = .ok (.aload_n 0, 1) := by decide +kernel
theorem dX12_layTurns_9 : decode cX12_layTurns 9 = .ok (.getfield 43, 3) := by decide +kernel
theorem dX12_layTurns_12 : decode cX12_layTurns 12 = .ok (.iload_n 1, 1) := by decide +kernel
theorem dX12_layTurns_13 : decode cX12_layTurns 13 = .ok (.iaload, 1) := by decide +kernel
theorem dX12_layTurns_14 : decode cX12_layTurns 14 = .ok (.i2l, 1) := by decide +kernel
theorem dX12_layTurns_15 : decode cX12_layTurns 15 = .ok (.lmul, 1) := by decide +kernel
theorem dX12_layTurns_16 : decode cX12_layTurns 16 = .ok (.lstore_n 2, 1) := by decide +kernel
theorem dX12_layTurns_17 : decode cX12_layTurns 17 = .ok (.aload_n 0, 1) := by decide +kernel
theorem dX12_layTurns_18 : decode cX12_layTurns 18 = .ok (.getfield 238, 3) := by decide +kernel
theorem dX12_layTurns_21 : decode cX12_layTurns 21 = .ok (.sipush 10001, 3) := by decide +kernel
theorem dX12_layTurns_24 : decode cX12_layTurns 24 = .ok (.if_icmp .ge 157, 3) := by decide +kernel
theorem dX12_layTurns_27 : decode cX12_layTurns 27 = .ok (.lload_n 2, 1) := by decide +kernel
theorem dX12_layTurns_28 : decode cX12_layTurns 28 = .ok (.ldc2_w 241, 3) := by decide +kernel
theorem dX12_layTurns_31 : decode cX12_layTurns 31 = .ok (.lcmp, 1) := by decide +kernel
theorem dX12_layTurns_32 : decode cX12_layTurns 32 = .ok (.ifCond .gt 149, 3) := by decide +kernel
theorem dX12_layTurns_35 : decode cX12_layTurns 35 = .ok (.aload_n 0, 1) := by decide +kernel
theorem dX12_layTurns_36 : decode cX12_layTurns 36 = .ok (.getfield 73, 3) := by decide +kernel
theorem dX12_layTurns_39 : decode cX12_layTurns 39 = .ok (.aload_n 0, 1) := by decide +kernel
theorem dX12_layTurns_40 : decode cX12_layTurns 40 = .ok (.getfield 238, 3) := by decide +kernel
theorem dX12_layTurns_43 : decode cX12_layTurns 43 = .ok (.lload_n 2, 1) := by decide +kernel
theorem dX12_layTurns_44 : decode cX12_layTurns 44 = .ok (.aload_n 0, 1) := by decide +kernel
theorem dX12_layTurns_45 : decode cX12_layTurns 45 = .ok (.iload_n 1, 1) := by decide +kernel
theorem dX12_layTurns_46 : decode cX12_layTurns 46 = .ok (.aload_n 0, 1) := by decide +kernel
theorem dX12_layTurns_47 : decode cX12_layTurns 47 = .ok (.getfield 238, 3) := by decide +kernel
theorem dX12_layTurns_50 : decode cX12_layTurns 50 = .ok (.invokevirtual 243, 3) := by decide +kernel
theorem dX12_layTurns_53 : decode cX12_layTurns 53 = .ok (.ladd, 1) := by decide +kernel
theorem dX12_layTurns_54 : decode cX12_layTurns 54 = .ok (.lastore, 1) := by decide +kernel
theorem dX12_layTurns_55 : decode cX12_layTurns 55 = .ok (.ldc2_w 148, 3) := by decide +kernel
theorem dX12_layTurns_58 : decode cX12_layTurns 58 = .ok (.aload_n 0, 1) := by decide +kernel
theorem dX12_layTurns_59 : decode cX12_layTurns 59 = .ok (.getfield 40, 3) := by decide +kernel
theorem dX12_layTurns_62 : decode cX12_layTurns 62 = .ok (.iload_n 1, 1) := by decide +kernel
theorem dX12_layTurns_63 : decode cX12_layTurns 63 = .ok (.iaload, 1) := by decide +kernel
theorem dX12_layTurns_64 : decode cX12_layTurns 64 = .ok (.i2l, 1) := by decide +kernel
theorem dX12_layTurns_65 : decode cX12_layTurns 65 = .ok (.lmul, 1) := by decide +kernel
theorem dX12_layTurns_66 : decode cX12_layTurns 66 = .ok (.aload_n 0, 1) := by decide +kernel
theorem dX12_layTurns_67 : decode cX12_layTurns 67 = .ok (.getfield 238, 3) := by decide +kernel
theorem dX12_layTurns_70 : decode cX12_layTurns 70 = .ok (.i2l, 1) := by decide +kernel
theorem dX12_layTurns_71 : decode cX12_layTurns 71 = .ok (.aload_n 0, 1) := by decide +kernel
theorem dX12_layTurns_72 : decode cX12_layTurns 72 = .ok (.getfield 46, 3) := by decide +kernel
theorem dX12_layTurns_75 : decode cX12_layTurns 75 = .ok (.iload_n 1, 1) := by decide +kernel
theorem dX12_layTurns_76 : decode cX12_layTurns 76 = .ok (.iaload, 1) := by decide +kernel
theorem dX12_layTurns_77 : decode cX12_layTurns 77 = .ok (.i2l, 1) := by decide +kernel
theorem dX12_layTurns_78 : decode cX12_layTurns 78 = .ok (.lmul, 1) := by decide +kernel
theorem dX12_layTurns_79 : decode cX12_layTurns 79 = .ok (.ladd, 1) := by decide +kernel
theorem dX12_layTurns_80 : decode cX12_layTurns 80 = .ok (.lstore 4, 2) := by decide +kernel
theorem dX12_layTurns_82 : decode cX12_layTurns 82 = .ok (.iconst 0, 1) := by decide +kernel
theorem dX12_layTurns_83 : decode cX12_layTurns 83 = .ok (.istore 6, 2) := by decide +kernel
theorem dX12_layTurns_85 : decode cX12_layTurns 85 = .ok (.iload 6, 2) := by decide +kernel
theorem dX12_layTurns_87 : decode cX12_layTurns 87 = .ok (.aload_n 0, 1) := by decide +kernel
theorem dX12_layTurns_88 : decode cX12_layTurns 88 = .ok (.getfield 49, 3) := by decide +kernel
theorem dX12_layTurns_91 : decode cX12_layTurns 91 = .ok (.iload_n 1, 1) := by decide +kernel
theorem dX12_layTurns_92 : decode cX12_layTurns 92 = .ok (.iaload, 1) := by decide +kernel
theorem dX12_layTurns_93 : decode cX12_layTurns 93 = .ok (.if_icmp .ge 55, 3) := by decide +kernel
theorem dX12_layTurns_96 : decode cX12_layTurns 96 = .ok (.lload 4, 2) := by decide +kernel
theorem dX12_layTurns_98 : decode cX12_layTurns 98 = .ok (.ldc2_w 146, 3) := by decide +kernel
theorem dX12_layTurns_101 : decode cX12_layTurns 101 = .ok (.aload_n 0, 1) := by decide +kernel
theorem dX12_layTurns_102 : decode cX12_layTurns 102 = .ok (.getfield 52, 3) := by decide +kernel
theorem dX12_layTurns_105 : decode cX12_layTurns 105 = .ok (.iconst 3, 1) := by decide +kernel
theorem dX12_layTurns_106 : decode cX12_layTurns 106 = .ok (.iload_n 1, 1) := by decide +kernel
theorem dX12_layTurns_107 : decode cX12_layTurns 107 = .ok (.imul, 1) := by decide +kernel
theorem dX12_layTurns_108 : decode cX12_layTurns 108 = .ok (.iload 6, 2) := by decide +kernel
theorem dX12_layTurns_110 : decode cX12_layTurns 110 = .ok (.iadd, 1) := by decide +kernel
theorem dX12_layTurns_111 : decode cX12_layTurns 111 = .ok (.iaload, 1) := by decide +kernel
theorem dX12_layTurns_112 : decode cX12_layTurns 112 = .ok (.i2l, 1) := by decide +kernel
theorem dX12_layTurns_113 : decode cX12_layTurns 113 = .ok (.lmul, 1) := by decide +kernel
theorem dX12_layTurns_114 : decode cX12_layTurns 114 = .ok (.lload_n 2, 1) := by decide +kernel
theorem dX12_layTurns_115 : decode cX12_layTurns 115 = .ok (.lcmp, 1) := by decide +kernel
theorem dX12_layTurns_116 : decode cX12_layTurns 116 = .ok (.ifCond .gt 22, 3) := by decide +kernel
theorem dX12_layTurns_119 : decode cX12_layTurns 119 = .ok (.ldc2_w 148, 3) := by decide +kernel
theorem dX12_layTurns_122 : decode cX12_layTurns 122 = .ok (.aload_n 0, 1) := by decide +kernel
theorem dX12_layTurns_123 : decode cX12_layTurns 123 = .ok (.getfield 55, 3) := by decide +kernel
theorem dX12_layTurns_126 : decode cX12_layTurns 126 = .ok (.iconst 3, 1) := by decide +kernel
theorem dX12_layTurns_127 : decode cX12_layTurns 127 = .ok (.iload_n 1, 1) := by decide +kernel
theorem dX12_layTurns_128 : decode cX12_layTurns 128 = .ok (.imul, 1) := by decide +kernel
theorem dX12_layTurns_129 : decode cX12_layTurns 129 = .ok (.iload 6, 2) := by decide +kernel
theorem dX12_layTurns_131 : decode cX12_layTurns 131 = .ok (.iadd, 1) := by decide +kernel
theorem dX12_layTurns_132 : decode cX12_layTurns 132 = .ok (.iaload, 1) := by decide +kernel
theorem dX12_layTurns_133 : decode cX12_layTurns 133 = .ok (.i2l, 1) := by decide +kernel
theorem dX12_layTurns_134 : decode cX12_layTurns 134 = .ok (.lmul, 1) := by decide +kernel
theorem dX12_layTurns_135 : decode cX12_layTurns 135 = .ok (.goto 4, 3) := by decide +kernel
theorem dX12_layTurns_138 : decode cX12_layTurns 138 = .ok (.lconst 0, 1) := by decide +kernel
theorem dX12_layTurns_139 : decode cX12_layTurns 139 = .ok (.ladd, 1) := by decide +kernel
theorem dX12_layTurns_140 : decode cX12_layTurns 140 = .ok (.lstore 4, 2) := by decide +kernel
theorem dX12_layTurns_142 : decode cX12_layTurns 142 = .ok (.iinc 6 1, 3) := by decide +kernel
theorem dX12_layTurns_145 : decode cX12_layTurns 145 = .ok (.goto (-60), 3) := by decide +kernel
theorem dX12_layTurns_148 : decode cX12_layTurns 148 = .ok (.lload_n 2, 1) := by decide +kernel
theorem dX12_layTurns_149 : decode cX12_layTurns 149 = .ok (.lload 4, 2) := by decide +kernel
theorem dX12_layTurns_151 : decode cX12_layTurns 151 = .ok (.ldc2_w 146, 3) := by decide +kernel
theorem dX12_layTurns_154 : decode cX12_layTurns 154 = .ok (.lcmp, 1) := by decide +kernel
theorem dX12_layTurns_155 : decode cX12_layTurns 155 = .ok (.ifCond .ge 9, 3) := by decide +kernel
theorem dX12_layTurns_158 : decode cX12_layTurns 158 = .ok (.ldc2_w 146, 3) := by decide +kernel
theorem dX12_layTurns_161 : decode cX12_layTurns 161 = .ok (.goto 5, 3) := by decide +kernel
theorem dX12_layTurns_164 : decode cX12_layTurns 164 = .ok (.lload 4, 2) := by decide +kernel
theorem dX12_layTurns_166 : decode cX12_layTurns 166 = .ok (.ladd, 1) := by decide +kernel
theorem dX12_layTurns_167 : decode cX12_layTurns 167 = .ok (.lstore_n 2, 1) := by decide +kernel
theorem dX12_layTurns_168 : decode cX12_layTurns 168 = .ok (.aload_n 0, 1) := by decide +kernel
theorem dX12_layTurns_169 : decode cX12_layTurns 169 = .ok (.dup, 1) := by decide +kernel
theorem dX12_layTurns_170 : decode cX12_layTurns 170 = .ok (.getfield 238, 3) := by decide +kernel
theorem dX12_layTurns_173 : decode cX12_layTurns 173 = .ok (.iconst 1, 1) := by decide +kernel
theorem dX12_layTurns_174 : decode cX12_layTurns 174 = .ok (.iadd, 1) := by decide +kernel
theorem dX12_layTurns_175 : decode cX12_layTurns 175 = .ok (.putfield 238, 3) := by decide +kernel
theorem dX12_layTurns_178 : decode cX12_layTurns 178 = .ok (.goto (-161), 3) := by decide +kernel
theorem dX12_layTurns_181 : decode cX12_layTurns 181 = .ok (.return_, 1) := by decide +kernel
set_option maxRecDepth 20000 in
theorem ggX12_comes_X12_isStar : GoodIn wsX12_comes wsX12_isStar := goodIn_r _ [10, 11, 12, 13, 9, 14] (by decide +kernel) (by decide +kernel)
set_option maxRecDepth 20000 in
theorem gX12_comes_X12_isStar : GoodIn wsX12_comes (va_wsS RX12 142 yX12_isStar wsX12_isStar) := goodIn_app (goodIn_of _ (by decide +kernel)) ggX12_comes_X12_isStar
set_option maxRecDepth 20000 in
theorem ggX12_comes_X12_in : GoodIn wsX12_comes wsX12_in := goodIn_r _ [14] (by decide +kernel) (by decide +kernel)
set_option maxRecDepth 20000 in
theorem gX12_comes_X12_in : GoodIn wsX12_comes (va_wsS RX12 136 yX12_in wsX12_in) := goodIn_app (goodIn_of _ (by decide +kernel)) ggX12_comes_X12_in
set_option maxRecDepth 20000 in
theorem ggX12_comes_X12_layTurns : GoodIn wsX12_comes wsX12_layTurns := goodIn_r _ [18, 5, 19, 20, 21, 6, 22, 23, 24, 25, 26, 27, 28, 29, 30, 9, 31, 32, 33, 34, 35, 36, 37, 38, 39, 40, 41, 42, 43, 44, 45, 46, 47, 48, 49, 50, 51, 52, 53, 54, 55, 56, 57, 58, 59, 60, 61, 62, 63, 64, 65, 66, 67, 68, 69, 70, 71, 72, 73, 74, 75, 76, 77, 78, 79, 80, 81, 82, 83, 84, 85, 86, 87, 88, 89, 90, 91] (by decide +kernel) (by decide +kernel)
set_option maxRecDepth 20000 in
theorem gX12_comes_X12_layTurns : GoodIn wsX12_comes (wsV RX12 253 RX12 yX12_layTurns wsX12_layTurns) := goodIn_app (goodIn_of _ (by decide +kernel)) ggX12_comes_X12_layTurns
theorem dX12_comes_0 : decode cX12_comes 0 = .ok (.iload_n 1, 1) := by decide +kernel
theorem dX12_comes_1 : decode cX12_comes 1 = .ok (.invokestatic 142, 3) := by decide +kernel
theorem dX12_comes_4 : decode cX12_comes 4 = .ok (.ifCond .eq 15, 3) := by decide +kernel
theorem dX12_comes_7 : decode cX12_comes 7 = .ok (.iload_n 2, 1) := by decide +kernel
theorem dX12_comes_8 : decode cX12_comes 8 = .ok (.i2l, 1) := by decide +kernel
theorem dX12_comes_9 : decode cX12_comes 9 = .ok (.lconst 0, 1) := by decide +kernel
theorem dX12_comes_10 : decode cX12_comes 10 = .ok (.ldc2_w 247, 3) := by decide +kernel
theorem dX12_comes_13 : decode cX12_comes 13 = .ok (.invokestatic 136, 3) := by decide +kernel
theorem dX12_comes_16 : decode cX12_comes 16 = .ok (.ifCond .ne 7, 3) := by decide +kernel
theorem dX12_comes_19 : decode cX12_comes 19 = .ok (.ldc2_w 249, 3) := by decide +kernel
theorem dX12_comes_22 : decode cX12_comes 22 = .ok (.lreturn, 1) := by decide +kernel
theorem dX12_comes_23 : decode cX12_comes 23 = .ok (.aload_n 0, 1) := by decide +kernel
theorem dX12_comes_24 : decode cX12_comes 24 = .ok (.getfield 36, 3) := by decide +kernel
theorem dX12_comes_27 : decode cX12_comes 27 = .ok (.iload_n 1, 1) := by decide +kernel
theorem dX12_comes_28 : decode cX12_comes 28 = .ok (.baload, 1) := by decide +kernel
theorem dX12_comes_29 : decode cX12_comes 29 = .ok (.ifCond .ne 7, 3) := by decide +kernel
theorem dX12_comes_32 : decode cX12_comes 32 = .ok (.ldc2_w 251, 3) := by decide +kernel
theorem dX12_comes_35 : decode cX12_comes 35 = .ok (.lreturn, 1) := by decide +kernel
theorem dX12_comes_36 : decode cX12_comes 36 = .ok (.aload_n 0, 1) := by decide +kernel
theorem dX12_comes_37 : decode cX12_comes 37 = .ok (.iload_n 1, 1) := by decide +kernel
theorem dX12_comes_38 : decode cX12_comes 38 = .ok (.invokevirtual 253, 3) := by decide +kernel
theorem dX12_comes_41 : decode cX12_comes 41 = .ok (.iload_n 2, 1) := by decide +kernel
theorem dX12_comes_42 : decode cX12_comes 42 = .ok (.aload_n 0, 1) := by decide +kernel
theorem dX12_comes_43 : decode cX12_comes 43 = .ok (.getfield 238, 3) := by decide +kernel
theorem dX12_comes_46 : decode cX12_comes 46 = .ok (.if_icmp .ge 12, 3) := by decide +kernel
theorem dX12_comes_49 : decode cX12_comes 49 = .ok (.aload_n 0, 1) := by decide +kernel
theorem dX12_comes_50 : decode cX12_comes 50 = .ok (.getfield 73, 3) := by decide +kernel
theorem dX12_comes_53 : decode cX12_comes 53 = .ok (.iload_n 2, 1) := by decide +kernel
theorem dX12_comes_54 : decode cX12_comes 54 = .ok (.laload, 1) := by decide +kernel
theorem dX12_comes_55 : decode cX12_comes 55 = .ok (.goto 6, 3) := by decide +kernel
theorem dX12_comes_58 : decode cX12_comes 58 = .ok (.ldc2_w 251, 3) := by decide +kernel
theorem dX12_comes_61 : decode cX12_comes 61 = .ok (.lreturn, 1) := by decide +kernel
theorem dX12_size_0 : decode cX12_size 0 = .ok (.lload_n 0, 1) := by decide +kernel
theorem dX12_size_1 : decode cX12_size 1 = .ok (.lconst 0, 1) := by decide +kernel
theorem dX12_size_2 : decode cX12_size 2 = .ok (.lcmp, 1) := by decide +kernel
theorem dX12_size_3 : decode cX12_size 3 = .ok (.ifCond .ge 8, 3) := by decide +kernel
theorem dX12_size_6 : decode cX12_size 6 = .ok (.lload_n 0, 1) := by decide +kernel
theorem dX12_size_7 : decode cX12_size 7 = .ok (.lneg, 1) := by decide +kernel
theorem dX12_size_8 : decode cX12_size 8 = .ok (.goto 4, 3) := by decide +kernel
theorem dX12_size_11 : decode cX12_size 11 = .ok (.lload_n 0, 1) := by decide +kernel
theorem dX12_size_12 : decode cX12_size 12 = .ok (.lreturn, 1) := by decide +kernel
set_option maxRecDepth 20000 in
theorem ggX12_layRest_X12_layCounts : GoodIn wsX12_layRest wsX12_layCounts := goodIn_r _ [13, 2, 14, 15, 16, 4, 48, 49, 50, 51, 52, 53, 54, 55, 56, 57, 58, 59, 60, 61, 62, 63, 64, 65, 66, 67, 68, 69, 70, 71, 72, 73, 74, 75, 76, 77, 78, 79, 80, 81, 82, 83, 84, 85, 86, 87, 88, 89, 90, 91, 92, 93, 94, 95, 96, 97, 98, 99, 100, 101, 102, 103, 104] (by decide +kernel) (by decide +kernel)
set_option maxRecDepth 20000 in
theorem gX12_layRest_X12_layCounts : GoodIn wsX12_layRest (wsV RX12 175 RX12 yX12_layCounts wsX12_layCounts) := goodIn_app (goodIn_of _ (by decide +kernel)) ggX12_layRest_X12_layCounts
set_option maxRecDepth 20000 in
theorem ggX12_layRest_X12_layTurns : GoodIn wsX12_layRest wsX12_layTurns := goodIn_r _ [20, 5, 3, 21, 22, 6, 23, 24, 25, 26, 27, 28, 29, 30, 31, 12, 32, 33, 34, 35, 48, 49, 50, 51, 52, 53, 54, 55, 56, 57, 58, 59, 60, 61, 62, 63, 64, 65, 66, 67, 68, 69, 70, 71, 72, 73, 74, 75, 76, 77, 78, 79, 80, 81, 82, 83, 84, 85, 86, 87, 88, 89, 90, 91, 92, 93, 94, 95, 96, 97, 98, 99, 100, 101, 102, 103, 104] (by decide +kernel) (by decide +kernel)
set_option maxRecDepth 20000 in
theorem gX12_layRest_X12_layTurns : GoodIn wsX12_layRest (wsV RX12 253 RX12 yX12_layTurns wsX12_layTurns) := goodIn_app (goodIn_of _ (by decide +kernel)) ggX12_layRest_X12_layTurns
set_option maxRecDepth 20000 in
theorem ggX12_layRest_X12_corrected : GoodIn wsX12_layRest wsX12_corrected := goodIn_r _ [39, 40, 41, 42, 43, 44, 48, 49, 50, 51, 52, 53, 54, 55, 56, 57, 58, 59, 60, 61, 62, 63, 64, 65, 66, 67, 68, 69, 70, 71, 72, 73, 74, 75, 76, 77, 78, 79, 80, 81, 82, 83, 84, 85, 86, 87, 88, 89, 90, 91, 92, 93, 94, 95, 96, 97, 98, 99, 100, 101, 102, 103, 104] (by decide +kernel) (by decide +kernel)
set_option maxRecDepth 20000 in
theorem gX12_layRest_X12_corrected : GoodIn wsX12_layRest (wsV RX12 180 RX12 yX12_corrected wsX12_corrected) := goodIn_app (goodIn_of _ (by decide +kernel)) ggX12_layRest_X12_corrected
set_option maxRecDepth 20000 in
theorem ggX12_layRest_X12_size : GoodIn wsX12_layRest wsX12_size := goodIn_r _ [47] (by decide +kernel) (by decide +kernel)
set_option maxRecDepth 20000 in
theorem gX12_layRest_X12_size : GoodIn wsX12_layRest (va_wsS RX12 256 yX12_size wsX12_size) := goodIn_app (goodIn_of _ (by decide +kernel)) ggX12_layRest_X12_size
theorem dX12_layRest_0 : decode cX12_layRest 0 = .ok (.aload_n 0, 1) := by decide +kernel
theorem dX12_layRest_1 : decode cX12_layRest 1 = .ok (.getfield 36, 3) := by decide +kernel
theorem dX12_layRest_4 : decode cX12_layRest 4 = .ok (.iload_n 1, 1) := by decide +kernel
theorem dX12_layRest_5 : decode cX12_layRest 5 = .ok (.baload, 1) := by decide +kernel
theorem dX12_layRest_6 : decode cX12_layRest 6 = .ok (.ifCond .ne 5, 3) := by decide +kernel
theorem dX12_layRest_9 : decode cX12_layRest 9 = .ok (.iconst 0, 1) := by decide +kernel
theorem dX12_layRest_10 : decode cX12_layRest 10 = .ok (.ireturn, 1) := by decide +kernel
theorem dX12_layRest_11 : decode cX12_layRest 11 = .ok (.aload_n 0, 1) := by decide +kernel
theorem dX12_layRest_12 : decode cX12_layRest 12 = .ok (.iload_n 1, 1) := by decide +kernel
theorem dX12_layRest_13 : decode cX12_layRest 13 = .ok (.invokevirtual 175, 3) := by decide +kernel
theorem dX12_layRest_16 : decode cX12_layRest 16 = .ok (.aload_n 0, 1) := by decide +kernel
theorem dX12_layRest_17 : decode cX12_layRest 17 = .ok (.iload_n 1, 1) := by decide +kernel
theorem dX12_layRest_18 : decode cX12_layRest 18 = .ok (.invokevirtual 253, 3) := by decide +kernel
theorem dX12_layRest_21 : decode cX12_layRest 21 = .ok (.iconst 0, 1) := by decide +kernel
theorem dX12_layRest_22 : decode cX12_layRest 22 = .ok (.istore_n 3, 1) := by decide +kernel
theorem dX12_layRest_23 : decode cX12_layRest 23 = .ok (.iload_n 3, 1) := by decide +kernel
theorem dX12_layRest_24 : decode cX12_layRest 24 = .ok (.aload_n 0, 1) := by decide +kernel
theorem dX12_layRest_25 : decode cX12_layRest 25 = .ok (.getfield 167, 3) := by decide +kernel
theorem dX12_layRest_28 : decode cX12_layRest 28 = .ok (.if_icmp .ge 116, 3) := by decide +kernel
theorem dX12_layRest_31 : decode cX12_layRest 31 = .ok (.ldc2_w 146, 3) := by decide +kernel
theorem dX12_layRest_34 : decode cX12_layRest 34 = .ok (.aload_n 0, 1) := by decide +kernel
theorem dX12_layRest_35 : decode cX12_layRest 35 = .ok (.aload_n 0, 1) := by decide +kernel
theorem dX12_layRest_36 : decode cX12_layRest 36 = .ok (.getfield 70, 3) := by decide +kernel
theorem dX12_layRest_39 : decode cX12_layRest 39 = .ok (.iload_n 3, 1) := by decide +kernel
theorem dX12_layRest_40 : decode cX12_layRest 40 = .ok (.iaload, 1) := by decide +kernel
theorem dX12_layRest_41 : decode cX12_layRest 41 = .ok (.iload_n 2, 1) := by decide +kernel
theorem dX12_layRest_42 : decode cX12_layRest 42 = .ok (.invokevirtual 180, 3) := by decide +kernel
theorem dX12_layRest_45 : decode cX12_layRest 45 = .ok (.i2l, 1) := by decide +kernel
theorem dX12_layRest_46 : decode cX12_layRest 46 = .ok (.lmul, 1) := by decide +kernel
theorem dX12_layRest_47 : decode cX12_layRest 47 = .ok (.lstore 4, 2) := by decide +kernel
theorem dX12_layRest_49 : decode cX12_layRest 49 = .ok (.iconst 0, 1) := by decide +kernel
theorem dX12_layRest_50 : decode cX12_layRest 50 = .ok (.istore 6, 2) := by decide +kernel
theorem dX12_layRest_52 : decode cX12_layRest 52 = .ok (.iconst 1, 1) := by decide +kernel
theorem dX12_layRest_53 : decode cX12_layRest 53 = .ok (.istore 7, 2) := by decide +kernel
theorem dX12_layRest_55 : decode cX12_layRest 55 = .ok (.iload 7, 2) := by decide +kernel
theorem dX12_layRest_57 : decode cX12_layRest 57 = .ok (.aload_n 0, 1) := by decide +kernel
theorem dX12_layRest_58 : decode cX12_layRest 58 = .ok (.getfield 238, 3) := by decide +kernel
theorem dX12_layRest_61 : decode cX12_layRest 61 = .ok (.if_icmp .ge 48, 3) := by decide +kernel
theorem dX12_layRest_64 : decode cX12_layRest 64 = .ok (.lload 4, 2) := by decide +kernel
theorem dX12_layRest_66 : decode cX12_layRest 66 = .ok (.aload_n 0, 1) := by decide +kernel
theorem dX12_layRest_67 : decode cX12_layRest 67 = .ok (.getfield 73, 3) := by decide +kernel
theorem dX12_layRest_70 : decode cX12_layRest 70 = .ok (.iload 7, 2) := by decide +kernel
theorem dX12_layRest_72 : decode cX12_layRest 72 = .ok (.laload, 1) := by decide +kernel
theorem dX12_layRest_73 : decode cX12_layRest 73 = .ok (.lsub, 1) := by decide +kernel
theorem dX12_layRest_74 : decode cX12_layRest 74 = .ok (.invokestatic 256, 3) := by decide +kernel
theorem dX12_layRest_77 : decode cX12_layRest 77 = .ok (.lload 4, 2) := by decide +kernel
theorem dX12_layRest_79 : decode cX12_layRest 79 = .ok (.aload_n 0, 1) := by decide +kernel
theorem dX12_layRest_80 : decode cX12_layRest 80 = .ok (.getfield 73, 3) := by decide +kernel
theorem dX12_layRest_83 : decode cX12_layRest 83 = .ok (.iload 6, 2) := by decide +kernel
theorem dX12_layRest_85 : decode cX12_layRest 85 = .ok (.laload, 1) := by decide +kernel
theorem dX12_layRest_86 : decode cX12_layRest 86 = .ok (.lsub, 1) := by decide +kernel
theorem dX12_layRest_87 : decode cX12_layRest 87 = .ok (.invokestatic 256, 3) := by decide +kernel
theorem dX12_layRest_90 : decode cX12_layRest 90 = .ok (.lcmp, 1) := by decide +kernel
theorem dX12_layRest_91 : decode cX12_layRest 91 = .ok (.ifCond .ge 8, 3) := by decide +kernel
theorem dX12_layRest_94 : decode cX12_layRest 94 = .ok (.iload 7, 2) := by decide +kernel
theorem dX12_layRest_96 : decode cX12_layRest 96 = .ok (.goto 5, 3) := by decide +kernel
theorem dX12_layRest_99 : decode cX12_layRest 99 = .ok (.iload 6, 2) := by decide +kernel
theorem dX12_layRest_101 : decode cX12_layRest 101 = .ok (.istore 6, 2) := by decide +kernel
theorem dX12_layRest_103 : decode cX12_layRest 103 = .ok (.iinc 7 1, 3) := by decide +kernel
theorem dX12_layRest_106 : decode cX12_layRest 106 = .ok (.goto (-51), 3) := by decide +kernel
theorem dX12_layRest_109 : decode cX12_layRest 109 = .ok (.aload_n 0, 1) := by decide +kernel
theorem dX12_layRest_110 : decode cX12_layRest 110 = .ok (.getfield 77, 3) := by decide +kernel
theorem dX12_layRest_113 : decode cX12_layRest 113 = .ok (.iload_n 3, 1) := by decide +kernel
theorem dX12_layRest_114 : decode cX12_layRest 114 = .ok (.lload 4, 2) := by decide +kernel
theorem dX12_layRest_116 : decode cX12_layRest 116 = .ok (.aload_n 0, 1) := by decide +kernel
theorem dX12_layRest_117 : decode cX12_layRest 117 = .ok (.getfield 73, 3) := by decide +kernel
theorem dX12_layRest_120 : decode cX12_layRest 120 = .ok (.iload 6, 2) := by decide +kernel
theorem dX12_layRest_122 : decode cX12_layRest 122 = .ok (.laload, 1) := by decide +kernel
theorem dX12_layRest_123 : decode cX12_layRest 123 = .ok (.lsub, 1) := by decide +kernel
theorem dX12_layRest_124 : decode cX12_layRest 124 = .ok (.ldc2_w 146, 3) := by decide +kernel
theorem dX12_layRest_127 : decode cX12_layRest 127 = .ok (.ldiv, 1) := by decide +kernel
theorem dX12_layRest_128 : decode cX12_layRest 128 = .ok (.l2i, 1) := by decide +kernel
theorem dX12_layRest_129 : decode cX12_layRest 129 = .ok (.iastore, 1) := by decide +kernel
theorem dX12_layRest_130 : decode cX12_layRest 130 = .ok (.aload_n 0, 1) := by decide +kernel
theorem dX12_layRest_131 : decode cX12_layRest 131 = .ok (.getfield 80, 3) := by decide +kernel
theorem dX12_layRest_134 : decode cX12_layRest 134 = .ok (.iload_n 3, 1) := by decide +kernel
theorem dX12_layRest_135 : decode cX12_layRest 135 = .ok (.iload 6, 2) := by decide +kernel
theorem dX12_layRest_137 : decode cX12_layRest 137 = .ok (.iastore, 1) := by decide +kernel
theorem dX12_layRest_138 : decode cX12_layRest 138 = .ok (.iinc 3 1, 3) := by decide +kernel
theorem dX12_layRest_141 : decode cX12_layRest 141 = .ok (.goto (-118), 3) := by decide +kernel
theorem dX12_layRest_144 : decode cX12_layRest 144 = .ok (.iconst 1, 1) := by decide +kernel
theorem dX12_layRest_145 : decode cX12_layRest 145 = .ok (.ireturn, 1) := by decide +kernel
set_option maxRecDepth 20000 in
theorem ggX12_residue_X12_isStar : GoodIn wsX12_residue wsX12_isStar := goodIn_r _ [10, 11, 12, 13, 9, 14] (by decide +kernel) (by decide +kernel)
set_option maxRecDepth 20000 in
theorem gX12_residue_X12_isStar : GoodIn wsX12_residue (va_wsS RX12 142 yX12_isStar wsX12_isStar) := goodIn_app (goodIn_of _ (by decide +kernel)) ggX12_residue_X12_isStar
set_option maxRecDepth 20000 in
theorem ggX12_residue_X12_in : GoodIn wsX12_residue wsX12_in := goodIn_r _ [14] (by decide +kernel) (by decide +kernel)
set_option maxRecDepth 20000 in
theorem gX12_residue_X12_in : GoodIn wsX12_residue (va_wsS RX12 136 yX12_in wsX12_in) := goodIn_app (goodIn_of _ (by decide +kernel)) ggX12_residue_X12_in
set_option maxRecDepth 20000 in
theorem ggX12_residue_X12_layRest : GoodIn wsX12_residue wsX12_layRest := goodIn_r _ [18, 19, 4, 20, 21, 22, 23, 5, 24, 25, 26, 27, 9, 28, 29, 30, 31, 32, 33, 34, 35, 36, 37, 38, 39, 40, 41, 42, 43, 44, 45, 46, 47, 48, 49, 50, 51, 52, 53, 54, 55, 56, 57, 58, 59, 60, 61, 62, 63, 64, 65, 66, 67, 68, 69, 70, 71, 72, 73, 74, 75, 76, 77, 78, 79, 80, 81, 82, 83, 84, 85, 86, 87, 88, 89, 90, 91, 92, 93, 94, 95, 96, 97, 98, 99, 100, 101, 102, 103, 104, 105, 106, 107, 108, 109, 110, 111, 112, 113, 114, 115, 116, 117, 118, 119] (by decide +kernel) (by decide +kernel)
set_option maxRecDepth 20000 in
theorem gX12_residue_X12_layRest : GoodIn wsX12_residue (wsV RX12 261 RX12 yX12_layRest wsX12_layRest) := goodIn_app (goodIn_of _ (by decide +kernel)) ggX12_residue_X12_layRest
theorem dX12_residue_0 : decode cX12_residue 0 = .ok (.iload_n 1, 1) := by decide +kernel
theorem dX12_residue_1 : decode cX12_residue 1 = .ok (.invokestatic 142, 3) := by decide +kernel
theorem dX12_residue_4 : decode cX12_residue 4 = .ok (.ifCond .eq 15, 3) := by decide +kernel
theorem dX12_residue_7 : decode cX12_residue 7 = .ok (.iload_n 2, 1) := by decide +kernel
theorem dX12_residue_8 : decode cX12_residue 8 = .ok (.i2l, 1) := by decide +kernel
theorem dX12_residue_9 : decode cX12_residue 9 = .ok (.lconst 0, 1) := by decide +kernel
theorem dX12_residue_10 : decode cX12_residue 10 = .ok (.ldc2_w 171, 3) := by decide +kernel
theorem dX12_residue_13 : decode cX12_residue 13 = .ok (.invokestatic 136, 3) := by decide +kernel
theorem dX12_residue_16 : decode cX12_residue 16 = .ok (.ifCond .ne 7, 3) := by decide +kernel
theorem dX12_residue_19 : decode cX12_residue 19 = .ok (.ldc_w 260, 3) := by decide +kernel
theorem dX12_residue_22 : decode cX12_residue 22 = .ok (.ireturn, 1) := by decide +kernel
theorem dX12_residue_23 : decode cX12_residue 23 = .ok (.aload_n 0, 1) := by decide +kernel
theorem dX12_residue_24 : decode cX12_residue 24 = .ok (.iload_n 1, 1) := by decide +kernel
theorem dX12_residue_25 : decode cX12_residue 25 = .ok (.aload_n 0, 1) := by decide +kernel
theorem dX12_residue_26 : decode cX12_residue 26 = .ok (.getfield 164, 3) := by decide +kernel
theorem dX12_residue_29 : decode cX12_residue 29 = .ok (.invokevirtual 261, 3) := by decide +kernel
theorem dX12_residue_32 : decode cX12_residue 32 = .ok (.ifCond .eq 20, 3) := by decide +kernel
theorem dX12_residue_35 : decode cX12_residue 35 = .ok (.iload_n 2, 1) := by decide +kernel
theorem dX12_residue_36 : decode cX12_residue 36 = .ok (.aload_n 0, 1) := by decide +kernel
theorem dX12_residue_37 : decode cX12_residue 37 = .ok (.getfield 167, 3) := by decide +kernel
theorem dX12_residue_40 : decode cX12_residue 40 = .ok (.if_icmp .ge 12, 3) := by decide +kernel
theorem dX12_residue_43 : decode cX12_residue 43 = .ok (.aload_n 0, 1) := by decide +kernel
theorem dX12_residue_44 : decode cX12_residue 44 = .ok (.getfield 77, 3) := by decide +kernel
theorem dX12_residue_47 : decode cX12_residue 47 = .ok (.iload_n 2, 1) := by decide +kernel
theorem dX12_residue_48 : decode cX12_residue 48 = .ok (.iaload, 1) := by decide +kernel
theorem dX12_residue_49 : decode cX12_residue 49 = .ok (.goto 6, 3) := by decide +kernel
theorem dX12_residue_52 : decode cX12_residue 52 = .ok (.ldc_w 264, 3) := by decide +kernel
theorem dX12_residue_55 : decode cX12_residue 55 = .ok (.ireturn, 1) := by decide +kernel
set_option maxRecDepth 20000 in
theorem ggX12_turn_X12_isStar : GoodIn wsX12_turn wsX12_isStar := goodIn_r _ [8, 9, 10, 11, 7, 12] (by decide +kernel) (by decide +kernel)
set_option maxRecDepth 20000 in
theorem gX12_turn_X12_isStar : GoodIn wsX12_turn (va_wsS RX12 142 yX12_isStar wsX12_isStar) := goodIn_app (goodIn_of _ (by decide +kernel)) ggX12_turn_X12_isStar
set_option maxRecDepth 20000 in
theorem ggX12_turn_X12_in : GoodIn wsX12_turn wsX12_in := goodIn_r _ [12] (by decide +kernel) (by decide +kernel)
set_option maxRecDepth 20000 in
theorem gX12_turn_X12_in : GoodIn wsX12_turn (va_wsS RX12 136 yX12_in wsX12_in) := goodIn_app (goodIn_of _ (by decide +kernel)) ggX12_turn_X12_in
set_option maxRecDepth 20000 in
theorem ggX12_turn_X12_layRest : GoodIn wsX12_turn wsX12_layRest := goodIn_r _ [16, 17, 3, 18, 19, 20, 21, 22, 4, 23, 24, 25, 7, 26, 27, 28, 29, 30, 31, 32, 33, 34, 35, 36, 37, 38, 39, 40, 41, 42, 43, 44, 45, 46, 47, 48, 49, 50, 51, 52, 53, 54, 55, 56, 57, 58, 59, 60, 61, 62, 63, 64, 65, 66, 67, 68, 69, 70, 71, 72, 73, 74, 75, 76, 77, 78, 79, 80, 81, 82, 83, 84, 85, 86, 87, 88, 89, 90, 91, 92, 93, 94, 95, 96, 97, 98, 99, 100, 101, 102, 103, 104, 105, 106, 107, 108, 109, 110, 111, 112, 113, 114, 115, 116, 117] (by decide +kernel) (by decide +kernel)
set_option maxRecDepth 20000 in
theorem gX12_turn_X12_layRest : GoodIn wsX12_turn (wsV RX12 261 RX12 yX12_layRest wsX12_layRest) := goodIn_app (goodIn_of _ (by decide +kernel)) ggX12_turn_X12_layRest
theorem dX12_turn_0 : decode cX12_turn 0 = .ok (.iload_n 1, 1) := by decide +kernel
theorem dX12_turn_1 : decode cX12_turn 1 = .ok (.invokestatic 142, 3) := by decide +kernel
theorem dX12_turn_4 : decode cX12_turn 4 = .ok (.ifCond .eq 15, 3) := by decide +kernel
theorem dX12_turn_7 : decode cX12_turn 7 = .ok (.iload_n 2, 1) := by decide +kernel
theorem dX12_turn_8 : decode cX12_turn 8 = .ok (.i2l, 1) := by decide +kernel
theorem dX12_turn_9 : decode cX12_turn 9 = .ok (.lconst 0, 1) := by decide +kernel
theorem dX12_turn_10 : decode cX12_turn 10 = .ok (.ldc2_w 171, 3) := by decide +kernel
theorem dX12_turn_13 : decode cX12_turn 13 = .ok (.invokestatic 136, 3) := by decide +kernel
theorem dX12_turn_16 : decode cX12_turn 16 = .ok (.ifCond .ne 5, 3) := by decide +kernel
theorem dX12_turn_19 : decode cX12_turn 19 = .ok (.iconst (-1), 1) := by decide +kernel
theorem dX12_turn_20 : decode cX12_turn 20 = .ok (.ireturn, 1) := by decide +kernel
theorem dX12_turn_21 : decode cX12_turn 21 = .ok (.aload_n 0, 1) := by decide +kernel
theorem dX12_turn_22 : decode cX12_turn 22 = .ok (.iload_n 1, 1) := by decide +kernel
theorem dX12_turn_23 : decode cX12_turn 23 = .ok (.aload_n 0, 1) := by decide +kernel
theorem dX12_turn_24 : decode cX12_turn 24 = .ok (.getfield 164, 3) := by decide +kernel
theorem dX12_turn_27 : decode cX12_turn 27 = .ok (.invokevirtual 261, 3) := by decide +kernel
theorem dX12_turn_30 : decode cX12_turn 30 = .ok (.ifCond .eq 20, 3) := by decide +kernel
theorem dX12_turn_33 : decode cX12_turn 33 = .ok (.iload_n 2, 1) := by decide +kernel
theorem dX12_turn_34 : decode cX12_turn 34 = .ok (.aload_n 0, 1) := by decide +kernel
theorem dX12_turn_35 : decode cX12_turn 35 = .ok (.getfield 167, 3) := by decide +kernel
theorem dX12_turn_38 : decode cX12_turn 38 = .ok (.if_icmp .ge 12, 3) := by decide +kernel
theorem dX12_turn_41 : decode cX12_turn 41 = .ok (.aload_n 0, 1) := by decide +kernel
theorem dX12_turn_42 : decode cX12_turn 42 = .ok (.getfield 80, 3) := by decide +kernel
theorem dX12_turn_45 : decode cX12_turn 45 = .ok (.iload_n 2, 1) := by decide +kernel
theorem dX12_turn_46 : decode cX12_turn 46 = .ok (.iaload, 1) := by decide +kernel
theorem dX12_turn_47 : decode cX12_turn 47 = .ok (.goto 5, 3) := by decide +kernel
theorem dX12_turn_50 : decode cX12_turn 50 = .ok (.bipush (-2), 2) := by decide +kernel
theorem dX12_turn_52 : decode cX12_turn 52 = .ok (.ireturn, 1) := by decide +kernel
theorem dX12_up_0 : decode cX12_up 0 = .ok (.lload_n 0, 1) := by decide +kernel
theorem dX12_up_1 : decode cX12_up 1 = .ok (.lconst 0, 1) := by decide +kernel
theorem dX12_up_2 : decode cX12_up 2 = .ok (.lcmp, 1) := by decide +kernel
theorem dX12_up_3 : decode cX12_up 3 = .ok (.ifCond .lt 13, 3) := by decide +kernel
theorem dX12_up_6 : decode cX12_up 6 = .ok (.lload_n 0, 1) := by decide +kernel
theorem dX12_up_7 : decode cX12_up 7 = .ok (.lload_n 2, 1) := by decide +kernel
theorem dX12_up_8 : decode cX12_up 8 = .ok (.ladd, 1) := by decide +kernel
theorem dX12_up_9 : decode cX12_up 9 = .ok (.lconst 1, 1) := by decide +kernel
theorem dX12_up_10 : decode cX12_up 10 = .ok (.lsub, 1) := by decide +kernel
theorem dX12_up_11 : decode cX12_up 11 = .ok (.lload_n 2, 1) := by decide +kernel
theorem dX12_up_12 : decode cX12_up 12 = .ok (.ldiv, 1) := by decide +kernel
theorem dX12_up_13 : decode cX12_up 13 = .ok (.goto 8, 3) := by decide +kernel
theorem dX12_up_16 : decode cX12_up 16 = .ok (.lload_n 0, 1) := by decide +kernel
theorem dX12_up_17 : decode cX12_up 17 = .ok (.lneg, 1) := by decide +kernel
theorem dX12_up_18 : decode cX12_up 18 = .ok (.lload_n 2, 1) := by decide +kernel
theorem dX12_up_19 : decode cX12_up 19 = .ok (.ldiv, 1) := by decide +kernel
theorem dX12_up_20 : decode cX12_up 20 = .ok (.lneg, 1) := by decide +kernel
theorem dX12_up_21 : decode cX12_up 21 = .ok (.lreturn, 1) := by decide +kernel
theorem dX12_down_0 : decode cX12_down 0 = .ok (.lload_n 0, 1) := by decide +kernel
theorem dX12_down_1 : decode cX12_down 1 = .ok (.lconst 0, 1) := by decide +kernel
theorem dX12_down_2 : decode cX12_down 2 = .ok (.lcmp, 1) := by decide +kernel
theorem dX12_down_3 : decode cX12_down 3 = .ok (.ifCond .lt 9, 3) := by decide +kernel
theorem dX12_down_6 : decode cX12_down 6 = .ok (.lload_n 0, 1) := by decide +kernel
theorem dX12_down_7 : decode cX12_down 7 = .ok (.lload_n 2, 1) := by decide +kernel
theorem dX12_down_8 : decode cX12_down 8 = .ok (.ldiv, 1) := by decide +kernel
theorem dX12_down_9 : decode cX12_down 9 = .ok (.goto 12, 3) := by decide +kernel
theorem dX12_down_12 : decode cX12_down 12 = .ok (.lload_n 0, 1) := by decide +kernel
theorem dX12_down_13 : decode cX12_down 13 = .ok (.lneg, 1) := by decide +kernel
theorem dX12_down_14 : decode cX12_down 14 = .ok (.lload_n 2, 1) := by decide +kernel
theorem dX12_down_15 : decode cX12_down 15 = .ok (.ladd, 1) := by decide +kernel
theorem dX12_down_16 : decode cX12_down 16 = .ok (.lconst 1, 1) := by decide +kernel
theorem dX12_down_17 : decode cX12_down 17 = .ok (.lsub, 1) := by decide +kernel
theorem dX12_down_18 : decode cX12_down 18 = .ok (.lload_n 2, 1) := by decide +kernel
theorem dX12_down_19 : decode cX12_down 19 = .ok (.ldiv, 1) := by decide +kernel
theorem dX12_down_20 : decode cX12_down 20 = .ok (.lneg, 1) := by decide +kernel
theorem dX12_down_21 : decode cX12_down 21 = .ok (.lreturn, 1) := by decide +kernel
theorem dX12_early_0 : decode cX12_early 0 = .ok (.ldc2_w 148, 3) := by decide +kernel
theorem dX12_early_3 : decode cX12_early 3 = .ok (.aload_n 0, 1) := by decide +kernel
theorem dX12_early_4 : decode cX12_early 4 = .ok (.getfield 83, 3) := by decide +kernel
theorem dX12_early_7 : decode cX12_early 7 = .ok (.iload_n 1, 1) := by decide +kernel
theorem dX12_early_8 : decode cX12_early 8 = .ok (.iaload, 1) := by decide +kernel
theorem dX12_early_9 : decode cX12_early 9 = .ok (.aload_n 0, 1) := by decide +kernel
theorem dX12_early_10 : decode cX12_early 10 = .ok (.getfield 83, 3) := by decide +kernel
theorem dX12_early_13 : decode cX12_early 13 = .ok (.iconst 0, 1) := by decide +kernel
theorem dX12_early_14 : decode cX12_early 14 = .ok (.iaload, 1) := by decide +kernel
theorem dX12_early_15 : decode cX12_early 15 = .ok (.isub, 1) := by decide +kernel
theorem dX12_early_16 : decode cX12_early 16 = .ok (.aload_n 0, 1) := by decide +kernel
theorem dX12_early_17 : decode cX12_early 17 = .ok (.getfield 86, 3) := by decide +kernel
theorem dX12_early_20 : decode cX12_early 20 = .ok (.iload_n 1, 1) := by decide +kernel
theorem dX12_early_21 : decode cX12_early 21 = .ok (.iaload, 1) := by decide +kernel
theorem dX12_early_22 : decode cX12_early 22 = .ok (.isub, 1) := by decide +kernel
theorem dX12_early_23 : decode cX12_early 23 = .ok (.aload_n 0, 1) := by decide +kernel
theorem dX12_early_24 : decode cX12_early 24 = .ok (.getfield 86, 3) := by decide +kernel
theorem dX12_early_27 : decode cX12_early 27 = .ok (.iconst 0, 1) := by decide +kernel
theorem dX12_early_28 : decode cX12_early 28 = .ok (.iaload, 1) := by decide +kernel
theorem dX12_early_29 : decode cX12_early 29 = .ok (.isub, 1) := by decide +kernel
theorem dX12_early_30 : decode cX12_early 30 = .ok (.i2l, 1) := by decide +kernel
theorem dX12_early_31 : decode cX12_early 31 = .ok (.lmul, 1) := by decide +kernel
theorem dX12_early_32 : decode cX12_early 32 = .ok (.lreturn, 1) := by decide +kernel
theorem dX12_late_0 : decode cX12_late 0 = .ok (.ldc2_w 148, 3) := by decide +kernel
theorem dX12_late_3 : decode cX12_late 3 = .ok (.aload_n 0, 1) := by decide +kernel
theorem dX12_late_4 : decode cX12_late 4 = .ok (.getfield 83, 3) := by decide +kernel
theorem dX12_late_7 : decode cX12_late 7 = .ok (.iload_n 1, 1) := by decide +kernel
theorem dX12_late_8 : decode cX12_late 8 = .ok (.iaload, 1) := by decide +kernel
theorem dX12_late_9 : decode cX12_late 9 = .ok (.aload_n 0, 1) := by decide +kernel
theorem dX12_late_10 : decode cX12_late 10 = .ok (.getfield 83, 3) := by decide +kernel
theorem dX12_late_13 : decode cX12_late 13 = .ok (.iconst 0, 1) := by decide +kernel
theorem dX12_late_14 : decode cX12_late 14 = .ok (.iaload, 1) := by decide +kernel
theorem dX12_late_15 : decode cX12_late 15 = .ok (.isub, 1) := by decide +kernel
theorem dX12_late_16 : decode cX12_late 16 = .ok (.aload_n 0, 1) := by decide +kernel
theorem dX12_late_17 : decode cX12_late 17 = .ok (.getfield 86, 3) := by decide +kernel
theorem dX12_late_20 : decode cX12_late 20 = .ok (.iload_n 1, 1) := by decide +kernel
theorem dX12_late_21 : decode cX12_late 21 = .ok (.iaload, 1) := by decide +kernel
theorem dX12_late_22 : decode cX12_late 22 = .ok (.iadd, 1) := by decide +kernel
theorem dX12_late_23 : decode cX12_late 23 = .ok (.aload_n 0, 1) := by decide +kernel
theorem dX12_late_24 : decode cX12_late 24 = .ok (.getfield 86, 3) := by decide +kernel
theorem dX12_late_27 : decode cX12_late 27 = .ok (.iconst 0, 1) := by decide +kernel
theorem dX12_late_28 : decode cX12_late 28 = .ok (.iaload, 1) := by decide +kernel
theorem dX12_late_29 : decode cX12_late 29 = .ok (.iadd, 1) := by decide +kernel
theorem dX12_late_30 : decode cX12_late 30 = .ok (.i2l, 1) := by decide +kernel
theorem dX12_late_31 : decode cX12_late 31 = .ok (.lmul, 1) := by decide +kernel
theorem dX12_late_32 : decode cX12_late 32 = .ok (.lreturn, 1) := by decide +kernel
set_option maxRecDepth 20000 in
theorem ggX12_open_X12_early : GoodIn wsX12_open wsX12_early := goodIn_r _ [11, 12, 13, 14, 25, 26, 27, 28, 29, 30, 31, 32, 33, 34, 35, 36, 37, 38, 39, 40, 41, 42, 43, 44, 45, 46, 47, 48, 49, 50, 51, 52, 53, 54, 55, 56, 57, 58, 59, 60, 61, 62, 63, 64, 65, 66, 67, 68, 69, 70, 71, 72, 73, 74, 75, 76, 77, 78, 79, 80, 81] (by decide +kernel) (by decide +kernel)
set_option maxRecDepth 20000 in
theorem gX12_open_X12_early : GoodIn wsX12_open (wsV RX12 265 RX12 yX12_early wsX12_early) := goodIn_app (goodIn_of _ (by decide +kernel)) ggX12_open_X12_early
set_option maxRecDepth 20000 in
theorem ggX12_open_X12_up : GoodIn wsX12_open wsX12_up := goodIn_r _ [17] (by decide +kernel) (by decide +kernel)
set_option maxRecDepth 20000 in
theorem gX12_open_X12_up : GoodIn wsX12_open (va_wsS RX12 269 yX12_up wsX12_up) := goodIn_app (goodIn_of _ (by decide +kernel)) ggX12_open_X12_up
set_option maxRecDepth 20000 in
theorem ggX12_open_X12_late : GoodIn wsX12_open wsX12_late := goodIn_r _ [21, 12, 13, 14, 25, 26, 27, 28, 29, 30, 31, 32, 33, 34, 35, 36, 37, 38, 39, 40, 41, 42, 43, 44, 45, 46, 47, 48, 49, 50, 51, 52, 53, 54, 55, 56, 57, 58, 59, 60, 61, 62, 63, 64, 65, 66, 67, 68, 69, 70, 71, 72, 73, 74, 75, 76, 77, 78, 79, 80, 81] (by decide +kernel) (by decide +kernel)
set_option maxRecDepth 20000 in
theorem gX12_open_X12_late : GoodIn wsX12_open (wsV RX12 273 RX12 yX12_late wsX12_late) := goodIn_app (goodIn_of _ (by decide +kernel)) ggX12_open_X12_late
set_option maxRecDepth 20000 in
theorem ggX12_open_X12_down : GoodIn wsX12_open wsX12_down := goodIn_r _ [24] (by decide +kernel) (by decide +kernel)
set_option maxRecDepth 20000 in
theorem gX12_open_X12_down : GoodIn wsX12_open (va_wsS RX12 276 yX12_down wsX12_down) := goodIn_app (goodIn_of _ (by decide +kernel)) ggX12_open_X12_down
theorem dX12_open_0 : decode cX12_open 0 = .ok (.aload_n 0, 1) := by decide +kernel
theorem dX12_open_1 : decode cX12_open 1 = .ok (.iload_n 1, 1) := by decide +kernel
theorem dX12_open_2 : decode cX12_open 2 = .ok (.invokevirtual 265, 3) := by decide +kernel
theorem dX12_open_5 : decode cX12_open 5 = .ok (.aload_n 0, 1) := by decide +kernel
theorem dX12_open_6 : decode cX12_open 6 = .ok (.getfield 119, 3) := by decide +kernel
theorem dX12_open_9 : decode cX12_open 9 = .ok (.iload_n 1, 1) := by decide +kernel
theorem dX12_open_10 : decode cX12_open 10 = .ok (.iconst 1, 1) := by decide +kernel
theorem dX12_open_11 : decode cX12_open 11 = .ok (.isub, 1) := by decide +kernel
theorem dX12_open_12 : decode cX12_open 12 = .ok (.laload, 1) := by decide +kernel
theorem dX12_open_13 : decode cX12_open 13 = .ok (.lmul, 1) := by decide +kernel
theorem dX12_open_14 : decode cX12_open 14 = .ok (.aload_n 0, 1) := by decide +kernel
theorem dX12_open_15 : decode cX12_open 15 = .ok (.getfield 116, 3) := by decide +kernel
theorem dX12_open_18 : decode cX12_open 18 = .ok (.iload_n 1, 1) := by decide +kernel
theorem dX12_open_19 : decode cX12_open 19 = .ok (.iconst 1, 1) := by decide +kernel
theorem dX12_open_20 : decode cX12_open 20 = .ok (.isub, 1) := by decide +kernel
theorem dX12_open_21 : decode cX12_open 21 = .ok (.laload, 1) := by decide +kernel
theorem dX12_open_22 : decode cX12_open 22 = .ok (.invokestatic 269, 3) := by decide +kernel
theorem dX12_open_25 : decode cX12_open 25 = .ok (.lstore_n 2, 1) := by decide +kernel
theorem dX12_open_26 : decode cX12_open 26 = .ok (.aload_n 0, 1) := by decide +kernel
theorem dX12_open_27 : decode cX12_open 27 = .ok (.getfield 104, 3) := by decide +kernel
theorem dX12_open_30 : decode cX12_open 30 = .ok (.iload_n 1, 1) := by decide +kernel
theorem dX12_open_31 : decode cX12_open 31 = .ok (.lload_n 2, 1) := by decide +kernel
theorem dX12_open_32 : decode cX12_open 32 = .ok (.aload_n 0, 1) := by decide +kernel
theorem dX12_open_33 : decode cX12_open 33 = .ok (.getfield 104, 3) := by decide +kernel
theorem dX12_open_36 : decode cX12_open 36 = .ok (.iload_n 1, 1) := by decide +kernel
theorem dX12_open_37 : decode cX12_open 37 = .ok (.iconst 1, 1) := by decide +kernel
theorem dX12_open_38 : decode cX12_open 38 = .ok (.isub, 1) := by decide +kernel
theorem dX12_open_39 : decode cX12_open 39 = .ok (.iaload, 1) := by decide +kernel
theorem dX12_open_40 : decode cX12_open 40 = .ok (.iconst 1, 1) := by decide +kernel
theorem dX12_open_41 : decode cX12_open 41 = .ok (.iadd, 1) := by decide +kernel
theorem dX12_open_42 : decode cX12_open 42 = .ok (.i2l, 1) := by decide +kernel
theorem dX12_open_43 : decode cX12_open 43 = .ok (.lcmp, 1) := by decide +kernel
theorem dX12_open_44 : decode cX12_open 44 = .ok (.ifCond .le 7, 3) := by decide +kernel
theorem dX12_open_47 : decode cX12_open 47 = .ok (.lload_n 2, 1) := by decide +kernel
theorem dX12_open_48 : decode cX12_open 48 = .ok (.goto 14, 3) := by decide +kernel
theorem dX12_open_51 : decode cX12_open 51 = .ok (.aload_n 0, 1) := by decide +kernel
theorem dX12_open_52 : decode cX12_open 52 = .ok (.getfield 104, 3) := by decide +kernel
theorem dX12_open_55 : decode cX12_open 55 = .ok (.iload_n 1, 1) := by decide +kernel
theorem dX12_open_56 : decode cX12_open 56 = .ok (.iconst 1, 1) := by decide +kernel
theorem dX12_open_57 : decode cX12_open 57 = .ok (.isub, 1) := by decide +kernel
theorem dX12_open_58 : decode cX12_open 58 = .ok (.iaload, 1) := by decide +kernel
theorem dX12_open_59 : decode cX12_open 59 = .ok (.iconst 1, 1) := by decide +kernel
theorem dX12_open_60 : decode cX12_open 60 = .ok (.iadd, 1) := by decide +kernel
theorem dX12_open_61 : decode cX12_open 61 = .ok (.i2l, 1) := by decide +kernel
theorem dX12_open_62 : decode cX12_open 62 = .ok (.l2i, 1) := by decide +kernel
theorem dX12_open_63 : decode cX12_open 63 = .ok (.iconst 1, 1) := by decide +kernel
theorem dX12_open_64 : decode cX12_open 64 = .ok (.isub, 1) := by decide +kernel
theorem dX12_open_65 : decode cX12_open 65 = .ok (.iastore, 1) := by decide +kernel
theorem dX12_open_66 : decode cX12_open 66 = .ok (.aload_n 0, 1) := by decide +kernel
theorem dX12_open_67 : decode cX12_open 67 = .ok (.getfield 107, 3) := by decide +kernel
theorem dX12_open_70 : decode cX12_open 70 = .ok (.iload_n 1, 1) := by decide +kernel
theorem dX12_open_71 : decode cX12_open 71 = .ok (.aload_n 0, 1) := by decide +kernel
theorem dX12_open_72 : decode cX12_open 72 = .ok (.iload_n 1, 1) := by decide +kernel
theorem dX12_open_73 : decode cX12_open 73 = .ok (.invokevirtual 273, 3) := by decide +kernel
theorem dX12_open_76 : decode cX12_open 76 = .ok (.aload_n 0, 1) := by decide +kernel
theorem dX12_open_77 : decode cX12_open 77 = .ok (.getfield 113, 3) := by decide +kernel
theorem dX12_open_80 : decode cX12_open 80 = .ok (.iload_n 1, 1) := by decide +kernel
theorem dX12_open_81 : decode cX12_open 81 = .ok (.iconst 1, 1) := by decide +kernel
theorem dX12_open_82 : decode cX12_open 82 = .ok (.isub, 1) := by decide +kernel
theorem dX12_open_83 : decode cX12_open 83 = .ok (.laload, 1) := by decide +kernel
theorem dX12_open_84 : decode cX12_open 84 = .ok (.lmul, 1) := by decide +kernel
theorem dX12_open_85 : decode cX12_open 85 = .ok (.aload_n 0, 1) := by decide +kernel
theorem dX12_open_86 : decode cX12_open 86 = .ok (.getfield 110, 3) := by decide +kernel
theorem dX12_open_89 : decode cX12_open 89 = .ok (.iload_n 1, 1) := by decide +kernel
theorem dX12_open_90 : decode cX12_open 90 = .ok (.iconst 1, 1) := by decide +kernel
theorem dX12_open_91 : decode cX12_open 91 = .ok (.isub, 1) := by decide +kernel
theorem dX12_open_92 : decode cX12_open 92 = .ok (.laload, 1) := by decide +kernel
theorem dX12_open_93 : decode cX12_open 93 = .ok (.invokestatic 276, 3) := by decide +kernel
theorem dX12_open_96 : decode cX12_open 96 = .ok (.lastore, 1) := by decide +kernel
theorem dX12_open_97 : decode cX12_open 97 = .ok (.return_, 1) := by decide +kernel
set_option maxRecDepth 20000 in
theorem ggX12_bind_X12_early : GoodIn wsX12_bind wsX12_early := goodIn_r _ [10, 11, 12, 13, 18, 19, 20, 21, 22, 23, 24, 25, 26, 27, 28, 29, 30, 31, 32, 33, 34, 35, 36, 37, 38, 39, 40, 41, 42, 43, 44, 45, 46, 47, 48, 49, 50, 51, 52, 53, 54, 55, 56, 57, 58, 59, 60, 61, 62, 63, 64, 65, 66, 67, 68, 69, 70, 71, 72, 73, 74] (by decide +kernel) (by decide +kernel)
set_option maxRecDepth 20000 in
theorem gX12_bind_X12_early : GoodIn wsX12_bind (wsV RX12 265 RX12 yX12_early wsX12_early) := goodIn_app (goodIn_of _ (by decide +kernel)) ggX12_bind_X12_early
set_option maxRecDepth 20000 in
theorem ggX12_bind_X12_late : GoodIn wsX12_bind wsX12_late := goodIn_r _ [17, 11, 12, 13, 18, 19, 20, 21, 22, 23, 24, 25, 26, 27, 28, 29, 30, 31, 32, 33, 34, 35, 36, 37, 38, 39, 40, 41, 42, 43, 44, 45, 46, 47, 48, 49, 50, 51, 52, 53, 54, 55, 56, 57, 58, 59, 60, 61, 62, 63, 64, 65, 66, 67, 68, 69, 70, 71, 72, 73, 74] (by decide +kernel) (by decide +kernel)
set_option maxRecDepth 20000 in
theorem gX12_bind_X12_late : GoodIn wsX12_bind (wsV RX12 273 RX12 yX12_late wsX12_late) := goodIn_app (goodIn_of _ (by decide +kernel)) ggX12_bind_X12_late
theorem dX12_bind_0 : decode cX12_bind 0 = .ok (.aload_n 0, 1) := by decide +kernel
theorem dX12_bind_1 : decode cX12_bind 1 = .ok (.iload_n 1, 1) := by decide +kernel
theorem dX12_bind_2 : decode cX12_bind 2 = .ok (.invokevirtual 265, 3) := by decide +kernel
theorem dX12_bind_5 : decode cX12_bind 5 = .ok (.lstore_n 2, 1) := by decide +kernel
theorem dX12_bind_6 : decode cX12_bind 6 = .ok (.aload_n 0, 1) := by decide +kernel
theorem dX12_bind_7 : decode cX12_bind 7 = .ok (.iload_n 1, 1) := by decide +kernel
theorem dX12_bind_8 : decode cX12_bind 8 = .ok (.invokevirtual 273, 3) := by decide +kernel
theorem dX12_bind_11 : decode cX12_bind 11 = .ok (.lstore 4, 2) := by decide +kernel
theorem dX12_bind_13 : decode cX12_bind 13 = .ok (.lload_n 2, 1) := by decide +kernel
theorem dX12_bind_14 : decode cX12_bind 14 = .ok (.aload_n 0, 1) := by decide +kernel
theorem dX12_bind_15 : decode cX12_bind 15 = .ok (.getfield 113, 3) := by decide +kernel
theorem dX12_bind_18 : decode cX12_bind 18 = .ok (.iload_n 1, 1) := by decide +kernel
theorem dX12_bind_19 : decode cX12_bind 19 = .ok (.iconst 1, 1) := by decide +kernel
theorem dX12_bind_20 : decode cX12_bind 20 = .ok (.isub, 1) := by decide +kernel
theorem dX12_bind_21 : decode cX12_bind 21 = .ok (.laload, 1) := by decide +kernel
theorem dX12_bind_22 : decode cX12_bind 22 = .ok (.lmul, 1) := by decide +kernel
theorem dX12_bind_23 : decode cX12_bind 23 = .ok (.aload_n 0, 1) := by decide +kernel
theorem dX12_bind_24 : decode cX12_bind 24 = .ok (.getfield 110, 3) := by decide +kernel
theorem dX12_bind_27 : decode cX12_bind 27 = .ok (.iload_n 1, 1) := by decide +kernel
theorem dX12_bind_28 : decode cX12_bind 28 = .ok (.iconst 1, 1) := by decide +kernel
theorem dX12_bind_29 : decode cX12_bind 29 = .ok (.isub, 1) := by decide +kernel
theorem dX12_bind_30 : decode cX12_bind 30 = .ok (.laload, 1) := by decide +kernel
theorem dX12_bind_31 : decode cX12_bind 31 = .ok (.aload_n 0, 1) := by decide +kernel
theorem dX12_bind_32 : decode cX12_bind 32 = .ok (.getfield 104, 3) := by decide +kernel
theorem dX12_bind_35 : decode cX12_bind 35 = .ok (.iload_n 1, 1) := by decide +kernel
theorem dX12_bind_36 : decode cX12_bind 36 = .ok (.iaload, 1) := by decide +kernel
theorem dX12_bind_37 : decode cX12_bind 37 = .ok (.i2l, 1) := by decide +kernel
theorem dX12_bind_38 : decode cX12_bind 38 = .ok (.lmul, 1) := by decide +kernel
theorem dX12_bind_39 : decode cX12_bind 39 = .ok (.lcmp, 1) := by decide +kernel
theorem dX12_bind_40 : decode cX12_bind 40 = .ok (.ifCond .le 7, 3) := by decide +kernel
theorem dX12_bind_43 : decode cX12_bind 43 = .ok (.iconst 1, 1) := by decide +kernel
theorem dX12_bind_44 : decode cX12_bind 44 = .ok (.goto 4, 3) := by decide +kernel
theorem dX12_bind_47 : decode cX12_bind 47 = .ok (.iconst 0, 1) := by decide +kernel
theorem dX12_bind_48 : decode cX12_bind 48 = .ok (.istore 6, 2) := by decide +kernel
theorem dX12_bind_50 : decode cX12_bind 50 = .ok (.aload_n 0, 1) := by decide +kernel
theorem dX12_bind_51 : decode cX12_bind 51 = .ok (.getfield 110, 3) := by decide +kernel
theorem dX12_bind_54 : decode cX12_bind 54 = .ok (.iload_n 1, 1) := by decide +kernel
theorem dX12_bind_55 : decode cX12_bind 55 = .ok (.iload 6, 2) := by decide +kernel
theorem dX12_bind_57 : decode cX12_bind 57 = .ok (.ifCond .eq 7, 3) := by decide +kernel
theorem dX12_bind_60 : decode cX12_bind 60 = .ok (.lload_n 2, 1) := by decide +kernel
theorem dX12_bind_61 : decode cX12_bind 61 = .ok (.goto 11, 3) := by decide +kernel
theorem dX12_bind_64 : decode cX12_bind 64 = .ok (.aload_n 0, 1) := by decide +kernel
theorem dX12_bind_65 : decode cX12_bind 65 = .ok (.getfield 110, 3) := by decide +kernel
theorem dX12_bind_68 : decode cX12_bind 68 = .ok (.iload_n 1, 1) := by decide +kernel
theorem dX12_bind_69 : decode cX12_bind 69 = .ok (.iconst 1, 1) := by decide +kernel
theorem dX12_bind_70 : decode cX12_bind 70 = .ok (.isub, 1) := by decide +kernel
theorem dX12_bind_71 : decode cX12_bind 71 = .ok (.laload, 1) := by decide +kernel
theorem dX12_bind_72 : decode cX12_bind 72 = .ok (.lastore, 1) := by decide +kernel
theorem dX12_bind_73 : decode cX12_bind 73 = .ok (.aload_n 0, 1) := by decide +kernel
theorem dX12_bind_74 : decode cX12_bind 74 = .ok (.getfield 113, 3) := by decide +kernel
theorem dX12_bind_77 : decode cX12_bind 77 = .ok (.iload_n 1, 1) := by decide +kernel
theorem dX12_bind_78 : decode cX12_bind 78 = .ok (.iload 6, 2) := by decide +kernel
theorem dX12_bind_80 : decode cX12_bind 80 = .ok (.ifCond .eq 13, 3) := by decide +kernel
theorem dX12_bind_83 : decode cX12_bind 83 = .ok (.aload_n 0, 1) := by decide +kernel
theorem dX12_bind_84 : decode cX12_bind 84 = .ok (.getfield 104, 3) := by decide +kernel
theorem dX12_bind_87 : decode cX12_bind 87 = .ok (.iload_n 1, 1) := by decide +kernel
theorem dX12_bind_88 : decode cX12_bind 88 = .ok (.iaload, 1) := by decide +kernel
theorem dX12_bind_89 : decode cX12_bind 89 = .ok (.i2l, 1) := by decide +kernel
theorem dX12_bind_90 : decode cX12_bind 90 = .ok (.goto 11, 3) := by decide +kernel
theorem dX12_bind_93 : decode cX12_bind 93 = .ok (.aload_n 0, 1) := by decide +kernel
theorem dX12_bind_94 : decode cX12_bind 94 = .ok (.getfield 113, 3) := by decide +kernel
theorem dX12_bind_97 : decode cX12_bind 97 = .ok (.iload_n 1, 1) := by decide +kernel
theorem dX12_bind_98 : decode cX12_bind 98 = .ok (.iconst 1, 1) := by decide +kernel
theorem dX12_bind_99 : decode cX12_bind 99 = .ok (.isub, 1) := by decide +kernel
theorem dX12_bind_100 : decode cX12_bind 100 = .ok (.laload, 1) := by decide +kernel
theorem dX12_bind_101 : decode cX12_bind 101 = .ok (.lastore, 1) := by decide +kernel
theorem dX12_bind_102 : decode cX12_bind 102 = .ok (.lload 4, 2) := by decide +kernel
theorem dX12_bind_104 : decode cX12_bind 104 = .ok (.aload_n 0, 1) := by decide +kernel
theorem dX12_bind_105 : decode cX12_bind 105 = .ok (.getfield 119, 3) := by decide +kernel
theorem dX12_bind_108 : decode cX12_bind 108 = .ok (.iload_n 1, 1) := by decide +kernel
theorem dX12_bind_109 : decode cX12_bind 109 = .ok (.iconst 1, 1) := by decide +kernel
theorem dX12_bind_110 : decode cX12_bind 110 = .ok (.isub, 1) := by decide +kernel
theorem dX12_bind_111 : decode cX12_bind 111 = .ok (.laload, 1) := by decide +kernel
theorem dX12_bind_112 : decode cX12_bind 112 = .ok (.lmul, 1) := by decide +kernel
theorem dX12_bind_113 : decode cX12_bind 113 = .ok (.aload_n 0, 1) := by decide +kernel
theorem dX12_bind_114 : decode cX12_bind 114 = .ok (.getfield 116, 3) := by decide +kernel
theorem dX12_bind_117 : decode cX12_bind 117 = .ok (.iload_n 1, 1) := by decide +kernel
theorem dX12_bind_118 : decode cX12_bind 118 = .ok (.iconst 1, 1) := by decide +kernel
theorem dX12_bind_119 : decode cX12_bind 119 = .ok (.isub, 1) := by decide +kernel
theorem dX12_bind_120 : decode cX12_bind 120 = .ok (.laload, 1) := by decide +kernel
theorem dX12_bind_121 : decode cX12_bind 121 = .ok (.aload_n 0, 1) := by decide +kernel
theorem dX12_bind_122 : decode cX12_bind 122 = .ok (.getfield 104, 3) := by decide +kernel
theorem dX12_bind_125 : decode cX12_bind 125 = .ok (.iload_n 1, 1) := by decide +kernel
theorem dX12_bind_126 : decode cX12_bind 126 = .ok (.iaload, 1) := by decide +kernel
theorem dX12_bind_127 : decode cX12_bind 127 = .ok (.i2l, 1) := by decide +kernel
theorem dX12_bind_128 : decode cX12_bind 128 = .ok (.lmul, 1) := by decide +kernel
theorem dX12_bind_129 : decode cX12_bind 129 = .ok (.lcmp, 1) := by decide +kernel
theorem dX12_bind_130 : decode cX12_bind 130 = .ok (.ifCond .ge 7, 3) := by decide +kernel
theorem dX12_bind_133 : decode cX12_bind 133 = .ok (.iconst 1, 1) := by decide +kernel
theorem dX12_bind_134 : decode cX12_bind 134 = .ok (.goto 4, 3) := by decide +kernel
theorem dX12_bind_137 : decode cX12_bind 137 = .ok (.iconst 0, 1) := by decide +kernel
theorem dX12_bind_138 : decode cX12_bind 138 = .ok (.istore 7, 2) := by decide +kernel
theorem dX12_bind_140 : decode cX12_bind 140 = .ok (.aload_n 0, 1) := by decide +kernel
theorem dX12_bind_141 : decode cX12_bind 141 = .ok (.getfield 116, 3) := by decide +kernel
theorem dX12_bind_144 : decode cX12_bind 144 = .ok (.iload_n 1, 1) := by decide +kernel
theorem dX12_bind_145 : decode cX12_bind 145 = .ok (.iload 7, 2) := by decide +kernel
theorem dX12_bind_147 : decode cX12_bind 147 = .ok (.ifCond .eq 8, 3) := by decide +kernel
theorem dX12_bind_150 : decode cX12_bind 150 = .ok (.lload 4, 2) := by decide +kernel
theorem dX12_bind_152 : decode cX12_bind 152 = .ok (.goto 11, 3) := by decide +kernel
theorem dX12_bind_155 : decode cX12_bind 155 = .ok (.aload_n 0, 1) := by decide +kernel
theorem dX12_bind_156 : decode cX12_bind 156 = .ok (.getfield 116, 3) := by decide +kernel
theorem dX12_bind_159 : decode cX12_bind 159 = .ok (.iload_n 1, 1) := by decide +kernel
theorem dX12_bind_160 : decode cX12_bind 160 = .ok (.iconst 1, 1) := by decide +kernel
theorem dX12_bind_161 : decode cX12_bind 161 = .ok (.isub, 1) := by decide +kernel
theorem dX12_bind_162 : decode cX12_bind 162 = .ok (.laload, 1) := by decide +kernel
theorem dX12_bind_163 : decode cX12_bind 163 = .ok (.lastore, 1) := by decide +kernel
theorem dX12_bind_164 : decode cX12_bind 164 = .ok (.aload_n 0, 1) := by decide +kernel
theorem dX12_bind_165 : decode cX12_bind 165 = .ok (.getfield 119, 3) := by decide +kernel
theorem dX12_bind_168 : decode cX12_bind 168 = .ok (.iload_n 1, 1) := by decide +kernel
theorem dX12_bind_169 : decode cX12_bind 169 = .ok (.iload 7, 2) := by decide +kernel
theorem dX12_bind_171 : decode cX12_bind 171 = .ok (.ifCond .eq 13, 3) := by decide +kernel
theorem dX12_bind_174 : decode cX12_bind 174 = .ok (.aload_n 0, 1) := by decide +kernel
theorem dX12_bind_175 : decode cX12_bind 175 = .ok (.getfield 104, 3) := by decide +kernel
theorem dX12_bind_178 : decode cX12_bind 178 = .ok (.iload_n 1, 1) := by decide +kernel
theorem dX12_bind_179 : decode cX12_bind 179 = .ok (.iaload, 1) := by decide +kernel
theorem dX12_bind_180 : decode cX12_bind 180 = .ok (.i2l, 1) := by decide +kernel
theorem dX12_bind_181 : decode cX12_bind 181 = .ok (.goto 11, 3) := by decide +kernel
theorem dX12_bind_184 : decode cX12_bind 184 = .ok (.aload_n 0, 1) := by decide +kernel
theorem dX12_bind_185 : decode cX12_bind 185 = .ok (.getfield 119, 3) := by decide +kernel
theorem dX12_bind_188 : decode cX12_bind 188 = .ok (.iload_n 1, 1) := by decide +kernel
theorem dX12_bind_189 : decode cX12_bind 189 = .ok (.iconst 1, 1) := by decide +kernel
theorem dX12_bind_190 : decode cX12_bind 190 = .ok (.isub, 1) := by decide +kernel
theorem dX12_bind_191 : decode cX12_bind 191 = .ok (.laload, 1) := by decide +kernel
theorem dX12_bind_192 : decode cX12_bind 192 = .ok (.lastore, 1) := by decide +kernel
theorem dX12_bind_193 : decode cX12_bind 193 = .ok (.return_, 1) := by decide +kernel
theorem dX12_keep_0 : decode cX12_keep 0 = .ok (.iconst 0, 1) := by decide +kernel
theorem dX12_keep_1 : decode cX12_keep 1 = .ok (.istore_n 1, 1) := by decide +kernel
theorem dX12_keep_2 : decode cX12_keep 2 = .ok (.iload_n 1, 1) := by decide +kernel
theorem dX12_keep_3 : decode cX12_keep 3 = .ok (.aload_n 0, 1) := by decide +kernel
theorem dX12_keep_4 : decode cX12_keep 4 = .ok (.getfield 279, 3) := by decide +kernel
theorem dX12_keep_7 : decode cX12_keep 7 = .ok (.if_icmp .ge 29, 3) := by decide +kernel
theorem dX12_keep_10 : decode cX12_keep 10 = .ok (.aload_n 0, 1) := by decide +kernel
theorem dX12_keep_11 : decode cX12_keep 11 = .ok (.getfield 89, 3) := by decide +kernel
theorem dX12_keep_14 : decode cX12_keep 14 = .ok (.bipush 24, 2) := by decide +kernel
theorem dX12_keep_16 : decode cX12_keep 16 = .ok (.aload_n 0, 1) := by decide +kernel
theorem dX12_keep_17 : decode cX12_keep 17 = .ok (.getfield 282, 3) := by decide +kernel
theorem dX12_keep_20 : decode cX12_keep 20 = .ok (.imul, 1) := by decide +kernel
theorem dX12_keep_21 : decode cX12_keep 21 = .ok (.iload_n 1, 1) := by decide +kernel
theorem dX12_keep_22 : decode cX12_keep 22 = .ok (.iadd, 1) := by decide +kernel
theorem dX12_keep_23 : decode cX12_keep 23 = .ok (.aload_n 0, 1) := by decide +kernel
theorem dX12_keep_24 : decode cX12_keep 24 = .ok (.getfield 104, 3) := by decide +kernel
theorem dX12_keep_27 : decode cX12_keep 27 = .ok (.iload_n 1, 1) := by decide +kernel
theorem dX12_keep_28 : decode cX12_keep 28 = .ok (.iaload, 1) := by decide +kernel
theorem dX12_keep_29 : decode cX12_keep 29 = .ok (.iastore, 1) := by decide +kernel
theorem dX12_keep_30 : decode cX12_keep 30 = .ok (.iinc 1 1, 3) := by decide +kernel
theorem dX12_keep_33 : decode cX12_keep 33 = .ok (.goto (-31), 3) := by decide +kernel
theorem dX12_keep_36 : decode cX12_keep 36 = .ok (.aload_n 0, 1) := by decide +kernel
theorem dX12_keep_37 : decode cX12_keep 37 = .ok (.getfield 279, 3) := by decide +kernel
theorem dX12_keep_40 : decode cX12_keep 40 = .ok (.iconst 1, 1) := by decide +kernel
theorem dX12_keep_41 : decode cX12_keep 41 = .ok (.isub, 1) := by decide +kernel
theorem dX12_keep_42 : decode cX12_keep 42 = .ok (.istore_n 1, 1) := by decide +kernel
theorem dX12_keep_43 : decode cX12_keep 43 = .ok (.aload_n 0, 1) := by decide +kernel
theorem dX12_keep_44 : decode cX12_keep 44 = .ok (.getfield 92, 3) := by decide +kernel
theorem dX12_keep_47 : decode cX12_keep 47 = .ok (.aload_n 0, 1) := by decide +kernel
theorem dX12_keep_48 : decode cX12_keep 48 = .ok (.getfield 282, 3) := by decide +kernel
theorem dX12_keep_51 : decode cX12_keep 51 = .ok (.aload_n 0, 1) := by decide +kernel
theorem dX12_keep_52 : decode cX12_keep 52 = .ok (.getfield 110, 3) := by decide +kernel
theorem dX12_keep_55 : decode cX12_keep 55 = .ok (.iload_n 1, 1) := by decide +kernel
theorem dX12_keep_56 : decode cX12_keep 56 = .ok (.laload, 1) := by decide +kernel
theorem dX12_keep_57 : decode cX12_keep 57 = .ok (.lastore, 1) := by decide +kernel
theorem dX12_keep_58 : decode cX12_keep 58 = .ok (.aload_n 0, 1) := by decide +kernel
theorem dX12_keep_59 : decode cX12_keep 59 = .ok (.getfield 95, 3) := by decide +kernel
theorem dX12_keep_62 : decode cX12_keep 62 = .ok (.aload_n 0, 1) := by decide +kernel
theorem dX12_keep_63 : decode cX12_keep 63 = .ok (.getfield 282, 3) := by decide +kernel
theorem dX12_keep_66 : decode cX12_keep 66 = .ok (.aload_n 0, 1) := by decide +kernel
theorem dX12_keep_67 : decode cX12_keep 67 = .ok (.getfield 113, 3) := by decide +kernel
theorem dX12_keep_70 : decode cX12_keep 70 = .ok (.iload_n 1, 1) := by decide +kernel
theorem dX12_keep_71 : decode cX12_keep 71 = .ok (.laload, 1) := by decide +kernel
theorem dX12_keep_72 : decode cX12_keep 72 = .ok (.lastore, 1) := by decide +kernel
theorem dX12_keep_73 : decode cX12_keep 73 = .ok (.aload_n 0, 1) := by decide +kernel
theorem dX12_keep_74 : decode cX12_keep 74 = .ok (.getfield 98, 3) := by decide +kernel
theorem dX12_keep_77 : decode cX12_keep 77 = .ok (.aload_n 0, 1) := by decide +kernel
theorem dX12_keep_78 : decode cX12_keep 78 = .ok (.getfield 282, 3) := by decide +kernel
theorem dX12_keep_81 : decode cX12_keep 81 = .ok (.aload_n 0, 1) := by decide +kernel
theorem dX12_keep_82 : decode cX12_keep 82 = .ok (.getfield 116, 3) := by decide +kernel
theorem dX12_keep_85 : decode cX12_keep 85 = .ok (.iload_n 1, 1) := by decide +kernel
theorem dX12_keep_86 : decode cX12_keep 86 = .ok (.laload, 1) := by decide +kernel
theorem dX12_keep_87 : decode cX12_keep 87 = .ok (.lastore, 1) := by decide +kernel
theorem dX12_keep_88 : decode cX12_keep 88 = .ok (.aload_n 0, 1) := by decide +kernel
theorem dX12_keep_89 : decode cX12_keep 89 = .ok (.getfield 101, 3) := by decide +kernel
theorem dX12_keep_92 : decode cX12_keep 92 = .ok (.aload_n 0, 1) := by decide +kernel
theorem dX12_keep_93 : decode cX12_keep 93 = .ok (.getfield 282, 3) := by decide +kernel
theorem dX12_keep_96 : decode cX12_keep 96 = .ok (.aload_n 0, 1) := by decide +kernel
theorem dX12_keep_97 : decode cX12_keep 97 = .ok (.getfield 119, 3) := by decide +kernel
theorem dX12_keep_100 : decode cX12_keep 100 = .ok (.iload_n 1, 1) := by decide +kernel
theorem dX12_keep_101 : decode cX12_keep 101 = .ok (.laload, 1) := by decide +kernel
theorem dX12_keep_102 : decode cX12_keep 102 = .ok (.lastore, 1) := by decide +kernel
theorem dX12_keep_103 : decode cX12_keep 103 = .ok (.aload_n 0, 1) := by decide +kernel
theorem dX12_keep_104 : decode cX12_keep 104 = .ok (.dup, 1) := by decide +kernel
theorem dX12_keep_105 : decode cX12_keep 105 = .ok (.getfield 282, 3) := by decide +kernel
theorem dX12_keep_108 : decode cX12_keep 108 = .ok (.iconst 1, 1) := by decide +kernel
theorem dX12_keep_109 : decode cX12_keep 109 = .ok (.iadd, 1) := by decide +kernel
theorem dX12_keep_110 : decode cX12_keep 110 = .ok (.putfield 282, 3) := by decide +kernel
theorem dX12_keep_113 : decode cX12_keep 113 = .ok (.return_, 1) := by decide +kernel
set_option maxRecDepth 20000 in
theorem ggX12_goThrough_X12_open : GoodIn wsX12_goThrough wsX12_open := goodIn_r _ [9, 10, 11, 1, 2, 12, 13, 14, 15, 16, 8, 17, 18, 19, 20, 21, 22, 23, 24, 25, 26, 27, 28, 29, 30, 44, 45, 46, 47, 48, 49, 50, 51, 52, 53, 54, 55, 56, 57, 58, 59, 60, 61, 62, 63, 64, 65, 66, 67, 68, 69, 70, 71, 72, 73, 74, 75, 76, 77, 78, 79, 80, 81, 82, 83, 84, 85, 86, 87, 88, 89, 90, 91, 92, 93, 94, 95, 96, 97, 98, 99, 100] (by decide +kernel) (by decide +kernel)
set_option maxRecDepth 20000 in
theorem gX12_goThrough_X12_open : GoodIn wsX12_goThrough (wsV RX12 285 RX12 yX12_open wsX12_open) := goodIn_app (goodIn_of _ (by decide +kernel)) ggX12_goThrough_X12_open
set_option maxRecDepth 20000 in
theorem ggX12_goThrough_X12_bind : GoodIn wsX12_goThrough wsX12_bind := goodIn_r _ [34, 12, 13, 1, 10, 11, 14, 15, 16, 8, 17, 18, 19, 20, 24, 25, 26, 27, 44, 45, 46, 47, 48, 49, 50, 51, 52, 53, 54, 55, 56, 57, 58, 59, 60, 61, 62, 63, 64, 65, 66, 67, 68, 69, 70, 71, 72, 73, 74, 75, 76, 77, 78, 79, 80, 81, 82, 83, 84, 85, 86, 87, 88, 89, 90, 91, 92, 93, 94, 95, 96, 97, 98, 99, 100] (by decide +kernel) (by decide +kernel)
set_option maxRecDepth 20000 in
theorem gX12_goThrough_X12_bind : GoodIn wsX12_goThrough (wsV RX12 288 RX12 yX12_bind wsX12_bind) := goodIn_app (goodIn_of _ (by decide +kernel)) ggX12_goThrough_X12_bind
set_option maxRecDepth 20000 in
theorem ggX12_goThrough_X12_keep : GoodIn wsX12_goThrough wsX12_keep := goodIn_r _ [38, 3, 39, 4, 1, 40, 13, 41, 12, 42, 11, 43, 10, 44, 45, 46, 47, 48, 49, 50, 51, 52, 53, 54, 55, 56, 57, 58, 59, 60, 61, 62, 63, 64, 65, 66, 67, 68, 69, 70, 71, 72, 73, 74, 75, 76, 77, 78, 79, 80, 81, 82, 83, 84, 85, 86, 87, 88, 89, 90, 91, 92, 93, 94, 95, 96, 97, 98, 99, 100] (by decide +kernel) (by decide +kernel)
set_option maxRecDepth 20000 in
theorem gX12_goThrough_X12_keep : GoodIn wsX12_goThrough (wsV RX12 291 RX12 yX12_keep wsX12_keep) := goodIn_app (goodIn_of _ (by decide +kernel)) ggX12_goThrough_X12_keep
theorem dX12_goThrough_0 : decode cX12_goThrough 0 = .ok (.iconst 0, 1) := by decide +kernel
theorem dX12_goThrough_1 : decode cX12_goThrough 1 = .ok (.istore_n 1, 1) := by decide +kernel
theorem dX12_goThrough_2 : decode cX12_goThrough 2 = .ok (.iconst 1, 1) := by decide +kernel
theorem dX12_goThrough_3 : decode cX12_goThrough 3 = .ok (.istore_n 2, 1) := by decide +kernel
theorem dX12_goThrough_4 : decode cX12_goThrough 4 = .ok (.aload_n 0, 1) := by decide +kernel
theorem dX12_goThrough_5 : decode cX12_goThrough 5 = .ok (.iconst 1, 1) := by decide +kernel
theorem dX12_goThrough_6 : decode cX12_goThrough 6 = .ok (.invokevirtual 285, 3) := by decide +kernel
theorem dX12_goThrough_9 : decode cX12_goThrough 9 = .ok (.iload_n 2, 1) := by decide +kernel
theorem dX12_goThrough_10 : decode cX12_goThrough 10 = .ok (.ifCond .le 101, 3) := by decide +kernel
theorem dX12_goThrough_13 : decode cX12_goThrough 13 = .ok (.aload_n 0, 1) := by decide +kernel
theorem dX12_goThrough_14 : decode cX12_goThrough 14 = .ok (.getfield 104, 3) := by decide +kernel
theorem dX12_goThrough_17 : decode cX12_goThrough 17 = .ok (.iload_n 2, 1) := by decide +kernel
theorem dX12_goThrough_18 : decode cX12_goThrough 18 = .ok (.iaload, 1) := by decide +kernel
theorem dX12_goThrough_19 : decode cX12_goThrough 19 = .ok (.i2l, 1) := by decide +kernel
theorem dX12_goThrough_20 : decode cX12_goThrough 20 = .ok (.aload_n 0, 1) := by decide +kernel
theorem dX12_goThrough_21 : decode cX12_goThrough 21 = .ok (.getfield 107, 3) := by decide +kernel
theorem dX12_goThrough_24 : decode cX12_goThrough 24 = .ok (.iload_n 2, 1) := by decide +kernel
theorem dX12_goThrough_25 : decode cX12_goThrough 25 = .ok (.laload, 1) := by decide +kernel
theorem dX12_goThrough_26 : decode cX12_goThrough 26 = .ok (.lcmp, 1) := by decide +kernel
theorem dX12_goThrough_27 : decode cX12_goThrough 27 = .ok (.ifCond .lt 9, 3) := by decide +kernel
theorem dX12_goThrough_30 : decode cX12_goThrough 30 = .ok (.iinc 2 (-1), 3) := by decide +kernel
theorem dX12_goThrough_33 : decode cX12_goThrough 33 = .ok (.goto (-24), 3) := by decide +kernel
theorem dX12_goThrough_36 : decode cX12_goThrough 36 = .ok (.aload_n 0, 1) := by decide +kernel
theorem dX12_goThrough_37 : decode cX12_goThrough 37 = .ok (.getfield 104, 3) := by decide +kernel
theorem dX12_goThrough_40 : decode cX12_goThrough 40 = .ok (.iload_n 2, 1) := by decide +kernel
theorem dX12_goThrough_41 : decode cX12_goThrough 41 = .ok (.dup2, 1) := by decide +kernel
theorem dX12_goThrough_42 : decode cX12_goThrough 42 = .ok (.iaload, 1) := by decide +kernel
theorem dX12_goThrough_43 : decode cX12_goThrough 43 = .ok (.iconst 1, 1) := by decide +kernel
theorem dX12_goThrough_44 : decode cX12_goThrough 44 = .ok (.iadd, 1) := by decide +kernel
theorem dX12_goThrough_45 : decode cX12_goThrough 45 = .ok (.iastore, 1) := by decide +kernel
theorem dX12_goThrough_46 : decode cX12_goThrough 46 = .ok (.iinc 1 1, 3) := by decide +kernel
theorem dX12_goThrough_49 : decode cX12_goThrough 49 = .ok (.aload_n 0, 1) := by decide +kernel
theorem dX12_goThrough_50 : decode cX12_goThrough 50 = .ok (.iload_n 2, 1) := by decide +kernel
theorem dX12_goThrough_51 : decode cX12_goThrough 51 = .ok (.invokevirtual 288, 3) := by decide +kernel
theorem dX12_goThrough_54 : decode cX12_goThrough 54 = .ok (.iload_n 1, 1) := by decide +kernel
theorem dX12_goThrough_55 : decode cX12_goThrough 55 = .ok (.sipush 20000, 3) := by decide +kernel
theorem dX12_goThrough_58 : decode cX12_goThrough 58 = .ok (.if_icmp .gt 23, 3) := by decide +kernel
theorem dX12_goThrough_61 : decode cX12_goThrough 61 = .ok (.iload_n 2, 1) := by decide +kernel
theorem dX12_goThrough_62 : decode cX12_goThrough 62 = .ok (.aload_n 0, 1) := by decide +kernel
theorem dX12_goThrough_63 : decode cX12_goThrough 63 = .ok (.getfield 279, 3) := by decide +kernel
theorem dX12_goThrough_66 : decode cX12_goThrough 66 = .ok (.iconst 1, 1) := by decide +kernel
theorem dX12_goThrough_67 : decode cX12_goThrough 67 = .ok (.isub, 1) := by decide +kernel
theorem dX12_goThrough_68 : decode cX12_goThrough 68 = .ok (.if_icmp .ne 15, 3) := by decide +kernel
theorem dX12_goThrough_71 : decode cX12_goThrough 71 = .ok (.aload_n 0, 1) := by decide +kernel
theorem dX12_goThrough_72 : decode cX12_goThrough 72 = .ok (.getfield 282, 3) := by decide +kernel
theorem dX12_goThrough_75 : decode cX12_goThrough 75 = .ok (.sipush 500, 3) := by decide +kernel
theorem dX12_goThrough_78 : decode cX12_goThrough 78 = .ok (.if_icmp .ne 5, 3) := by decide +kernel
theorem dX12_goThrough_81 : decode cX12_goThrough 81 = .ok (.iconst 0, 1) := by decide +kernel
theorem dX12_goThrough_82 : decode cX12_goThrough 82 = .ok (.ireturn, 1) := by decide +kernel
theorem dX12_goThrough_83 : decode cX12_goThrough 83 = .ok (.iload_n 2, 1) := by decide +kernel
theorem dX12_goThrough_84 : decode cX12_goThrough 84 = .ok (.aload_n 0, 1) := by decide +kernel
theorem dX12_goThrough_85 : decode cX12_goThrough 85 = .ok (.getfield 279, 3) := by decide +kernel
theorem dX12_goThrough_88 : decode cX12_goThrough 88 = .ok (.iconst 1, 1) := by decide +kernel
theorem dX12_goThrough_89 : decode cX12_goThrough 89 = .ok (.isub, 1) := by decide +kernel
theorem dX12_goThrough_90 : decode cX12_goThrough 90 = .ok (.if_icmp .ne 10, 3) := by decide +kernel
theorem dX12_goThrough_93 : decode cX12_goThrough 93 = .ok (.aload_n 0, 1) := by decide +kernel
theorem dX12_goThrough_94 : decode cX12_goThrough 94 = .ok (.invokevirtual 291, 3) := by decide +kernel
theorem dX12_goThrough_97 : decode cX12_goThrough 97 = .ok (.goto (-88), 3) := by decide +kernel
theorem dX12_goThrough_100 : decode cX12_goThrough 100 = .ok (.iinc 2 1, 3) := by decide +kernel
theorem dX12_goThrough_103 : decode cX12_goThrough 103 = .ok (.aload_n 0, 1) := by decide +kernel
theorem dX12_goThrough_104 : decode cX12_goThrough 104 = .ok (.iload_n 2, 1) := by decide +kernel
theorem dX12_goThrough_105 : decode cX12_goThrough 105 = .ok (.invokevirtual 285, 3) := by decide +kernel
theorem dX12_goThrough_108 : decode cX12_goThrough 108 = .ok (.goto (-99), 3) := by decide +kernel
theorem dX12_goThrough_111 : decode cX12_goThrough 111 = .ok (.iconst 1, 1) := by decide +kernel
theorem dX12_goThrough_112 : decode cX12_goThrough 112 = .ok (.ireturn, 1) := by decide +kernel
set_option maxRecDepth 20000 in
theorem ggX12_ways_X12_isStar : GoodIn wsX12_ways wsX12_isStar := goodIn_r _ [20, 21, 22, 23, 19, 24] (by decide +kernel) (by decide +kernel)
set_option maxRecDepth 20000 in
theorem gX12_ways_X12_isStar : GoodIn wsX12_ways (va_wsS RX12 142 yX12_isStar wsX12_isStar) := goodIn_app (goodIn_of _ (by decide +kernel)) ggX12_ways_X12_isStar
set_option maxRecDepth 20000 in
theorem ggX12_ways_X12_in : GoodIn wsX12_ways wsX12_in := goodIn_r _ [24] (by decide +kernel) (by decide +kernel)
set_option maxRecDepth 20000 in
theorem gX12_ways_X12_in : GoodIn wsX12_ways (va_wsS RX12 136 yX12_in wsX12_in) := goodIn_app (goodIn_of _ (by decide +kernel)) ggX12_ways_X12_in
set_option maxRecDepth 20000 in
theorem ggX12_ways_X12_layCounts : GoodIn wsX12_ways wsX12_layCounts := goodIn_r _ [28, 3, 29, 30, 31, 6, 78, 79, 80, 81, 82, 83, 84, 85, 86, 87, 88, 89, 90, 91, 92, 93, 94, 95, 96, 97, 98, 99, 100, 101, 102, 103, 104, 105, 106, 107, 108, 109, 110, 111, 112, 113, 114, 115, 116, 117, 118, 119, 120, 121, 122, 123, 124, 125, 126, 127, 128, 129, 130, 131, 132, 133, 134] (by decide +kernel) (by decide +kernel)
set_option maxRecDepth 20000 in
theorem gX12_ways_X12_layCounts : GoodIn wsX12_ways (wsV RX12 175 RX12 yX12_layCounts wsX12_layCounts) := goodIn_app (goodIn_of _ (by decide +kernel)) ggX12_ways_X12_layCounts
set_option maxRecDepth 20000 in
theorem ggX12_ways_X12_corrected : GoodIn wsX12_ways wsX12_corrected := goodIn_r _ [35, 36, 37, 38, 39, 40, 78, 79, 80, 81, 82, 83, 84, 85, 86, 87, 88, 89, 90, 91, 92, 93, 94, 95, 96, 97, 98, 99, 100, 101, 102, 103, 104, 105, 106, 107, 108, 109, 110, 111, 112, 113, 114, 115, 116, 117, 118, 119, 120, 121, 122, 123, 124, 125, 126, 127, 128, 129, 130, 131, 132, 133, 134] (by decide +kernel) (by decide +kernel)
set_option maxRecDepth 20000 in
theorem gX12_ways_X12_corrected : GoodIn wsX12_ways (wsV RX12 180 RX12 yX12_corrected wsX12_corrected) := goodIn_app (goodIn_of _ (by decide +kernel)) ggX12_ways_X12_corrected
set_option maxRecDepth 20000 in
theorem ggX12_ways_X12_goThrough : GoodIn wsX12_ways wsX12_goThrough := goodIn_r _ [44, 11, 45, 4, 10, 46, 47, 48, 19, 49, 15, 14, 13, 12, 50, 51, 52, 53, 54, 5, 8, 55, 56, 57, 58, 59, 60, 61, 62, 63, 64, 65, 66, 67, 68, 69, 70, 71, 72, 73, 74, 75, 76, 77, 78, 79, 80, 81, 82, 83, 84, 85, 86, 87, 88, 89, 90, 91, 92, 93, 94, 95, 96, 97, 98, 99, 100, 101, 102, 103, 104, 105, 106, 107, 108, 109, 110, 111, 112, 113, 114, 115, 116, 117, 118, 119, 120, 121, 122, 123, 124, 125, 126, 127, 128, 129, 130, 131, 132, 133, 134] (by decide +kernel) (by decide +kernel)
set_option maxRecDepth 20000 in
theorem gX12_ways_X12_goThrough : GoodIn wsX12_ways (wsV RX12 298 RX12 yX12_goThrough wsX12_goThrough) := goodIn_app (goodIn_of _ (by decide +kernel)) ggX12_ways_X12_goThrough
theorem dX12_ways_0 : decode cX12_ways 0 = .ok (.iload_n 1, 1) := by decide +kernel
theorem dX12_ways_1 : decode cX12_ways 1 = .ok (.invokestatic 142, 3) := by decide +kernel
theorem dX12_ways_4 : decode cX12_ways 4 = .ok (.ifCond .eq 30, 3) := by decide +kernel
theorem dX12_ways_7 : decode cX12_ways 7 = .ok (.iload_n 2, 1) := by decide +kernel
theorem dX12_ways_8 : decode cX12_ways 8 = .ok (.i2l, 1) := by decide +kernel
theorem dX12_ways_9 : decode cX12_ways 9 = .ok (.ldc2_w 294, 3) := by decide +kernel
theorem dX12_ways_12 : decode cX12_ways 12 = .ok (.ldc2_w 296, 3) := by decide +kernel
theorem dX12_ways_15 : decode cX12_ways 15 = .ok (.invokestatic 136, 3) := by decide +kernel
theorem dX12_ways_18 : decode cX12_ways 18 = .ok (.ifCond .eq 16, 3) := by decide +kernel
theorem dX12_ways_21 : decode cX12_ways 21 = .ok (.iload_n 3, 1) := by decide +kernel
theorem dX12_ways_22 : decode cX12_ways 22 = .ok (.i2l, 1) := by decide +kernel
theorem dX12_ways_23 : decode cX12_ways 23 = .ok (.iload_n 2, 1) := by decide +kernel
theorem dX12_ways_24 : decode cX12_ways 24 = .ok (.i2l, 1) := by decide +kernel
theorem dX12_ways_25 : decode cX12_ways 25 = .ok (.ldc2_w 296, 3) := by decide +kernel
theorem dX12_ways_28 : decode cX12_ways 28 = .ok (.invokestatic 136, 3) := by decide +kernel
theorem dX12_ways_31 : decode cX12_ways 31 = .ok (.ifCond .ne 5, 3) := by decide +kernel
theorem dX12_ways_34 : decode cX12_ways 34 = .ok (.iconst (-1), 1) := by decide +kernel
theorem dX12_ways_35 : decode cX12_ways 35 = .ok (.ireturn, 1) := by decide +kernel
theorem dX12_ways_36 : decode cX12_ways 36 = .ok (.aload_n 0, 1) := by decide +kernel
theorem dX12_ways_37 : decode cX12_ways 37 = .ok (.iload_n 1, 1) := by decide +kernel
theorem dX12_ways_38 : decode cX12_ways 38 = .ok (.invokevirtual 175, 3) := by decide +kernel
theorem dX12_ways_41 : decode cX12_ways 41 = .ok (.aload_n 0, 1) := by decide +kernel
theorem dX12_ways_42 : decode cX12_ways 42 = .ok (.getfield 167, 3) := by decide +kernel
theorem dX12_ways_45 : decode cX12_ways 45 = .ok (.iconst 2, 1) := by decide +kernel
theorem dX12_ways_46 : decode cX12_ways 46 = .ok (.if_icmp .ge 6, 3) := by decide +kernel
theorem dX12_ways_49 : decode cX12_ways 49 = .ok (.bipush (-2), 2) := by decide +kernel
theorem dX12_ways_51 : decode cX12_ways 51 = .ok (.ireturn, 1) := by decide +kernel
theorem dX12_ways_52 : decode cX12_ways 52 = .ok (.aload_n 0, 1) := by decide +kernel
theorem dX12_ways_53 : decode cX12_ways 53 = .ok (.aload_n 0, 1) := by decide +kernel
theorem dX12_ways_54 : decode cX12_ways 54 = .ok (.getfield 167, 3) := by decide +kernel
theorem dX12_ways_57 : decode cX12_ways 57 = .ok (.putfield 279, 3) := by decide +kernel
theorem dX12_ways_60 : decode cX12_ways 60 = .ok (.iconst 0, 1) := by decide +kernel
theorem dX12_ways_61 : decode cX12_ways 61 = .ok (.istore 4, 2) := by decide +kernel
theorem dX12_ways_63 : decode cX12_ways 63 = .ok (.iload 4, 2) := by decide +kernel
theorem dX12_ways_65 : decode cX12_ways 65 = .ok (.aload_n 0, 1) := by decide +kernel
theorem dX12_ways_66 : decode cX12_ways 66 = .ok (.getfield 167, 3) := by decide +kernel
theorem dX12_ways_69 : decode cX12_ways 69 = .ok (.if_icmp .ge 50, 3) := by decide +kernel
theorem dX12_ways_72 : decode cX12_ways 72 = .ok (.aload_n 0, 1) := by decide +kernel
theorem dX12_ways_73 : decode cX12_ways 73 = .ok (.getfield 83, 3) := by decide +kernel
theorem dX12_ways_76 : decode cX12_ways 76 = .ok (.iload 4, 2) := by decide +kernel
theorem dX12_ways_78 : decode cX12_ways 78 = .ok (.aload_n 0, 1) := by decide +kernel
theorem dX12_ways_79 : decode cX12_ways 79 = .ok (.aload_n 0, 1) := by decide +kernel
theorem dX12_ways_80 : decode cX12_ways 80 = .ok (.getfield 70, 3) := by decide +kernel
theorem dX12_ways_83 : decode cX12_ways 83 = .ok (.iload 4, 2) := by decide +kernel
theorem dX12_ways_85 : decode cX12_ways 85 = .ok (.iaload, 1) := by decide +kernel
theorem dX12_ways_86 : decode cX12_ways 86 = .ok (.aload_n 0, 1) := by decide +kernel
theorem dX12_ways_87 : decode cX12_ways 87 = .ok (.getfield 164, 3) := by decide +kernel
theorem dX12_ways_90 : decode cX12_ways 90 = .ok (.invokevirtual 180, 3) := by decide +kernel
theorem dX12_ways_93 : decode cX12_ways 93 = .ok (.iastore, 1) := by decide +kernel
theorem dX12_ways_94 : decode cX12_ways 94 = .ok (.aload_n 0, 1) := by decide +kernel
theorem dX12_ways_95 : decode cX12_ways 95 = .ok (.getfield 86, 3) := by decide +kernel
theorem dX12_ways_98 : decode cX12_ways 98 = .ok (.iload 4, 2) := by decide +kernel
theorem dX12_ways_100 : decode cX12_ways 100 = .ok (.aload_n 0, 1) := by decide +kernel
theorem dX12_ways_101 : decode cX12_ways 101 = .ok (.getfield 16, 3) := by decide +kernel
theorem dX12_ways_104 : decode cX12_ways 104 = .ok (.aload_n 0, 1) := by decide +kernel
theorem dX12_ways_105 : decode cX12_ways 105 = .ok (.getfield 70, 3) := by decide +kernel
theorem dX12_ways_108 : decode cX12_ways 108 = .ok (.iload 4, 2) := by decide +kernel
theorem dX12_ways_110 : decode cX12_ways 110 = .ok (.iaload, 1) := by decide +kernel
theorem dX12_ways_111 : decode cX12_ways 111 = .ok (.iaload, 1) := by decide +kernel
theorem dX12_ways_112 : decode cX12_ways 112 = .ok (.iastore, 1) := by decide +kernel
theorem dX12_ways_113 : decode cX12_ways 113 = .ok (.iinc 4 1, 3) := by decide +kernel
theorem dX12_ways_116 : decode cX12_ways 116 = .ok (.goto (-53), 3) := by decide +kernel
theorem dX12_ways_119 : decode cX12_ways 119 = .ok (.aload_n 0, 1) := by decide +kernel
theorem dX12_ways_120 : decode cX12_ways 120 = .ok (.iconst 0, 1) := by decide +kernel
theorem dX12_ways_121 : decode cX12_ways 121 = .ok (.putfield 282, 3) := by decide +kernel
theorem dX12_ways_124 : decode cX12_ways 124 = .ok (.aload_n 0, 1) := by decide +kernel
theorem dX12_ways_125 : decode cX12_ways 125 = .ok (.getfield 104, 3) := by decide +kernel
theorem dX12_ways_128 : decode cX12_ways 128 = .ok (.iconst 0, 1) := by decide +kernel
theorem dX12_ways_129 : decode cX12_ways 129 = .ok (.iconst 0, 1) := by decide +kernel
theorem dX12_ways_130 : decode cX12_ways 130 = .ok (.iastore, 1) := by decide +kernel
theorem dX12_ways_131 : decode cX12_ways 131 = .ok (.aload_n 0, 1) := by decide +kernel
theorem dX12_ways_132 : decode cX12_ways 132 = .ok (.getfield 110, 3) := by decide +kernel
theorem dX12_ways_135 : decode cX12_ways 135 = .ok (.iconst 0, 1) := by decide +kernel
theorem dX12_ways_136 : decode cX12_ways 136 = .ok (.iload_n 2, 1) := by decide +kernel
theorem dX12_ways_137 : decode cX12_ways 137 = .ok (.i2l, 1) := by decide +kernel
theorem dX12_ways_138 : decode cX12_ways 138 = .ok (.lastore, 1) := by decide +kernel
theorem dX12_ways_139 : decode cX12_ways 139 = .ok (.aload_n 0, 1) := by decide +kernel
theorem dX12_ways_140 : decode cX12_ways 140 = .ok (.getfield 113, 3) := by decide +kernel
theorem dX12_ways_143 : decode cX12_ways 143 = .ok (.iconst 0, 1) := by decide +kernel
theorem dX12_ways_144 : decode cX12_ways 144 = .ok (.lconst 1, 1) := by decide +kernel
theorem dX12_ways_145 : decode cX12_ways 145 = .ok (.lastore, 1) := by decide +kernel
theorem dX12_ways_146 : decode cX12_ways 146 = .ok (.aload_n 0, 1) := by decide +kernel
theorem dX12_ways_147 : decode cX12_ways 147 = .ok (.getfield 116, 3) := by decide +kernel
theorem dX12_ways_150 : decode cX12_ways 150 = .ok (.iconst 0, 1) := by decide +kernel
theorem dX12_ways_151 : decode cX12_ways 151 = .ok (.iload_n 3, 1) := by decide +kernel
theorem dX12_ways_152 : decode cX12_ways 152 = .ok (.i2l, 1) := by decide +kernel
theorem dX12_ways_153 : decode cX12_ways 153 = .ok (.lastore, 1) := by decide +kernel
theorem dX12_ways_154 : decode cX12_ways 154 = .ok (.aload_n 0, 1) := by decide +kernel
theorem dX12_ways_155 : decode cX12_ways 155 = .ok (.getfield 119, 3) := by decide +kernel
theorem dX12_ways_158 : decode cX12_ways 158 = .ok (.iconst 0, 1) := by decide +kernel
theorem dX12_ways_159 : decode cX12_ways 159 = .ok (.lconst 1, 1) := by decide +kernel
theorem dX12_ways_160 : decode cX12_ways 160 = .ok (.lastore, 1) := by decide +kernel
theorem dX12_ways_161 : decode cX12_ways 161 = .ok (.aload_n 0, 1) := by decide +kernel
theorem dX12_ways_162 : decode cX12_ways 162 = .ok (.invokevirtual 298, 3) := by decide +kernel
theorem dX12_ways_165 : decode cX12_ways 165 = .ok (.istore 4, 2) := by decide +kernel
theorem dX12_ways_167 : decode cX12_ways 167 = .ok (.aload_n 0, 1) := by decide +kernel
theorem dX12_ways_168 : decode cX12_ways 168 = .ok (.iload 4, 2) := by decide +kernel
theorem dX12_ways_170 : decode cX12_ways 170 = .ok (.ifCond .eq 7, 3) := by decide +kernel
theorem dX12_ways_173 : decode cX12_ways 173 = .ok (.iconst 1, 1) := by decide +kernel
theorem dX12_ways_174 : decode cX12_ways 174 = .ok (.goto 4, 3) := by decide +kernel
theorem dX12_ways_177 : decode cX12_ways 177 = .ok (.iconst 2, 1) := by decide +kernel
theorem dX12_ways_178 : decode cX12_ways 178 = .ok (.putfield 301, 3) := by decide +kernel
theorem dX12_ways_181 : decode cX12_ways 181 = .ok (.aload_n 0, 1) := by decide +kernel
theorem dX12_ways_182 : decode cX12_ways 182 = .ok (.iload 4, 2) := by decide +kernel
theorem dX12_ways_184 : decode cX12_ways 184 = .ok (.ifCond .eq 10, 3) := by decide +kernel
theorem dX12_ways_187 : decode cX12_ways 187 = .ok (.aload_n 0, 1) := by decide +kernel
theorem dX12_ways_188 : decode cX12_ways 188 = .ok (.getfield 282, 3) := by decide +kernel
theorem dX12_ways_191 : decode cX12_ways 191 = .ok (.goto 4, 3) := by decide +kernel
theorem dX12_ways_194 : decode cX12_ways 194 = .ok (.iconst 0, 1) := by decide +kernel
theorem dX12_ways_195 : decode cX12_ways 195 = .ok (.putfield 282, 3) := by decide +kernel
theorem dX12_ways_198 : decode cX12_ways 198 = .ok (.iload 4, 2) := by decide +kernel
theorem dX12_ways_200 : decode cX12_ways 200 = .ok (.ifCond .eq 10, 3) := by decide +kernel
theorem dX12_ways_203 : decode cX12_ways 203 = .ok (.aload_n 0, 1) := by decide +kernel
theorem dX12_ways_204 : decode cX12_ways 204 = .ok (.getfield 282, 3) := by decide +kernel
theorem dX12_ways_207 : decode cX12_ways 207 = .ok (.goto 5, 3) := by decide +kernel
theorem dX12_ways_210 : decode cX12_ways 210 = .ok (.bipush (-5), 2) := by decide +kernel
theorem dX12_ways_212 : decode cX12_ways 212 = .ok (.ireturn, 1) := by decide +kernel
set_option maxRecDepth 20000 in
theorem ggX12_way_X12_in : GoodIn wsX12_way wsX12_in := goodIn_r _ [9] (by decide +kernel) (by decide +kernel)
set_option maxRecDepth 20000 in
theorem gX12_way_X12_in : GoodIn wsX12_way (va_wsS RX12 136 yX12_in wsX12_in) := goodIn_app (goodIn_of _ (by decide +kernel)) ggX12_way_X12_in
theorem dX12_way_0 : decode cX12_way 0 = .ok (.iload_n 1, 1) := by decide +kernel
theorem dX12_way_1 : decode cX12_way 1 = .ok (.ifCond .lt 15, 3) := by decide +kernel
theorem dX12_way_4 : decode cX12_way 4 = .ok (.iload_n 2, 1) := by decide +kernel
theorem dX12_way_5 : decode cX12_way 5 = .ok (.i2l, 1) := by decide +kernel
theorem dX12_way_6 : decode cX12_way 6 = .ok (.lconst 0, 1) := by decide +kernel
theorem dX12_way_7 : decode cX12_way 7 = .ok (.ldc2_w 171, 3) := by decide +kernel
theorem dX12_way_10 : decode cX12_way 10 = .ok (.invokestatic 136, 3) := by decide +kernel
theorem dX12_way_13 : decode cX12_way 13 = .ok (.ifCond .ne 5, 3) := by decide +kernel
theorem dX12_way_16 : decode cX12_way 16 = .ok (.iconst (-1), 1) := by decide +kernel
theorem dX12_way_17 : decode cX12_way 17 = .ok (.ireturn, 1) := by decide +kernel
theorem dX12_way_18 : decode cX12_way 18 = .ok (.aload_n 0, 1) := by decide +kernel
theorem dX12_way_19 : decode cX12_way 19 = .ok (.getfield 301, 3) := by decide +kernel
theorem dX12_way_22 : decode cX12_way 22 = .ok (.iconst 1, 1) := by decide +kernel
theorem dX12_way_23 : decode cX12_way 23 = .ok (.if_icmp .ne 11, 3) := by decide +kernel
theorem dX12_way_26 : decode cX12_way 26 = .ok (.iload_n 2, 1) := by decide +kernel
theorem dX12_way_27 : decode cX12_way 27 = .ok (.aload_n 0, 1) := by decide +kernel
theorem dX12_way_28 : decode cX12_way 28 = .ok (.getfield 279, 3) := by decide +kernel
theorem dX12_way_31 : decode cX12_way 31 = .ok (.if_icmp .lt 6, 3) := by decide +kernel
theorem dX12_way_34 : decode cX12_way 34 = .ok (.bipush (-2), 2) := by decide +kernel
theorem dX12_way_36 : decode cX12_way 36 = .ok (.ireturn, 1) := by decide +kernel
theorem dX12_way_37 : decode cX12_way 37 = .ok (.iload_n 1, 1) := by decide +kernel
theorem dX12_way_38 : decode cX12_way 38 = .ok (.aload_n 0, 1) := by decide +kernel
theorem dX12_way_39 : decode cX12_way 39 = .ok (.getfield 282, 3) := by decide +kernel
theorem dX12_way_42 : decode cX12_way 42 = .ok (.if_icmp .ge 17, 3) := by decide +kernel
theorem dX12_way_45 : decode cX12_way 45 = .ok (.aload_n 0, 1) := by decide +kernel
theorem dX12_way_46 : decode cX12_way 46 = .ok (.getfield 89, 3) := by decide +kernel
theorem dX12_way_49 : decode cX12_way 49 = .ok (.bipush 24, 2) := by decide +kernel
theorem dX12_way_51 : decode cX12_way 51 = .ok (.iload_n 1, 1) := by decide +kernel
theorem dX12_way_52 : decode cX12_way 52 = .ok (.imul, 1) := by decide +kernel
theorem dX12_way_53 : decode cX12_way 53 = .ok (.iload_n 2, 1) := by decide +kernel
theorem dX12_way_54 : decode cX12_way 54 = .ok (.iadd, 1) := by decide +kernel
theorem dX12_way_55 : decode cX12_way 55 = .ok (.iaload, 1) := by decide +kernel
theorem dX12_way_56 : decode cX12_way 56 = .ok (.goto 5, 3) := by decide +kernel
theorem dX12_way_59 : decode cX12_way 59 = .ok (.bipush (-4), 2) := by decide +kernel
theorem dX12_way_61 : decode cX12_way 61 = .ok (.ireturn, 1) := by decide +kernel
set_option maxRecDepth 20000 in
theorem ggX12_sure_X12_in : GoodIn wsX12_sure wsX12_in := goodIn_r _ [9] (by decide +kernel) (by decide +kernel)
set_option maxRecDepth 20000 in
theorem gX12_sure_X12_in : GoodIn wsX12_sure (va_wsS RX12 136 yX12_in wsX12_in) := goodIn_app (goodIn_of _ (by decide +kernel)) ggX12_sure_X12_in
theorem dX12_sure_0 : decode cX12_sure 0 = .ok (.iload_n 1, 1) := by decide +kernel
theorem dX12_sure_1 : decode cX12_sure 1 = .ok (.i2l, 1) := by decide +kernel
theorem dX12_sure_2 : decode cX12_sure 2 = .ok (.lconst 0, 1) := by decide +kernel
theorem dX12_sure_3 : decode cX12_sure 3 = .ok (.ldc2_w 171, 3) := by decide +kernel
theorem dX12_sure_6 : decode cX12_sure 6 = .ok (.invokestatic 136, 3) := by decide +kernel
theorem dX12_sure_9 : decode cX12_sure 9 = .ok (.ifCond .ne 5, 3) := by decide +kernel
theorem dX12_sure_12 : decode cX12_sure 12 = .ok (.iconst (-1), 1) := by decide +kernel
theorem dX12_sure_13 : decode cX12_sure 13 = .ok (.ireturn, 1) := by decide +kernel
theorem dX12_sure_14 : decode cX12_sure 14 = .ok (.aload_n 0, 1) := by decide +kernel
theorem dX12_sure_15 : decode cX12_sure 15 = .ok (.getfield 301, 3) := by decide +kernel
theorem dX12_sure_18 : decode cX12_sure 18 = .ok (.iconst 1, 1) := by decide +kernel
theorem dX12_sure_19 : decode cX12_sure 19 = .ok (.if_icmp .ne 11, 3) := by decide +kernel
theorem dX12_sure_22 : decode cX12_sure 22 = .ok (.iload_n 1, 1) := by decide +kernel
theorem dX12_sure_23 : decode cX12_sure 23 = .ok (.aload_n 0, 1) := by decide +kernel
theorem dX12_sure_24 : decode cX12_sure 24 = .ok (.getfield 279, 3) := by decide +kernel
theorem dX12_sure_27 : decode cX12_sure 27 = .ok (.if_icmp .lt 6, 3) := by decide +kernel
theorem dX12_sure_30 : decode cX12_sure 30 = .ok (.bipush (-2), 2) := by decide +kernel
theorem dX12_sure_32 : decode cX12_sure 32 = .ok (.ireturn, 1) := by decide +kernel
theorem dX12_sure_33 : decode cX12_sure 33 = .ok (.aload_n 0, 1) := by decide +kernel
theorem dX12_sure_34 : decode cX12_sure 34 = .ok (.getfield 282, 3) := by decide +kernel
theorem dX12_sure_37 : decode cX12_sure 37 = .ok (.ifCond .le 7, 3) := by decide +kernel
theorem dX12_sure_40 : decode cX12_sure 40 = .ok (.iconst 1, 1) := by decide +kernel
theorem dX12_sure_41 : decode cX12_sure 41 = .ok (.goto 4, 3) := by decide +kernel
theorem dX12_sure_44 : decode cX12_sure 44 = .ok (.iconst 0, 1) := by decide +kernel
theorem dX12_sure_45 : decode cX12_sure 45 = .ok (.istore_n 2, 1) := by decide +kernel
theorem dX12_sure_46 : decode cX12_sure 46 = .ok (.iconst 1, 1) := by decide +kernel
theorem dX12_sure_47 : decode cX12_sure 47 = .ok (.istore_n 3, 1) := by decide +kernel
theorem dX12_sure_48 : decode cX12_sure 48 = .ok (.iload_n 3, 1) := by decide +kernel
theorem dX12_sure_49 : decode cX12_sure 49 = .ok (.aload_n 0, 1) := by decide +kernel
theorem dX12_sure_50 : decode cX12_sure 50 = .ok (.getfield 282, 3) := by decide +kernel
theorem dX12_sure_53 : decode cX12_sure 53 = .ok (.if_icmp .ge 39, 3) := by decide +kernel
theorem dX12_sure_56 : decode cX12_sure 56 = .ok (.iload_n 2, 1) := by decide +kernel
theorem dX12_sure_57 : decode cX12_sure 57 = .ok (.ifCond .eq 27, 3) := by decide +kernel
theorem dX12_sure_60 : decode cX12_sure 60 = .ok (.aload_n 0, 1) := by decide +kernel
theorem dX12_sure_61 : decode cX12_sure 61 = .ok (.getfield 89, 3) := by decide +kernel
theorem dX12_sure_64 : decode cX12_sure 64 = .ok (.bipush 24, 2) := by decide +kernel
theorem dX12_sure_66 : decode cX12_sure 66 = .ok (.iload_n 3, 1) := by decide +kernel
theorem dX12_sure_67 : decode cX12_sure 67 = .ok (.imul, 1) := by decide +kernel
theorem dX12_sure_68 : decode cX12_sure 68 = .ok (.iload_n 1, 1) := by decide +kernel
theorem dX12_sure_69 : decode cX12_sure 69 = .ok (.iadd, 1) := by decide +kernel
theorem dX12_sure_70 : decode cX12_sure 70 = .ok (.iaload, 1) := by decide +kernel
theorem dX12_sure_71 : decode cX12_sure 71 = .ok (.aload_n 0, 1) := by decide +kernel
theorem dX12_sure_72 : decode cX12_sure 72 = .ok (.getfield 89, 3) := by decide +kernel
theorem dX12_sure_75 : decode cX12_sure 75 = .ok (.iload_n 1, 1) := by decide +kernel
theorem dX12_sure_76 : decode cX12_sure 76 = .ok (.iaload, 1) := by decide +kernel
theorem dX12_sure_77 : decode cX12_sure 77 = .ok (.if_icmp .ne 7, 3) := by decide +kernel
theorem dX12_sure_80 : decode cX12_sure 80 = .ok (.iconst 1, 1) := by decide +kernel
theorem dX12_sure_81 : decode cX12_sure 81 = .ok (.goto 4, 3) := by decide +kernel
theorem dX12_sure_84 : decode cX12_sure 84 = .ok (.iconst 0, 1) := by decide +kernel
theorem dX12_sure_85 : decode cX12_sure 85 = .ok (.istore_n 2, 1) := by decide +kernel
theorem dX12_sure_86 : decode cX12_sure 86 = .ok (.iinc 3 1, 3) := by decide +kernel
theorem dX12_sure_89 : decode cX12_sure 89 = .ok (.goto (-41), 3) := by decide +kernel
theorem dX12_sure_92 : decode cX12_sure 92 = .ok (.iload_n 2, 1) := by decide +kernel
theorem dX12_sure_93 : decode cX12_sure 93 = .ok (.ifCond .eq 12, 3) := by decide +kernel
theorem dX12_sure_96 : decode cX12_sure 96 = .ok (.aload_n 0, 1) := by decide +kernel
theorem dX12_sure_97 : decode cX12_sure 97 = .ok (.getfield 89, 3) := by decide +kernel
theorem dX12_sure_100 : decode cX12_sure 100 = .ok (.iload_n 1, 1) := by decide +kernel
theorem dX12_sure_101 : decode cX12_sure 101 = .ok (.iaload, 1) := by decide +kernel
theorem dX12_sure_102 : decode cX12_sure 102 = .ok (.goto 5, 3) := by decide +kernel
theorem dX12_sure_105 : decode cX12_sure 105 = .ok (.bipush (-4), 2) := by decide +kernel
theorem dX12_sure_107 : decode cX12_sure 107 = .ok (.ireturn, 1) := by decide +kernel
set_option maxRecDepth 20000 in
theorem ggX12_divisor_X12_size : GoodIn wsX12_divisor wsX12_size := goodIn_r _ [4] (by decide +kernel) (by decide +kernel)
set_option maxRecDepth 20000 in
theorem gX12_divisor_X12_size : GoodIn wsX12_divisor (va_wsS RX12 256 yX12_size wsX12_size) := goodIn_app (goodIn_of _ (by decide +kernel)) ggX12_divisor_X12_size
theorem dX12_divisor_0 : decode cX12_divisor 0 = .ok (.lload_n 0, 1) := by decide +kernel
theorem dX12_divisor_1 : decode cX12_divisor 1 = .ok (.invokestatic 256, 3) := by decide +kernel
theorem dX12_divisor_4 : decode cX12_divisor 4 = .ok (.lstore 4, 2) := by decide +kernel
theorem dX12_divisor_6 : decode cX12_divisor 6 = .ok (.lload_n 2, 1) := by decide +kernel
theorem dX12_divisor_7 : decode cX12_divisor 7 = .ok (.invokestatic 256, 3) := by decide +kernel
theorem dX12_divisor_10 : decode cX12_divisor 10 = .ok (.lstore 6, 2) := by decide +kernel
theorem dX12_divisor_12 : decode cX12_divisor 12 = .ok (.lload 6, 2) := by decide +kernel
theorem dX12_divisor_14 : decode cX12_divisor 14 = .ok (.lconst 0, 1) := by decide +kernel
theorem dX12_divisor_15 : decode cX12_divisor 15 = .ok (.lcmp, 1) := by decide +kernel
theorem dX12_divisor_16 : decode cX12_divisor 16 = .ok (.ifCond .eq 21, 3) := by decide +kernel
theorem dX12_divisor_19 : decode cX12_divisor 19 = .ok (.lload 4, 2) := by decide +kernel
theorem dX12_divisor_21 : decode cX12_divisor 21 = .ok (.lload 6, 2) := by decide +kernel
theorem dX12_divisor_23 : decode cX12_divisor 23 = .ok (.lrem, 1) := by decide +kernel
theorem dX12_divisor_24 : decode cX12_divisor 24 = .ok (.lstore 8, 2) := by decide +kernel
theorem dX12_divisor_26 : decode cX12_divisor 26 = .ok (.lload 6, 2) := by decide +kernel
theorem dX12_divisor_28 : decode cX12_divisor 28 = .ok (.lstore 4, 2) := by decide +kernel
theorem dX12_divisor_30 : decode cX12_divisor 30 = .ok (.lload 8, 2) := by decide +kernel
theorem dX12_divisor_32 : decode cX12_divisor 32 = .ok (.lstore 6, 2) := by decide +kernel
theorem dX12_divisor_34 : decode cX12_divisor 34 = .ok (.goto (-22), 3) := by decide +kernel
theorem dX12_divisor_37 : decode cX12_divisor 37 = .ok (.lload 4, 2) := by decide +kernel
theorem dX12_divisor_39 : decode cX12_divisor 39 = .ok (.lreturn, 1) := by decide +kernel
set_option maxRecDepth 20000 in
theorem ggX12_fit_X12_in : GoodIn wsX12_fit wsX12_in := goodIn_r _ [13] (by decide +kernel) (by decide +kernel)
set_option maxRecDepth 20000 in
theorem gX12_fit_X12_in : GoodIn wsX12_fit (va_wsS RX12 136 yX12_in wsX12_in) := goodIn_app (goodIn_of _ (by decide +kernel)) ggX12_fit_X12_in
set_option maxRecDepth 20000 in
theorem ggX12_fit_X12_size : GoodIn wsX12_fit wsX12_size := goodIn_r _ [16] (by decide +kernel) (by decide +kernel)
set_option maxRecDepth 20000 in
theorem gX12_fit_X12_size : GoodIn wsX12_fit (va_wsS RX12 256 yX12_size wsX12_size) := goodIn_app (goodIn_of _ (by decide +kernel)) ggX12_fit_X12_size
set_option maxRecDepth 20000 in
theorem ggX12_fit_X12_divisor : GoodIn wsX12_fit wsX12_divisor := goodIn_r _ [19, 14, 15, 12, 16] (by decide +kernel) (by decide +kernel)
set_option maxRecDepth 20000 in
theorem gX12_fit_X12_divisor : GoodIn wsX12_fit (va_wsS RX12 308 yX12_divisor wsX12_divisor) := goodIn_app (goodIn_of _ (by decide +kernel)) ggX12_fit_X12_divisor
theorem dX12_fit_0 : decode cX12_fit 0 = .ok (.iload_n 1, 1) := by decide +kernel
theorem dX12_fit_1 : decode cX12_fit 1 = .ok (.ifCond .lt 15, 3) := by decide +kernel
theorem dX12_fit_4 : decode cX12_fit 4 = .ok (.iload_n 2, 1) := by decide +kernel
theorem dX12_fit_5 : decode cX12_fit 5 = .ok (.i2l, 1) := by decide +kernel
theorem dX12_fit_6 : decode cX12_fit 6 = .ok (.lconst 0, 1) := by decide +kernel
theorem dX12_fit_7 : decode cX12_fit 7 = .ok (.ldc2_w 173, 3) := by decide +kernel
theorem dX12_fit_10 : decode cX12_fit 10 = .ok (.invokestatic 136, 3) := by decide +kernel
theorem dX12_fit_13 : decode cX12_fit 13 = .ok (.ifCond .ne 7, 3) := by decide +kernel
theorem dX12_fit_16 : decode cX12_fit 16 = .ok (.ldc2_w 304, 3) := by decide +kernel
theorem dX12_fit_19 : decode cX12_fit 19 = .ok (.lreturn, 1) := by decide +kernel
theorem dX12_fit_20 : decode cX12_fit 20 = .ok (.aload_n 0, 1) := by decide +kernel
theorem dX12_fit_21 : decode cX12_fit 21 = .ok (.getfield 301, 3) := by decide +kernel
theorem dX12_fit_24 : decode cX12_fit 24 = .ok (.iconst 1, 1) := by decide +kernel
theorem dX12_fit_25 : decode cX12_fit 25 = .ok (.if_icmp .ne 11, 3) := by decide +kernel
theorem dX12_fit_28 : decode cX12_fit 28 = .ok (.iload_n 1, 1) := by decide +kernel
theorem dX12_fit_29 : decode cX12_fit 29 = .ok (.aload_n 0, 1) := by decide +kernel
theorem dX12_fit_30 : decode cX12_fit 30 = .ok (.getfield 282, 3) := by decide +kernel
theorem dX12_fit_33 : decode cX12_fit 33 = .ok (.if_icmp .lt 7, 3) := by decide +kernel
theorem dX12_fit_36 : decode cX12_fit 36 = .ok (.ldc2_w 306, 3) := by decide +kernel
theorem dX12_fit_39 : decode cX12_fit 39 = .ok (.lreturn, 1) := by decide +kernel
theorem dX12_fit_40 : decode cX12_fit 40 = .ok (.aload_n 0, 1) := by decide +kernel
theorem dX12_fit_41 : decode cX12_fit 41 = .ok (.getfield 279, 3) := by decide +kernel
theorem dX12_fit_44 : decode cX12_fit 44 = .ok (.i2l, 1) := by decide +kernel
theorem dX12_fit_45 : decode cX12_fit 45 = .ok (.lstore_n 3, 1) := by decide +kernel
theorem dX12_fit_46 : decode cX12_fit 46 = .ok (.lconst 0, 1) := by decide +kernel
theorem dX12_fit_47 : decode cX12_fit 47 = .ok (.lstore 5, 2) := by decide +kernel
theorem dX12_fit_49 : decode cX12_fit 49 = .ok (.lconst 0, 1) := by decide +kernel
theorem dX12_fit_50 : decode cX12_fit 50 = .ok (.lstore 7, 2) := by decide +kernel
theorem dX12_fit_52 : decode cX12_fit 52 = .ok (.lconst 0, 1) := by decide +kernel
theorem dX12_fit_53 : decode cX12_fit 53 = .ok (.lstore 9, 2) := by decide +kernel
theorem dX12_fit_55 : decode cX12_fit 55 = .ok (.lconst 0, 1) := by decide +kernel
theorem dX12_fit_56 : decode cX12_fit 56 = .ok (.lstore 11, 2) := by decide +kernel
theorem dX12_fit_58 : decode cX12_fit 58 = .ok (.iconst 0, 1) := by decide +kernel
theorem dX12_fit_59 : decode cX12_fit 59 = .ok (.istore 13, 2) := by decide +kernel
theorem dX12_fit_61 : decode cX12_fit 61 = .ok (.iload 13, 2) := by decide +kernel
theorem dX12_fit_63 : decode cX12_fit 63 = .ok (.aload_n 0, 1) := by decide +kernel
theorem dX12_fit_64 : decode cX12_fit 64 = .ok (.getfield 279, 3) := by decide +kernel
theorem dX12_fit_67 : decode cX12_fit 67 = .ok (.if_icmp .ge 70, 3) := by decide +kernel
theorem dX12_fit_70 : decode cX12_fit 70 = .ok (.aload_n 0, 1) := by decide +kernel
theorem dX12_fit_71 : decode cX12_fit 71 = .ok (.getfield 89, 3) := by decide +kernel
theorem dX12_fit_74 : decode cX12_fit 74 = .ok (.bipush 24, 2) := by decide +kernel
theorem dX12_fit_76 : decode cX12_fit 76 = .ok (.iload_n 1, 1) := by decide +kernel
theorem dX12_fit_77 : decode cX12_fit 77 = .ok (.imul, 1) := by decide +kernel
theorem dX12_fit_78 : decode cX12_fit 78 = .ok (.iload 13, 2) := by decide +kernel
theorem dX12_fit_80 : decode cX12_fit 80 = .ok (.iadd, 1) := by decide +kernel
theorem dX12_fit_81 : decode cX12_fit 81 = .ok (.iaload, 1) := by decide +kernel
theorem dX12_fit_82 : decode cX12_fit 82 = .ok (.i2l, 1) := by decide +kernel
theorem dX12_fit_83 : decode cX12_fit 83 = .ok (.lstore 14, 2) := by decide +kernel
theorem dX12_fit_85 : decode cX12_fit 85 = .ok (.lload 5, 2) := by decide +kernel
theorem dX12_fit_87 : decode cX12_fit 87 = .ok (.lload 14, 2) := by decide +kernel
theorem dX12_fit_89 : decode cX12_fit 89 = .ok (.ladd, 1) := by decide +kernel
theorem dX12_fit_90 : decode cX12_fit 90 = .ok (.lstore 5, 2) := by decide +kernel
theorem dX12_fit_92 : decode cX12_fit 92 = .ok (.lload 7, 2) := by decide +kernel
theorem dX12_fit_94 : decode cX12_fit 94 = .ok (.lload 14, 2) := by decide +kernel
theorem dX12_fit_96 : decode cX12_fit 96 = .ok (.lload 14, 2) := by decide +kernel
theorem dX12_fit_98 : decode cX12_fit 98 = .ok (.lmul, 1) := by decide +kernel
theorem dX12_fit_99 : decode cX12_fit 99 = .ok (.ladd, 1) := by decide +kernel
theorem dX12_fit_100 : decode cX12_fit 100 = .ok (.lstore 7, 2) := by decide +kernel
theorem dX12_fit_102 : decode cX12_fit 102 = .ok (.lload 9, 2) := by decide +kernel
theorem dX12_fit_104 : decode cX12_fit 104 = .ok (.aload_n 0, 1) := by decide +kernel
theorem dX12_fit_105 : decode cX12_fit 105 = .ok (.getfield 83, 3) := by decide +kernel
theorem dX12_fit_108 : decode cX12_fit 108 = .ok (.iload 13, 2) := by decide +kernel
theorem dX12_fit_110 : decode cX12_fit 110 = .ok (.iaload, 1) := by decide +kernel
theorem dX12_fit_111 : decode cX12_fit 111 = .ok (.i2l, 1) := by decide +kernel
theorem dX12_fit_112 : decode cX12_fit 112 = .ok (.ladd, 1) := by decide +kernel
theorem dX12_fit_113 : decode cX12_fit 113 = .ok (.lstore 9, 2) := by decide +kernel
theorem dX12_fit_115 : decode cX12_fit 115 = .ok (.lload 11, 2) := by decide +kernel
theorem dX12_fit_117 : decode cX12_fit 117 = .ok (.lload 14, 2) := by decide +kernel
theorem dX12_fit_119 : decode cX12_fit 119 = .ok (.aload_n 0, 1) := by decide +kernel
theorem dX12_fit_120 : decode cX12_fit 120 = .ok (.getfield 83, 3) := by decide +kernel
theorem dX12_fit_123 : decode cX12_fit 123 = .ok (.iload 13, 2) := by decide +kernel
theorem dX12_fit_125 : decode cX12_fit 125 = .ok (.iaload, 1) := by decide +kernel
theorem dX12_fit_126 : decode cX12_fit 126 = .ok (.i2l, 1) := by decide +kernel
theorem dX12_fit_127 : decode cX12_fit 127 = .ok (.lmul, 1) := by decide +kernel
theorem dX12_fit_128 : decode cX12_fit 128 = .ok (.ladd, 1) := by decide +kernel
theorem dX12_fit_129 : decode cX12_fit 129 = .ok (.lstore 11, 2) := by decide +kernel
theorem dX12_fit_131 : decode cX12_fit 131 = .ok (.iinc 13 1, 3) := by decide +kernel
theorem dX12_fit_134 : decode cX12_fit 134 = .ok (.goto (-73), 3) := by decide +kernel
theorem dX12_fit_137 : decode cX12_fit 137 = .ok (.lload_n 3, 1) := by decide +kernel
theorem dX12_fit_138 : decode cX12_fit 138 = .ok (.lload 7, 2) := by decide +kernel
theorem dX12_fit_140 : decode cX12_fit 140 = .ok (.lmul, 1) := by decide +kernel
theorem dX12_fit_141 : decode cX12_fit 141 = .ok (.lload 5, 2) := by decide +kernel
theorem dX12_fit_143 : decode cX12_fit 143 = .ok (.lload 5, 2) := by decide +kernel
theorem dX12_fit_145 : decode cX12_fit 145 = .ok (.lmul, 1) := by decide +kernel
theorem dX12_fit_146 : decode cX12_fit 146 = .ok (.lsub, 1) := by decide +kernel
theorem dX12_fit_147 : decode cX12_fit 147 = .ok (.lstore 13, 2) := by decide +kernel
theorem dX12_fit_149 : decode cX12_fit 149 = .ok (.lload 7, 2) := by decide +kernel
theorem dX12_fit_151 : decode cX12_fit 151 = .ok (.lload 9, 2) := by decide +kernel
theorem dX12_fit_153 : decode cX12_fit 153 = .ok (.lmul, 1) := by decide +kernel
theorem dX12_fit_154 : decode cX12_fit 154 = .ok (.lload 5, 2) := by decide +kernel
theorem dX12_fit_156 : decode cX12_fit 156 = .ok (.lload 11, 2) := by decide +kernel
theorem dX12_fit_158 : decode cX12_fit 158 = .ok (.lmul, 1) := by decide +kernel
theorem dX12_fit_159 : decode cX12_fit 159 = .ok (.lsub, 1) := by decide +kernel
theorem dX12_fit_160 : decode cX12_fit 160 = .ok (.lstore 15, 2) := by decide +kernel
theorem dX12_fit_162 : decode cX12_fit 162 = .ok (.lload_n 3, 1) := by decide +kernel
theorem dX12_fit_163 : decode cX12_fit 163 = .ok (.lload 11, 2) := by decide +kernel
theorem dX12_fit_165 : decode cX12_fit 165 = .ok (.lmul, 1) := by decide +kernel
theorem dX12_fit_166 : decode cX12_fit 166 = .ok (.lload 5, 2) := by decide +kernel
theorem dX12_fit_168 : decode cX12_fit 168 = .ok (.lload 9, 2) := by decide +kernel
theorem dX12_fit_170 : decode cX12_fit 170 = .ok (.lmul, 1) := by decide +kernel
theorem dX12_fit_171 : decode cX12_fit 171 = .ok (.lsub, 1) := by decide +kernel
theorem dX12_fit_172 : decode cX12_fit 172 = .ok (.lstore 17, 2) := by decide +kernel
theorem dX12_fit_174 : decode cX12_fit 174 = .ok (.iload_n 2, 1) := by decide +kernel
theorem dX12_fit_175 : decode cX12_fit 175 = .ok (.iconst 4, 1) := by decide +kernel
theorem dX12_fit_176 : decode cX12_fit 176 = .ok (.if_icmp .ne 91, 3) := by decide +kernel
theorem dX12_fit_179 : decode cX12_fit 179 = .ok (.iconst 0, 1) := by decide +kernel
theorem dX12_fit_180 : decode cX12_fit 180 = .ok (.istore 19, 2) := by decide +kernel
theorem dX12_fit_182 : decode cX12_fit 182 = .ok (.iconst 0, 1) := by decide +kernel
theorem dX12_fit_183 : decode cX12_fit 183 = .ok (.istore 20, 2) := by decide +kernel
theorem dX12_fit_185 : decode cX12_fit 185 = .ok (.iload 20, 2) := by decide +kernel
theorem dX12_fit_187 : decode cX12_fit 187 = .ok (.aload_n 0, 1) := by decide +kernel
theorem dX12_fit_188 : decode cX12_fit 188 = .ok (.getfield 279, 3) := by decide +kernel
theorem dX12_fit_191 : decode cX12_fit 191 = .ok (.if_icmp .ge 72, 3) := by decide +kernel
theorem dX12_fit_194 : decode cX12_fit 194 = .ok (.aload_n 0, 1) := by decide +kernel
theorem dX12_fit_195 : decode cX12_fit 195 = .ok (.getfield 83, 3) := by decide +kernel
theorem dX12_fit_198 : decode cX12_fit 198 = .ok (.iload 20, 2) := by decide +kernel
theorem dX12_fit_200 : decode cX12_fit 200 = .ok (.iaload, 1) := by decide +kernel
theorem dX12_fit_201 : decode cX12_fit 201 = .ok (.i2l, 1) := by decide +kernel
theorem dX12_fit_202 : decode cX12_fit 202 = .ok (.lload 13, 2) := by decide +kernel
theorem dX12_fit_204 : decode cX12_fit 204 = .ok (.lmul, 1) := by decide +kernel
theorem dX12_fit_205 : decode cX12_fit 205 = .ok (.lload 15, 2) := by decide +kernel
theorem dX12_fit_207 : decode cX12_fit 207 = .ok (.lsub, 1) := by decide +kernel
theorem dX12_fit_208 : decode cX12_fit 208 = .ok (.aload_n 0, 1) := by decide +kernel
theorem dX12_fit_209 : decode cX12_fit 209 = .ok (.getfield 89, 3) := by decide +kernel
theorem dX12_fit_212 : decode cX12_fit 212 = .ok (.bipush 24, 2) := by decide +kernel
theorem dX12_fit_214 : decode cX12_fit 214 = .ok (.iload_n 1, 1) := by decide +kernel
theorem dX12_fit_215 : decode cX12_fit 215 = .ok (.imul, 1) := by decide +kernel
theorem dX12_fit_216 : decode cX12_fit 216 = .ok (.iload 20, 2) := by decide +kernel
theorem dX12_fit_218 : decode cX12_fit 218 = .ok (.iadd, 1) := by decide +kernel
theorem dX12_fit_219 : decode cX12_fit 219 = .ok (.iaload, 1) := by decide +kernel
theorem dX12_fit_220 : decode cX12_fit 220 = .ok (.i2l, 1) := by decide +kernel
theorem dX12_fit_221 : decode cX12_fit 221 = .ok (.lload 17, 2) := by decide +kernel
theorem dX12_fit_223 : decode cX12_fit 223 = .ok (.lmul, 1) := by decide +kernel
theorem dX12_fit_224 : decode cX12_fit 224 = .ok (.lsub, 1) := by decide +kernel
theorem dX12_fit_225 : decode cX12_fit 225 = .ok (.lstore 21, 2) := by decide +kernel
theorem dX12_fit_227 : decode cX12_fit 227 = .ok (.iload 19, 2) := by decide +kernel
theorem dX12_fit_229 : decode cX12_fit 229 = .ok (.lload 21, 2) := by decide +kernel
theorem dX12_fit_231 : decode cX12_fit 231 = .ok (.invokestatic 256, 3) := by decide +kernel
theorem dX12_fit_234 : decode cX12_fit 234 = .ok (.aload_n 0, 1) := by decide +kernel
theorem dX12_fit_235 : decode cX12_fit 235 = .ok (.getfield 86, 3) := by decide +kernel
theorem dX12_fit_238 : decode cX12_fit 238 = .ok (.iload 20, 2) := by decide +kernel
theorem dX12_fit_240 : decode cX12_fit 240 = .ok (.iaload, 1) := by decide +kernel
theorem dX12_fit_241 : decode cX12_fit 241 = .ok (.i2l, 1) := by decide +kernel
theorem dX12_fit_242 : decode cX12_fit 242 = .ok (.lload 13, 2) := by decide +kernel
theorem dX12_fit_244 : decode cX12_fit 244 = .ok (.lmul, 1) := by decide +kernel
theorem dX12_fit_245 : decode cX12_fit 245 = .ok (.lcmp, 1) := by decide +kernel
theorem dX12_fit_246 : decode cX12_fit 246 = .ok (.ifCond .le 7, 3) := by decide +kernel
theorem dX12_fit_249 : decode cX12_fit 249 = .ok (.iconst 1, 1) := by decide +kernel
theorem dX12_fit_250 : decode cX12_fit 250 = .ok (.goto 4, 3) := by decide +kernel
theorem dX12_fit_253 : decode cX12_fit 253 = .ok (.iconst 0, 1) := by decide +kernel
theorem dX12_fit_254 : decode cX12_fit 254 = .ok (.iadd, 1) := by decide +kernel
theorem dX12_fit_255 : decode cX12_fit 255 = .ok (.istore 19, 2) := by decide +kernel
theorem dX12_fit_257 : decode cX12_fit 257 = .ok (.iinc 20 1, 3) := by decide +kernel
theorem dX12_fit_260 : decode cX12_fit 260 = .ok (.goto (-75), 3) := by decide +kernel
theorem dX12_fit_263 : decode cX12_fit 263 = .ok (.iload 19, 2) := by decide +kernel
theorem dX12_fit_265 : decode cX12_fit 265 = .ok (.i2l, 1) := by decide +kernel
theorem dX12_fit_266 : decode cX12_fit 266 = .ok (.lreturn, 1) := by decide +kernel
theorem dX12_fit_267 : decode cX12_fit 267 = .ok (.iload_n 2, 1) := by decide +kernel
theorem dX12_fit_268 : decode cX12_fit 268 = .ok (.iconst 2, 1) := by decide +kernel
theorem dX12_fit_269 : decode cX12_fit 269 = .ok (.if_icmp .ge 8, 3) := by decide +kernel
theorem dX12_fit_272 : decode cX12_fit 272 = .ok (.lload 15, 2) := by decide +kernel
theorem dX12_fit_274 : decode cX12_fit 274 = .ok (.goto 5, 3) := by decide +kernel
theorem dX12_fit_277 : decode cX12_fit 277 = .ok (.lload 17, 2) := by decide +kernel
theorem dX12_fit_279 : decode cX12_fit 279 = .ok (.lstore 19, 2) := by decide +kernel
theorem dX12_fit_281 : decode cX12_fit 281 = .ok (.lload 19, 2) := by decide +kernel
theorem dX12_fit_283 : decode cX12_fit 283 = .ok (.lload 13, 2) := by decide +kernel
theorem dX12_fit_285 : decode cX12_fit 285 = .ok (.invokestatic 308, 3) := by decide +kernel
theorem dX12_fit_288 : decode cX12_fit 288 = .ok (.lstore 21, 2) := by decide +kernel
theorem dX12_fit_290 : decode cX12_fit 290 = .ok (.iload_n 2, 1) := by decide +kernel
theorem dX12_fit_291 : decode cX12_fit 291 = .ok (.iconst 2, 1) := by decide +kernel
theorem dX12_fit_292 : decode cX12_fit 292 = .ok (.irem, 1) := by decide +kernel
theorem dX12_fit_293 : decode cX12_fit 293 = .ok (.ifCond .ne 11, 3) := by decide +kernel
theorem dX12_fit_296 : decode cX12_fit 296 = .ok (.lload 19, 2) := by decide +kernel
theorem dX12_fit_298 : decode cX12_fit 298 = .ok (.lload 21, 2) := by decide +kernel
theorem dX12_fit_300 : decode cX12_fit 300 = .ok (.ldiv, 1) := by decide +kernel
theorem dX12_fit_301 : decode cX12_fit 301 = .ok (.goto 8, 3) := by decide +kernel
theorem dX12_fit_304 : decode cX12_fit 304 = .ok (.lload 13, 2) := by decide +kernel
theorem dX12_fit_306 : decode cX12_fit 306 = .ok (.lload 21, 2) := by decide +kernel
theorem dX12_fit_308 : decode cX12_fit 308 = .ok (.ldiv, 1) := by decide +kernel
theorem dX12_fit_309 : decode cX12_fit 309 = .ok (.lreturn, 1) := by decide +kernel
set_option maxRecDepth 20000 in
theorem ggX12_leftAt_X12_up : GoodIn wsX12_leftAt wsX12_up := goodIn_r _ [14] (by decide +kernel) (by decide +kernel)
set_option maxRecDepth 20000 in
theorem gX12_leftAt_X12_up : GoodIn wsX12_leftAt (va_wsS RX12 269 yX12_up wsX12_up) := goodIn_app (goodIn_of _ (by decide +kernel)) ggX12_leftAt_X12_up
set_option maxRecDepth 20000 in
theorem ggX12_leftAt_X12_down : GoodIn wsX12_leftAt wsX12_down := goodIn_r _ [17] (by decide +kernel) (by decide +kernel)
set_option maxRecDepth 20000 in
theorem gX12_leftAt_X12_down : GoodIn wsX12_leftAt (va_wsS RX12 276 yX12_down wsX12_down) := goodIn_app (goodIn_of _ (by decide +kernel)) ggX12_leftAt_X12_down
theorem dX12_leftAt_0 : decode cX12_leftAt 0 = .ok (.ldc2_w 148, 3) := by decide +kernel
theorem dX12_leftAt_3 : decode cX12_leftAt 3 = .ok (.iload_n 1, 1) := by decide +kernel
theorem dX12_leftAt_4 : decode cX12_leftAt 4 = .ok (.aload_n 0, 1) := by decide +kernel
theorem dX12_leftAt_5 : decode cX12_leftAt 5 = .ok (.getfield 83, 3) := by decide +kernel
theorem dX12_leftAt_8 : decode cX12_leftAt 8 = .ok (.iconst 0, 1) := by decide +kernel
theorem dX12_leftAt_9 : decode cX12_leftAt 9 = .ok (.iaload, 1) := by decide +kernel
theorem dX12_leftAt_10 : decode cX12_leftAt 10 = .ok (.isub, 1) := by decide +kernel
theorem dX12_leftAt_11 : decode cX12_leftAt 11 = .ok (.iload_n 2, 1) := by decide +kernel
theorem dX12_leftAt_12 : decode cX12_leftAt 12 = .ok (.isub, 1) := by decide +kernel
theorem dX12_leftAt_13 : decode cX12_leftAt 13 = .ok (.aload_n 0, 1) := by decide +kernel
theorem dX12_leftAt_14 : decode cX12_leftAt 14 = .ok (.getfield 86, 3) := by decide +kernel
theorem dX12_leftAt_17 : decode cX12_leftAt 17 = .ok (.iconst 0, 1) := by decide +kernel
theorem dX12_leftAt_18 : decode cX12_leftAt 18 = .ok (.iaload, 1) := by decide +kernel
theorem dX12_leftAt_19 : decode cX12_leftAt 19 = .ok (.isub, 1) := by decide +kernel
theorem dX12_leftAt_20 : decode cX12_leftAt 20 = .ok (.i2l, 1) := by decide +kernel
theorem dX12_leftAt_21 : decode cX12_leftAt 21 = .ok (.lmul, 1) := by decide +kernel
theorem dX12_leftAt_22 : decode cX12_leftAt 22 = .ok (.lstore_n 3, 1) := by decide +kernel
theorem dX12_leftAt_23 : decode cX12_leftAt 23 = .ok (.ldc2_w 148, 3) := by decide +kernel
theorem dX12_leftAt_26 : decode cX12_leftAt 26 = .ok (.iload_n 1, 1) := by decide +kernel
theorem dX12_leftAt_27 : decode cX12_leftAt 27 = .ok (.aload_n 0, 1) := by decide +kernel
theorem dX12_leftAt_28 : decode cX12_leftAt 28 = .ok (.getfield 83, 3) := by decide +kernel
theorem dX12_leftAt_31 : decode cX12_leftAt 31 = .ok (.iconst 0, 1) := by decide +kernel
theorem dX12_leftAt_32 : decode cX12_leftAt 32 = .ok (.iaload, 1) := by decide +kernel
theorem dX12_leftAt_33 : decode cX12_leftAt 33 = .ok (.isub, 1) := by decide +kernel
theorem dX12_leftAt_34 : decode cX12_leftAt 34 = .ok (.iload_n 2, 1) := by decide +kernel
theorem dX12_leftAt_35 : decode cX12_leftAt 35 = .ok (.iadd, 1) := by decide +kernel
theorem dX12_leftAt_36 : decode cX12_leftAt 36 = .ok (.aload_n 0, 1) := by decide +kernel
theorem dX12_leftAt_37 : decode cX12_leftAt 37 = .ok (.getfield 86, 3) := by decide +kernel
theorem dX12_leftAt_40 : decode cX12_leftAt 40 = .ok (.iconst 0, 1) := by decide +kernel
theorem dX12_leftAt_41 : decode cX12_leftAt 41 = .ok (.iaload, 1) := by decide +kernel
theorem dX12_leftAt_42 : decode cX12_leftAt 42 = .ok (.iadd, 1) := by decide +kernel
theorem dX12_leftAt_43 : decode cX12_leftAt 43 = .ok (.i2l, 1) := by decide +kernel
theorem dX12_leftAt_44 : decode cX12_leftAt 44 = .ok (.lmul, 1) := by decide +kernel
theorem dX12_leftAt_45 : decode cX12_leftAt 45 = .ok (.lstore 5, 2) := by decide +kernel
theorem dX12_leftAt_47 : decode cX12_leftAt 47 = .ok (.iconst 0, 1) := by decide +kernel
theorem dX12_leftAt_48 : decode cX12_leftAt 48 = .ok (.istore 7, 2) := by decide +kernel
theorem dX12_leftAt_50 : decode cX12_leftAt 50 = .ok (.iconst 0, 1) := by decide +kernel
theorem dX12_leftAt_51 : decode cX12_leftAt 51 = .ok (.istore 8, 2) := by decide +kernel
theorem dX12_leftAt_53 : decode cX12_leftAt 53 = .ok (.iload 8, 2) := by decide +kernel
theorem dX12_leftAt_55 : decode cX12_leftAt 55 = .ok (.aload_n 0, 1) := by decide +kernel
theorem dX12_leftAt_56 : decode cX12_leftAt 56 = .ok (.getfield 282, 3) := by decide +kernel
theorem dX12_leftAt_59 : decode cX12_leftAt 59 = .ok (.if_icmp .ge 105, 3) := by decide +kernel
theorem dX12_leftAt_62 : decode cX12_leftAt 62 = .ok (.lload_n 3, 1) := by decide +kernel
theorem dX12_leftAt_63 : decode cX12_leftAt 63 = .ok (.aload_n 0, 1) := by decide +kernel
theorem dX12_leftAt_64 : decode cX12_leftAt 64 = .ok (.getfield 101, 3) := by decide +kernel
theorem dX12_leftAt_67 : decode cX12_leftAt 67 = .ok (.iload 8, 2) := by decide +kernel
theorem dX12_leftAt_69 : decode cX12_leftAt 69 = .ok (.laload, 1) := by decide +kernel
theorem dX12_leftAt_70 : decode cX12_leftAt 70 = .ok (.lmul, 1) := by decide +kernel
theorem dX12_leftAt_71 : decode cX12_leftAt 71 = .ok (.aload_n 0, 1) := by decide +kernel
theorem dX12_leftAt_72 : decode cX12_leftAt 72 = .ok (.getfield 98, 3) := by decide +kernel
theorem dX12_leftAt_75 : decode cX12_leftAt 75 = .ok (.iload 8, 2) := by decide +kernel
theorem dX12_leftAt_77 : decode cX12_leftAt 77 = .ok (.laload, 1) := by decide +kernel
theorem dX12_leftAt_78 : decode cX12_leftAt 78 = .ok (.invokestatic 269, 3) := by decide +kernel
theorem dX12_leftAt_81 : decode cX12_leftAt 81 = .ok (.lstore 9, 2) := by decide +kernel
theorem dX12_leftAt_83 : decode cX12_leftAt 83 = .ok (.aload_n 0, 1) := by decide +kernel
theorem dX12_leftAt_84 : decode cX12_leftAt 84 = .ok (.getfield 89, 3) := by decide +kernel
theorem dX12_leftAt_87 : decode cX12_leftAt 87 = .ok (.bipush 24, 2) := by decide +kernel
theorem dX12_leftAt_89 : decode cX12_leftAt 89 = .ok (.iload 8, 2) := by decide +kernel
theorem dX12_leftAt_91 : decode cX12_leftAt 91 = .ok (.imul, 1) := by decide +kernel
theorem dX12_leftAt_92 : decode cX12_leftAt 92 = .ok (.aload_n 0, 1) := by decide +kernel
theorem dX12_leftAt_93 : decode cX12_leftAt 93 = .ok (.getfield 279, 3) := by decide +kernel
theorem dX12_leftAt_96 : decode cX12_leftAt 96 = .ok (.iadd, 1) := by decide +kernel
theorem dX12_leftAt_97 : decode cX12_leftAt 97 = .ok (.iconst 1, 1) := by decide +kernel
theorem dX12_leftAt_98 : decode cX12_leftAt 98 = .ok (.isub, 1) := by decide +kernel
theorem dX12_leftAt_99 : decode cX12_leftAt 99 = .ok (.iaload, 1) := by decide +kernel
theorem dX12_leftAt_100 : decode cX12_leftAt 100 = .ok (.iconst 1, 1) := by decide +kernel
theorem dX12_leftAt_101 : decode cX12_leftAt 101 = .ok (.iadd, 1) := by decide +kernel
theorem dX12_leftAt_102 : decode cX12_leftAt 102 = .ok (.i2l, 1) := by decide +kernel
theorem dX12_leftAt_103 : decode cX12_leftAt 103 = .ok (.lstore 11, 2) := by decide +kernel
theorem dX12_leftAt_105 : decode cX12_leftAt 105 = .ok (.lload 9, 2) := by decide +kernel
theorem dX12_leftAt_107 : decode cX12_leftAt 107 = .ok (.lload 11, 2) := by decide +kernel
theorem dX12_leftAt_109 : decode cX12_leftAt 109 = .ok (.lcmp, 1) := by decide +kernel
theorem dX12_leftAt_110 : decode cX12_leftAt 110 = .ok (.ifCond .le 8, 3) := by decide +kernel
theorem dX12_leftAt_113 : decode cX12_leftAt 113 = .ok (.lload 9, 2) := by decide +kernel
theorem dX12_leftAt_115 : decode cX12_leftAt 115 = .ok (.goto 5, 3) := by decide +kernel
theorem dX12_leftAt_118 : decode cX12_leftAt 118 = .ok (.lload 11, 2) := by decide +kernel
theorem dX12_leftAt_120 : decode cX12_leftAt 120 = .ok (.lstore 9, 2) := by decide +kernel
theorem dX12_leftAt_122 : decode cX12_leftAt 122 = .ok (.iload 7, 2) := by decide +kernel
