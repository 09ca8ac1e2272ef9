theorem dX6_fit_50 : decode cX6_fit 50 = .ok (.invokevirtual 270, 3) := by decide +kernel
theorem dX6_fit_53 : decode cX6_fit 53 = .ok (.bipush 50, 2) := by decide +kernel
theorem dX6_fit_55 : decode cX6_fit 55 = .ok (.istore_n 3, 1) := by decide +kernel
theorem dX6_fit_56 : decode cX6_fit 56 = .ok (.lconst 0, 1) := by decide +kernel
theorem dX6_fit_57 : decode cX6_fit 57 = .ok (.lstore 4, 2) := by decide +kernel
theorem dX6_fit_59 : decode cX6_fit 59 = .ok (.bipush 50, 2) := by decide +kernel
theorem dX6_fit_61 : decode cX6_fit 61 = .ok (.istore 6, 2) := by decide +kernel
theorem dX6_fit_63 : decode cX6_fit 63 = .ok (.iload 6, 2) := by decide +kernel
theorem dX6_fit_65 : decode cX6_fit 65 = .ok (.sipush 150, 3) := by decide +kernel
theorem dX6_fit_68 : decode cX6_fit 68 = .ok (.if_icmp .gt 54, 3) := by decide +kernel
theorem dX6_fit_71 : decode cX6_fit 71 = .ok (.aload_n 0, 1) := by decide +kernel
theorem dX6_fit_72 : decode cX6_fit 72 = .ok (.getfield 10, 3) := by decide +kernel
theorem dX6_fit_75 : decode cX6_fit 75 = .ok (.getfield 107, 3) := by decide +kernel
theorem dX6_fit_78 : decode cX6_fit 78 = .ok (.iload_n 1, 1) := by decide +kernel
theorem dX6_fit_79 : decode cX6_fit 79 = .ok (.iload_n 2, 1) := by decide +kernel
theorem dX6_fit_80 : decode cX6_fit 80 = .ok (.iload 6, 2) := by decide +kernel
theorem dX6_fit_82 : decode cX6_fit 82 = .ok (.invokevirtual 273, 3) := by decide +kernel
theorem dX6_fit_85 : decode cX6_fit 85 = .ok (.aload_n 0, 1) := by decide +kernel
theorem dX6_fit_86 : decode cX6_fit 86 = .ok (.getfield 10, 3) := by decide +kernel
theorem dX6_fit_89 : decode cX6_fit 89 = .ok (.invokevirtual 276, 3) := by decide +kernel
theorem dX6_fit_92 : decode cX6_fit 92 = .ok (.lstore 7, 2) := by decide +kernel
theorem dX6_fit_94 : decode cX6_fit 94 = .ok (.iload 6, 2) := by decide +kernel
theorem dX6_fit_96 : decode cX6_fit 96 = .ok (.bipush 50, 2) := by decide +kernel
theorem dX6_fit_98 : decode cX6_fit 98 = .ok (.if_icmp .eq 11, 3) := by decide +kernel
theorem dX6_fit_101 : decode cX6_fit 101 = .ok (.lload 7, 2) := by decide +kernel
theorem dX6_fit_103 : decode cX6_fit 103 = .ok (.lload 4, 2) := by decide +kernel
theorem dX6_fit_105 : decode cX6_fit 105 = .ok (.lcmp, 1) := by decide +kernel
theorem dX6_fit_106 : decode cX6_fit 106 = .ok (.ifCond .ge 10, 3) := by decide +kernel
theorem dX6_fit_109 : decode cX6_fit 109 = .ok (.lload 7, 2) := by decide +kernel
theorem dX6_fit_111 : decode cX6_fit 111 = .ok (.lstore 4, 2) := by decide +kernel
theorem dX6_fit_113 : decode cX6_fit 113 = .ok (.iload 6, 2) := by decide +kernel
theorem dX6_fit_115 : decode cX6_fit 115 = .ok (.istore_n 3, 1) := by decide +kernel
theorem dX6_fit_116 : decode cX6_fit 116 = .ok (.iinc 6 10, 3) := by decide +kernel
theorem dX6_fit_119 : decode cX6_fit 119 = .ok (.goto (-56), 3) := by decide +kernel
theorem dX6_fit_122 : decode cX6_fit 122 = .ok (.aload_n 0, 1) := by decide +kernel
theorem dX6_fit_123 : decode cX6_fit 123 = .ok (.getfield 10, 3) := by decide +kernel
theorem dX6_fit_126 : decode cX6_fit 126 = .ok (.getfield 107, 3) := by decide +kernel
theorem dX6_fit_129 : decode cX6_fit 129 = .ok (.iload_n 1, 1) := by decide +kernel
theorem dX6_fit_130 : decode cX6_fit 130 = .ok (.iload_n 2, 1) := by decide +kernel
theorem dX6_fit_131 : decode cX6_fit 131 = .ok (.iload_n 3, 1) := by decide +kernel
theorem dX6_fit_132 : decode cX6_fit 132 = .ok (.invokevirtual 273, 3) := by decide +kernel
theorem dX6_fit_135 : decode cX6_fit 135 = .ok (.iload_n 3, 1) := by decide +kernel
theorem dX6_fit_136 : decode cX6_fit 136 = .ok (.ireturn, 1) := by decide +kernel
theorem dX6_squares_0 : decode cX6_squares 0 = .ok (.aload_n 0, 1) := by decide +kernel
theorem dX6_squares_1 : decode cX6_squares 1 = .ok (.getfield 10, 3) := by decide +kernel
theorem dX6_squares_4 : decode cX6_squares 4 = .ok (.invokevirtual 276, 3) := by decide +kernel
theorem dX6_squares_7 : decode cX6_squares 7 = .ok (.lreturn, 1) := by decide +kernel
theorem dX6_keep_0 : decode cX6_keep 0 = .ok (.aload_n 0, 1) := by decide +kernel
theorem dX6_keep_1 : decode cX6_keep 1 = .ok (.getfield 16, 3) := by decide +kernel
theorem dX6_keep_4 : decode cX6_keep 4 = .ok (.aload_n 0, 1) := by decide +kernel
theorem dX6_keep_5 : decode cX6_keep 5 = .ok (.getfield 10, 3) := by decide +kernel
theorem dX6_keep_8 : decode cX6_keep 8 = .ok (.invokevirtual 280, 3) := by decide +kernel
theorem dX6_keep_11 : decode cX6_keep 11 = .ok (.aload_n 0, 1) := by decide +kernel
theorem dX6_keep_12 : decode cX6_keep 12 = .ok (.iconst 1, 1) := by decide +kernel
theorem dX6_keep_13 : decode cX6_keep 13 = .ok (.putfield 19, 3) := by decide +kernel
theorem dX6_keep_16 : decode cX6_keep 16 = .ok (.aload_n 0, 1) := by decide +kernel
theorem dX6_keep_17 : decode cX6_keep 17 = .ok (.getfield 10, 3) := by decide +kernel
theorem dX6_keep_20 : decode cX6_keep 20 = .ok (.getfield 49, 3) := by decide +kernel
theorem dX6_keep_23 : decode cX6_keep 23 = .ok (.getfield 53, 3) := by decide +kernel
theorem dX6_keep_26 : decode cX6_keep 26 = .ok (.ireturn, 1) := by decide +kernel
theorem dX6_back_0 : decode cX6_back 0 = .ok (.aload_n 0, 1) := by decide +kernel
theorem dX6_back_1 : decode cX6_back 1 = .ok (.getfield 19, 3) := by decide +kernel
theorem dX6_back_4 : decode cX6_back 4 = .ok (.ifCond .ne 10, 3) := by decide +kernel
theorem dX6_back_7 : decode cX6_back 7 = .ok (.aload_n 0, 1) := by decide +kernel
theorem dX6_back_8 : decode cX6_back 8 = .ok (.ldc 205, 2) := by decide +kernel
theorem dX6_back_10 : decode cX6_back 10 = .ok (.invokevirtual 45, 3) := by decide +kernel
theorem dX6_back_13 : decode cX6_back 13 = .ok (.ireturn, 1) := by decide +kernel
theorem dX6_back_14 : decode cX6_back 14 = .ok (.aload_n 0, 1) := by decide +kernel
theorem dX6_back_15 : decode cX6_back 15 = .ok (.getfield 10, 3) := by decide +kernel
theorem dX6_back_18 : decode cX6_back 18 = .ok (.aload_n 0, 1) := by decide +kernel
theorem dX6_back_19 : decode cX6_back 19 = .ok (.getfield 16, 3) := by decide +kernel
theorem dX6_back_22 : decode cX6_back 22 = .ok (.invokevirtual 280, 3) := by decide +kernel
theorem dX6_back_25 : decode cX6_back 25 = .ok (.aload_n 0, 1) := by decide +kernel
theorem dX6_back_26 : decode cX6_back 26 = .ok (.getfield 10, 3) := by decide +kernel
theorem dX6_back_29 : decode cX6_back 29 = .ok (.getfield 49, 3) := by decide +kernel
theorem dX6_back_32 : decode cX6_back 32 = .ok (.getfield 53, 3) := by decide +kernel
theorem dX6_back_35 : decode cX6_back 35 = .ok (.ireturn, 1) := by decide +kernel
theorem dX6_told_0 : decode cX6_told 0 = .ok (.iload_n 1, 1) := by decide +kernel
theorem dX6_told_1 : decode cX6_told 1 = .ok (.tableswitch 69 0 3 #[31, 42, 53, 64], 31) := by decide +kernel
theorem dX6_told_32 : decode cX6_told 32 = .ok (.aload_n 0, 1) := by decide +kernel
theorem dX6_told_33 : decode cX6_told 33 = .ok (.getfield 10, 3) := by decide +kernel
theorem dX6_told_36 : decode cX6_told 36 = .ok (.getfield 49, 3) := by decide +kernel
theorem dX6_told_39 : decode cX6_told 39 = .ok (.getfield 53, 3) := by decide +kernel
theorem dX6_told_42 : decode cX6_told 42 = .ok (.ireturn, 1) := by decide +kernel
theorem dX6_told_43 : decode cX6_told 43 = .ok (.aload_n 0, 1) := by decide +kernel
theorem dX6_told_44 : decode cX6_told 44 = .ok (.getfield 10, 3) := by decide +kernel
theorem dX6_told_47 : decode cX6_told 47 = .ok (.getfield 219, 3) := by decide +kernel
theorem dX6_told_50 : decode cX6_told 50 = .ok (.getfield 223, 3) := by decide +kernel
theorem dX6_told_53 : decode cX6_told 53 = .ok (.ireturn, 1) := by decide +kernel
theorem dX6_told_54 : decode cX6_told 54 = .ok (.aload_n 0, 1) := by decide +kernel
theorem dX6_told_55 : decode cX6_told 55 = .ok (.getfield 10, 3) := by decide +kernel
theorem dX6_told_58 : decode cX6_told 58 = .ok (.getfield 255, 3) := by decide +kernel
theorem dX6_told_61 : decode cX6_told 61 = .ok (.getfield 264, 3) := by decide +kernel
theorem dX6_told_64 : decode cX6_told 64 = .ok (.ireturn, 1) := by decide +kernel
theorem dX6_told_65 : decode cX6_told 65 = .ok (.aload_n 0, 1) := by decide +kernel
theorem dX6_told_66 : decode cX6_told 66 = .ok (.getfield 30, 3) := by decide +kernel
theorem dX6_told_69 : decode cX6_told 69 = .ok (.ireturn, 1) := by decide +kernel
theorem dX6_told_70 : decode cX6_told 70 = .ok (.aload_n 0, 1) := by decide +kernel
theorem dX6_told_71 : decode cX6_told 71 = .ok (.ldc 44, 2) := by decide +kernel
theorem dX6_told_73 : decode cX6_told 73 = .ok (.invokevirtual 45, 3) := by decide +kernel
theorem dX6_told_76 : decode cX6_told 76 = .ok (.ireturn, 1) := by decide +kernel
theorem dX6_finding_0 : decode cX6_finding 0 = .ok (.aload_n 0, 1) := by decide +kernel
theorem dX6_finding_1 : decode cX6_finding 1 = .ok (.dup, 1) := by decide +kernel
theorem dX6_finding_2 : decode cX6_finding 2 = .ok (.getfield 30, 3) := by decide +kernel
theorem dX6_finding_5 : decode cX6_finding 5 = .ok (.iconst 1, 1) := by decide +kernel
theorem dX6_finding_6 : decode cX6_finding 6 = .ok (.iadd, 1) := by decide +kernel
theorem dX6_finding_7 : decode cX6_finding 7 = .ok (.putfield 30, 3) := by decide +kernel
theorem dX6_finding_10 : decode cX6_finding 10 = .ok (.iload_n 1, 1) := by decide +kernel
theorem dX6_finding_11 : decode cX6_finding 11 = .ok (.ireturn, 1) := by decide +kernel
theorem dX6_isWell_0 : decode cX6_isWell 0 = .ok (.iload_n 1, 1) := by decide +kernel
theorem dX6_isWell_1 : decode cX6_isWell 1 = .ok (.iconst 0, 1) := by decide +kernel
theorem dX6_isWell_2 : decode cX6_isWell 2 = .ok (.aload_n 0, 1) := by decide +kernel
theorem dX6_isWell_3 : decode cX6_isWell 3 = .ok (.getfield 10, 3) := by decide +kernel
theorem dX6_isWell_6 : decode cX6_isWell 6 = .ok (.getfield 49, 3) := by decide +kernel
theorem dX6_isWell_9 : decode cX6_isWell 9 = .ok (.getfield 53, 3) := by decide +kernel
theorem dX6_isWell_12 : decode cX6_isWell 12 = .ok (.iconst 1, 1) := by decide +kernel
theorem dX6_isWell_13 : decode cX6_isWell 13 = .ok (.isub, 1) := by decide +kernel
theorem dX6_isWell_14 : decode cX6_isWell 14 = .ok (.invokestatic 103, 3) := by decide +kernel
theorem dX6_isWell_17 : decode cX6_isWell 17 = .ok (.ireturn, 1) := by decide +kernel
theorem dX6_isMonth_0 : decode cX6_isMonth 0 = .ok (.iload_n 0, 1) := by decide +kernel
theorem dX6_isMonth_1 : decode cX6_isMonth 1 = .ok (.iconst 0, 1) := by decide +kernel
theorem dX6_isMonth_2 : decode cX6_isMonth 2 = .ok (.bipush 23, 2) := by decide +kernel
theorem dX6_isMonth_4 : decode cX6_isMonth 4 = .ok (.invokestatic 103, 3) := by decide +kernel
theorem dX6_isMonth_7 : decode cX6_isMonth 7 = .ok (.ireturn, 1) := by decide +kernel
theorem dX6_isKind_0 : decode cX6_isKind 0 = .ok (.iload_n 0, 1) := by decide +kernel
theorem dX6_isKind_1 : decode cX6_isKind 1 = .ok (.iconst 0, 1) := by decide +kernel
theorem dX6_isKind_2 : decode cX6_isKind 2 = .ok (.iconst 5, 1) := by decide +kernel
theorem dX6_isKind_3 : decode cX6_isKind 3 = .ok (.invokestatic 103, 3) := by decide +kernel
theorem dX6_isKind_6 : decode cX6_isKind 6 = .ok (.ireturn, 1) := by decide +kernel
theorem dX6_isPlace_0 : decode cX6_isPlace 0 = .ok (.iload_n 0, 1) := by decide +kernel
theorem dX6_isPlace_1 : decode cX6_isPlace 1 = .ok (.iconst 0, 1) := by decide +kernel
theorem dX6_isPlace_2 : decode cX6_isPlace 2 = .ok (.bipush 30, 2) := by decide +kernel
theorem dX6_isPlace_4 : decode cX6_isPlace 4 = .ok (.invokestatic 103, 3) := by decide +kernel
theorem dX6_isPlace_7 : decode cX6_isPlace 7 = .ok (.ireturn, 1) := by decide +kernel
theorem dX6_isHeadBound_0 : decode cX6_isHeadBound 0 = .ok (.iload_n 0, 1) := by decide +kernel
theorem dX6_isHeadBound_1 : decode cX6_isHeadBound 1 = .ok (.ldc_w 284, 3) := by decide +kernel
theorem dX6_isHeadBound_4 : decode cX6_isHeadBound 4 = .ok (.ldc_w 285, 3) := by decide +kernel
theorem dX6_isHeadBound_7 : decode cX6_isHeadBound 7 = .ok (.invokestatic 103, 3) := by decide +kernel
theorem dX6_isHeadBound_10 : decode cX6_isHeadBound 10 = .ok (.ireturn, 1) := by decide +kernel
theorem dX6_isAmount_0 : decode cX6_isAmount 0 = .ok (.iload_n 0, 1) := by decide +kernel
theorem dX6_isAmount_1 : decode cX6_isAmount 1 = .ok (.iconst 0, 1) := by decide +kernel
theorem dX6_isAmount_2 : decode cX6_isAmount 2 = .ok (.sipush 1000, 3) := by decide +kernel
theorem dX6_isAmount_5 : decode cX6_isAmount 5 = .ok (.invokestatic 103, 3) := by decide +kernel
theorem dX6_isAmount_8 : decode cX6_isAmount 8 = .ok (.ireturn, 1) := by decide +kernel
theorem dX6_isLayer_0 : decode cX6_isLayer 0 = .ok (.iload_n 0, 1) := by decide +kernel
theorem dX6_isLayer_1 : decode cX6_isLayer 1 = .ok (.iconst 0, 1) := by decide +kernel
theorem dX6_isLayer_2 : decode cX6_isLayer 2 = .ok (.iconst 1, 1) := by decide +kernel
theorem dX6_isLayer_3 : decode cX6_isLayer 3 = .ok (.invokestatic 103, 3) := by decide +kernel
theorem dX6_isLayer_6 : decode cX6_isLayer 6 = .ok (.ireturn, 1) := by decide +kernel
theorem dX6_isAge_0 : decode cX6_isAge 0 = .ok (.iload_n 0, 1) := by decide +kernel
theorem dX6_isAge_1 : decode cX6_isAge 1 = .ok (.iconst 0, 1) := by decide +kernel
theorem dX6_isAge_2 : decode cX6_isAge 2 = .ok (.bipush 11, 2) := by decide +kernel
theorem dX6_isAge_4 : decode cX6_isAge 4 = .ok (.invokestatic 103, 3) := by decide +kernel
theorem dX6_isAge_7 : decode cX6_isAge 7 = .ok (.ireturn, 1) := by decide +kernel
theorem dX6_isSheet_0 : decode cX6_isSheet 0 = .ok (.iload_n 0, 1) := by decide +kernel
theorem dX6_isSheet_1 : decode cX6_isSheet 1 = .ok (.iconst 0, 1) := by decide +kernel
theorem dX6_isSheet_2 : decode cX6_isSheet 2 = .ok (.iconst 3, 1) := by decide +kernel
theorem dX6_isSheet_3 : decode cX6_isSheet 3 = .ok (.invokestatic 103, 3) := by decide +kernel
theorem dX6_isSheet_6 : decode cX6_isSheet 6 = .ok (.ireturn, 1) := by decide +kernel
theorem dX6_within_0 : decode cX6_within 0 = .ok (.iload_n 0, 1) := by decide +kernel
theorem dX6_within_1 : decode cX6_within 1 = .ok (.iload_n 1, 1) := by decide +kernel
theorem dX6_within_2 : decode cX6_within 2 = .ok (.if_icmp .lt 12, 3) := by decide +kernel
theorem dX6_within_5 : decode cX6_within 5 = .ok (.iload_n 0, 1) := by decide +kernel
theorem dX6_within_6 : decode cX6_within 6 = .ok (.iload_n 2, 1) := by decide +kernel
theorem dX6_within_7 : decode cX6_within 7 = .ok (.if_icmp .gt 7, 3) := by decide +kernel
theorem dX6_within_10 : decode cX6_within 10 = .ok (.iconst 1, 1) := by decide +kernel
theorem dX6_within_11 : decode cX6_within 11 = .ok (.goto 4, 3) := by decide +kernel
theorem dX6_within_14 : decode cX6_within 14 = .ok (.iconst 0, 1) := by decide +kernel
theorem dX6_within_15 : decode cX6_within 15 = .ok (.ireturn, 1) := by decide +kernel
theorem dX6_clear_0 : decode cX6_clear 0 = .ok (.iconst 0, 1) := by decide +kernel
theorem dX6_clear_1 : decode cX6_clear 1 = .ok (.istore_n 1, 1) := by decide +kernel
theorem dX6_clear_2 : decode cX6_clear 2 = .ok (.iconst 0, 1) := by decide +kernel
theorem dX6_clear_3 : decode cX6_clear 3 = .ok (.istore_n 2, 1) := by decide +kernel
theorem dX6_clear_4 : decode cX6_clear 4 = .ok (.iload_n 2, 1) := by decide +kernel
theorem dX6_clear_5 : decode cX6_clear 5 = .ok (.aload_n 0, 1) := by decide +kernel
theorem dX6_clear_6 : decode cX6_clear 6 = .ok (.arraylength, 1) := by decide +kernel
theorem dX6_clear_7 : decode cX6_clear 7 = .ok (.if_icmp .ge 22, 3) := by decide +kernel
theorem dX6_clear_10 : decode cX6_clear 10 = .ok (.aload_n 0, 1) := by decide +kernel
theorem dX6_clear_11 : decode cX6_clear 11 = .ok (.iload_n 2, 1) := by decide +kernel
theorem dX6_clear_12 : decode cX6_clear 12 = .ok (.iaload, 1) := by decide +kernel
theorem dX6_clear_13 : decode cX6_clear 13 = .ok (.ifCond .eq 10, 3) := by decide +kernel
theorem dX6_clear_16 : decode cX6_clear 16 = .ok (.aload_n 0, 1) := by decide +kernel
theorem dX6_clear_17 : decode cX6_clear 17 = .ok (.iload_n 2, 1) := by decide +kernel
theorem dX6_clear_18 : decode cX6_clear 18 = .ok (.iconst 0, 1) := by decide +kernel
theorem dX6_clear_19 : decode cX6_clear 19 = .ok (.iastore, 1) := by decide +kernel
theorem dX6_clear_20 : decode cX6_clear 20 = .ok (.iinc 1 1, 3) := by decide +kernel
theorem dX6_clear_23 : decode cX6_clear 23 = .ok (.iinc 2 1, 3) := by decide +kernel
theorem dX6_clear_26 : decode cX6_clear 26 = .ok (.goto (-22), 3) := by decide +kernel
theorem dX6_clear_29 : decode cX6_clear 29 = .ok (.iload_n 1, 1) := by decide +kernel
theorem dX6_clear_30 : decode cX6_clear 30 = .ok (.ireturn, 1) := by decide +kernel
theorem dX6_copyRow_0 : decode cX6_copyRow 0 = .ok (.aload_n 0, 1) := by decide +kernel
theorem dX6_copyRow_1 : decode cX6_copyRow 1 = .ok (.iconst 0, 1) := by decide +kernel
theorem dX6_copyRow_2 : decode cX6_copyRow 2 = .ok (.aload_n 1, 1) := by decide +kernel
theorem dX6_copyRow_3 : decode cX6_copyRow 3 = .ok (.iconst 0, 1) := by decide +kernel
theorem dX6_copyRow_4 : decode cX6_copyRow 4 = .ok (.aload_n 0, 1) := by decide +kernel
theorem dX6_copyRow_5 : decode cX6_copyRow 5 = .ok (.arraylength, 1) := by decide +kernel
theorem dX6_copyRow_6 : decode cX6_copyRow 6 = .ok (.aload_n 1, 1) := by decide +kernel
theorem dX6_copyRow_7 : decode cX6_copyRow 7 = .ok (.arraylength, 1) := by decide +kernel
theorem dX6_copyRow_8 : decode cX6_copyRow 8 = .ok (.invokestatic 161, 3) := by decide +kernel
theorem dX6_copyRow_11 : decode cX6_copyRow 11 = .ok (.invokestatic 152, 3) := by decide +kernel
theorem dX6_copyRow_14 : decode cX6_copyRow 14 = .ok (.return_, 1) := by decide +kernel
theorem dX7_init_0 : decode cX7_init 0 = .ok (.aload_n 0, 1) := by decide +kernel
theorem dX7_init_1 : decode cX7_init 1 = .ok (.invokespecial 1, 3) := by decide +kernel
theorem dX7_init_4 : decode cX7_init 4 = .ok (.aload_n 0, 1) := by decide +kernel
theorem dX7_init_5 : decode cX7_init 5 = .ok (.sipush 1090, 3) := by decide +kernel
theorem dX7_init_8 : decode cX7_init 8 = .ok (.newarray .int, 2) := by decide +kernel
theorem dX7_init_10 : decode cX7_init 10 = .ok (.putfield 7, 3) := by decide +kernel
theorem dX7_init_13 : decode cX7_init 13 = .ok (.aload_n 0, 1) := by decide +kernel
theorem dX7_init_14 : decode cX7_init 14 = .ok (.sipush 1090, 3) := by decide +kernel
theorem dX7_init_17 : decode cX7_init 17 = .ok (.newarray .int, 2) := by decide +kernel
theorem dX7_init_19 : decode cX7_init 19 = .ok (.putfield 13, 3) := by decide +kernel
theorem dX7_init_22 : decode cX7_init 22 = .ok (.aload_n 0, 1) := by decide +kernel
theorem dX7_init_23 : decode cX7_init 23 = .ok (.iconst 4, 1) := by decide +kernel
theorem dX7_init_24 : decode cX7_init 24 = .ok (.newarray .int, 2) := by decide +kernel
theorem dX7_init_26 : decode cX7_init 26 = .ok (.putfield 16, 3) := by decide +kernel
theorem dX7_init_29 : decode cX7_init 29 = .ok (.aload_n 0, 1) := by decide +kernel
theorem dX7_init_30 : decode cX7_init 30 = .ok (.iconst 4, 1) := by decide +kernel
theorem dX7_init_31 : decode cX7_init 31 = .ok (.newarray .int, 2) := by decide +kernel
theorem dX7_init_33 : decode cX7_init 33 = .ok (.putfield 19, 3) := by decide +kernel
theorem dX7_init_36 : decode cX7_init 36 = .ok (.aload_n 0, 1) := by decide +kernel
theorem dX7_init_37 : decode cX7_init 37 = .ok (.bipush 96, 2) := by decide +kernel
theorem dX7_init_39 : decode cX7_init 39 = .ok (.newarray .int, 2) := by decide +kernel
theorem dX7_init_41 : decode cX7_init 41 = .ok (.putfield 22, 3) := by decide +kernel
theorem dX7_init_44 : decode cX7_init 44 = .ok (.aload_n 0, 1) := by decide +kernel
theorem dX7_init_45 : decode cX7_init 45 = .ok (.bipush 24, 2) := by decide +kernel
theorem dX7_init_47 : decode cX7_init 47 = .ok (.newarray .int, 2) := by decide +kernel
theorem dX7_init_49 : decode cX7_init 49 = .ok (.putfield 25, 3) := by decide +kernel
theorem dX7_init_52 : decode cX7_init 52 = .ok (.aload_n 0, 1) := by decide +kernel
theorem dX7_init_53 : decode cX7_init 53 = .ok (.sipush 240, 3) := by decide +kernel
theorem dX7_init_56 : decode cX7_init 56 = .ok (.newarray .int, 2) := by decide +kernel
theorem dX7_init_58 : decode cX7_init 58 = .ok (.putfield 28, 3) := by decide +kernel
theorem dX7_init_61 : decode cX7_init 61 = .ok (.aload_n 0, 1) := by decide +kernel
theorem dX7_init_62 : decode cX7_init 62 = .ok (.sipush 240, 3) := by decide +kernel
theorem dX7_init_65 : decode cX7_init 65 = .ok (.newarray .int, 2) := by decide +kernel
theorem dX7_init_67 : decode cX7_init 67 = .ok (.putfield 31, 3) := by decide +kernel
theorem dX7_init_70 : decode cX7_init 70 = .ok (.aload_n 0, 1) := by decide +kernel
theorem dX7_init_71 : decode cX7_init 71 = .ok (.bipush 10, 2) := by decide +kernel
theorem dX7_init_73 : decode cX7_init 73 = .ok (.newarray .int, 2) := by decide +kernel
theorem dX7_init_75 : decode cX7_init 75 = .ok (.putfield 34, 3) := by decide +kernel
theorem dX7_init_78 : decode cX7_init 78 = .ok (.aload_n 0, 1) := by decide +kernel
theorem dX7_init_79 : decode cX7_init 79 = .ok (.bipush 10, 2) := by decide +kernel
theorem dX7_init_81 : decode cX7_init 81 = .ok (.newarray .int, 2) := by decide +kernel
theorem dX7_init_83 : decode cX7_init 83 = .ok (.putfield 37, 3) := by decide +kernel
theorem dX7_init_86 : decode cX7_init 86 = .ok (.iconst 0, 1) := by decide +kernel
theorem dX7_init_87 : decode cX7_init 87 = .ok (.istore_n 1, 1) := by decide +kernel
theorem dX7_init_88 : decode cX7_init 88 = .ok (.iload_n 1, 1) := by decide +kernel
theorem dX7_init_89 : decode cX7_init 89 = .ok (.bipush 10, 2) := by decide +kernel
theorem dX7_init_91 : decode cX7_init 91 = .ok (.if_icmp .ge 48, 3) := by decide +kernel
theorem dX7_init_94 : decode cX7_init 94 = .ok (.aload_n 0, 1) := by decide +kernel
theorem dX7_init_95 : decode cX7_init 95 = .ok (.getfield 7, 3) := by decide +kernel
theorem dX7_init_98 : decode cX7_init 98 = .ok (.sipush 290, 3) := by decide +kernel
theorem dX7_init_101 : decode cX7_init 101 = .ok (.bipush 12, 2) := by decide +kernel
theorem dX7_init_103 : decode cX7_init 103 = .ok (.iload_n 1, 1) := by decide +kernel
theorem dX7_init_104 : decode cX7_init 104 = .ok (.imul, 1) := by decide +kernel
theorem dX7_init_105 : decode cX7_init 105 = .ok (.iadd, 1) := by decide +kernel
theorem dX7_init_106 : decode cX7_init 106 = .ok (.bipush 100, 2) := by decide +kernel
theorem dX7_init_108 : decode cX7_init 108 = .ok (.bipush 10, 2) := by decide +kernel
theorem dX7_init_110 : decode cX7_init 110 = .ok (.iload_n 1, 1) := by decide +kernel
theorem dX7_init_111 : decode cX7_init 111 = .ok (.imul, 1) := by decide +kernel
theorem dX7_init_112 : decode cX7_init 112 = .ok (.isub, 1) := by decide +kernel
theorem dX7_init_113 : decode cX7_init 113 = .ok (.iastore, 1) := by decide +kernel
theorem dX7_init_114 : decode cX7_init 114 = .ok (.aload_n 0, 1) := by decide +kernel
theorem dX7_init_115 : decode cX7_init 115 = .ok (.getfield 7, 3) := by decide +kernel
theorem dX7_init_118 : decode cX7_init 118 = .ok (.sipush 410, 3) := by decide +kernel
theorem dX7_init_121 : decode cX7_init 121 = .ok (.bipush 12, 2) := by decide +kernel
theorem dX7_init_123 : decode cX7_init 123 = .ok (.iload_n 1, 1) := by decide +kernel
theorem dX7_init_124 : decode cX7_init 124 = .ok (.imul, 1) := by decide +kernel
theorem dX7_init_125 : decode cX7_init 125 = .ok (.iadd, 1) := by decide +kernel
theorem dX7_init_126 : decode cX7_init 126 = .ok (.bipush 50, 2) := by decide +kernel
theorem dX7_init_128 : decode cX7_init 128 = .ok (.iconst 5, 1) := by decide +kernel
theorem dX7_init_129 : decode cX7_init 129 = .ok (.iload_n 1, 1) := by decide +kernel
theorem dX7_init_130 : decode cX7_init 130 = .ok (.imul, 1) := by decide +kernel
theorem dX7_init_131 : decode cX7_init 131 = .ok (.isub, 1) := by decide +kernel
theorem dX7_init_132 : decode cX7_init 132 = .ok (.iastore, 1) := by decide +kernel
theorem dX7_init_133 : decode cX7_init 133 = .ok (.iinc 1 1, 3) := by decide +kernel
theorem dX7_init_136 : decode cX7_init 136 = .ok (.goto (-48), 3) := by decide +kernel
theorem dX7_init_139 : decode cX7_init 139 = .ok (.aload_n 0, 1) := by decide +kernel
theorem dX7_init_140 : decode cX7_init 140 = .ok (.getfield 7, 3) := by decide +kernel
theorem dX7_init_143 : decode cX7_init 143 = .ok (.sipush 530, 3) := by decide +kernel
theorem dX7_init_146 : decode cX7_init 146 = .ok (.bipush 10, 2) := by decide +kernel
theorem dX7_init_148 : decode cX7_init 148 = .ok (.iastore, 1) := by decide +kernel
theorem dX7_init_149 : decode cX7_init 149 = .ok (.aload_n 0, 1) := by decide +kernel
theorem dX7_init_150 : decode cX7_init 150 = .ok (.getfield 7, 3) := by decide +kernel
theorem dX7_init_153 : decode cX7_init 153 = .ok (.sipush 1089, 3) := by decide +kernel
theorem dX7_init_156 : decode cX7_init 156 = .ok (.iconst 0, 1) := by decide +kernel
theorem dX7_init_157 : decode cX7_init 157 = .ok (.iastore, 1) := by decide +kernel
theorem dX7_init_158 : decode cX7_init 158 = .ok (.return_, 1) := by decide +kernel
theorem dX7_in_0 : decode cX7_in 0 = .ok (.iload_n 0, 1) := by decide +kernel
theorem dX7_in_1 : decode cX7_in 1 = .ok (.iload_n 1, 1) := by decide +kernel
theorem dX7_in_2 : decode cX7_in 2 = .ok (.if_icmp .lt 12, 3) := by decide +kernel
theorem dX7_in_5 : decode cX7_in 5 = .ok (.iload_n 0, 1) := by decide +kernel
theorem dX7_in_6 : decode cX7_in 6 = .ok (.iload_n 2, 1) := by decide +kernel
theorem dX7_in_7 : decode cX7_in 7 = .ok (.if_icmp .gt 7, 3) := by decide +kernel
theorem dX7_in_10 : decode cX7_in 10 = .ok (.iconst 1, 1) := by decide +kernel
theorem dX7_in_11 : decode cX7_in 11 = .ok (.goto 4, 3) := by decide +kernel
theorem dX7_in_14 : decode cX7_in 14 = .ok (.iconst 0, 1) := by decide +kernel
theorem dX7_in_15 : decode cX7_in 15 = .ok (.ireturn, 1) := by decide +kernel
theorem dX7_found_0 : decode cX7_found 0 = .ok (.aload_n 0, 1) := by decide +kernel
theorem dX7_found_1 : decode cX7_found 1 = .ok (.dup, 1) := by decide +kernel
theorem dX7_found_2 : decode cX7_found 2 = .ok (.getfield 40, 3) := by decide +kernel
theorem dX7_found_5 : decode cX7_found 5 = .ok (.iconst 1, 1) := by decide +kernel
theorem dX7_found_6 : decode cX7_found 6 = .ok (.iadd, 1) := by decide +kernel
theorem dX7_found_7 : decode cX7_found 7 = .ok (.putfield 40, 3) := by decide +kernel
theorem dX7_found_10 : decode cX7_found 10 = .ok (.iload_n 1, 1) := by decide +kernel
theorem dX7_found_11 : decode cX7_found 11 = .ok (.ireturn, 1) := by decide +kernel
theorem dX7_wells_0 : decode cX7_wells 0 = .ok (.aload_n 0, 1) := by decide +kernel
theorem dX7_wells_1 : decode cX7_wells 1 = .ok (.getfield 7, 3) := by decide +kernel
theorem dX7_wells_4 : decode cX7_wells 4 = .ok (.sipush 1086, 3) := by decide +kernel
theorem dX7_wells_7 : decode cX7_wells 7 = .ok (.iaload, 1) := by decide +kernel
theorem dX7_wells_8 : decode cX7_wells 8 = .ok (.ireturn, 1) := by decide +kernel
theorem dX7_isWell_0 : decode cX7_isWell 0 = .ok (.iload_n 1, 1) := by decide +kernel
theorem dX7_isWell_1 : decode cX7_isWell 1 = .ok (.iconst 0, 1) := by decide +kernel
theorem dX7_isWell_2 : decode cX7_isWell 2 = .ok (.aload_n 0, 1) := by decide +kernel
theorem dX7_isWell_3 : decode cX7_isWell 3 = .ok (.invokevirtual 44, 3) := by decide +kernel
theorem dX7_isWell_6 : decode cX7_isWell 6 = .ok (.iconst 1, 1) := by decide +kernel
theorem dX7_isWell_7 : decode cX7_isWell 7 = .ok (.isub, 1) := by decide +kernel
theorem dX7_isWell_8 : decode cX7_isWell 8 = .ok (.invokestatic 48, 3) := by decide +kernel
theorem dX7_isWell_11 : decode cX7_isWell 11 = .ok (.ireturn, 1) := by decide +kernel
theorem dX7_isMonth_0 : decode cX7_isMonth 0 = .ok (.iload_n 0, 1) := by decide +kernel
theorem dX7_isMonth_1 : decode cX7_isMonth 1 = .ok (.iconst 0, 1) := by decide +kernel
theorem dX7_isMonth_2 : decode cX7_isMonth 2 = .ok (.bipush 23, 2) := by decide +kernel
theorem dX7_isMonth_4 : decode cX7_isMonth 4 = .ok (.invokestatic 48, 3) := by decide +kernel
theorem dX7_isMonth_7 : decode cX7_isMonth 7 = .ok (.ireturn, 1) := by decide +kernel
theorem dX7_isHead_0 : decode cX7_isHead 0 = .ok (.iload_n 0, 1) := by decide +kernel
theorem dX7_isHead_1 : decode cX7_isHead 1 = .ok (.ldc 52, 2) := by decide +kernel
theorem dX7_isHead_3 : decode cX7_isHead 3 = .ok (.ldc 53, 2) := by decide +kernel
theorem dX7_isHead_5 : decode cX7_isHead 5 = .ok (.invokestatic 48, 3) := by decide +kernel
theorem dX7_isHead_8 : decode cX7_isHead 8 = .ok (.ireturn, 1) := by decide +kernel
theorem dX7_told0_0 : decode cX7_told0 0 = .ok (.aload_n 0, 1) := by decide +kernel
theorem dX7_told0_1 : decode cX7_told0 1 = .ok (.getfield 7, 3) := by decide +kernel
theorem dX7_told0_4 : decode cX7_told0 4 = .ok (.iconst 0, 1) := by decide +kernel
theorem dX7_told0_5 : decode cX7_told0 5 = .ok (.iconst 5, 1) := by decide +kernel
theorem dX7_told0_6 : decode cX7_told0 6 = .ok (.iload_n 1, 1) := by decide +kernel
theorem dX7_told0_7 : decode cX7_told0 7 = .ok (.imul, 1) := by decide +kernel
theorem dX7_told0_8 : decode cX7_told0 8 = .ok (.iadd, 1) := by decide +kernel
theorem dX7_told0_9 : decode cX7_told0 9 = .ok (.iload_n 2, 1) := by decide +kernel
theorem dX7_told0_10 : decode cX7_told0 10 = .ok (.iadd, 1) := by decide +kernel
theorem dX7_told0_11 : decode cX7_told0 11 = .ok (.iaload, 1) := by decide +kernel
theorem dX7_told0_12 : decode cX7_told0 12 = .ok (.ireturn, 1) := by decide +kernel
theorem dX7_kindOf_0 : decode cX7_kindOf 0 = .ok (.aload_n 0, 1) := by decide +kernel
theorem dX7_kindOf_1 : decode cX7_kindOf 1 = .ok (.iload_n 1, 1) := by decide +kernel
theorem dX7_kindOf_2 : decode cX7_kindOf 2 = .ok (.iconst 0, 1) := by decide +kernel
theorem dX7_kindOf_3 : decode cX7_kindOf 3 = .ok (.invokevirtual 54, 3) := by decide +kernel
theorem dX7_kindOf_6 : decode cX7_kindOf 6 = .ok (.ireturn, 1) := by decide +kernel
theorem dX7_well_0 : decode cX7_well 0 = .ok (.iload_n 1, 1) := by decide +kernel
theorem dX7_well_1 : decode cX7_well 1 = .ok (.iconst 0, 1) := by decide +kernel
theorem dX7_well_2 : decode cX7_well 2 = .ok (.iconst 5, 1) := by decide +kernel
theorem dX7_well_3 : decode cX7_well 3 = .ok (.invokestatic 48, 3) := by decide +kernel
theorem dX7_well_6 : decode cX7_well 6 = .ok (.ifCond .eq 31, 3) := by decide +kernel
theorem dX7_well_9 : decode cX7_well 9 = .ok (.iload_n 2, 1) := by decide +kernel
theorem dX7_well_10 : decode cX7_well 10 = .ok (.iconst 0, 1) := by decide +kernel
theorem dX7_well_11 : decode cX7_well 11 = .ok (.bipush 30, 2) := by decide +kernel
theorem dX7_well_13 : decode cX7_well 13 = .ok (.invokestatic 48, 3) := by decide +kernel
theorem dX7_well_16 : decode cX7_well 16 = .ok (.ifCond .eq 21, 3) := by decide +kernel
theorem dX7_well_19 : decode cX7_well 19 = .ok (.iload_n 3, 1) := by decide +kernel
theorem dX7_well_20 : decode cX7_well 20 = .ok (.iconst 0, 1) := by decide +kernel
theorem dX7_well_21 : decode cX7_well 21 = .ok (.bipush 30, 2) := by decide +kernel
theorem dX7_well_23 : decode cX7_well 23 = .ok (.invokestatic 48, 3) := by decide +kernel
theorem dX7_well_26 : decode cX7_well 26 = .ok (.ifCond .eq 11, 3) := by decide +kernel
theorem dX7_well_29 : decode cX7_well 29 = .ok (.iload 4, 2) := by decide +kernel
theorem dX7_well_31 : decode cX7_well 31 = .ok (.invokestatic 58, 3) := by decide +kernel
theorem dX7_well_34 : decode cX7_well 34 = .ok (.ifCond .ne 10, 3) := by decide +kernel
theorem dX7_well_37 : decode cX7_well 37 = .ok (.aload_n 0, 1) := by decide +kernel
theorem dX7_well_38 : decode cX7_well 38 = .ok (.ldc 62, 2) := by decide +kernel
theorem dX7_well_40 : decode cX7_well 40 = .ok (.invokevirtual 63, 3) := by decide +kernel
theorem dX7_well_43 : decode cX7_well 43 = .ok (.ireturn, 1) := by decide +kernel
theorem dX7_well_44 : decode cX7_well 44 = .ok (.aload_n 0, 1) := by decide +kernel
theorem dX7_well_45 : decode cX7_well 45 = .ok (.invokevirtual 44, 3) := by decide +kernel
theorem dX7_well_48 : decode cX7_well 48 = .ok (.istore 5, 2) := by decide +kernel
theorem dX7_well_50 : decode cX7_well 50 = .ok (.iload 5, 2) := by decide +kernel
theorem dX7_well_52 : decode cX7_well 52 = .ok (.bipush 10, 2) := by decide +kernel
theorem dX7_well_54 : decode cX7_well 54 = .ok (.if_icmp .ne 10, 3) := by decide +kernel
theorem dX7_well_57 : decode cX7_well 57 = .ok (.aload_n 0, 1) := by decide +kernel
theorem dX7_well_58 : decode cX7_well 58 = .ok (.ldc 67, 2) := by decide +kernel
theorem dX7_well_60 : decode cX7_well 60 = .ok (.invokevirtual 63, 3) := by decide +kernel
theorem dX7_well_63 : decode cX7_well 63 = .ok (.ireturn, 1) := by decide +kernel
theorem dX7_well_64 : decode cX7_well 64 = .ok (.aload_n 0, 1) := by decide +kernel
theorem dX7_well_65 : decode cX7_well 65 = .ok (.getfield 7, 3) := by decide +kernel
theorem dX7_well_68 : decode cX7_well 68 = .ok (.iconst 0, 1) := by decide +kernel
theorem dX7_well_69 : decode cX7_well 69 = .ok (.iconst 5, 1) := by decide +kernel
theorem dX7_well_70 : decode cX7_well 70 = .ok (.iload 5, 2) := by decide +kernel
theorem dX7_well_72 : decode cX7_well 72 = .ok (.imul, 1) := by decide +kernel
theorem dX7_well_73 : decode cX7_well 73 = .ok (.iadd, 1) := by decide +kernel
theorem dX7_well_74 : decode cX7_well 74 = .ok (.iload_n 1, 1) := by decide +kernel
theorem dX7_well_75 : decode cX7_well 75 = .ok (.iastore, 1) := by decide +kernel
theorem dX7_well_76 : decode cX7_well 76 = .ok (.aload_n 0, 1) := by decide +kernel
theorem dX7_well_77 : decode cX7_well 77 = .ok (.getfield 7, 3) := by decide +kernel
theorem dX7_well_80 : decode cX7_well 80 = .ok (.iconst 0, 1) := by decide +kernel
theorem dX7_well_81 : decode cX7_well 81 = .ok (.iconst 5, 1) := by decide +kernel
theorem dX7_well_82 : decode cX7_well 82 = .ok (.iload 5, 2) := by decide +kernel
theorem dX7_well_84 : decode cX7_well 84 = .ok (.imul, 1) := by decide +kernel
theorem dX7_well_85 : decode cX7_well 85 = .ok (.iadd, 1) := by decide +kernel
theorem dX7_well_86 : decode cX7_well 86 = .ok (.iconst 1, 1) := by decide +kernel
theorem dX7_well_87 : decode cX7_well 87 = .ok (.iadd, 1) := by decide +kernel
theorem dX7_well_88 : decode cX7_well 88 = .ok (.iload_n 2, 1) := by decide +kernel
theorem dX7_well_89 : decode cX7_well 89 = .ok (.iastore, 1) := by decide +kernel
theorem dX7_well_90 : decode cX7_well 90 = .ok (.aload_n 0, 1) := by decide +kernel
theorem dX7_well_91 : decode cX7_well 91 = .ok (.getfield 7, 3) := by decide +kernel
theorem dX7_well_94 : decode cX7_well 94 = .ok (.iconst 0, 1) := by decide +kernel
theorem dX7_well_95 : decode cX7_well 95 = .ok (.iconst 5, 1) := by decide +kernel
theorem dX7_well_96 : decode cX7_well 96 = .ok (.iload 5, 2) := by decide +kernel
theorem dX7_well_98 : decode cX7_well 98 = .ok (.imul, 1) := by decide +kernel
theorem dX7_well_99 : decode cX7_well 99 = .ok (.iadd, 1) := by decide +kernel
theorem dX7_well_100 : decode cX7_well 100 = .ok (.iconst 2, 1) := by decide +kernel
theorem dX7_well_101 : decode cX7_well 101 = .ok (.iadd, 1) := by decide +kernel
theorem dX7_well_102 : decode cX7_well 102 = .ok (.iload_n 3, 1) := by decide +kernel
theorem dX7_well_103 : decode cX7_well 103 = .ok (.iastore, 1) := by decide +kernel
theorem dX7_well_104 : decode cX7_well 104 = .ok (.aload_n 0, 1) := by decide +kernel
theorem dX7_well_105 : decode cX7_well 105 = .ok (.getfield 7, 3) := by decide +kernel
theorem dX7_well_108 : decode cX7_well 108 = .ok (.iconst 0, 1) := by decide +kernel
theorem dX7_well_109 : decode cX7_well 109 = .ok (.iconst 5, 1) := by decide +kernel
theorem dX7_well_110 : decode cX7_well 110 = .ok (.iload 5, 2) := by decide +kernel
theorem dX7_well_112 : decode cX7_well 112 = .ok (.imul, 1) := by decide +kernel
theorem dX7_well_113 : decode cX7_well 113 = .ok (.iadd, 1) := by decide +kernel
theorem dX7_well_114 : decode cX7_well 114 = .ok (.iconst 3, 1) := by decide +kernel
theorem dX7_well_115 : decode cX7_well 115 = .ok (.iadd, 1) := by decide +kernel
theorem dX7_well_116 : decode cX7_well 116 = .ok (.iload 4, 2) := by decide +kernel
theorem dX7_well_118 : decode cX7_well 118 = .ok (.iastore, 1) := by decide +kernel
theorem dX7_well_119 : decode cX7_well 119 = .ok (.aload_n 0, 1) := by decide +kernel
theorem dX7_well_120 : decode cX7_well 120 = .ok (.getfield 7, 3) := by decide +kernel
theorem dX7_well_123 : decode cX7_well 123 = .ok (.iconst 0, 1) := by decide +kernel
theorem dX7_well_124 : decode cX7_well 124 = .ok (.iconst 5, 1) := by decide +kernel
theorem dX7_well_125 : decode cX7_well 125 = .ok (.iload 5, 2) := by decide +kernel
theorem dX7_well_127 : decode cX7_well 127 = .ok (.imul, 1) := by decide +kernel
theorem dX7_well_128 : decode cX7_well 128 = .ok (.iadd, 1) := by decide +kernel
theorem dX7_well_129 : decode cX7_well 129 = .ok (.iconst 4, 1) := by decide +kernel
theorem dX7_well_130 : decode cX7_well 130 = .ok (.iadd, 1) := by decide +kernel
theorem dX7_well_131 : decode cX7_well 131 = .ok (.ldc 52, 2) := by decide +kernel
theorem dX7_well_133 : decode cX7_well 133 = .ok (.iastore, 1) := by decide +kernel
theorem dX7_well_134 : decode cX7_well 134 = .ok (.aload_n 0, 1) := by decide +kernel
theorem dX7_well_135 : decode cX7_well 135 = .ok (.getfield 7, 3) := by decide +kernel
theorem dX7_well_138 : decode cX7_well 138 = .ok (.sipush 1086, 3) := by decide +kernel
theorem dX7_well_141 : decode cX7_well 141 = .ok (.dup2, 1) := by decide +kernel
theorem dX7_well_142 : decode cX7_well 142 = .ok (.iaload, 1) := by decide +kernel
theorem dX7_well_143 : decode cX7_well 143 = .ok (.iconst 1, 1) := by decide +kernel
theorem dX7_well_144 : decode cX7_well 144 = .ok (.iadd, 1) := by decide +kernel
theorem dX7_well_145 : decode cX7_well 145 = .ok (.iastore, 1) := by decide +kernel
theorem dX7_well_146 : decode cX7_well 146 = .ok (.iload 5, 2) := by decide +kernel
theorem dX7_well_148 : decode cX7_well 148 = .ok (.ireturn, 1) := by decide +kernel
theorem dX7_limit_0 : decode cX7_limit 0 = .ok (.aload_n 0, 1) := by decide +kernel
theorem dX7_limit_1 : decode cX7_limit 1 = .ok (.iload_n 1, 1) := by decide +kernel
theorem dX7_limit_2 : decode cX7_limit 2 = .ok (.invokevirtual 68, 3) := by decide +kernel
theorem dX7_limit_5 : decode cX7_limit 5 = .ok (.ifCond .eq 10, 3) := by decide +kernel
theorem dX7_limit_8 : decode cX7_limit 8 = .ok (.iload_n 2, 1) := by decide +kernel
theorem dX7_limit_9 : decode cX7_limit 9 = .ok (.invokestatic 58, 3) := by decide +kernel
theorem dX7_limit_12 : decode cX7_limit 12 = .ok (.ifCond .ne 10, 3) := by decide +kernel
theorem dX7_limit_15 : decode cX7_limit 15 = .ok (.aload_n 0, 1) := by decide +kernel
theorem dX7_limit_16 : decode cX7_limit 16 = .ok (.ldc 62, 2) := by decide +kernel
theorem dX7_limit_18 : decode cX7_limit 18 = .ok (.invokevirtual 63, 3) := by decide +kernel
theorem dX7_limit_21 : decode cX7_limit 21 = .ok (.ireturn, 1) := by decide +kernel
theorem dX7_limit_22 : decode cX7_limit 22 = .ok (.aload_n 0, 1) := by decide +kernel
theorem dX7_limit_23 : decode cX7_limit 23 = .ok (.iload_n 1, 1) := by decide +kernel
theorem dX7_limit_24 : decode cX7_limit 24 = .ok (.iconst 4, 1) := by decide +kernel
theorem dX7_limit_25 : decode cX7_limit 25 = .ok (.invokevirtual 54, 3) := by decide +kernel
theorem dX7_limit_28 : decode cX7_limit 28 = .ok (.istore_n 3, 1) := by decide +kernel
theorem dX7_limit_29 : decode cX7_limit 29 = .ok (.aload_n 0, 1) := by decide +kernel
theorem dX7_limit_30 : decode cX7_limit 30 = .ok (.getfield 7, 3) := by decide +kernel
theorem dX7_limit_33 : decode cX7_limit 33 = .ok (.iconst 0, 1) := by decide +kernel
theorem dX7_limit_34 : decode cX7_limit 34 = .ok (.iconst 5, 1) := by decide +kernel
theorem dX7_limit_35 : decode cX7_limit 35 = .ok (.iload_n 1, 1) := by decide +kernel
theorem dX7_limit_36 : decode cX7_limit 36 = .ok (.imul, 1) := by decide +kernel
theorem dX7_limit_37 : decode cX7_limit 37 = .ok (.iadd, 1) := by decide +kernel
theorem dX7_limit_38 : decode cX7_limit 38 = .ok (.iconst 4, 1) := by decide +kernel
theorem dX7_limit_39 : decode cX7_limit 39 = .ok (.iadd, 1) := by decide +kernel
theorem dX7_limit_40 : decode cX7_limit 40 = .ok (.iload_n 2, 1) := by decide +kernel
theorem dX7_limit_41 : decode cX7_limit 41 = .ok (.iastore, 1) := by decide +kernel
theorem dX7_limit_42 : decode cX7_limit 42 = .ok (.iload_n 3, 1) := by decide +kernel
theorem dX7_limit_43 : decode cX7_limit 43 = .ok (.ireturn, 1) := by decide +kernel
theorem dX7_as_0 : decode cX7_as 0 = .ok (.aload_n 0, 1) := by decide +kernel
theorem dX7_as_1 : decode cX7_as 1 = .ok (.iload_n 1, 1) := by decide +kernel
theorem dX7_as_2 : decode cX7_as 2 = .ok (.invokevirtual 68, 3) := by decide +kernel
theorem dX7_as_5 : decode cX7_as 5 = .ok (.ifCond .eq 12, 3) := by decide +kernel
theorem dX7_as_8 : decode cX7_as 8 = .ok (.iload_n 2, 1) := by decide +kernel
theorem dX7_as_9 : decode cX7_as 9 = .ok (.iconst 0, 1) := by decide +kernel
theorem dX7_as_10 : decode cX7_as 10 = .ok (.iconst 5, 1) := by decide +kernel
theorem dX7_as_11 : decode cX7_as 11 = .ok (.invokestatic 48, 3) := by decide +kernel
theorem dX7_as_14 : decode cX7_as 14 = .ok (.ifCond .ne 10, 3) := by decide +kernel
theorem dX7_as_17 : decode cX7_as 17 = .ok (.aload_n 0, 1) := by decide +kernel
theorem dX7_as_18 : decode cX7_as 18 = .ok (.ldc 62, 2) := by decide +kernel
theorem dX7_as_20 : decode cX7_as 20 = .ok (.invokevirtual 63, 3) := by decide +kernel
theorem dX7_as_23 : decode cX7_as 23 = .ok (.ireturn, 1) := by decide +kernel
theorem dX7_as_24 : decode cX7_as 24 = .ok (.aload_n 0, 1) := by decide +kernel
theorem dX7_as_25 : decode cX7_as 25 = .ok (.iload_n 1, 1) := by decide +kernel
theorem dX7_as_26 : decode cX7_as 26 = .ok (.invokevirtual 71, 3) := by decide +kernel
theorem dX7_as_29 : decode cX7_as 29 = .ok (.istore_n 3, 1) := by decide +kernel
theorem dX7_as_30 : decode cX7_as 30 = .ok (.iload_n 2, 1) := by decide +kernel
theorem dX7_as_31 : decode cX7_as 31 = .ok (.ifCond .eq 18, 3) := by decide +kernel
theorem dX7_as_34 : decode cX7_as 34 = .ok (.iload_n 2, 1) := by decide +kernel
theorem dX7_as_35 : decode cX7_as 35 = .ok (.iload_n 3, 1) := by decide +kernel
theorem dX7_as_36 : decode cX7_as 36 = .ok (.if_icmp .eq 13, 3) := by decide +kernel
theorem dX7_as_39 : decode cX7_as 39 = .ok (.iload_n 3, 1) := by decide +kernel
theorem dX7_as_40 : decode cX7_as 40 = .ok (.iconst 4, 1) := by decide +kernel
theorem dX7_as_41 : decode cX7_as 41 = .ok (.if_icmp .ne 12, 3) := by decide +kernel
theorem dX7_as_44 : decode cX7_as 44 = .ok (.iload_n 2, 1) := by decide +kernel
theorem dX7_as_45 : decode cX7_as 45 = .ok (.iconst 3, 1) := by decide +kernel
theorem dX7_as_46 : decode cX7_as 46 = .ok (.if_icmp .ne 7, 3) := by decide +kernel
theorem dX7_as_49 : decode cX7_as 49 = .ok (.iconst 1, 1) := by decide +kernel
theorem dX7_as_50 : decode cX7_as 50 = .ok (.goto 4, 3) := by decide +kernel
theorem dX7_as_53 : decode cX7_as 53 = .ok (.iconst 0, 1) := by decide +kernel
theorem dX7_as_54 : decode cX7_as 54 = .ok (.istore 4, 2) := by decide +kernel
theorem dX7_as_56 : decode cX7_as 56 = .ok (.iload 4, 2) := by decide +kernel
theorem dX7_as_58 : decode cX7_as 58 = .ok (.ifCond .eq 7, 3) := by decide +kernel
theorem dX7_as_61 : decode cX7_as 61 = .ok (.iload_n 1, 1) := by decide +kernel
theorem dX7_as_62 : decode cX7_as 62 = .ok (.goto 9, 3) := by decide +kernel
theorem dX7_as_65 : decode cX7_as 65 = .ok (.aload_n 0, 1) := by decide +kernel
theorem dX7_as_66 : decode cX7_as 66 = .ok (.ldc 74, 2) := by decide +kernel
theorem dX7_as_68 : decode cX7_as 68 = .ok (.invokevirtual 63, 3) := by decide +kernel
theorem dX7_as_71 : decode cX7_as 71 = .ok (.ireturn, 1) := by decide +kernel
theorem dX7_drawOf_0 : decode cX7_drawOf 0 = .ok (.aload_n 0, 1) := by decide +kernel
theorem dX7_drawOf_1 : decode cX7_drawOf 1 = .ok (.getfield 7, 3) := by decide +kernel
theorem dX7_drawOf_4 : decode cX7_drawOf 4 = .ok (.bipush 50, 2) := by decide +kernel
theorem dX7_drawOf_6 : decode cX7_drawOf 6 = .ok (.bipush 24, 2) := by decide +kernel
theorem dX7_drawOf_8 : decode cX7_drawOf 8 = .ok (.iload_n 1, 1) := by decide +kernel
theorem dX7_drawOf_9 : decode cX7_drawOf 9 = .ok (.imul, 1) := by decide +kernel
theorem dX7_drawOf_10 : decode cX7_drawOf 10 = .ok (.iadd, 1) := by decide +kernel
theorem dX7_drawOf_11 : decode cX7_drawOf 11 = .ok (.iload_n 2, 1) := by decide +kernel
theorem dX7_drawOf_12 : decode cX7_drawOf 12 = .ok (.iadd, 1) := by decide +kernel
theorem dX7_drawOf_13 : decode cX7_drawOf 13 = .ok (.iaload, 1) := by decide +kernel
theorem dX7_drawOf_14 : decode cX7_drawOf 14 = .ok (.ireturn, 1) := by decide +kernel
theorem dX7_of_0 : decode cX7_of 0 = .ok (.aload_n 0, 1) := by decide +kernel
theorem dX7_of_1 : decode cX7_of 1 = .ok (.iload_n 1, 1) := by decide +kernel
theorem dX7_of_2 : decode cX7_of 2 = .ok (.invokevirtual 68, 3) := by decide +kernel
theorem dX7_of_5 : decode cX7_of 5 = .ok (.ifCond .eq 12, 3) := by decide +kernel
theorem dX7_of_8 : decode cX7_of 8 = .ok (.iload_n 2, 1) := by decide +kernel
theorem dX7_of_9 : decode cX7_of 9 = .ok (.iconst 0, 1) := by decide +kernel
theorem dX7_of_10 : decode cX7_of 10 = .ok (.iconst 5, 1) := by decide +kernel
theorem dX7_of_11 : decode cX7_of 11 = .ok (.invokestatic 48, 3) := by decide +kernel
theorem dX7_of_14 : decode cX7_of 14 = .ok (.ifCond .ne 10, 3) := by decide +kernel
theorem dX7_of_17 : decode cX7_of 17 = .ok (.aload_n 0, 1) := by decide +kernel
theorem dX7_of_18 : decode cX7_of 18 = .ok (.ldc 62, 2) := by decide +kernel
theorem dX7_of_20 : decode cX7_of 20 = .ok (.invokevirtual 63, 3) := by decide +kernel
theorem dX7_of_23 : decode cX7_of 23 = .ok (.ireturn, 1) := by decide +kernel
theorem dX7_of_24 : decode cX7_of 24 = .ok (.iload_n 2, 1) := by decide +kernel
theorem dX7_of_25 : decode cX7_of 25 = .ok (.iconst 5, 1) := by decide +kernel
theorem dX7_of_26 : decode cX7_of 26 = .ok (.if_icmp .ge 10, 3) := by decide +kernel
theorem dX7_of_29 : decode cX7_of 29 = .ok (.aload_n 0, 1) := by decide +kernel
theorem dX7_of_30 : decode cX7_of 30 = .ok (.iload_n 1, 1) := by decide +kernel
theorem dX7_of_31 : decode cX7_of 31 = .ok (.iload_n 2, 1) := by decide +kernel
theorem dX7_of_32 : decode cX7_of 32 = .ok (.invokevirtual 54, 3) := by decide +kernel
theorem dX7_of_35 : decode cX7_of 35 = .ok (.ireturn, 1) := by decide +kernel
theorem dX7_of_36 : decode cX7_of 36 = .ok (.iconst 0, 1) := by decide +kernel
theorem dX7_of_37 : decode cX7_of 37 = .ok (.istore_n 3, 1) := by decide +kernel
theorem dX7_of_38 : decode cX7_of 38 = .ok (.iconst 0, 1) := by decide +kernel
theorem dX7_of_39 : decode cX7_of 39 = .ok (.istore 4, 2) := by decide +kernel
theorem dX7_of_41 : decode cX7_of 41 = .ok (.iload 4, 2) := by decide +kernel
theorem dX7_of_43 : decode cX7_of 43 = .ok (.bipush 24, 2) := by decide +kernel
theorem dX7_of_45 : decode cX7_of 45 = .ok (.if_icmp .ge 19, 3) := by decide +kernel
theorem dX7_of_48 : decode cX7_of 48 = .ok (.iload_n 3, 1) := by decide +kernel
theorem dX7_of_49 : decode cX7_of 49 = .ok (.aload_n 0, 1) := by decide +kernel
theorem dX7_of_50 : decode cX7_of 50 = .ok (.iload_n 1, 1) := by decide +kernel
theorem dX7_of_51 : decode cX7_of 51 = .ok (.iload 4, 2) := by decide +kernel
theorem dX7_of_53 : decode cX7_of 53 = .ok (.invokevirtual 75, 3) := by decide +kernel
theorem dX7_of_56 : decode cX7_of 56 = .ok (.iadd, 1) := by decide +kernel
theorem dX7_of_57 : decode cX7_of 57 = .ok (.istore_n 3, 1) := by decide +kernel
theorem dX7_of_58 : decode cX7_of 58 = .ok (.iinc 4 1, 3) := by decide +kernel
theorem dX7_of_61 : decode cX7_of 61 = .ok (.goto (-20), 3) := by decide +kernel
theorem dX7_of_64 : decode cX7_of 64 = .ok (.iload_n 3, 1) := by decide +kernel
theorem dX7_of_65 : decode cX7_of 65 = .ok (.ireturn, 1) := by decide +kernel
theorem dX7_apart_0 : decode cX7_apart 0 = .ok (.aload_n 0, 1) := by decide +kernel
theorem dX7_apart_1 : decode cX7_apart 1 = .ok (.iload_n 1, 1) := by decide +kernel
theorem dX7_apart_2 : decode cX7_apart 2 = .ok (.iconst 1, 1) := by decide +kernel
theorem dX7_apart_3 : decode cX7_apart 3 = .ok (.invokevirtual 54, 3) := by decide +kernel
theorem dX7_apart_6 : decode cX7_apart 6 = .ok (.aload_n 0, 1) := by decide +kernel
theorem dX7_apart_7 : decode cX7_apart 7 = .ok (.iload_n 2, 1) := by decide +kernel
theorem dX7_apart_8 : decode cX7_apart 8 = .ok (.iconst 1, 1) := by decide +kernel
theorem dX7_apart_9 : decode cX7_apart 9 = .ok (.invokevirtual 54, 3) := by decide +kernel
theorem dX7_apart_12 : decode cX7_apart 12 = .ok (.isub, 1) := by decide +kernel
theorem dX7_apart_13 : decode cX7_apart 13 = .ok (.istore_n 3, 1) := by decide +kernel
theorem dX7_apart_14 : decode cX7_apart 14 = .ok (.aload_n 0, 1) := by decide +kernel
theorem dX7_apart_15 : decode cX7_apart 15 = .ok (.iload_n 1, 1) := by decide +kernel
theorem dX7_apart_16 : decode cX7_apart 16 = .ok (.iconst 2, 1) := by decide +kernel
theorem dX7_apart_17 : decode cX7_apart 17 = .ok (.invokevirtual 54, 3) := by decide +kernel
theorem dX7_apart_20 : decode cX7_apart 20 = .ok (.aload_n 0, 1) := by decide +kernel
theorem dX7_apart_21 : decode cX7_apart 21 = .ok (.iload_n 2, 1) := by decide +kernel
theorem dX7_apart_22 : decode cX7_apart 22 = .ok (.iconst 2, 1) := by decide +kernel
theorem dX7_apart_23 : decode cX7_apart 23 = .ok (.invokevirtual 54, 3) := by decide +kernel
theorem dX7_apart_26 : decode cX7_apart 26 = .ok (.isub, 1) := by decide +kernel
theorem dX7_apart_27 : decode cX7_apart 27 = .ok (.istore 4, 2) := by decide +kernel
theorem dX7_apart_29 : decode cX7_apart 29 = .ok (.iload_n 3, 1) := by decide +kernel
theorem dX7_apart_30 : decode cX7_apart 30 = .ok (.ifCond .ge 8, 3) := by decide +kernel
theorem dX7_apart_33 : decode cX7_apart 33 = .ok (.iload_n 3, 1) := by decide +kernel
theorem dX7_apart_34 : decode cX7_apart 34 = .ok (.ineg, 1) := by decide +kernel
theorem dX7_apart_35 : decode cX7_apart 35 = .ok (.goto 4, 3) := by decide +kernel
theorem dX7_apart_38 : decode cX7_apart 38 = .ok (.iload_n 3, 1) := by decide +kernel
theorem dX7_apart_39 : decode cX7_apart 39 = .ok (.istore_n 3, 1) := by decide +kernel
theorem dX7_apart_40 : decode cX7_apart 40 = .ok (.iload 4, 2) := by decide +kernel
theorem dX7_apart_42 : decode cX7_apart 42 = .ok (.ifCond .ge 9, 3) := by decide +kernel
theorem dX7_apart_45 : decode cX7_apart 45 = .ok (.iload 4, 2) := by decide +kernel
theorem dX7_apart_47 : decode cX7_apart 47 = .ok (.ineg, 1) := by decide +kernel
theorem dX7_apart_48 : decode cX7_apart 48 = .ok (.goto 5, 3) := by decide +kernel
theorem dX7_apart_51 : decode cX7_apart 51 = .ok (.iload 4, 2) := by decide +kernel
theorem dX7_apart_53 : decode cX7_apart 53 = .ok (.istore 4, 2) := by decide +kernel
theorem dX7_apart_55 : decode cX7_apart 55 = .ok (.iload_n 3, 1) := by decide +kernel
theorem dX7_apart_56 : decode cX7_apart 56 = .ok (.iload 4, 2) := by decide +kernel
theorem dX7_apart_58 : decode cX7_apart 58 = .ok (.if_icmp .le 7, 3) := by decide +kernel
theorem dX7_apart_61 : decode cX7_apart 61 = .ok (.iload_n 3, 1) := by decide +kernel
theorem dX7_apart_62 : decode cX7_apart 62 = .ok (.goto 5, 3) := by decide +kernel
theorem dX7_apart_65 : decode cX7_apart 65 = .ok (.iload 4, 2) := by decide +kernel
theorem dX7_apart_67 : decode cX7_apart 67 = .ok (.istore 5, 2) := by decide +kernel
theorem dX7_apart_69 : decode cX7_apart 69 = .ok (.iload 5, 2) := by decide +kernel
theorem dX7_apart_71 : decode cX7_apart 71 = .ok (.bipush 9, 2) := by decide +kernel
theorem dX7_apart_73 : decode cX7_apart 73 = .ok (.if_icmp .le 8, 3) := by decide +kernel
theorem dX7_apart_76 : decode cX7_apart 76 = .ok (.bipush 9, 2) := by decide +kernel
theorem dX7_apart_78 : decode cX7_apart 78 = .ok (.goto 5, 3) := by decide +kernel
theorem dX7_apart_81 : decode cX7_apart 81 = .ok (.iload 5, 2) := by decide +kernel
theorem dX7_apart_83 : decode cX7_apart 83 = .ok (.ireturn, 1) := by decide +kernel
theorem dX7_distance_0 : decode cX7_distance 0 = .ok (.aload_n 0, 1) := by decide +kernel
theorem dX7_distance_1 : decode cX7_distance 1 = .ok (.iload_n 1, 1) := by decide +kernel
theorem dX7_distance_2 : decode cX7_distance 2 = .ok (.invokevirtual 68, 3) := by decide +kernel
theorem dX7_distance_5 : decode cX7_distance 5 = .ok (.ifCond .eq 20, 3) := by decide +kernel
theorem dX7_distance_8 : decode cX7_distance 8 = .ok (.aload_n 0, 1) := by decide +kernel
theorem dX7_distance_9 : decode cX7_distance 9 = .ok (.iload_n 2, 1) := by decide +kernel
theorem dX7_distance_10 : decode cX7_distance 10 = .ok (.invokevirtual 68, 3) := by decide +kernel
theorem dX7_distance_13 : decode cX7_distance 13 = .ok (.ifCond .eq 12, 3) := by decide +kernel
theorem dX7_distance_16 : decode cX7_distance 16 = .ok (.aload_n 0, 1) := by decide +kernel
theorem dX7_distance_17 : decode cX7_distance 17 = .ok (.iload_n 1, 1) := by decide +kernel
theorem dX7_distance_18 : decode cX7_distance 18 = .ok (.iload_n 2, 1) := by decide +kernel
theorem dX7_distance_19 : decode cX7_distance 19 = .ok (.invokevirtual 78, 3) := by decide +kernel
theorem dX7_distance_22 : decode cX7_distance 22 = .ok (.goto 9, 3) := by decide +kernel
theorem dX7_distance_25 : decode cX7_distance 25 = .ok (.aload_n 0, 1) := by decide +kernel
theorem dX7_distance_26 : decode cX7_distance 26 = .ok (.ldc 62, 2) := by decide +kernel
theorem dX7_distance_28 : decode cX7_distance 28 = .ok (.invokevirtual 63, 3) := by decide +kernel
theorem dX7_distance_31 : decode cX7_distance 31 = .ok (.ireturn, 1) := by decide +kernel
theorem dX7_cell_0 : decode cX7_cell 0 = .ok (.sipush 290, 3) := by decide +kernel
theorem dX7_cell_3 : decode cX7_cell 3 = .ok (.bipush 120, 2) := by decide +kernel
theorem dX7_cell_5 : decode cX7_cell 5 = .ok (.iload_n 0, 1) := by decide +kernel
theorem dX7_cell_6 : decode cX7_cell 6 = .ok (.imul, 1) := by decide +kernel
theorem dX7_cell_7 : decode cX7_cell 7 = .ok (.iadd, 1) := by decide +kernel
theorem dX7_cell_8 : decode cX7_cell 8 = .ok (.bipush 12, 2) := by decide +kernel
theorem dX7_cell_10 : decode cX7_cell 10 = .ok (.iload_n 1, 1) := by decide +kernel
theorem dX7_cell_11 : decode cX7_cell 11 = .ok (.imul, 1) := by decide +kernel
theorem dX7_cell_12 : decode cX7_cell 12 = .ok (.iadd, 1) := by decide +kernel
theorem dX7_cell_13 : decode cX7_cell 13 = .ok (.iload_n 2, 1) := by decide +kernel
theorem dX7_cell_14 : decode cX7_cell 14 = .ok (.iadd, 1) := by decide +kernel
theorem dX7_cell_15 : decode cX7_cell 15 = .ok (.ireturn, 1) := by decide +kernel
theorem dX7_table_0 : decode cX7_table 0 = .ok (.iload_n 1, 1) := by decide +kernel
theorem dX7_table_1 : decode cX7_table 1 = .ok (.iconst 0, 1) := by decide +kernel
theorem dX7_table_2 : decode cX7_table 2 = .ok (.iconst 1, 1) := by decide +kernel
theorem dX7_table_3 : decode cX7_table 3 = .ok (.invokestatic 48, 3) := by decide +kernel
theorem dX7_table_6 : decode cX7_table 6 = .ok (.ifCond .eq 35, 3) := by decide +kernel
theorem dX7_table_9 : decode cX7_table 9 = .ok (.iload_n 2, 1) := by decide +kernel
theorem dX7_table_10 : decode cX7_table 10 = .ok (.iconst 0, 1) := by decide +kernel
theorem dX7_table_11 : decode cX7_table 11 = .ok (.bipush 9, 2) := by decide +kernel
theorem dX7_table_13 : decode cX7_table 13 = .ok (.invokestatic 48, 3) := by decide +kernel
theorem dX7_table_16 : decode cX7_table 16 = .ok (.ifCond .eq 25, 3) := by decide +kernel
theorem dX7_table_19 : decode cX7_table 19 = .ok (.iload_n 3, 1) := by decide +kernel
theorem dX7_table_20 : decode cX7_table 20 = .ok (.iconst 0, 1) := by decide +kernel
theorem dX7_table_21 : decode cX7_table 21 = .ok (.bipush 11, 2) := by decide +kernel
theorem dX7_table_23 : decode cX7_table 23 = .ok (.invokestatic 48, 3) := by decide +kernel
theorem dX7_table_26 : decode cX7_table 26 = .ok (.ifCond .eq 15, 3) := by decide +kernel
theorem dX7_table_29 : decode cX7_table 29 = .ok (.iload 4, 2) := by decide +kernel
theorem dX7_table_31 : decode cX7_table 31 = .ok (.iconst 0, 1) := by decide +kernel
theorem dX7_table_32 : decode cX7_table 32 = .ok (.sipush 1000, 3) := by decide +kernel
theorem dX7_table_35 : decode cX7_table 35 = .ok (.invokestatic 48, 3) := by decide +kernel
theorem dX7_table_38 : decode cX7_table 38 = .ok (.ifCond .ne 10, 3) := by decide +kernel
theorem dX7_table_41 : decode cX7_table 41 = .ok (.aload_n 0, 1) := by decide +kernel
theorem dX7_table_42 : decode cX7_table 42 = .ok (.ldc 62, 2) := by decide +kernel
theorem dX7_table_44 : decode cX7_table 44 = .ok (.invokevirtual 63, 3) := by decide +kernel
theorem dX7_table_47 : decode cX7_table 47 = .ok (.ireturn, 1) := by decide +kernel
theorem dX7_table_48 : decode cX7_table 48 = .ok (.iload_n 2, 1) := by decide +kernel
theorem dX7_table_49 : decode cX7_table 49 = .ok (.ifCond .le 21, 3) := by decide +kernel
theorem dX7_table_52 : decode cX7_table 52 = .ok (.iload 4, 2) := by decide +kernel
theorem dX7_table_54 : decode cX7_table 54 = .ok (.aload_n 0, 1) := by decide +kernel
theorem dX7_table_55 : decode cX7_table 55 = .ok (.getfield 7, 3) := by decide +kernel
theorem dX7_table_58 : decode cX7_table 58 = .ok (.iload_n 1, 1) := by decide +kernel
theorem dX7_table_59 : decode cX7_table 59 = .ok (.iload_n 2, 1) := by decide +kernel
theorem dX7_table_60 : decode cX7_table 60 = .ok (.iconst 1, 1) := by decide +kernel
theorem dX7_table_61 : decode cX7_table 61 = .ok (.isub, 1) := by decide +kernel
theorem dX7_table_62 : decode cX7_table 62 = .ok (.iload_n 3, 1) := by decide +kernel
theorem dX7_table_63 : decode cX7_table 63 = .ok (.invokestatic 81, 3) := by decide +kernel
theorem dX7_table_66 : decode cX7_table 66 = .ok (.iaload, 1) := by decide +kernel
theorem dX7_table_67 : decode cX7_table 67 = .ok (.if_icmp .gt 27, 3) := by decide +kernel
theorem dX7_table_70 : decode cX7_table 70 = .ok (.iload_n 2, 1) := by decide +kernel
theorem dX7_table_71 : decode cX7_table 71 = .ok (.bipush 9, 2) := by decide +kernel
theorem dX7_table_73 : decode cX7_table 73 = .ok (.if_icmp .ge 28, 3) := by decide +kernel
theorem dX7_table_76 : decode cX7_table 76 = .ok (.iload 4, 2) := by decide +kernel
theorem dX7_table_78 : decode cX7_table 78 = .ok (.aload_n 0, 1) := by decide +kernel
theorem dX7_table_79 : decode cX7_table 79 = .ok (.getfield 7, 3) := by decide +kernel
theorem dX7_table_82 : decode cX7_table 82 = .ok (.iload_n 1, 1) := by decide +kernel
theorem dX7_table_83 : decode cX7_table 83 = .ok (.iload_n 2, 1) := by decide +kernel
theorem dX7_table_84 : decode cX7_table 84 = .ok (.iconst 1, 1) := by decide +kernel
theorem dX7_table_85 : decode cX7_table 85 = .ok (.iadd, 1) := by decide +kernel
theorem dX7_table_86 : decode cX7_table 86 = .ok (.iload_n 3, 1) := by decide +kernel
theorem dX7_table_87 : decode cX7_table 87 = .ok (.invokestatic 81, 3) := by decide +kernel
theorem dX7_table_90 : decode cX7_table 90 = .ok (.iaload, 1) := by decide +kernel
theorem dX7_table_91 : decode cX7_table 91 = .ok (.if_icmp .ge 10, 3) := by decide +kernel
theorem dX7_table_94 : decode cX7_table 94 = .ok (.aload_n 0, 1) := by decide +kernel
theorem dX7_table_95 : decode cX7_table 95 = .ok (.ldc 85, 2) := by decide +kernel
theorem dX7_table_97 : decode cX7_table 97 = .ok (.invokevirtual 63, 3) := by decide +kernel
theorem dX7_table_100 : decode cX7_table 100 = .ok (.ireturn, 1) := by decide +kernel
theorem dX7_table_101 : decode cX7_table 101 = .ok (.aload_n 0, 1) := by decide +kernel
theorem dX7_table_102 : decode cX7_table 102 = .ok (.getfield 7, 3) := by decide +kernel
theorem dX7_table_105 : decode cX7_table 105 = .ok (.iload_n 1, 1) := by decide +kernel
theorem dX7_table_106 : decode cX7_table 106 = .ok (.iload_n 2, 1) := by decide +kernel
theorem dX7_table_107 : decode cX7_table 107 = .ok (.iload_n 3, 1) := by decide +kernel
theorem dX7_table_108 : decode cX7_table 108 = .ok (.invokestatic 81, 3) := by decide +kernel
theorem dX7_table_111 : decode cX7_table 111 = .ok (.iaload, 1) := by decide +kernel
theorem dX7_table_112 : decode cX7_table 112 = .ok (.istore 5, 2) := by decide +kernel
theorem dX7_table_114 : decode cX7_table 114 = .ok (.aload_n 0, 1) := by decide +kernel
theorem dX7_table_115 : decode cX7_table 115 = .ok (.getfield 7, 3) := by decide +kernel
theorem dX7_table_118 : decode cX7_table 118 = .ok (.iload_n 1, 1) := by decide +kernel
theorem dX7_table_119 : decode cX7_table 119 = .ok (.iload_n 2, 1) := by decide +kernel
theorem dX7_table_120 : decode cX7_table 120 = .ok (.iload_n 3, 1) := by decide +kernel
theorem dX7_table_121 : decode cX7_table 121 = .ok (.invokestatic 81, 3) := by decide +kernel
theorem dX7_table_124 : decode cX7_table 124 = .ok (.iload 4, 2) := by decide +kernel
theorem dX7_table_126 : decode cX7_table 126 = .ok (.iastore, 1) := by decide +kernel
theorem dX7_table_127 : decode cX7_table 127 = .ok (.iload 5, 2) := by decide +kernel
theorem dX7_table_129 : decode cX7_table 129 = .ok (.ireturn, 1) := by decide +kernel
theorem dX7_rainTable_0 : decode cX7_rainTable 0 = .ok (.iload_n 1, 1) := by decide +kernel
theorem dX7_rainTable_1 : decode cX7_rainTable 1 = .ok (.iconst 0, 1) := by decide +kernel
theorem dX7_rainTable_2 : decode cX7_rainTable 2 = .ok (.bipush 11, 2) := by decide +kernel
theorem dX7_rainTable_4 : decode cX7_rainTable 4 = .ok (.invokestatic 48, 3) := by decide +kernel
theorem dX7_rainTable_7 : decode cX7_rainTable 7 = .ok (.ifCond .eq 14, 3) := by decide +kernel
theorem dX7_rainTable_10 : decode cX7_rainTable 10 = .ok (.iload_n 2, 1) := by decide +kernel
theorem dX7_rainTable_11 : decode cX7_rainTable 11 = .ok (.iconst 0, 1) := by decide +kernel
theorem dX7_rainTable_12 : decode cX7_rainTable 12 = .ok (.sipush 1000, 3) := by decide +kernel
theorem dX7_rainTable_15 : decode cX7_rainTable 15 = .ok (.invokestatic 48, 3) := by decide +kernel
theorem dX7_rainTable_18 : decode cX7_rainTable 18 = .ok (.ifCond .ne 10, 3) := by decide +kernel
theorem dX7_rainTable_21 : decode cX7_rainTable 21 = .ok (.aload_n 0, 1) := by decide +kernel
theorem dX7_rainTable_22 : decode cX7_rainTable 22 = .ok (.ldc 62, 2) := by decide +kernel
theorem dX7_rainTable_24 : decode cX7_rainTable 24 = .ok (.invokevirtual 63, 3) := by decide +kernel
theorem dX7_rainTable_27 : decode cX7_rainTable 27 = .ok (.ireturn, 1) := by decide +kernel
theorem dX7_rainTable_28 : decode cX7_rainTable 28 = .ok (.aload_n 0, 1) := by decide +kernel
theorem dX7_rainTable_29 : decode cX7_rainTable 29 = .ok (.getfield 7, 3) := by decide +kernel
theorem dX7_rainTable_32 : decode cX7_rainTable 32 = .ok (.sipush 530, 3) := by decide +kernel
theorem dX7_rainTable_35 : decode cX7_rainTable 35 = .ok (.iload_n 1, 1) := by decide +kernel
theorem dX7_rainTable_36 : decode cX7_rainTable 36 = .ok (.iadd, 1) := by decide +kernel
theorem dX7_rainTable_37 : decode cX7_rainTable 37 = .ok (.iaload, 1) := by decide +kernel
theorem dX7_rainTable_38 : decode cX7_rainTable 38 = .ok (.istore_n 3, 1) := by decide +kernel
theorem dX7_rainTable_39 : decode cX7_rainTable 39 = .ok (.aload_n 0, 1) := by decide +kernel
theorem dX7_rainTable_40 : decode cX7_rainTable 40 = .ok (.getfield 7, 3) := by decide +kernel
theorem dX7_rainTable_43 : decode cX7_rainTable 43 = .ok (.sipush 530, 3) := by decide +kernel
theorem dX7_rainTable_46 : decode cX7_rainTable 46 = .ok (.iload_n 1, 1) := by decide +kernel
theorem dX7_rainTable_47 : decode cX7_rainTable 47 = .ok (.iadd, 1) := by decide +kernel
theorem dX7_rainTable_48 : decode cX7_rainTable 48 = .ok (.iload_n 2, 1) := by decide +kernel
theorem dX7_rainTable_49 : decode cX7_rainTable 49 = .ok (.iastore, 1) := by decide +kernel
theorem dX7_rainTable_50 : decode cX7_rainTable 50 = .ok (.iload_n 3, 1) := by decide +kernel
theorem dX7_rainTable_51 : decode cX7_rainTable 51 = .ok (.ireturn, 1) := by decide +kernel
theorem dX7_isSheet_0 : decode cX7_isSheet 0 = .ok (.iload_n 0, 1) := by decide +kernel
theorem dX7_isSheet_1 : decode cX7_isSheet 1 = .ok (.iconst 0, 1) := by decide +kernel
theorem dX7_isSheet_2 : decode cX7_isSheet 2 = .ok (.iconst 3, 1) := by decide +kernel
theorem dX7_isSheet_3 : decode cX7_isSheet 3 = .ok (.invokestatic 48, 3) := by decide +kernel
theorem dX7_isSheet_6 : decode cX7_isSheet 6 = .ok (.ireturn, 1) := by decide +kernel
theorem dX7_sheet_0 : decode cX7_sheet 0 = .ok (.iload_n 1, 1) := by decide +kernel
theorem dX7_sheet_1 : decode cX7_sheet 1 = .ok (.invokestatic 86, 3) := by decide +kernel
theorem dX7_sheet_4 : decode cX7_sheet 4 = .ok (.ifCond .eq 12, 3) := by decide +kernel
theorem dX7_sheet_7 : decode cX7_sheet 7 = .ok (.iload_n 2, 1) := by decide +kernel
theorem dX7_sheet_8 : decode cX7_sheet 8 = .ok (.iconst 0, 1) := by decide +kernel
theorem dX7_sheet_9 : decode cX7_sheet 9 = .ok (.iconst 2, 1) := by decide +kernel
theorem dX7_sheet_10 : decode cX7_sheet 10 = .ok (.invokestatic 48, 3) := by decide +kernel
theorem dX7_sheet_13 : decode cX7_sheet 13 = .ok (.ifCond .ne 10, 3) := by decide +kernel
theorem dX7_sheet_16 : decode cX7_sheet 16 = .ok (.aload_n 0, 1) := by decide +kernel
theorem dX7_sheet_17 : decode cX7_sheet 17 = .ok (.ldc 62, 2) := by decide +kernel
theorem dX7_sheet_19 : decode cX7_sheet 19 = .ok (.invokevirtual 63, 3) := by decide +kernel
theorem dX7_sheet_22 : decode cX7_sheet 22 = .ok (.ireturn, 1) := by decide +kernel
theorem dX7_sheet_23 : decode cX7_sheet 23 = .ok (.iload_n 3, 1) := by decide +kernel
theorem dX7_sheet_24 : decode cX7_sheet 24 = .ok (.ifCond .ge 10, 3) := by decide +kernel
theorem dX7_sheet_27 : decode cX7_sheet 27 = .ok (.aload_n 0, 1) := by decide +kernel
theorem dX7_sheet_28 : decode cX7_sheet 28 = .ok (.ldc 85, 2) := by decide +kernel
theorem dX7_sheet_30 : decode cX7_sheet 30 = .ok (.invokevirtual 63, 3) := by decide +kernel
theorem dX7_sheet_33 : decode cX7_sheet 33 = .ok (.ireturn, 1) := by decide +kernel
theorem dX7_sheet_34 : decode cX7_sheet 34 = .ok (.iload_n 3, 1) := by decide +kernel
theorem dX7_sheet_35 : decode cX7_sheet 35 = .ok (.bipush 24, 2) := by decide +kernel
theorem dX7_sheet_37 : decode cX7_sheet 37 = .ok (.if_icmp .le 10, 3) := by decide +kernel
theorem dX7_sheet_40 : decode cX7_sheet 40 = .ok (.aload_n 0, 1) := by decide +kernel
theorem dX7_sheet_41 : decode cX7_sheet 41 = .ok (.ldc 62, 2) := by decide +kernel
theorem dX7_sheet_43 : decode cX7_sheet 43 = .ok (.invokevirtual 63, 3) := by decide +kernel
theorem dX7_sheet_46 : decode cX7_sheet 46 = .ok (.ireturn, 1) := by decide +kernel
theorem dX7_sheet_47 : decode cX7_sheet 47 = .ok (.aload_n 0, 1) := by decide +kernel
theorem dX7_sheet_48 : decode cX7_sheet 48 = .ok (.getfield 16, 3) := by decide +kernel
theorem dX7_sheet_51 : decode cX7_sheet 51 = .ok (.iload_n 1, 1) := by decide +kernel
theorem dX7_sheet_52 : decode cX7_sheet 52 = .ok (.iload_n 2, 1) := by decide +kernel
theorem dX7_sheet_53 : decode cX7_sheet 53 = .ok (.iastore, 1) := by decide +kernel
theorem dX7_sheet_54 : decode cX7_sheet 54 = .ok (.aload_n 0, 1) := by decide +kernel
theorem dX7_sheet_55 : decode cX7_sheet 55 = .ok (.getfield 19, 3) := by decide +kernel
theorem dX7_sheet_58 : decode cX7_sheet 58 = .ok (.iload_n 1, 1) := by decide +kernel
theorem dX7_sheet_59 : decode cX7_sheet 59 = .ok (.iload_n 2, 1) := by decide +kernel
theorem dX7_sheet_60 : decode cX7_sheet 60 = .ok (.ifCond .ne 7, 3) := by decide +kernel
theorem dX7_sheet_63 : decode cX7_sheet 63 = .ok (.iconst 0, 1) := by decide +kernel
theorem dX7_sheet_64 : decode cX7_sheet 64 = .ok (.goto 4, 3) := by decide +kernel
theorem dX7_sheet_67 : decode cX7_sheet 67 = .ok (.iload_n 3, 1) := by decide +kernel
theorem dX7_sheet_68 : decode cX7_sheet 68 = .ok (.iastore, 1) := by decide +kernel
theorem dX7_sheet_69 : decode cX7_sheet 69 = .ok (.iconst 0, 1) := by decide +kernel
theorem dX7_sheet_70 : decode cX7_sheet 70 = .ok (.istore 4, 2) := by decide +kernel
theorem dX7_sheet_72 : decode cX7_sheet 72 = .ok (.iload 4, 2) := by decide +kernel
theorem dX7_sheet_74 : decode cX7_sheet 74 = .ok (.bipush 24, 2) := by decide +kernel
theorem dX7_sheet_76 : decode cX7_sheet 76 = .ok (.if_icmp .ge 22, 3) := by decide +kernel
theorem dX7_sheet_79 : decode cX7_sheet 79 = .ok (.aload_n 0, 1) := by decide +kernel
theorem dX7_sheet_80 : decode cX7_sheet 80 = .ok (.getfield 22, 3) := by decide +kernel
theorem dX7_sheet_83 : decode cX7_sheet 83 = .ok (.bipush 24, 2) := by decide +kernel
theorem dX7_sheet_85 : decode cX7_sheet 85 = .ok (.iload_n 1, 1) := by decide +kernel
theorem dX7_sheet_86 : decode cX7_sheet 86 = .ok (.imul, 1) := by decide +kernel
theorem dX7_sheet_87 : decode cX7_sheet 87 = .ok (.iload 4, 2) := by decide +kernel
theorem dX7_sheet_89 : decode cX7_sheet 89 = .ok (.iadd, 1) := by decide +kernel
theorem dX7_sheet_90 : decode cX7_sheet 90 = .ok (.iconst 0, 1) := by decide +kernel
theorem dX7_sheet_91 : decode cX7_sheet 91 = .ok (.iastore, 1) := by decide +kernel
theorem dX7_sheet_92 : decode cX7_sheet 92 = .ok (.iinc 4 1, 3) := by decide +kernel
theorem dX7_sheet_95 : decode cX7_sheet 95 = .ok (.goto (-23), 3) := by decide +kernel
theorem dX7_sheet_98 : decode cX7_sheet 98 = .ok (.aload_n 0, 1) := by decide +kernel
theorem dX7_sheet_99 : decode cX7_sheet 99 = .ok (.getfield 19, 3) := by decide +kernel
theorem dX7_sheet_102 : decode cX7_sheet 102 = .ok (.iload_n 1, 1) := by decide +kernel
theorem dX7_sheet_103 : decode cX7_sheet 103 = .ok (.iaload, 1) := by decide +kernel
theorem dX7_sheet_104 : decode cX7_sheet 104 = .ok (.ireturn, 1) := by decide +kernel
theorem dX7_isNone_0 : decode cX7_isNone 0 = .ok (.iload_n 0, 1) := by decide +kernel
theorem dX7_isNone_1 : decode cX7_isNone 1 = .ok (.ldc 89, 2) := by decide +kernel
theorem dX7_isNone_3 : decode cX7_isNone 3 = .ok (.iand, 1) := by decide +kernel
theorem dX7_isNone_4 : decode cX7_isNone 4 = .ok (.ldc 90, 2) := by decide +kernel
theorem dX7_isNone_6 : decode cX7_isNone 6 = .ok (.if_icmp .le 7, 3) := by decide +kernel
theorem dX7_isNone_9 : decode cX7_isNone 9 = .ok (.iconst 1, 1) := by decide +kernel
theorem dX7_isNone_10 : decode cX7_isNone 10 = .ok (.goto 4, 3) := by decide +kernel
theorem dX7_isNone_13 : decode cX7_isNone 13 = .ok (.iconst 0, 1) := by decide +kernel
theorem dX7_isNone_14 : decode cX7_isNone 14 = .ok (.ireturn, 1) := by decide +kernel
theorem dX7_put_0 : decode cX7_put 0 = .ok (.iload_n 1, 1) := by decide +kernel
theorem dX7_put_1 : decode cX7_put 1 = .ok (.invokestatic 86, 3) := by decide +kernel
theorem dX7_put_4 : decode cX7_put 4 = .ok (.ifCond .ne 10, 3) := by decide +kernel
theorem dX7_put_7 : decode cX7_put 7 = .ok (.aload_n 0, 1) := by decide +kernel
theorem dX7_put_8 : decode cX7_put 8 = .ok (.ldc 62, 2) := by decide +kernel
theorem dX7_put_10 : decode cX7_put 10 = .ok (.invokevirtual 63, 3) := by decide +kernel
theorem dX7_put_13 : decode cX7_put 13 = .ok (.ireturn, 1) := by decide +kernel
theorem dX7_put_14 : decode cX7_put 14 = .ok (.aload_n 0, 1) := by decide +kernel
theorem dX7_put_15 : decode cX7_put 15 = .ok (.getfield 16, 3) := by decide +kernel
theorem dX7_put_18 : decode cX7_put 18 = .ok (.iload_n 1, 1) := by decide +kernel
theorem dX7_put_19 : decode cX7_put 19 = .ok (.iaload, 1) := by decide +kernel
theorem dX7_put_20 : decode cX7_put 20 = .ok (.ifCond .ne 10, 3) := by decide +kernel
theorem dX7_put_23 : decode cX7_put 23 = .ok (.aload_n 0, 1) := by decide +kernel
theorem dX7_put_24 : decode cX7_put 24 = .ok (.ldc 91, 2) := by decide +kernel
theorem dX7_put_26 : decode cX7_put 26 = .ok (.invokevirtual 63, 3) := by decide +kernel
theorem dX7_put_29 : decode cX7_put 29 = .ok (.ireturn, 1) := by decide +kernel
theorem dX7_put_30 : decode cX7_put 30 = .ok (.iload_n 2, 1) := by decide +kernel
theorem dX7_put_31 : decode cX7_put 31 = .ok (.iconst 0, 1) := by decide +kernel
theorem dX7_put_32 : decode cX7_put 32 = .ok (.aload_n 0, 1) := by decide +kernel
theorem dX7_put_33 : decode cX7_put 33 = .ok (.getfield 19, 3) := by decide +kernel
theorem dX7_put_36 : decode cX7_put 36 = .ok (.iload_n 1, 1) := by decide +kernel
theorem dX7_put_37 : decode cX7_put 37 = .ok (.iaload, 1) := by decide +kernel
theorem dX7_put_38 : decode cX7_put 38 = .ok (.iconst 1, 1) := by decide +kernel
theorem dX7_put_39 : decode cX7_put 39 = .ok (.isub, 1) := by decide +kernel
theorem dX7_put_40 : decode cX7_put 40 = .ok (.invokestatic 48, 3) := by decide +kernel
theorem dX7_put_43 : decode cX7_put 43 = .ok (.ifCond .ne 10, 3) := by decide +kernel
theorem dX7_put_46 : decode cX7_put 46 = .ok (.aload_n 0, 1) := by decide +kernel
theorem dX7_put_47 : decode cX7_put 47 = .ok (.ldc 62, 2) := by decide +kernel
theorem dX7_put_49 : decode cX7_put 49 = .ok (.invokevirtual 63, 3) := by decide +kernel
theorem dX7_put_52 : decode cX7_put 52 = .ok (.ireturn, 1) := by decide +kernel
theorem dX7_put_53 : decode cX7_put 53 = .ok (.aload_n 0, 1) := by decide +kernel
theorem dX7_put_54 : decode cX7_put 54 = .ok (.getfield 22, 3) := by decide +kernel
theorem dX7_put_57 : decode cX7_put 57 = .ok (.bipush 24, 2) := by decide +kernel
theorem dX7_put_59 : decode cX7_put 59 = .ok (.iload_n 1, 1) := by decide +kernel
theorem dX7_put_60 : decode cX7_put 60 = .ok (.imul, 1) := by decide +kernel
theorem dX7_put_61 : decode cX7_put 61 = .ok (.iload_n 2, 1) := by decide +kernel
theorem dX7_put_62 : decode cX7_put 62 = .ok (.iadd, 1) := by decide +kernel
theorem dX7_put_63 : decode cX7_put 63 = .ok (.aload_n 0, 1) := by decide +kernel
theorem dX7_put_64 : decode cX7_put 64 = .ok (.getfield 16, 3) := by decide +kernel
theorem dX7_put_67 : decode cX7_put 67 = .ok (.iload_n 1, 1) := by decide +kernel
theorem dX7_put_68 : decode cX7_put 68 = .ok (.iaload, 1) := by decide +kernel
theorem dX7_put_69 : decode cX7_put 69 = .ok (.iconst 2, 1) := by decide +kernel
theorem dX7_put_70 : decode cX7_put 70 = .ok (.if_icmp .ne 15, 3) := by decide +kernel
theorem dX7_put_73 : decode cX7_put 73 = .ok (.iload_n 3, 1) := by decide +kernel
theorem dX7_put_74 : decode cX7_put 74 = .ok (.invokestatic 92, 3) := by decide +kernel
theorem dX7_put_77 : decode cX7_put 77 = .ok (.ifCond .eq 8, 3) := by decide +kernel
theorem dX7_put_80 : decode cX7_put 80 = .ok (.ldc 95, 2) := by decide +kernel
theorem dX7_put_82 : decode cX7_put 82 = .ok (.goto 4, 3) := by decide +kernel
theorem dX7_put_85 : decode cX7_put 85 = .ok (.iload_n 3, 1) := by decide +kernel
theorem dX7_put_86 : decode cX7_put 86 = .ok (.iastore, 1) := by decide +kernel
theorem dX7_put_87 : decode cX7_put 87 = .ok (.iconst 0, 1) := by decide +kernel
theorem dX7_put_88 : decode cX7_put 88 = .ok (.ireturn, 1) := by decide +kernel
theorem dX7_copy_0 : decode cX7_copy 0 = .ok (.iload_n 1, 1) := by decide +kernel
theorem dX7_copy_1 : decode cX7_copy 1 = .ok (.invokestatic 86, 3) := by decide +kernel
theorem dX7_copy_4 : decode cX7_copy 4 = .ok (.ifCond .eq 10, 3) := by decide +kernel
theorem dX7_copy_7 : decode cX7_copy 7 = .ok (.iload_n 3, 1) := by decide +kernel
theorem dX7_copy_8 : decode cX7_copy 8 = .ok (.invokestatic 86, 3) := by decide +kernel
theorem dX7_copy_11 : decode cX7_copy 11 = .ok (.ifCond .ne 10, 3) := by decide +kernel
theorem dX7_copy_14 : decode cX7_copy 14 = .ok (.aload_n 0, 1) := by decide +kernel
theorem dX7_copy_15 : decode cX7_copy 15 = .ok (.ldc 62, 2) := by decide +kernel
theorem dX7_copy_17 : decode cX7_copy 17 = .ok (.invokevirtual 63, 3) := by decide +kernel
theorem dX7_copy_20 : decode cX7_copy 20 = .ok (.ireturn, 1) := by decide +kernel
theorem dX7_copy_21 : decode cX7_copy 21 = .ok (.aload_n 0, 1) := by decide +kernel
theorem dX7_copy_22 : decode cX7_copy 22 = .ok (.getfield 16, 3) := by decide +kernel
theorem dX7_copy_25 : decode cX7_copy 25 = .ok (.iload_n 1, 1) := by decide +kernel
theorem dX7_copy_26 : decode cX7_copy 26 = .ok (.iaload, 1) := by decide +kernel
theorem dX7_copy_27 : decode cX7_copy 27 = .ok (.ifCond .eq 12, 3) := by decide +kernel
theorem dX7_copy_30 : decode cX7_copy 30 = .ok (.aload_n 0, 1) := by decide +kernel
theorem dX7_copy_31 : decode cX7_copy 31 = .ok (.getfield 16, 3) := by decide +kernel
theorem dX7_copy_34 : decode cX7_copy 34 = .ok (.iload_n 3, 1) := by decide +kernel
theorem dX7_copy_35 : decode cX7_copy 35 = .ok (.iaload, 1) := by decide +kernel
theorem dX7_copy_36 : decode cX7_copy 36 = .ok (.ifCond .ne 10, 3) := by decide +kernel
theorem dX7_copy_39 : decode cX7_copy 39 = .ok (.aload_n 0, 1) := by decide +kernel
theorem dX7_copy_40 : decode cX7_copy 40 = .ok (.ldc 91, 2) := by decide +kernel
theorem dX7_copy_42 : decode cX7_copy 42 = .ok (.invokevirtual 63, 3) := by decide +kernel
theorem dX7_copy_45 : decode cX7_copy 45 = .ok (.ireturn, 1) := by decide +kernel
theorem dX7_copy_46 : decode cX7_copy 46 = .ok (.aload_n 0, 1) := by decide +kernel
theorem dX7_copy_47 : decode cX7_copy 47 = .ok (.getfield 16, 3) := by decide +kernel
theorem dX7_copy_50 : decode cX7_copy 50 = .ok (.iload_n 1, 1) := by decide +kernel
theorem dX7_copy_51 : decode cX7_copy 51 = .ok (.iaload, 1) := by decide +kernel
theorem dX7_copy_52 : decode cX7_copy 52 = .ok (.aload_n 0, 1) := by decide +kernel
theorem dX7_copy_53 : decode cX7_copy 53 = .ok (.getfield 16, 3) := by decide +kernel
theorem dX7_copy_56 : decode cX7_copy 56 = .ok (.iload_n 3, 1) := by decide +kernel
theorem dX7_copy_57 : decode cX7_copy 57 = .ok (.iaload, 1) := by decide +kernel
theorem dX7_copy_58 : decode cX7_copy 58 = .ok (.if_icmp .eq 10, 3) := by decide +kernel
theorem dX7_copy_61 : decode cX7_copy 61 = .ok (.aload_n 0, 1) := by decide +kernel
theorem dX7_copy_62 : decode cX7_copy 62 = .ok (.ldc 74, 2) := by decide +kernel
theorem dX7_copy_64 : decode cX7_copy 64 = .ok (.invokevirtual 63, 3) := by decide +kernel
theorem dX7_copy_67 : decode cX7_copy 67 = .ok (.ireturn, 1) := by decide +kernel
theorem dX7_copy_68 : decode cX7_copy 68 = .ok (.iload_n 2, 1) := by decide +kernel
theorem dX7_copy_69 : decode cX7_copy 69 = .ok (.ifCond .lt 48, 3) := by decide +kernel
theorem dX7_copy_72 : decode cX7_copy 72 = .ok (.iload 4, 2) := by decide +kernel
theorem dX7_copy_74 : decode cX7_copy 74 = .ok (.ifCond .lt 43, 3) := by decide +kernel
theorem dX7_copy_77 : decode cX7_copy 77 = .ok (.iload 5, 2) := by decide +kernel
theorem dX7_copy_79 : decode cX7_copy 79 = .ok (.ifCond .lt 38, 3) := by decide +kernel
theorem dX7_copy_82 : decode cX7_copy 82 = .ok (.iload_n 2, 1) := by decide +kernel
theorem dX7_copy_83 : decode cX7_copy 83 = .ok (.i2l, 1) := by decide +kernel
theorem dX7_copy_84 : decode cX7_copy 84 = .ok (.iload 5, 2) := by decide +kernel
theorem dX7_copy_86 : decode cX7_copy 86 = .ok (.i2l, 1) := by decide +kernel
theorem dX7_copy_87 : decode cX7_copy 87 = .ok (.ladd, 1) := by decide +kernel
theorem dX7_copy_88 : decode cX7_copy 88 = .ok (.aload_n 0, 1) := by decide +kernel
theorem dX7_copy_89 : decode cX7_copy 89 = .ok (.getfield 19, 3) := by decide +kernel
theorem dX7_copy_92 : decode cX7_copy 92 = .ok (.iload_n 1, 1) := by decide +kernel
theorem dX7_copy_93 : decode cX7_copy 93 = .ok (.iaload, 1) := by decide +kernel
theorem dX7_copy_94 : decode cX7_copy 94 = .ok (.i2l, 1) := by decide +kernel
theorem dX7_copy_95 : decode cX7_copy 95 = .ok (.lcmp, 1) := by decide +kernel
theorem dX7_copy_96 : decode cX7_copy 96 = .ok (.ifCond .gt 21, 3) := by decide +kernel
theorem dX7_copy_99 : decode cX7_copy 99 = .ok (.iload 4, 2) := by decide +kernel
theorem dX7_copy_101 : decode cX7_copy 101 = .ok (.i2l, 1) := by decide +kernel
theorem dX7_copy_102 : decode cX7_copy 102 = .ok (.iload 5, 2) := by decide +kernel
theorem dX7_copy_104 : decode cX7_copy 104 = .ok (.i2l, 1) := by decide +kernel
theorem dX7_copy_105 : decode cX7_copy 105 = .ok (.ladd, 1) := by decide +kernel
theorem dX7_copy_106 : decode cX7_copy 106 = .ok (.aload_n 0, 1) := by decide +kernel
theorem dX7_copy_107 : decode cX7_copy 107 = .ok (.getfield 19, 3) := by decide +kernel
theorem dX7_copy_110 : decode cX7_copy 110 = .ok (.iload_n 3, 1) := by decide +kernel
theorem dX7_copy_111 : decode cX7_copy 111 = .ok (.iaload, 1) := by decide +kernel
theorem dX7_copy_112 : decode cX7_copy 112 = .ok (.i2l, 1) := by decide +kernel
theorem dX7_copy_113 : decode cX7_copy 113 = .ok (.lcmp, 1) := by decide +kernel
theorem dX7_copy_114 : decode cX7_copy 114 = .ok (.ifCond .le 10, 3) := by decide +kernel
theorem dX7_copy_117 : decode cX7_copy 117 = .ok (.aload_n 0, 1) := by decide +kernel
theorem dX7_copy_118 : decode cX7_copy 118 = .ok (.ldc 62, 2) := by decide +kernel
theorem dX7_copy_120 : decode cX7_copy 120 = .ok (.invokevirtual 63, 3) := by decide +kernel
theorem dX7_copy_123 : decode cX7_copy 123 = .ok (.ireturn, 1) := by decide +kernel
theorem dX7_copy_124 : decode cX7_copy 124 = .ok (.iconst 0, 1) := by decide +kernel
theorem dX7_copy_125 : decode cX7_copy 125 = .ok (.istore 6, 2) := by decide +kernel
theorem dX7_copy_127 : decode cX7_copy 127 = .ok (.iload 6, 2) := by decide +kernel
theorem dX7_copy_129 : decode cX7_copy 129 = .ok (.iload 5, 2) := by decide +kernel
theorem dX7_copy_131 : decode cX7_copy 131 = .ok (.if_icmp .ge 30, 3) := by decide +kernel
theorem dX7_copy_134 : decode cX7_copy 134 = .ok (.aload_n 0, 1) := by decide +kernel
theorem dX7_copy_135 : decode cX7_copy 135 = .ok (.getfield 25, 3) := by decide +kernel
theorem dX7_copy_138 : decode cX7_copy 138 = .ok (.iload 6, 2) := by decide +kernel
theorem dX7_copy_140 : decode cX7_copy 140 = .ok (.aload_n 0, 1) := by decide +kernel
theorem dX7_copy_141 : decode cX7_copy 141 = .ok (.getfield 22, 3) := by decide +kernel
theorem dX7_copy_144 : decode cX7_copy 144 = .ok (.bipush 24, 2) := by decide +kernel
theorem dX7_copy_146 : decode cX7_copy 146 = .ok (.iload_n 1, 1) := by decide +kernel
theorem dX7_copy_147 : decode cX7_copy 147 = .ok (.imul, 1) := by decide +kernel
theorem dX7_copy_148 : decode cX7_copy 148 = .ok (.iload_n 2, 1) := by decide +kernel
theorem dX7_copy_149 : decode cX7_copy 149 = .ok (.iadd, 1) := by decide +kernel
theorem dX7_copy_150 : decode cX7_copy 150 = .ok (.iload 6, 2) := by decide +kernel
theorem dX7_copy_152 : decode cX7_copy 152 = .ok (.iadd, 1) := by decide +kernel
theorem dX7_copy_153 : decode cX7_copy 153 = .ok (.iaload, 1) := by decide +kernel
theorem dX7_copy_154 : decode cX7_copy 154 = .ok (.iastore, 1) := by decide +kernel
theorem dX7_copy_155 : decode cX7_copy 155 = .ok (.iinc 6 1, 3) := by decide +kernel
theorem dX7_copy_158 : decode cX7_copy 158 = .ok (.goto (-31), 3) := by decide +kernel
theorem dX7_copy_161 : decode cX7_copy 161 = .ok (.iconst 0, 1) := by decide +kernel
theorem dX7_copy_162 : decode cX7_copy 162 = .ok (.istore 6, 2) := by decide +kernel
theorem dX7_copy_164 : decode cX7_copy 164 = .ok (.iload 6, 2) := by decide +kernel
theorem dX7_copy_166 : decode cX7_copy 166 = .ok (.iload 5, 2) := by decide +kernel
theorem dX7_copy_168 : decode cX7_copy 168 = .ok (.if_icmp .ge 31, 3) := by decide +kernel
theorem dX7_copy_171 : decode cX7_copy 171 = .ok (.aload_n 0, 1) := by decide +kernel
theorem dX7_copy_172 : decode cX7_copy 172 = .ok (.getfield 22, 3) := by decide +kernel
theorem dX7_copy_175 : decode cX7_copy 175 = .ok (.bipush 24, 2) := by decide +kernel
theorem dX7_copy_177 : decode cX7_copy 177 = .ok (.iload_n 3, 1) := by decide +kernel
theorem dX7_copy_178 : decode cX7_copy 178 = .ok (.imul, 1) := by decide +kernel
theorem dX7_copy_179 : decode cX7_copy 179 = .ok (.iload 4, 2) := by decide +kernel
theorem dX7_copy_181 : decode cX7_copy 181 = .ok (.iadd, 1) := by decide +kernel
theorem dX7_copy_182 : decode cX7_copy 182 = .ok (.iload 6, 2) := by decide +kernel
theorem dX7_copy_184 : decode cX7_copy 184 = .ok (.iadd, 1) := by decide +kernel
theorem dX7_copy_185 : decode cX7_copy 185 = .ok (.aload_n 0, 1) := by decide +kernel
theorem dX7_copy_186 : decode cX7_copy 186 = .ok (.getfield 25, 3) := by decide +kernel
theorem dX7_copy_189 : decode cX7_copy 189 = .ok (.iload 6, 2) := by decide +kernel
theorem dX7_copy_191 : decode cX7_copy 191 = .ok (.iaload, 1) := by decide +kernel
theorem dX7_copy_192 : decode cX7_copy 192 = .ok (.iastore, 1) := by decide +kernel
theorem dX7_copy_193 : decode cX7_copy 193 = .ok (.iinc 6 1, 3) := by decide +kernel
theorem dX7_copy_196 : decode cX7_copy 196 = .ok (.goto (-32), 3) := by decide +kernel
theorem dX7_copy_199 : decode cX7_copy 199 = .ok (.iload 5, 2) := by decide +kernel
theorem dX7_copy_201 : decode cX7_copy 201 = .ok (.ireturn, 1) := by decide +kernel
theorem dX7_cut_0 : decode cX7_cut 0 = .ok (.iload_n 0, 1) := by decide +kernel
theorem dX7_cut_1 : decode cX7_cut 1 = .ok (.bipush 23, 2) := by decide +kernel
theorem dX7_cut_3 : decode cX7_cut 3 = .ok (.ishr, 1) := by decide +kernel
theorem dX7_cut_4 : decode cX7_cut 4 = .ok (.sipush 255, 3) := by decide +kernel
theorem dX7_cut_7 : decode cX7_cut 7 = .ok (.iand, 1) := by decide +kernel
theorem dX7_cut_8 : decode cX7_cut 8 = .ok (.bipush 127, 2) := by decide +kernel
theorem dX7_cut_10 : decode cX7_cut 10 = .ok (.isub, 1) := by decide +kernel
theorem dX7_cut_11 : decode cX7_cut 11 = .ok (.istore_n 1, 1) := by decide +kernel
theorem dX7_cut_12 : decode cX7_cut 12 = .ok (.iload_n 0, 1) := by decide +kernel
theorem dX7_cut_13 : decode cX7_cut 13 = .ok (.ldc 96, 2) := by decide +kernel
theorem dX7_cut_15 : decode cX7_cut 15 = .ok (.iand, 1) := by decide +kernel
theorem dX7_cut_16 : decode cX7_cut 16 = .ok (.ldc 97, 2) := by decide +kernel
theorem dX7_cut_18 : decode cX7_cut 18 = .ok (.ior, 1) := by decide +kernel
theorem dX7_cut_19 : decode cX7_cut 19 = .ok (.istore_n 2, 1) := by decide +kernel
theorem dX7_cut_20 : decode cX7_cut 20 = .ok (.iload_n 1, 1) := by decide +kernel
theorem dX7_cut_21 : decode cX7_cut 21 = .ok (.ifCond .ge 7, 3) := by decide +kernel
theorem dX7_cut_24 : decode cX7_cut 24 = .ok (.iconst 0, 1) := by decide +kernel
theorem dX7_cut_25 : decode cX7_cut 25 = .ok (.goto 21, 3) := by decide +kernel
theorem dX7_cut_28 : decode cX7_cut 28 = .ok (.iload_n 1, 1) := by decide +kernel
theorem dX7_cut_29 : decode cX7_cut 29 = .ok (.bipush 10, 2) := by decide +kernel
theorem dX7_cut_31 : decode cX7_cut 31 = .ok (.if_icmp .le 9, 3) := by decide +kernel
theorem dX7_cut_34 : decode cX7_cut 34 = .ok (.sipush 2000, 3) := by decide +kernel
theorem dX7_cut_37 : decode cX7_cut 37 = .ok (.goto 9, 3) := by decide +kernel
theorem dX7_cut_40 : decode cX7_cut 40 = .ok (.iload_n 2, 1) := by decide +kernel
theorem dX7_cut_41 : decode cX7_cut 41 = .ok (.bipush 23, 2) := by decide +kernel
theorem dX7_cut_43 : decode cX7_cut 43 = .ok (.iload_n 1, 1) := by decide +kernel
theorem dX7_cut_44 : decode cX7_cut 44 = .ok (.isub, 1) := by decide +kernel
theorem dX7_cut_45 : decode cX7_cut 45 = .ok (.ishr, 1) := by decide +kernel
theorem dX7_cut_46 : decode cX7_cut 46 = .ok (.istore_n 3, 1) := by decide +kernel
theorem dX7_cut_47 : decode cX7_cut 47 = .ok (.iload_n 0, 1) := by decide +kernel
theorem dX7_cut_48 : decode cX7_cut 48 = .ok (.ifCond .ge 8, 3) := by decide +kernel
theorem dX7_cut_51 : decode cX7_cut 51 = .ok (.iload_n 3, 1) := by decide +kernel
theorem dX7_cut_52 : decode cX7_cut 52 = .ok (.ineg, 1) := by decide +kernel
theorem dX7_cut_53 : decode cX7_cut 53 = .ok (.goto 4, 3) := by decide +kernel
theorem dX7_cut_56 : decode cX7_cut 56 = .ok (.iload_n 3, 1) := by decide +kernel
theorem dX7_cut_57 : decode cX7_cut 57 = .ok (.ireturn, 1) := by decide +kernel
theorem dX7_draws_0 : decode cX7_draws 0 = .ok (.aload_n 0, 1) := by decide +kernel
theorem dX7_draws_1 : decode cX7_draws 1 = .ok (.iload_n 1, 1) := by decide +kernel
theorem dX7_draws_2 : decode cX7_draws 2 = .ok (.invokevirtual 68, 3) := by decide +kernel
theorem dX7_draws_5 : decode cX7_draws 5 = .ok (.ifCond .eq 17, 3) := by decide +kernel
theorem dX7_draws_8 : decode cX7_draws 8 = .ok (.iload_n 2, 1) := by decide +kernel
theorem dX7_draws_9 : decode cX7_draws 9 = .ok (.invokestatic 98, 3) := by decide +kernel
theorem dX7_draws_12 : decode cX7_draws 12 = .ok (.ifCond .eq 10, 3) := by decide +kernel
theorem dX7_draws_15 : decode cX7_draws 15 = .ok (.iload_n 3, 1) := by decide +kernel
theorem dX7_draws_16 : decode cX7_draws 16 = .ok (.invokestatic 86, 3) := by decide +kernel
theorem dX7_draws_19 : decode cX7_draws 19 = .ok (.ifCond .ne 10, 3) := by decide +kernel
theorem dX7_draws_22 : decode cX7_draws 22 = .ok (.aload_n 0, 1) := by decide +kernel
theorem dX7_draws_23 : decode cX7_draws 23 = .ok (.ldc 62, 2) := by decide +kernel
theorem dX7_draws_25 : decode cX7_draws 25 = .ok (.invokevirtual 63, 3) := by decide +kernel
theorem dX7_draws_28 : decode cX7_draws 28 = .ok (.ireturn, 1) := by decide +kernel
theorem dX7_draws_29 : decode cX7_draws 29 = .ok (.aload_n 0, 1) := by decide +kernel
theorem dX7_draws_30 : decode cX7_draws 30 = .ok (.iload_n 1, 1) := by decide +kernel
theorem dX7_draws_31 : decode cX7_draws 31 = .ok (.invokevirtual 71, 3) := by decide +kernel
theorem dX7_draws_34 : decode cX7_draws 34 = .ok (.iconst 5, 1) := by decide +kernel
theorem dX7_draws_35 : decode cX7_draws 35 = .ok (.if_icmp .ne 10, 3) := by decide +kernel
theorem dX7_draws_38 : decode cX7_draws 38 = .ok (.aload_n 0, 1) := by decide +kernel
theorem dX7_draws_39 : decode cX7_draws 39 = .ok (.ldc 74, 2) := by decide +kernel
theorem dX7_draws_41 : decode cX7_draws 41 = .ok (.invokevirtual 63, 3) := by decide +kernel
theorem dX7_draws_44 : decode cX7_draws 44 = .ok (.ireturn, 1) := by decide +kernel
theorem dX7_draws_45 : decode cX7_draws 45 = .ok (.aload_n 0, 1) := by decide +kernel
theorem dX7_draws_46 : decode cX7_draws 46 = .ok (.getfield 16, 3) := by decide +kernel
theorem dX7_draws_49 : decode cX7_draws 49 = .ok (.iload_n 3, 1) := by decide +kernel
theorem dX7_draws_50 : decode cX7_draws 50 = .ok (.iaload, 1) := by decide +kernel
theorem dX7_draws_51 : decode cX7_draws 51 = .ok (.ifCond .ne 10, 3) := by decide +kernel
theorem dX7_draws_54 : decode cX7_draws 54 = .ok (.aload_n 0, 1) := by decide +kernel
theorem dX7_draws_55 : decode cX7_draws 55 = .ok (.ldc 91, 2) := by decide +kernel
theorem dX7_draws_57 : decode cX7_draws 57 = .ok (.invokevirtual 63, 3) := by decide +kernel
theorem dX7_draws_60 : decode cX7_draws 60 = .ok (.ireturn, 1) := by decide +kernel
theorem dX7_draws_61 : decode cX7_draws 61 = .ok (.aload_n 0, 1) := by decide +kernel
theorem dX7_draws_62 : decode cX7_draws 62 = .ok (.getfield 19, 3) := by decide +kernel
theorem dX7_draws_65 : decode cX7_draws 65 = .ok (.iload_n 3, 1) := by decide +kernel
theorem dX7_draws_66 : decode cX7_draws 66 = .ok (.iaload, 1) := by decide +kernel
theorem dX7_draws_67 : decode cX7_draws 67 = .ok (.bipush 24, 2) := by decide +kernel
theorem dX7_draws_69 : decode cX7_draws 69 = .ok (.iload_n 2, 1) := by decide +kernel
theorem dX7_draws_70 : decode cX7_draws 70 = .ok (.isub, 1) := by decide +kernel
theorem dX7_draws_71 : decode cX7_draws 71 = .ok (.if_icmp .ge 12, 3) := by decide +kernel
theorem dX7_draws_74 : decode cX7_draws 74 = .ok (.aload_n 0, 1) := by decide +kernel
theorem dX7_draws_75 : decode cX7_draws 75 = .ok (.getfield 19, 3) := by decide +kernel
theorem dX7_draws_78 : decode cX7_draws 78 = .ok (.iload_n 3, 1) := by decide +kernel
theorem dX7_draws_79 : decode cX7_draws 79 = .ok (.iaload, 1) := by decide +kernel
theorem dX7_draws_80 : decode cX7_draws 80 = .ok (.goto 7, 3) := by decide +kernel
theorem dX7_draws_83 : decode cX7_draws 83 = .ok (.bipush 24, 2) := by decide +kernel
theorem dX7_draws_85 : decode cX7_draws 85 = .ok (.iload_n 2, 1) := by decide +kernel
theorem dX7_draws_86 : decode cX7_draws 86 = .ok (.isub, 1) := by decide +kernel
theorem dX7_draws_87 : decode cX7_draws 87 = .ok (.istore 4, 2) := by decide +kernel
theorem dX7_draws_89 : decode cX7_draws 89 = .ok (.aload_n 0, 1) := by decide +kernel
theorem dX7_draws_90 : decode cX7_draws 90 = .ok (.getfield 16, 3) := by decide +kernel
theorem dX7_draws_93 : decode cX7_draws 93 = .ok (.iload_n 3, 1) := by decide +kernel
theorem dX7_draws_94 : decode cX7_draws 94 = .ok (.iaload, 1) := by decide +kernel
theorem dX7_draws_95 : decode cX7_draws 95 = .ok (.iconst 2, 1) := by decide +kernel
theorem dX7_draws_96 : decode cX7_draws 96 = .ok (.if_icmp .ne 7, 3) := by decide +kernel
theorem dX7_draws_99 : decode cX7_draws 99 = .ok (.iconst 1, 1) := by decide +kernel
theorem dX7_draws_100 : decode cX7_draws 100 = .ok (.goto 4, 3) := by decide +kernel
theorem dX7_draws_103 : decode cX7_draws 103 = .ok (.iconst 0, 1) := by decide +kernel
theorem dX7_draws_104 : decode cX7_draws 104 = .ok (.istore 5, 2) := by decide +kernel
theorem dX7_draws_106 : decode cX7_draws 106 = .ok (.iconst 0, 1) := by decide +kernel
theorem dX7_draws_107 : decode cX7_draws 107 = .ok (.istore 6, 2) := by decide +kernel
theorem dX7_draws_109 : decode cX7_draws 109 = .ok (.iload 6, 2) := by decide +kernel
theorem dX7_draws_111 : decode cX7_draws 111 = .ok (.iload 4, 2) := by decide +kernel
theorem dX7_draws_113 : decode cX7_draws 113 = .ok (.if_icmp .ge 39, 3) := by decide +kernel
theorem dX7_draws_116 : decode cX7_draws 116 = .ok (.iload 5, 2) := by decide +kernel
theorem dX7_draws_118 : decode cX7_draws 118 = .ok (.ifCond .eq 34, 3) := by decide +kernel
theorem dX7_draws_121 : decode cX7_draws 121 = .ok (.aload_n 0, 1) := by decide +kernel
theorem dX7_draws_122 : decode cX7_draws 122 = .ok (.getfield 22, 3) := by decide +kernel
theorem dX7_draws_125 : decode cX7_draws 125 = .ok (.bipush 24, 2) := by decide +kernel
theorem dX7_draws_127 : decode cX7_draws 127 = .ok (.iload_n 3, 1) := by decide +kernel
theorem dX7_draws_128 : decode cX7_draws 128 = .ok (.imul, 1) := by decide +kernel
theorem dX7_draws_129 : decode cX7_draws 129 = .ok (.iload 6, 2) := by decide +kernel
theorem dX7_draws_131 : decode cX7_draws 131 = .ok (.iadd, 1) := by decide +kernel
theorem dX7_draws_132 : decode cX7_draws 132 = .ok (.iaload, 1) := by decide +kernel
theorem dX7_draws_133 : decode cX7_draws 133 = .ok (.invokestatic 92, 3) := by decide +kernel
theorem dX7_draws_136 : decode cX7_draws 136 = .ok (.ifCond .eq 10, 3) := by decide +kernel
theorem dX7_draws_139 : decode cX7_draws 139 = .ok (.aload_n 0, 1) := by decide +kernel
theorem dX7_draws_140 : decode cX7_draws 140 = .ok (.ldc 101, 2) := by decide +kernel
theorem dX7_draws_142 : decode cX7_draws 142 = .ok (.invokevirtual 63, 3) := by decide +kernel
theorem dX7_draws_145 : decode cX7_draws 145 = .ok (.ireturn, 1) := by decide +kernel
theorem dX7_draws_146 : decode cX7_draws 146 = .ok (.iinc 6 1, 3) := by decide +kernel
theorem dX7_draws_149 : decode cX7_draws 149 = .ok (.goto (-40), 3) := by decide +kernel
theorem dX7_draws_152 : decode cX7_draws 152 = .ok (.iconst 0, 1) := by decide +kernel
theorem dX7_draws_153 : decode cX7_draws 153 = .ok (.istore 6, 2) := by decide +kernel
theorem dX7_draws_155 : decode cX7_draws 155 = .ok (.iload 6, 2) := by decide +kernel
theorem dX7_draws_157 : decode cX7_draws 157 = .ok (.iload 4, 2) := by decide +kernel
theorem dX7_draws_159 : decode cX7_draws 159 = .ok (.if_icmp .ge 75, 3) := by decide +kernel
theorem dX7_draws_162 : decode cX7_draws 162 = .ok (.aload_n 0, 1) := by decide +kernel
theorem dX7_draws_163 : decode cX7_draws 163 = .ok (.getfield 25, 3) := by decide +kernel
theorem dX7_draws_166 : decode cX7_draws 166 = .ok (.iload 6, 2) := by decide +kernel
theorem dX7_draws_168 : decode cX7_draws 168 = .ok (.iload 5, 2) := by decide +kernel
theorem dX7_draws_170 : decode cX7_draws 170 = .ok (.ifCond .eq 21, 3) := by decide +kernel
theorem dX7_draws_173 : decode cX7_draws 173 = .ok (.aload_n 0, 1) := by decide +kernel
theorem dX7_draws_174 : decode cX7_draws 174 = .ok (.getfield 22, 3) := by decide +kernel
theorem dX7_draws_177 : decode cX7_draws 177 = .ok (.bipush 24, 2) := by decide +kernel
theorem dX7_draws_179 : decode cX7_draws 179 = .ok (.iload_n 3, 1) := by decide +kernel
theorem dX7_draws_180 : decode cX7_draws 180 = .ok (.imul, 1) := by decide +kernel
theorem dX7_draws_181 : decode cX7_draws 181 = .ok (.iload 6, 2) := by decide +kernel
theorem dX7_draws_183 : decode cX7_draws 183 = .ok (.iadd, 1) := by decide +kernel
theorem dX7_draws_184 : decode cX7_draws 184 = .ok (.iaload, 1) := by decide +kernel
theorem dX7_draws_185 : decode cX7_draws 185 = .ok (.invokestatic 102, 3) := by decide +kernel
theorem dX7_draws_188 : decode cX7_draws 188 = .ok (.goto 15, 3) := by decide +kernel
theorem dX7_draws_191 : decode cX7_draws 191 = .ok (.aload_n 0, 1) := by decide +kernel
theorem dX7_draws_192 : decode cX7_draws 192 = .ok (.getfield 22, 3) := by decide +kernel
theorem dX7_draws_195 : decode cX7_draws 195 = .ok (.bipush 24, 2) := by decide +kernel
theorem dX7_draws_197 : decode cX7_draws 197 = .ok (.iload_n 3, 1) := by decide +kernel
theorem dX7_draws_198 : decode cX7_draws 198 = .ok (.imul, 1) := by decide +kernel
theorem dX7_draws_199 : decode cX7_draws 199 = .ok (.iload 6, 2) := by decide +kernel
theorem dX7_draws_201 : decode cX7_draws 201 = .ok (.iadd, 1) := by decide +kernel
theorem dX7_draws_202 : decode cX7_draws 202 = .ok (.iaload, 1) := by decide +kernel
theorem dX7_draws_203 : decode cX7_draws 203 = .ok (.iastore, 1) := by decide +kernel
theorem dX7_draws_204 : decode cX7_draws 204 = .ok (.aload_n 0, 1) := by decide +kernel
theorem dX7_draws_205 : decode cX7_draws 205 = .ok (.getfield 25, 3) := by decide +kernel
theorem dX7_draws_208 : decode cX7_draws 208 = .ok (.iload 6, 2) := by decide +kernel
theorem dX7_draws_210 : decode cX7_draws 210 = .ok (.iaload, 1) := by decide +kernel
theorem dX7_draws_211 : decode cX7_draws 211 = .ok (.iconst 0, 1) := by decide +kernel
theorem dX7_draws_212 : decode cX7_draws 212 = .ok (.sipush 1000, 3) := by decide +kernel
theorem dX7_draws_215 : decode cX7_draws 215 = .ok (.invokestatic 48, 3) := by decide +kernel
theorem dX7_draws_218 : decode cX7_draws 218 = .ok (.ifCond .ne 10, 3) := by decide +kernel
theorem dX7_draws_221 : decode cX7_draws 221 = .ok (.aload_n 0, 1) := by decide +kernel
theorem dX7_draws_222 : decode cX7_draws 222 = .ok (.ldc 62, 2) := by decide +kernel
theorem dX7_draws_224 : decode cX7_draws 224 = .ok (.invokevirtual 63, 3) := by decide +kernel
theorem dX7_draws_227 : decode cX7_draws 227 = .ok (.ireturn, 1) := by decide +kernel
theorem dX7_draws_228 : decode cX7_draws 228 = .ok (.iinc 6 1, 3) := by decide +kernel
theorem dX7_draws_231 : decode cX7_draws 231 = .ok (.goto (-76), 3) := by decide +kernel
theorem dX7_draws_234 : decode cX7_draws 234 = .ok (.iconst 0, 1) := by decide +kernel
theorem dX7_draws_235 : decode cX7_draws 235 = .ok (.istore 6, 2) := by decide +kernel
theorem dX7_draws_237 : decode cX7_draws 237 = .ok (.iload 6, 2) := by decide +kernel
theorem dX7_draws_239 : decode cX7_draws 239 = .ok (.iload 4, 2) := by decide +kernel
theorem dX7_draws_241 : decode cX7_draws 241 = .ok (.if_icmp .ge 33, 3) := by decide +kernel
theorem dX7_draws_244 : decode cX7_draws 244 = .ok (.aload_n 0, 1) := by decide +kernel
theorem dX7_draws_245 : decode cX7_draws 245 = .ok (.getfield 7, 3) := by decide +kernel
theorem dX7_draws_248 : decode cX7_draws 248 = .ok (.bipush 50, 2) := by decide +kernel
theorem dX7_draws_250 : decode cX7_draws 250 = .ok (.bipush 24, 2) := by decide +kernel
theorem dX7_draws_252 : decode cX7_draws 252 = .ok (.iload_n 1, 1) := by decide +kernel
theorem dX7_draws_253 : decode cX7_draws 253 = .ok (.imul, 1) := by decide +kernel
theorem dX7_draws_254 : decode cX7_draws 254 = .ok (.iadd, 1) := by decide +kernel
theorem dX7_draws_255 : decode cX7_draws 255 = .ok (.iload_n 2, 1) := by decide +kernel
theorem dX7_draws_256 : decode cX7_draws 256 = .ok (.iadd, 1) := by decide +kernel
theorem dX7_draws_257 : decode cX7_draws 257 = .ok (.iload 6, 2) := by decide +kernel
theorem dX7_draws_259 : decode cX7_draws 259 = .ok (.iadd, 1) := by decide +kernel
theorem dX7_draws_260 : decode cX7_draws 260 = .ok (.aload_n 0, 1) := by decide +kernel
theorem dX7_draws_261 : decode cX7_draws 261 = .ok (.getfield 25, 3) := by decide +kernel
theorem dX7_draws_264 : decode cX7_draws 264 = .ok (.iload 6, 2) := by decide +kernel
theorem dX7_draws_266 : decode cX7_draws 266 = .ok (.iaload, 1) := by decide +kernel
theorem dX7_draws_267 : decode cX7_draws 267 = .ok (.iastore, 1) := by decide +kernel
theorem dX7_draws_268 : decode cX7_draws 268 = .ok (.iinc 6 1, 3) := by decide +kernel
theorem dX7_draws_271 : decode cX7_draws 271 = .ok (.goto (-34), 3) := by decide +kernel
theorem dX7_draws_274 : decode cX7_draws 274 = .ok (.iload 4, 2) := by decide +kernel
theorem dX7_draws_276 : decode cX7_draws 276 = .ok (.ireturn, 1) := by decide +kernel
theorem dX7_draw_0 : decode cX7_draw 0 = .ok (.aload_n 0, 1) := by decide +kernel
theorem dX7_draw_1 : decode cX7_draw 1 = .ok (.iload_n 1, 1) := by decide +kernel
theorem dX7_draw_2 : decode cX7_draw 2 = .ok (.invokevirtual 68, 3) := by decide +kernel
theorem dX7_draw_5 : decode cX7_draw 5 = .ok (.ifCond .eq 21, 3) := by decide +kernel
theorem dX7_draw_8 : decode cX7_draw 8 = .ok (.iload_n 2, 1) := by decide +kernel
theorem dX7_draw_9 : decode cX7_draw 9 = .ok (.invokestatic 98, 3) := by decide +kernel
theorem dX7_draw_12 : decode cX7_draw 12 = .ok (.ifCond .eq 14, 3) := by decide +kernel
theorem dX7_draw_15 : decode cX7_draw 15 = .ok (.iload_n 3, 1) := by decide +kernel
theorem dX7_draw_16 : decode cX7_draw 16 = .ok (.iconst 0, 1) := by decide +kernel
theorem dX7_draw_17 : decode cX7_draw 17 = .ok (.sipush 1000, 3) := by decide +kernel
theorem dX7_draw_20 : decode cX7_draw 20 = .ok (.invokestatic 48, 3) := by decide +kernel
theorem dX7_draw_23 : decode cX7_draw 23 = .ok (.ifCond .ne 10, 3) := by decide +kernel
theorem dX7_draw_26 : decode cX7_draw 26 = .ok (.aload_n 0, 1) := by decide +kernel
theorem dX7_draw_27 : decode cX7_draw 27 = .ok (.ldc 62, 2) := by decide +kernel
theorem dX7_draw_29 : decode cX7_draw 29 = .ok (.invokevirtual 63, 3) := by decide +kernel
theorem dX7_draw_32 : decode cX7_draw 32 = .ok (.ireturn, 1) := by decide +kernel
theorem dX7_draw_33 : decode cX7_draw 33 = .ok (.aload_n 0, 1) := by decide +kernel
theorem dX7_draw_34 : decode cX7_draw 34 = .ok (.iload_n 1, 1) := by decide +kernel
theorem dX7_draw_35 : decode cX7_draw 35 = .ok (.invokevirtual 71, 3) := by decide +kernel
theorem dX7_draw_38 : decode cX7_draw 38 = .ok (.iconst 5, 1) := by decide +kernel
theorem dX7_draw_39 : decode cX7_draw 39 = .ok (.if_icmp .ne 10, 3) := by decide +kernel
theorem dX7_draw_42 : decode cX7_draw 42 = .ok (.aload_n 0, 1) := by decide +kernel
theorem dX7_draw_43 : decode cX7_draw 43 = .ok (.ldc 74, 2) := by decide +kernel
theorem dX7_draw_45 : decode cX7_draw 45 = .ok (.invokevirtual 63, 3) := by decide +kernel
theorem dX7_draw_48 : decode cX7_draw 48 = .ok (.ireturn, 1) := by decide +kernel
theorem dX7_draw_49 : decode cX7_draw 49 = .ok (.aload_n 0, 1) := by decide +kernel
theorem dX7_draw_50 : decode cX7_draw 50 = .ok (.iload_n 1, 1) := by decide +kernel
theorem dX7_draw_51 : decode cX7_draw 51 = .ok (.iload_n 2, 1) := by decide +kernel
theorem dX7_draw_52 : decode cX7_draw 52 = .ok (.invokevirtual 75, 3) := by decide +kernel
theorem dX7_draw_55 : decode cX7_draw 55 = .ok (.istore 4, 2) := by decide +kernel
theorem dX7_draw_57 : decode cX7_draw 57 = .ok (.aload_n 0, 1) := by decide +kernel
theorem dX7_draw_58 : decode cX7_draw 58 = .ok (.getfield 7, 3) := by decide +kernel
theorem dX7_draw_61 : decode cX7_draw 61 = .ok (.bipush 50, 2) := by decide +kernel
theorem dX7_draw_63 : decode cX7_draw 63 = .ok (.bipush 24, 2) := by decide +kernel
theorem dX7_draw_65 : decode cX7_draw 65 = .ok (.iload_n 1, 1) := by decide +kernel
theorem dX7_draw_66 : decode cX7_draw 66 = .ok (.imul, 1) := by decide +kernel
theorem dX7_draw_67 : decode cX7_draw 67 = .ok (.iadd, 1) := by decide +kernel
theorem dX7_draw_68 : decode cX7_draw 68 = .ok (.iload_n 2, 1) := by decide +kernel
theorem dX7_draw_69 : decode cX7_draw 69 = .ok (.iadd, 1) := by decide +kernel
theorem dX7_draw_70 : decode cX7_draw 70 = .ok (.iload_n 3, 1) := by decide +kernel
theorem dX7_draw_71 : decode cX7_draw 71 = .ok (.iastore, 1) := by decide +kernel
theorem dX7_draw_72 : decode cX7_draw 72 = .ok (.iload 4, 2) := by decide +kernel
theorem dX7_draw_74 : decode cX7_draw 74 = .ok (.ireturn, 1) := by decide +kernel
theorem dX7_sign_0 : decode cX7_sign 0 = .ok (.aload_n 0, 1) := by decide +kernel
theorem dX7_sign_1 : decode cX7_sign 1 = .ok (.iload_n 1, 1) := by decide +kernel
theorem dX7_sign_2 : decode cX7_sign 2 = .ok (.invokevirtual 71, 3) := by decide +kernel
theorem dX7_sign_5 : decode cX7_sign 5 = .ok (.istore_n 3, 1) := by decide +kernel
theorem dX7_sign_6 : decode cX7_sign 6 = .ok (.iload_n 3, 1) := by decide +kernel
theorem dX7_sign_7 : decode cX7_sign 7 = .ok (.iconst 2, 1) := by decide +kernel
theorem dX7_sign_8 : decode cX7_sign 8 = .ok (.if_icmp .ne 18, 3) := by decide +kernel
theorem dX7_sign_11 : decode cX7_sign 11 = .ok (.iload_n 1, 1) := by decide +kernel
theorem dX7_sign_12 : decode cX7_sign 12 = .ok (.iconst 2, 1) := by decide +kernel
theorem dX7_sign_13 : decode cX7_sign 13 = .ok (.irem, 1) := by decide +kernel
theorem dX7_sign_14 : decode cX7_sign 14 = .ok (.iload_n 2, 1) := by decide +kernel
theorem dX7_sign_15 : decode cX7_sign 15 = .ok (.iconst 2, 1) := by decide +kernel
theorem dX7_sign_16 : decode cX7_sign 16 = .ok (.irem, 1) := by decide +kernel
theorem dX7_sign_17 : decode cX7_sign 17 = .ok (.if_icmp .ne 7, 3) := by decide +kernel
theorem dX7_sign_20 : decode cX7_sign 20 = .ok (.iconst 1, 1) := by decide +kernel
theorem dX7_sign_21 : decode cX7_sign 21 = .ok (.goto 4, 3) := by decide +kernel
theorem dX7_sign_24 : decode cX7_sign 24 = .ok (.iconst 0, 1) := by decide +kernel
theorem dX7_sign_25 : decode cX7_sign 25 = .ok (.ireturn, 1) := by decide +kernel
theorem dX7_sign_26 : decode cX7_sign 26 = .ok (.iload_n 3, 1) := by decide +kernel
theorem dX7_sign_27 : decode cX7_sign 27 = .ok (.iconst 5, 1) := by decide +kernel
theorem dX7_sign_28 : decode cX7_sign 28 = .ok (.if_icmp .ne 7, 3) := by decide +kernel
theorem dX7_sign_31 : decode cX7_sign 31 = .ok (.iconst 0, 1) := by decide +kernel
theorem dX7_sign_32 : decode cX7_sign 32 = .ok (.goto 18, 3) := by decide +kernel
theorem dX7_sign_35 : decode cX7_sign 35 = .ok (.iload_n 3, 1) := by decide +kernel
theorem dX7_sign_36 : decode cX7_sign 36 = .ok (.iconst 3, 1) := by decide +kernel
theorem dX7_sign_37 : decode cX7_sign 37 = .ok (.if_icmp .eq 8, 3) := by decide +kernel
theorem dX7_sign_40 : decode cX7_sign 40 = .ok (.iload_n 3, 1) := by decide +kernel
theorem dX7_sign_41 : decode cX7_sign 41 = .ok (.iconst 4, 1) := by decide +kernel
theorem dX7_sign_42 : decode cX7_sign 42 = .ok (.if_icmp .ne 7, 3) := by decide +kernel
theorem dX7_sign_45 : decode cX7_sign 45 = .ok (.iconst (-1), 1) := by decide +kernel
theorem dX7_sign_46 : decode cX7_sign 46 = .ok (.goto 4, 3) := by decide +kernel
theorem dX7_sign_49 : decode cX7_sign 49 = .ok (.iconst 1, 1) := by decide +kernel
theorem dX7_sign_50 : decode cX7_sign 50 = .ok (.ireturn, 1) := by decide +kernel
theorem dX7_counts_0 : decode cX7_counts 0 = .ok (.aload_n 0, 1) := by decide +kernel
theorem dX7_counts_1 : decode cX7_counts 1 = .ok (.iload_n 1, 1) := by decide +kernel
theorem dX7_counts_2 : decode cX7_counts 2 = .ok (.invokevirtual 68, 3) := by decide +kernel
theorem dX7_counts_5 : decode cX7_counts 5 = .ok (.ifCond .eq 26, 3) := by decide +kernel
theorem dX7_counts_8 : decode cX7_counts 8 = .ok (.iload_n 2, 1) := by decide +kernel
theorem dX7_counts_9 : decode cX7_counts 9 = .ok (.invokestatic 98, 3) := by decide +kernel
theorem dX7_counts_12 : decode cX7_counts 12 = .ok (.ifCond .eq 19, 3) := by decide +kernel
theorem dX7_counts_15 : decode cX7_counts 15 = .ok (.aload_n 0, 1) := by decide +kernel
theorem dX7_counts_16 : decode cX7_counts 16 = .ok (.iload_n 1, 1) := by decide +kernel
theorem dX7_counts_17 : decode cX7_counts 17 = .ok (.iload_n 2, 1) := by decide +kernel
theorem dX7_counts_18 : decode cX7_counts 18 = .ok (.invokevirtual 105, 3) := by decide +kernel
theorem dX7_counts_21 : decode cX7_counts 21 = .ok (.aload_n 0, 1) := by decide +kernel
theorem dX7_counts_22 : decode cX7_counts 22 = .ok (.iload_n 1, 1) := by decide +kernel
theorem dX7_counts_23 : decode cX7_counts 23 = .ok (.iload_n 2, 1) := by decide +kernel
theorem dX7_counts_24 : decode cX7_counts 24 = .ok (.invokevirtual 75, 3) := by decide +kernel
theorem dX7_counts_27 : decode cX7_counts 27 = .ok (.imul, 1) := by decide +kernel
theorem dX7_counts_28 : decode cX7_counts 28 = .ok (.goto 9, 3) := by decide +kernel
theorem dX7_counts_31 : decode cX7_counts 31 = .ok (.aload_n 0, 1) := by decide +kernel
theorem dX7_counts_32 : decode cX7_counts 32 = .ok (.ldc 62, 2) := by decide +kernel
theorem dX7_counts_34 : decode cX7_counts 34 = .ok (.invokevirtual 63, 3) := by decide +kernel
theorem dX7_counts_37 : decode cX7_counts 37 = .ok (.ireturn, 1) := by decide +kernel
theorem dX7_rain_0 : decode cX7_rain 0 = .ok (.iload_n 1, 1) := by decide +kernel
theorem dX7_rain_1 : decode cX7_rain 1 = .ok (.invokestatic 98, 3) := by decide +kernel
theorem dX7_rain_4 : decode cX7_rain 4 = .ok (.ifCond .eq 14, 3) := by decide +kernel
theorem dX7_rain_7 : decode cX7_rain 7 = .ok (.iload_n 2, 1) := by decide +kernel
theorem dX7_rain_8 : decode cX7_rain 8 = .ok (.iconst 0, 1) := by decide +kernel
theorem dX7_rain_9 : decode cX7_rain 9 = .ok (.sipush 1000, 3) := by decide +kernel
theorem dX7_rain_12 : decode cX7_rain 12 = .ok (.invokestatic 48, 3) := by decide +kernel
theorem dX7_rain_15 : decode cX7_rain 15 = .ok (.ifCond .ne 10, 3) := by decide +kernel
theorem dX7_rain_18 : decode cX7_rain 18 = .ok (.aload_n 0, 1) := by decide +kernel
theorem dX7_rain_19 : decode cX7_rain 19 = .ok (.ldc 62, 2) := by decide +kernel
theorem dX7_rain_21 : decode cX7_rain 21 = .ok (.invokevirtual 63, 3) := by decide +kernel
theorem dX7_rain_24 : decode cX7_rain 24 = .ok (.ireturn, 1) := by decide +kernel
theorem dX7_rain_25 : decode cX7_rain 25 = .ok (.aload_n 0, 1) := by decide +kernel
theorem dX7_rain_26 : decode cX7_rain 26 = .ok (.getfield 7, 3) := by decide +kernel
theorem dX7_rain_29 : decode cX7_rain 29 = .ok (.sipush 542, 3) := by decide +kernel
theorem dX7_rain_32 : decode cX7_rain 32 = .ok (.iload_n 1, 1) := by decide +kernel
theorem dX7_rain_33 : decode cX7_rain 33 = .ok (.iadd, 1) := by decide +kernel
theorem dX7_rain_34 : decode cX7_rain 34 = .ok (.iaload, 1) := by decide +kernel
theorem dX7_rain_35 : decode cX7_rain 35 = .ok (.istore_n 3, 1) := by decide +kernel
theorem dX7_rain_36 : decode cX7_rain 36 = .ok (.aload_n 0, 1) := by decide +kernel
theorem dX7_rain_37 : decode cX7_rain 37 = .ok (.getfield 7, 3) := by decide +kernel
theorem dX7_rain_40 : decode cX7_rain 40 = .ok (.sipush 542, 3) := by decide +kernel
theorem dX7_rain_43 : decode cX7_rain 43 = .ok (.iload_n 1, 1) := by decide +kernel
theorem dX7_rain_44 : decode cX7_rain 44 = .ok (.iadd, 1) := by decide +kernel
theorem dX7_rain_45 : decode cX7_rain 45 = .ok (.iload_n 2, 1) := by decide +kernel
theorem dX7_rain_46 : decode cX7_rain 46 = .ok (.iastore, 1) := by decide +kernel
theorem dX7_rain_47 : decode cX7_rain 47 = .ok (.iload_n 3, 1) := by decide +kernel
theorem dX7_rain_48 : decode cX7_rain 48 = .ok (.ireturn, 1) := by decide +kernel
theorem dX7_dry_0 : decode cX7_dry 0 = .ok (.iconst 0, 1) := by decide +kernel
theorem dX7_dry_1 : decode cX7_dry 1 = .ok (.istore_n 1, 1) := by decide +kernel
theorem dX7_dry_2 : decode cX7_dry 2 = .ok (.bipush 50, 2) := by decide +kernel
theorem dX7_dry_4 : decode cX7_dry 4 = .ok (.istore_n 2, 1) := by decide +kernel
theorem dX7_dry_5 : decode cX7_dry 5 = .ok (.iload_n 2, 1) := by decide +kernel
theorem dX7_dry_6 : decode cX7_dry 6 = .ok (.sipush 290, 3) := by decide +kernel
theorem dX7_dry_9 : decode cX7_dry 9 = .ok (.if_icmp .ge 33, 3) := by decide +kernel
theorem dX7_dry_12 : decode cX7_dry 12 = .ok (.iload_n 1, 1) := by decide +kernel
theorem dX7_dry_13 : decode cX7_dry 13 = .ok (.aload_n 0, 1) := by decide +kernel
theorem dX7_dry_14 : decode cX7_dry 14 = .ok (.getfield 7, 3) := by decide +kernel
