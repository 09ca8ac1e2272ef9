theorem dX7_dry_17 : decode cX7_dry 17 = .ok (.iload_n 2, 1) := by decide +kernel
theorem dX7_dry_18 : decode cX7_dry 18 = .ok (.iaload, 1) := by decide +kernel
theorem dX7_dry_19 : decode cX7_dry 19 = .ok (.ifCond .eq 7, 3) := by decide +kernel
theorem dX7_dry_22 : decode cX7_dry 22 = .ok (.iconst 1, 1) := by decide +kernel
theorem dX7_dry_23 : decode cX7_dry 23 = .ok (.goto 4, 3) := by decide +kernel
theorem dX7_dry_26 : decode cX7_dry 26 = .ok (.iconst 0, 1) := by decide +kernel
theorem dX7_dry_27 : decode cX7_dry 27 = .ok (.iadd, 1) := by decide +kernel
theorem dX7_dry_28 : decode cX7_dry 28 = .ok (.istore_n 1, 1) := by decide +kernel
theorem dX7_dry_29 : decode cX7_dry 29 = .ok (.aload_n 0, 1) := by decide +kernel
theorem dX7_dry_30 : decode cX7_dry 30 = .ok (.getfield 7, 3) := by decide +kernel
theorem dX7_dry_33 : decode cX7_dry 33 = .ok (.iload_n 2, 1) := by decide +kernel
theorem dX7_dry_34 : decode cX7_dry 34 = .ok (.iconst 0, 1) := by decide +kernel
theorem dX7_dry_35 : decode cX7_dry 35 = .ok (.iastore, 1) := by decide +kernel
theorem dX7_dry_36 : decode cX7_dry 36 = .ok (.iinc 2 1, 3) := by decide +kernel
theorem dX7_dry_39 : decode cX7_dry 39 = .ok (.goto (-34), 3) := by decide +kernel
theorem dX7_dry_42 : decode cX7_dry 42 = .ok (.sipush 542, 3) := by decide +kernel
theorem dX7_dry_45 : decode cX7_dry 45 = .ok (.istore_n 2, 1) := by decide +kernel
theorem dX7_dry_46 : decode cX7_dry 46 = .ok (.iload_n 2, 1) := by decide +kernel
theorem dX7_dry_47 : decode cX7_dry 47 = .ok (.sipush 566, 3) := by decide +kernel
theorem dX7_dry_50 : decode cX7_dry 50 = .ok (.if_icmp .ge 33, 3) := by decide +kernel
theorem dX7_dry_53 : decode cX7_dry 53 = .ok (.iload_n 1, 1) := by decide +kernel
theorem dX7_dry_54 : decode cX7_dry 54 = .ok (.aload_n 0, 1) := by decide +kernel
theorem dX7_dry_55 : decode cX7_dry 55 = .ok (.getfield 7, 3) := by decide +kernel
theorem dX7_dry_58 : decode cX7_dry 58 = .ok (.iload_n 2, 1) := by decide +kernel
theorem dX7_dry_59 : decode cX7_dry 59 = .ok (.iaload, 1) := by decide +kernel
theorem dX7_dry_60 : decode cX7_dry 60 = .ok (.ifCond .eq 7, 3) := by decide +kernel
theorem dX7_dry_63 : decode cX7_dry 63 = .ok (.iconst 1, 1) := by decide +kernel
theorem dX7_dry_64 : decode cX7_dry 64 = .ok (.goto 4, 3) := by decide +kernel
theorem dX7_dry_67 : decode cX7_dry 67 = .ok (.iconst 0, 1) := by decide +kernel
theorem dX7_dry_68 : decode cX7_dry 68 = .ok (.iadd, 1) := by decide +kernel
theorem dX7_dry_69 : decode cX7_dry 69 = .ok (.istore_n 1, 1) := by decide +kernel
theorem dX7_dry_70 : decode cX7_dry 70 = .ok (.aload_n 0, 1) := by decide +kernel
theorem dX7_dry_71 : decode cX7_dry 71 = .ok (.getfield 7, 3) := by decide +kernel
theorem dX7_dry_74 : decode cX7_dry 74 = .ok (.iload_n 2, 1) := by decide +kernel
theorem dX7_dry_75 : decode cX7_dry 75 = .ok (.iconst 0, 1) := by decide +kernel
theorem dX7_dry_76 : decode cX7_dry 76 = .ok (.iastore, 1) := by decide +kernel
theorem dX7_dry_77 : decode cX7_dry 77 = .ok (.iinc 2 1, 3) := by decide +kernel
theorem dX7_dry_80 : decode cX7_dry 80 = .ok (.goto (-34), 3) := by decide +kernel
theorem dX7_dry_83 : decode cX7_dry 83 = .ok (.iload_n 1, 1) := by decide +kernel
theorem dX7_dry_84 : decode cX7_dry 84 = .ok (.ireturn, 1) := by decide +kernel
theorem dX7_share_0 : decode cX7_share 0 = .ok (.iload_n 3, 1) := by decide +kernel
theorem dX7_share_1 : decode cX7_share 1 = .ok (.iconst 0, 1) := by decide +kernel
theorem dX7_share_2 : decode cX7_share 2 = .ok (.bipush 11, 2) := by decide +kernel
theorem dX7_share_4 : decode cX7_share 4 = .ok (.invokestatic 48, 3) := by decide +kernel
theorem dX7_share_7 : decode cX7_share 7 = .ok (.ifCond .ne 5, 3) := by decide +kernel
theorem dX7_share_10 : decode cX7_share 10 = .ok (.iconst 0, 1) := by decide +kernel
theorem dX7_share_11 : decode cX7_share 11 = .ok (.ireturn, 1) := by decide +kernel
theorem dX7_share_12 : decode cX7_share 12 = .ok (.aload_n 0, 1) := by decide +kernel
theorem dX7_share_13 : decode cX7_share 13 = .ok (.iload_n 1, 1) := by decide +kernel
theorem dX7_share_14 : decode cX7_share 14 = .ok (.invokevirtual 71, 3) := by decide +kernel
theorem dX7_share_17 : decode cX7_share 17 = .ok (.iconst 1, 1) := by decide +kernel
theorem dX7_share_18 : decode cX7_share 18 = .ok (.if_icmp .ne 7, 3) := by decide +kernel
theorem dX7_share_21 : decode cX7_share 21 = .ok (.iconst 1, 1) := by decide +kernel
theorem dX7_share_22 : decode cX7_share 22 = .ok (.goto 4, 3) := by decide +kernel
theorem dX7_share_25 : decode cX7_share 25 = .ok (.iconst 0, 1) := by decide +kernel
theorem dX7_share_26 : decode cX7_share 26 = .ok (.aload_n 0, 1) := by decide +kernel
theorem dX7_share_27 : decode cX7_share 27 = .ok (.iload_n 2, 1) := by decide +kernel
theorem dX7_share_28 : decode cX7_share 28 = .ok (.invokevirtual 71, 3) := by decide +kernel
theorem dX7_share_31 : decode cX7_share 31 = .ok (.iconst 1, 1) := by decide +kernel
theorem dX7_share_32 : decode cX7_share 32 = .ok (.if_icmp .ne 7, 3) := by decide +kernel
theorem dX7_share_35 : decode cX7_share 35 = .ok (.iconst 1, 1) := by decide +kernel
theorem dX7_share_36 : decode cX7_share 36 = .ok (.goto 4, 3) := by decide +kernel
theorem dX7_share_39 : decode cX7_share 39 = .ok (.iconst 0, 1) := by decide +kernel
theorem dX7_share_40 : decode cX7_share 40 = .ok (.if_icmp .eq 7, 3) := by decide +kernel
theorem dX7_share_43 : decode cX7_share 43 = .ok (.iconst 1, 1) := by decide +kernel
theorem dX7_share_44 : decode cX7_share 44 = .ok (.goto 4, 3) := by decide +kernel
theorem dX7_share_47 : decode cX7_share 47 = .ok (.iconst 0, 1) := by decide +kernel
theorem dX7_share_48 : decode cX7_share 48 = .ok (.istore 4, 2) := by decide +kernel
theorem dX7_share_50 : decode cX7_share 50 = .ok (.aload_n 0, 1) := by decide +kernel
theorem dX7_share_51 : decode cX7_share 51 = .ok (.getfield 7, 3) := by decide +kernel
theorem dX7_share_54 : decode cX7_share 54 = .ok (.iload 4, 2) := by decide +kernel
theorem dX7_share_56 : decode cX7_share 56 = .ok (.aload_n 0, 1) := by decide +kernel
theorem dX7_share_57 : decode cX7_share 57 = .ok (.iload_n 1, 1) := by decide +kernel
theorem dX7_share_58 : decode cX7_share 58 = .ok (.iload_n 2, 1) := by decide +kernel
theorem dX7_share_59 : decode cX7_share 59 = .ok (.invokevirtual 78, 3) := by decide +kernel
theorem dX7_share_62 : decode cX7_share 62 = .ok (.iload_n 3, 1) := by decide +kernel
theorem dX7_share_63 : decode cX7_share 63 = .ok (.invokestatic 81, 3) := by decide +kernel
theorem dX7_share_66 : decode cX7_share 66 = .ok (.iaload, 1) := by decide +kernel
theorem dX7_share_67 : decode cX7_share 67 = .ok (.ireturn, 1) := by decide +kernel
theorem dX7_lowering_0 : decode cX7_lowering 0 = .ok (.iconst 0, 1) := by decide +kernel
theorem dX7_lowering_1 : decode cX7_lowering 1 = .ok (.istore 5, 2) := by decide +kernel
theorem dX7_lowering_3 : decode cX7_lowering 3 = .ok (.iload 4, 2) := by decide +kernel
theorem dX7_lowering_5 : decode cX7_lowering 5 = .ok (.istore 6, 2) := by decide +kernel
theorem dX7_lowering_7 : decode cX7_lowering 7 = .ok (.iload 6, 2) := by decide +kernel
theorem dX7_lowering_9 : decode cX7_lowering 9 = .ok (.bipush 24, 2) := by decide +kernel
theorem dX7_lowering_11 : decode cX7_lowering 11 = .ok (.if_icmp .ge 40, 3) := by decide +kernel
theorem dX7_lowering_14 : decode cX7_lowering 14 = .ok (.iload 5, 2) := by decide +kernel
theorem dX7_lowering_16 : decode cX7_lowering 16 = .ok (.aload_n 0, 1) := by decide +kernel
theorem dX7_lowering_17 : decode cX7_lowering 17 = .ok (.iload_n 3, 1) := by decide +kernel
theorem dX7_lowering_18 : decode cX7_lowering 18 = .ok (.iload 6, 2) := by decide +kernel
theorem dX7_lowering_20 : decode cX7_lowering 20 = .ok (.invokevirtual 105, 3) := by decide +kernel
theorem dX7_lowering_23 : decode cX7_lowering 23 = .ok (.aload_n 0, 1) := by decide +kernel
theorem dX7_lowering_24 : decode cX7_lowering 24 = .ok (.iload_n 3, 1) := by decide +kernel
theorem dX7_lowering_25 : decode cX7_lowering 25 = .ok (.iload 6, 2) := by decide +kernel
theorem dX7_lowering_27 : decode cX7_lowering 27 = .ok (.invokevirtual 75, 3) := by decide +kernel
theorem dX7_lowering_30 : decode cX7_lowering 30 = .ok (.imul, 1) := by decide +kernel
theorem dX7_lowering_31 : decode cX7_lowering 31 = .ok (.aload_n 0, 1) := by decide +kernel
theorem dX7_lowering_32 : decode cX7_lowering 32 = .ok (.iload_n 1, 1) := by decide +kernel
theorem dX7_lowering_33 : decode cX7_lowering 33 = .ok (.iload_n 3, 1) := by decide +kernel
theorem dX7_lowering_34 : decode cX7_lowering 34 = .ok (.iload_n 2, 1) := by decide +kernel
theorem dX7_lowering_35 : decode cX7_lowering 35 = .ok (.iload 6, 2) := by decide +kernel
theorem dX7_lowering_37 : decode cX7_lowering 37 = .ok (.isub, 1) := by decide +kernel
theorem dX7_lowering_38 : decode cX7_lowering 38 = .ok (.invokevirtual 108, 3) := by decide +kernel
theorem dX7_lowering_41 : decode cX7_lowering 41 = .ok (.imul, 1) := by decide +kernel
theorem dX7_lowering_42 : decode cX7_lowering 42 = .ok (.iadd, 1) := by decide +kernel
theorem dX7_lowering_43 : decode cX7_lowering 43 = .ok (.istore 5, 2) := by decide +kernel
theorem dX7_lowering_45 : decode cX7_lowering 45 = .ok (.iinc 6 1, 3) := by decide +kernel
theorem dX7_lowering_48 : decode cX7_lowering 48 = .ok (.goto (-41), 3) := by decide +kernel
theorem dX7_lowering_51 : decode cX7_lowering 51 = .ok (.iload 5, 2) := by decide +kernel
theorem dX7_lowering_53 : decode cX7_lowering 53 = .ok (.ireturn, 1) := by decide +kernel
theorem dX7_rainOf_0 : decode cX7_rainOf 0 = .ok (.iconst 0, 1) := by decide +kernel
theorem dX7_rainOf_1 : decode cX7_rainOf 1 = .ok (.istore_n 2, 1) := by decide +kernel
theorem dX7_rainOf_2 : decode cX7_rainOf 2 = .ok (.iconst 0, 1) := by decide +kernel
theorem dX7_rainOf_3 : decode cX7_rainOf 3 = .ok (.istore_n 3, 1) := by decide +kernel
theorem dX7_rainOf_4 : decode cX7_rainOf 4 = .ok (.iload_n 3, 1) := by decide +kernel
theorem dX7_rainOf_5 : decode cX7_rainOf 5 = .ok (.iload_n 1, 1) := by decide +kernel
theorem dX7_rainOf_6 : decode cX7_rainOf 6 = .ok (.if_icmp .gt 47, 3) := by decide +kernel
theorem dX7_rainOf_9 : decode cX7_rainOf 9 = .ok (.iload_n 2, 1) := by decide +kernel
theorem dX7_rainOf_10 : decode cX7_rainOf 10 = .ok (.iload_n 1, 1) := by decide +kernel
theorem dX7_rainOf_11 : decode cX7_rainOf 11 = .ok (.iload_n 3, 1) := by decide +kernel
theorem dX7_rainOf_12 : decode cX7_rainOf 12 = .ok (.isub, 1) := by decide +kernel
theorem dX7_rainOf_13 : decode cX7_rainOf 13 = .ok (.bipush 11, 2) := by decide +kernel
theorem dX7_rainOf_15 : decode cX7_rainOf 15 = .ok (.if_icmp .le 7, 3) := by decide +kernel
theorem dX7_rainOf_18 : decode cX7_rainOf 18 = .ok (.iconst 0, 1) := by decide +kernel
theorem dX7_rainOf_19 : decode cX7_rainOf 19 = .ok (.goto 26, 3) := by decide +kernel
theorem dX7_rainOf_22 : decode cX7_rainOf 22 = .ok (.aload_n 0, 1) := by decide +kernel
theorem dX7_rainOf_23 : decode cX7_rainOf 23 = .ok (.getfield 7, 3) := by decide +kernel
theorem dX7_rainOf_26 : decode cX7_rainOf 26 = .ok (.sipush 542, 3) := by decide +kernel
theorem dX7_rainOf_29 : decode cX7_rainOf 29 = .ok (.iload_n 3, 1) := by decide +kernel
theorem dX7_rainOf_30 : decode cX7_rainOf 30 = .ok (.iadd, 1) := by decide +kernel
theorem dX7_rainOf_31 : decode cX7_rainOf 31 = .ok (.iaload, 1) := by decide +kernel
theorem dX7_rainOf_32 : decode cX7_rainOf 32 = .ok (.aload_n 0, 1) := by decide +kernel
theorem dX7_rainOf_33 : decode cX7_rainOf 33 = .ok (.getfield 7, 3) := by decide +kernel
theorem dX7_rainOf_36 : decode cX7_rainOf 36 = .ok (.sipush 530, 3) := by decide +kernel
theorem dX7_rainOf_39 : decode cX7_rainOf 39 = .ok (.iload_n 1, 1) := by decide +kernel
theorem dX7_rainOf_40 : decode cX7_rainOf 40 = .ok (.iadd, 1) := by decide +kernel
theorem dX7_rainOf_41 : decode cX7_rainOf 41 = .ok (.iload_n 3, 1) := by decide +kernel
theorem dX7_rainOf_42 : decode cX7_rainOf 42 = .ok (.isub, 1) := by decide +kernel
theorem dX7_rainOf_43 : decode cX7_rainOf 43 = .ok (.iaload, 1) := by decide +kernel
theorem dX7_rainOf_44 : decode cX7_rainOf 44 = .ok (.imul, 1) := by decide +kernel
theorem dX7_rainOf_45 : decode cX7_rainOf 45 = .ok (.iadd, 1) := by decide +kernel
theorem dX7_rainOf_46 : decode cX7_rainOf 46 = .ok (.istore_n 2, 1) := by decide +kernel
theorem dX7_rainOf_47 : decode cX7_rainOf 47 = .ok (.iinc 3 1, 3) := by decide +kernel
theorem dX7_rainOf_50 : decode cX7_rainOf 50 = .ok (.goto (-46), 3) := by decide +kernel
theorem dX7_rainOf_53 : decode cX7_rainOf 53 = .ok (.iload_n 2, 1) := by decide +kernel
theorem dX7_rainOf_54 : decode cX7_rainOf 54 = .ok (.ireturn, 1) := by decide +kernel
theorem dX7_headOf_0 : decode cX7_headOf 0 = .ok (.aload_n 0, 1) := by decide +kernel
theorem dX7_headOf_1 : decode cX7_headOf 1 = .ok (.iload_n 1, 1) := by decide +kernel
theorem dX7_headOf_2 : decode cX7_headOf 2 = .ok (.iconst 3, 1) := by decide +kernel
theorem dX7_headOf_3 : decode cX7_headOf 3 = .ok (.invokevirtual 54, 3) := by decide +kernel
theorem dX7_headOf_6 : decode cX7_headOf 6 = .ok (.aload_n 0, 1) := by decide +kernel
theorem dX7_headOf_7 : decode cX7_headOf 7 = .ok (.iload_n 2, 1) := by decide +kernel
theorem dX7_headOf_8 : decode cX7_headOf 8 = .ok (.invokevirtual 111, 3) := by decide +kernel
theorem dX7_headOf_11 : decode cX7_headOf 11 = .ok (.iadd, 1) := by decide +kernel
theorem dX7_headOf_12 : decode cX7_headOf 12 = .ok (.istore_n 3, 1) := by decide +kernel
theorem dX7_headOf_13 : decode cX7_headOf 13 = .ok (.iconst 0, 1) := by decide +kernel
theorem dX7_headOf_14 : decode cX7_headOf 14 = .ok (.istore 4, 2) := by decide +kernel
theorem dX7_headOf_16 : decode cX7_headOf 16 = .ok (.iload 4, 2) := by decide +kernel
theorem dX7_headOf_18 : decode cX7_headOf 18 = .ok (.aload_n 0, 1) := by decide +kernel
theorem dX7_headOf_19 : decode cX7_headOf 19 = .ok (.invokevirtual 44, 3) := by decide +kernel
theorem dX7_headOf_22 : decode cX7_headOf 22 = .ok (.if_icmp .ge 21, 3) := by decide +kernel
theorem dX7_headOf_25 : decode cX7_headOf 25 = .ok (.iload_n 3, 1) := by decide +kernel
theorem dX7_headOf_26 : decode cX7_headOf 26 = .ok (.aload_n 0, 1) := by decide +kernel
theorem dX7_headOf_27 : decode cX7_headOf 27 = .ok (.iload_n 1, 1) := by decide +kernel
theorem dX7_headOf_28 : decode cX7_headOf 28 = .ok (.iload_n 2, 1) := by decide +kernel
theorem dX7_headOf_29 : decode cX7_headOf 29 = .ok (.iload 4, 2) := by decide +kernel
theorem dX7_headOf_31 : decode cX7_headOf 31 = .ok (.iconst 0, 1) := by decide +kernel
theorem dX7_headOf_32 : decode cX7_headOf 32 = .ok (.invokevirtual 114, 3) := by decide +kernel
theorem dX7_headOf_35 : decode cX7_headOf 35 = .ok (.isub, 1) := by decide +kernel
theorem dX7_headOf_36 : decode cX7_headOf 36 = .ok (.istore_n 3, 1) := by decide +kernel
theorem dX7_headOf_37 : decode cX7_headOf 37 = .ok (.iinc 4 1, 3) := by decide +kernel
theorem dX7_headOf_40 : decode cX7_headOf 40 = .ok (.goto (-24), 3) := by decide +kernel
theorem dX7_headOf_43 : decode cX7_headOf 43 = .ok (.iload_n 3, 1) := by decide +kernel
theorem dX7_headOf_44 : decode cX7_headOf 44 = .ok (.ireturn, 1) := by decide +kernel
theorem dX7_head_0 : decode cX7_head 0 = .ok (.aload_n 0, 1) := by decide +kernel
theorem dX7_head_1 : decode cX7_head 1 = .ok (.iload_n 1, 1) := by decide +kernel
theorem dX7_head_2 : decode cX7_head 2 = .ok (.invokevirtual 68, 3) := by decide +kernel
theorem dX7_head_5 : decode cX7_head 5 = .ok (.ifCond .eq 19, 3) := by decide +kernel
theorem dX7_head_8 : decode cX7_head 8 = .ok (.iload_n 2, 1) := by decide +kernel
theorem dX7_head_9 : decode cX7_head 9 = .ok (.invokestatic 98, 3) := by decide +kernel
theorem dX7_head_12 : decode cX7_head 12 = .ok (.ifCond .eq 12, 3) := by decide +kernel
theorem dX7_head_15 : decode cX7_head 15 = .ok (.aload_n 0, 1) := by decide +kernel
theorem dX7_head_16 : decode cX7_head 16 = .ok (.iload_n 1, 1) := by decide +kernel
theorem dX7_head_17 : decode cX7_head 17 = .ok (.iload_n 2, 1) := by decide +kernel
theorem dX7_head_18 : decode cX7_head 18 = .ok (.invokevirtual 118, 3) := by decide +kernel
theorem dX7_head_21 : decode cX7_head 21 = .ok (.goto 9, 3) := by decide +kernel
theorem dX7_head_24 : decode cX7_head 24 = .ok (.aload_n 0, 1) := by decide +kernel
theorem dX7_head_25 : decode cX7_head 25 = .ok (.ldc 62, 2) := by decide +kernel
theorem dX7_head_27 : decode cX7_head 27 = .ok (.invokevirtual 63, 3) := by decide +kernel
theorem dX7_head_30 : decode cX7_head 30 = .ok (.ireturn, 1) := by decide +kernel
theorem dX7_by_0 : decode cX7_by 0 = .ok (.aload_n 0, 1) := by decide +kernel
theorem dX7_by_1 : decode cX7_by 1 = .ok (.iload_n 1, 1) := by decide +kernel
theorem dX7_by_2 : decode cX7_by 2 = .ok (.invokevirtual 68, 3) := by decide +kernel
theorem dX7_by_5 : decode cX7_by 5 = .ok (.ifCond .eq 29, 3) := by decide +kernel
theorem dX7_by_8 : decode cX7_by 8 = .ok (.iload_n 2, 1) := by decide +kernel
theorem dX7_by_9 : decode cX7_by 9 = .ok (.invokestatic 98, 3) := by decide +kernel
theorem dX7_by_12 : decode cX7_by 12 = .ok (.ifCond .eq 22, 3) := by decide +kernel
theorem dX7_by_15 : decode cX7_by 15 = .ok (.aload_n 0, 1) := by decide +kernel
theorem dX7_by_16 : decode cX7_by 16 = .ok (.iload_n 3, 1) := by decide +kernel
theorem dX7_by_17 : decode cX7_by 17 = .ok (.invokevirtual 68, 3) := by decide +kernel
theorem dX7_by_20 : decode cX7_by 20 = .ok (.ifCond .eq 14, 3) := by decide +kernel
theorem dX7_by_23 : decode cX7_by 23 = .ok (.aload_n 0, 1) := by decide +kernel
theorem dX7_by_24 : decode cX7_by 24 = .ok (.iload_n 1, 1) := by decide +kernel
theorem dX7_by_25 : decode cX7_by 25 = .ok (.iload_n 2, 1) := by decide +kernel
theorem dX7_by_26 : decode cX7_by 26 = .ok (.iload_n 3, 1) := by decide +kernel
theorem dX7_by_27 : decode cX7_by 27 = .ok (.iconst 0, 1) := by decide +kernel
theorem dX7_by_28 : decode cX7_by 28 = .ok (.invokevirtual 114, 3) := by decide +kernel
theorem dX7_by_31 : decode cX7_by 31 = .ok (.goto 9, 3) := by decide +kernel
theorem dX7_by_34 : decode cX7_by 34 = .ok (.aload_n 0, 1) := by decide +kernel
theorem dX7_by_35 : decode cX7_by 35 = .ok (.ldc 62, 2) := by decide +kernel
theorem dX7_by_37 : decode cX7_by 37 = .ok (.invokevirtual 63, 3) := by decide +kernel
theorem dX7_by_40 : decode cX7_by 40 = .ok (.ireturn, 1) := by decide +kernel
theorem dX7_rained_0 : decode cX7_rained 0 = .ok (.aload_n 0, 1) := by decide +kernel
theorem dX7_rained_1 : decode cX7_rained 1 = .ok (.iload_n 1, 1) := by decide +kernel
theorem dX7_rained_2 : decode cX7_rained 2 = .ok (.invokevirtual 68, 3) := by decide +kernel
theorem dX7_rained_5 : decode cX7_rained 5 = .ok (.ifCond .eq 18, 3) := by decide +kernel
theorem dX7_rained_8 : decode cX7_rained 8 = .ok (.iload_n 2, 1) := by decide +kernel
theorem dX7_rained_9 : decode cX7_rained 9 = .ok (.invokestatic 98, 3) := by decide +kernel
theorem dX7_rained_12 : decode cX7_rained 12 = .ok (.ifCond .eq 11, 3) := by decide +kernel
theorem dX7_rained_15 : decode cX7_rained 15 = .ok (.aload_n 0, 1) := by decide +kernel
theorem dX7_rained_16 : decode cX7_rained 16 = .ok (.iload_n 2, 1) := by decide +kernel
theorem dX7_rained_17 : decode cX7_rained 17 = .ok (.invokevirtual 111, 3) := by decide +kernel
theorem dX7_rained_20 : decode cX7_rained 20 = .ok (.goto 9, 3) := by decide +kernel
theorem dX7_rained_23 : decode cX7_rained 23 = .ok (.aload_n 0, 1) := by decide +kernel
theorem dX7_rained_24 : decode cX7_rained 24 = .ok (.ldc 62, 2) := by decide +kernel
theorem dX7_rained_26 : decode cX7_rained 26 = .ok (.invokevirtual 63, 3) := by decide +kernel
theorem dX7_rained_29 : decode cX7_rained 29 = .ok (.ireturn, 1) := by decide +kernel
theorem dX7_most_0 : decode cX7_most 0 = .ok (.aload_n 0, 1) := by decide +kernel
theorem dX7_most_1 : decode cX7_most 1 = .ok (.iload_n 1, 1) := by decide +kernel
theorem dX7_most_2 : decode cX7_most 2 = .ok (.invokevirtual 68, 3) := by decide +kernel
theorem dX7_most_5 : decode cX7_most 5 = .ok (.ifCond .eq 10, 3) := by decide +kernel
theorem dX7_most_8 : decode cX7_most 8 = .ok (.iload_n 2, 1) := by decide +kernel
theorem dX7_most_9 : decode cX7_most 9 = .ok (.invokestatic 98, 3) := by decide +kernel
theorem dX7_most_12 : decode cX7_most 12 = .ok (.ifCond .ne 10, 3) := by decide +kernel
theorem dX7_most_15 : decode cX7_most 15 = .ok (.aload_n 0, 1) := by decide +kernel
theorem dX7_most_16 : decode cX7_most 16 = .ok (.ldc 62, 2) := by decide +kernel
theorem dX7_most_18 : decode cX7_most 18 = .ok (.invokevirtual 63, 3) := by decide +kernel
theorem dX7_most_21 : decode cX7_most 21 = .ok (.ireturn, 1) := by decide +kernel
theorem dX7_most_22 : decode cX7_most 22 = .ok (.iconst 0, 1) := by decide +kernel
theorem dX7_most_23 : decode cX7_most 23 = .ok (.istore_n 3, 1) := by decide +kernel
theorem dX7_most_24 : decode cX7_most 24 = .ok (.iconst (-1), 1) := by decide +kernel
theorem dX7_most_25 : decode cX7_most 25 = .ok (.istore 4, 2) := by decide +kernel
theorem dX7_most_27 : decode cX7_most 27 = .ok (.iconst 0, 1) := by decide +kernel
theorem dX7_most_28 : decode cX7_most 28 = .ok (.istore 5, 2) := by decide +kernel
theorem dX7_most_30 : decode cX7_most 30 = .ok (.iload 5, 2) := by decide +kernel
theorem dX7_most_32 : decode cX7_most 32 = .ok (.aload_n 0, 1) := by decide +kernel
theorem dX7_most_33 : decode cX7_most 33 = .ok (.invokevirtual 44, 3) := by decide +kernel
theorem dX7_most_36 : decode cX7_most 36 = .ok (.if_icmp .ge 36, 3) := by decide +kernel
theorem dX7_most_39 : decode cX7_most 39 = .ok (.aload_n 0, 1) := by decide +kernel
theorem dX7_most_40 : decode cX7_most 40 = .ok (.iload_n 1, 1) := by decide +kernel
theorem dX7_most_41 : decode cX7_most 41 = .ok (.iload_n 2, 1) := by decide +kernel
theorem dX7_most_42 : decode cX7_most 42 = .ok (.iload 5, 2) := by decide +kernel
theorem dX7_most_44 : decode cX7_most 44 = .ok (.iconst 0, 1) := by decide +kernel
theorem dX7_most_45 : decode cX7_most 45 = .ok (.invokevirtual 114, 3) := by decide +kernel
theorem dX7_most_48 : decode cX7_most 48 = .ok (.istore 6, 2) := by decide +kernel
theorem dX7_most_50 : decode cX7_most 50 = .ok (.iload 6, 2) := by decide +kernel
theorem dX7_most_52 : decode cX7_most 52 = .ok (.iload_n 3, 1) := by decide +kernel
theorem dX7_most_53 : decode cX7_most 53 = .ok (.if_icmp .gt 6, 3) := by decide +kernel
theorem dX7_most_56 : decode cX7_most 56 = .ok (.goto 10, 3) := by decide +kernel
theorem dX7_most_59 : decode cX7_most 59 = .ok (.iload 6, 2) := by decide +kernel
theorem dX7_most_61 : decode cX7_most 61 = .ok (.istore_n 3, 1) := by decide +kernel
theorem dX7_most_62 : decode cX7_most 62 = .ok (.iload 5, 2) := by decide +kernel
theorem dX7_most_64 : decode cX7_most 64 = .ok (.istore 4, 2) := by decide +kernel
theorem dX7_most_66 : decode cX7_most 66 = .ok (.iinc 5 1, 3) := by decide +kernel
theorem dX7_most_69 : decode cX7_most 69 = .ok (.goto (-39), 3) := by decide +kernel
theorem dX7_most_72 : decode cX7_most 72 = .ok (.iload 4, 2) := by decide +kernel
theorem dX7_most_74 : decode cX7_most 74 = .ok (.ifCond .ge 12, 3) := by decide +kernel
theorem dX7_most_77 : decode cX7_most 77 = .ok (.aload_n 0, 1) := by decide +kernel
theorem dX7_most_78 : decode cX7_most 78 = .ok (.ldc 121, 2) := by decide +kernel
theorem dX7_most_80 : decode cX7_most 80 = .ok (.invokevirtual 63, 3) := by decide +kernel
theorem dX7_most_83 : decode cX7_most 83 = .ok (.goto 5, 3) := by decide +kernel
theorem dX7_most_86 : decode cX7_most 86 = .ok (.iload 4, 2) := by decide +kernel
theorem dX7_most_88 : decode cX7_most 88 = .ok (.ireturn, 1) := by decide +kernel
theorem dX7_above_0 : decode cX7_above 0 = .ok (.aload_n 0, 1) := by decide +kernel
theorem dX7_above_1 : decode cX7_above 1 = .ok (.iload_n 1, 1) := by decide +kernel
theorem dX7_above_2 : decode cX7_above 2 = .ok (.iload_n 2, 1) := by decide +kernel
theorem dX7_above_3 : decode cX7_above 3 = .ok (.invokevirtual 118, 3) := by decide +kernel
theorem dX7_above_6 : decode cX7_above 6 = .ok (.aload_n 0, 1) := by decide +kernel
theorem dX7_above_7 : decode cX7_above 7 = .ok (.iload_n 1, 1) := by decide +kernel
theorem dX7_above_8 : decode cX7_above 8 = .ok (.iconst 4, 1) := by decide +kernel
theorem dX7_above_9 : decode cX7_above 9 = .ok (.invokevirtual 54, 3) := by decide +kernel
theorem dX7_above_12 : decode cX7_above 12 = .ok (.isub, 1) := by decide +kernel
theorem dX7_above_13 : decode cX7_above 13 = .ok (.ireturn, 1) := by decide +kernel
theorem dX7_when_0 : decode cX7_when 0 = .ok (.aload_n 0, 1) := by decide +kernel
theorem dX7_when_1 : decode cX7_when 1 = .ok (.iload_n 1, 1) := by decide +kernel
theorem dX7_when_2 : decode cX7_when 2 = .ok (.invokevirtual 68, 3) := by decide +kernel
theorem dX7_when_5 : decode cX7_when 5 = .ok (.ifCond .eq 10, 3) := by decide +kernel
theorem dX7_when_8 : decode cX7_when 8 = .ok (.iload_n 2, 1) := by decide +kernel
theorem dX7_when_9 : decode cX7_when 9 = .ok (.invokestatic 98, 3) := by decide +kernel
theorem dX7_when_12 : decode cX7_when 12 = .ok (.ifCond .ne 10, 3) := by decide +kernel
theorem dX7_when_15 : decode cX7_when 15 = .ok (.aload_n 0, 1) := by decide +kernel
theorem dX7_when_16 : decode cX7_when 16 = .ok (.ldc 62, 2) := by decide +kernel
theorem dX7_when_18 : decode cX7_when 18 = .ok (.invokevirtual 63, 3) := by decide +kernel
theorem dX7_when_21 : decode cX7_when 21 = .ok (.ireturn, 1) := by decide +kernel
theorem dX7_when_22 : decode cX7_when 22 = .ok (.iload_n 2, 1) := by decide +kernel
theorem dX7_when_23 : decode cX7_when 23 = .ok (.istore_n 3, 1) := by decide +kernel
theorem dX7_when_24 : decode cX7_when 24 = .ok (.iload_n 3, 1) := by decide +kernel
theorem dX7_when_25 : decode cX7_when 25 = .ok (.bipush 24, 2) := by decide +kernel
theorem dX7_when_27 : decode cX7_when 27 = .ok (.if_icmp .ge 20, 3) := by decide +kernel
theorem dX7_when_30 : decode cX7_when 30 = .ok (.aload_n 0, 1) := by decide +kernel
theorem dX7_when_31 : decode cX7_when 31 = .ok (.iload_n 1, 1) := by decide +kernel
theorem dX7_when_32 : decode cX7_when 32 = .ok (.iload_n 3, 1) := by decide +kernel
theorem dX7_when_33 : decode cX7_when 33 = .ok (.invokevirtual 122, 3) := by decide +kernel
theorem dX7_when_36 : decode cX7_when 36 = .ok (.ifCond .ge 5, 3) := by decide +kernel
theorem dX7_when_39 : decode cX7_when 39 = .ok (.iload_n 3, 1) := by decide +kernel
theorem dX7_when_40 : decode cX7_when 40 = .ok (.ireturn, 1) := by decide +kernel
theorem dX7_when_41 : decode cX7_when 41 = .ok (.iinc 3 1, 3) := by decide +kernel
theorem dX7_when_44 : decode cX7_when 44 = .ok (.goto (-20), 3) := by decide +kernel
theorem dX7_when_47 : decode cX7_when 47 = .ok (.aload_n 0, 1) := by decide +kernel
theorem dX7_when_48 : decode cX7_when 48 = .ok (.ldc 121, 2) := by decide +kernel
theorem dX7_when_50 : decode cX7_when 50 = .ok (.invokevirtual 63, 3) := by decide +kernel
theorem dX7_when_53 : decode cX7_when 53 = .ok (.ireturn, 1) := by decide +kernel
theorem dX7_near_0 : decode cX7_near 0 = .ok (.aload_n 0, 1) := by decide +kernel
theorem dX7_near_1 : decode cX7_near 1 = .ok (.iload_n 1, 1) := by decide +kernel
theorem dX7_near_2 : decode cX7_near 2 = .ok (.invokevirtual 68, 3) := by decide +kernel
theorem dX7_near_5 : decode cX7_near 5 = .ok (.ifCond .eq 10, 3) := by decide +kernel
theorem dX7_near_8 : decode cX7_near 8 = .ok (.iload_n 2, 1) := by decide +kernel
theorem dX7_near_9 : decode cX7_near 9 = .ok (.invokestatic 98, 3) := by decide +kernel
theorem dX7_near_12 : decode cX7_near 12 = .ok (.ifCond .ne 10, 3) := by decide +kernel
theorem dX7_near_15 : decode cX7_near 15 = .ok (.aload_n 0, 1) := by decide +kernel
theorem dX7_near_16 : decode cX7_near 16 = .ok (.ldc 62, 2) := by decide +kernel
theorem dX7_near_18 : decode cX7_near 18 = .ok (.invokevirtual 63, 3) := by decide +kernel
theorem dX7_near_21 : decode cX7_near 21 = .ok (.ireturn, 1) := by decide +kernel
theorem dX7_near_22 : decode cX7_near 22 = .ok (.aload_n 0, 1) := by decide +kernel
theorem dX7_near_23 : decode cX7_near 23 = .ok (.iload_n 1, 1) := by decide +kernel
theorem dX7_near_24 : decode cX7_near 24 = .ok (.iload_n 2, 1) := by decide +kernel
theorem dX7_near_25 : decode cX7_near 25 = .ok (.invokevirtual 122, 3) := by decide +kernel
theorem dX7_near_28 : decode cX7_near 28 = .ok (.istore_n 3, 1) := by decide +kernel
theorem dX7_near_29 : decode cX7_near 29 = .ok (.iload_n 2, 1) := by decide +kernel
theorem dX7_near_30 : decode cX7_near 30 = .ok (.istore 4, 2) := by decide +kernel
theorem dX7_near_32 : decode cX7_near 32 = .ok (.iload 4, 2) := by decide +kernel
theorem dX7_near_34 : decode cX7_near 34 = .ok (.bipush 24, 2) := by decide +kernel
theorem dX7_near_36 : decode cX7_near 36 = .ok (.if_icmp .ge 32, 3) := by decide +kernel
theorem dX7_near_39 : decode cX7_near 39 = .ok (.aload_n 0, 1) := by decide +kernel
theorem dX7_near_40 : decode cX7_near 40 = .ok (.iload_n 1, 1) := by decide +kernel
theorem dX7_near_41 : decode cX7_near 41 = .ok (.iload 4, 2) := by decide +kernel
theorem dX7_near_43 : decode cX7_near 43 = .ok (.invokevirtual 122, 3) := by decide +kernel
theorem dX7_near_46 : decode cX7_near 46 = .ok (.iload_n 3, 1) := by decide +kernel
theorem dX7_near_47 : decode cX7_near 47 = .ok (.if_icmp .ge 13, 3) := by decide +kernel
theorem dX7_near_50 : decode cX7_near 50 = .ok (.aload_n 0, 1) := by decide +kernel
theorem dX7_near_51 : decode cX7_near 51 = .ok (.iload_n 1, 1) := by decide +kernel
theorem dX7_near_52 : decode cX7_near 52 = .ok (.iload 4, 2) := by decide +kernel
theorem dX7_near_54 : decode cX7_near 54 = .ok (.invokevirtual 122, 3) := by decide +kernel
theorem dX7_near_57 : decode cX7_near 57 = .ok (.goto 4, 3) := by decide +kernel
theorem dX7_near_60 : decode cX7_near 60 = .ok (.iload_n 3, 1) := by decide +kernel
theorem dX7_near_61 : decode cX7_near 61 = .ok (.istore_n 3, 1) := by decide +kernel
theorem dX7_near_62 : decode cX7_near 62 = .ok (.iinc 4 1, 3) := by decide +kernel
theorem dX7_near_65 : decode cX7_near 65 = .ok (.goto (-33), 3) := by decide +kernel
theorem dX7_near_68 : decode cX7_near 68 = .ok (.iload_n 3, 1) := by decide +kernel
theorem dX7_near_69 : decode cX7_near 69 = .ok (.ireturn, 1) := by decide +kernel
theorem dX7_low_0 : decode cX7_low 0 = .ok (.iload_n 1, 1) := by decide +kernel
theorem dX7_low_1 : decode cX7_low 1 = .ok (.invokestatic 98, 3) := by decide +kernel
theorem dX7_low_4 : decode cX7_low 4 = .ok (.ifCond .ne 10, 3) := by decide +kernel
theorem dX7_low_7 : decode cX7_low 7 = .ok (.aload_n 0, 1) := by decide +kernel
theorem dX7_low_8 : decode cX7_low 8 = .ok (.ldc 62, 2) := by decide +kernel
theorem dX7_low_10 : decode cX7_low 10 = .ok (.invokevirtual 63, 3) := by decide +kernel
theorem dX7_low_13 : decode cX7_low 13 = .ok (.ireturn, 1) := by decide +kernel
theorem dX7_low_14 : decode cX7_low 14 = .ok (.iconst 0, 1) := by decide +kernel
theorem dX7_low_15 : decode cX7_low 15 = .ok (.istore_n 2, 1) := by decide +kernel
theorem dX7_low_16 : decode cX7_low 16 = .ok (.iconst 0, 1) := by decide +kernel
theorem dX7_low_17 : decode cX7_low 17 = .ok (.istore_n 3, 1) := by decide +kernel
theorem dX7_low_18 : decode cX7_low 18 = .ok (.iload_n 3, 1) := by decide +kernel
theorem dX7_low_19 : decode cX7_low 19 = .ok (.aload_n 0, 1) := by decide +kernel
theorem dX7_low_20 : decode cX7_low 20 = .ok (.invokevirtual 44, 3) := by decide +kernel
theorem dX7_low_23 : decode cX7_low 23 = .ok (.if_icmp .ge 26, 3) := by decide +kernel
theorem dX7_low_26 : decode cX7_low 26 = .ok (.iload_n 2, 1) := by decide +kernel
theorem dX7_low_27 : decode cX7_low 27 = .ok (.aload_n 0, 1) := by decide +kernel
theorem dX7_low_28 : decode cX7_low 28 = .ok (.iload_n 3, 1) := by decide +kernel
theorem dX7_low_29 : decode cX7_low 29 = .ok (.iload_n 1, 1) := by decide +kernel
theorem dX7_low_30 : decode cX7_low 30 = .ok (.invokevirtual 122, 3) := by decide +kernel
theorem dX7_low_33 : decode cX7_low 33 = .ok (.ifCond .ge 7, 3) := by decide +kernel
theorem dX7_low_36 : decode cX7_low 36 = .ok (.iconst 1, 1) := by decide +kernel
theorem dX7_low_37 : decode cX7_low 37 = .ok (.goto 4, 3) := by decide +kernel
theorem dX7_low_40 : decode cX7_low 40 = .ok (.iconst 0, 1) := by decide +kernel
theorem dX7_low_41 : decode cX7_low 41 = .ok (.iadd, 1) := by decide +kernel
theorem dX7_low_42 : decode cX7_low 42 = .ok (.istore_n 2, 1) := by decide +kernel
theorem dX7_low_43 : decode cX7_low 43 = .ok (.iinc 3 1, 3) := by decide +kernel
theorem dX7_low_46 : decode cX7_low 46 = .ok (.goto (-28), 3) := by decide +kernel
theorem dX7_low_49 : decode cX7_low 49 = .ok (.iload_n 2, 1) := by decide +kernel
theorem dX7_low_50 : decode cX7_low 50 = .ok (.ireturn, 1) := by decide +kernel
theorem dX7_without_0 : decode cX7_without 0 = .ok (.aload_n 0, 1) := by decide +kernel
theorem dX7_without_1 : decode cX7_without 1 = .ok (.iload_n 1, 1) := by decide +kernel
theorem dX7_without_2 : decode cX7_without 2 = .ok (.invokevirtual 68, 3) := by decide +kernel
theorem dX7_without_5 : decode cX7_without 5 = .ok (.ifCond .eq 26, 3) := by decide +kernel
theorem dX7_without_8 : decode cX7_without 8 = .ok (.iload_n 2, 1) := by decide +kernel
theorem dX7_without_9 : decode cX7_without 9 = .ok (.invokestatic 98, 3) := by decide +kernel
theorem dX7_without_12 : decode cX7_without 12 = .ok (.ifCond .eq 19, 3) := by decide +kernel
theorem dX7_without_15 : decode cX7_without 15 = .ok (.aload_n 0, 1) := by decide +kernel
theorem dX7_without_16 : decode cX7_without 16 = .ok (.iload_n 3, 1) := by decide +kernel
theorem dX7_without_17 : decode cX7_without 17 = .ok (.invokevirtual 68, 3) := by decide +kernel
theorem dX7_without_20 : decode cX7_without 20 = .ok (.ifCond .eq 11, 3) := by decide +kernel
theorem dX7_without_23 : decode cX7_without 23 = .ok (.iload 4, 2) := by decide +kernel
theorem dX7_without_25 : decode cX7_without 25 = .ok (.invokestatic 98, 3) := by decide +kernel
theorem dX7_without_28 : decode cX7_without 28 = .ok (.ifCond .ne 10, 3) := by decide +kernel
theorem dX7_without_31 : decode cX7_without 31 = .ok (.aload_n 0, 1) := by decide +kernel
theorem dX7_without_32 : decode cX7_without 32 = .ok (.ldc 62, 2) := by decide +kernel
theorem dX7_without_34 : decode cX7_without 34 = .ok (.invokevirtual 63, 3) := by decide +kernel
theorem dX7_without_37 : decode cX7_without 37 = .ok (.ireturn, 1) := by decide +kernel
theorem dX7_without_38 : decode cX7_without 38 = .ok (.aload_n 0, 1) := by decide +kernel
theorem dX7_without_39 : decode cX7_without 39 = .ok (.iload_n 1, 1) := by decide +kernel
theorem dX7_without_40 : decode cX7_without 40 = .ok (.iload_n 2, 1) := by decide +kernel
theorem dX7_without_41 : decode cX7_without 41 = .ok (.iload_n 3, 1) := by decide +kernel
theorem dX7_without_42 : decode cX7_without 42 = .ok (.iload 4, 2) := by decide +kernel
theorem dX7_without_44 : decode cX7_without 44 = .ok (.invokevirtual 114, 3) := by decide +kernel
theorem dX7_without_47 : decode cX7_without 47 = .ok (.ireturn, 1) := by decide +kernel
theorem dX7_freeOf_0 : decode cX7_freeOf 0 = .ok (.aload_n 0, 1) := by decide +kernel
theorem dX7_freeOf_1 : decode cX7_freeOf 1 = .ok (.iload_n 1, 1) := by decide +kernel
theorem dX7_freeOf_2 : decode cX7_freeOf 2 = .ok (.invokevirtual 71, 3) := by decide +kernel
theorem dX7_freeOf_5 : decode cX7_freeOf 5 = .ok (.istore_n 3, 1) := by decide +kernel
theorem dX7_freeOf_6 : decode cX7_freeOf 6 = .ok (.iload_n 3, 1) := by decide +kernel
theorem dX7_freeOf_7 : decode cX7_freeOf 7 = .ok (.iconst 2, 1) := by decide +kernel
theorem dX7_freeOf_8 : decode cX7_freeOf 8 = .ok (.if_icmp .le 5, 3) := by decide +kernel
theorem dX7_freeOf_11 : decode cX7_freeOf 11 = .ok (.iconst 0, 1) := by decide +kernel
theorem dX7_freeOf_12 : decode cX7_freeOf 12 = .ok (.ireturn, 1) := by decide +kernel
theorem dX7_freeOf_13 : decode cX7_freeOf 13 = .ok (.iconst 0, 1) := by decide +kernel
theorem dX7_freeOf_14 : decode cX7_freeOf 14 = .ok (.istore 4, 2) := by decide +kernel
theorem dX7_freeOf_16 : decode cX7_freeOf 16 = .ok (.iload 4, 2) := by decide +kernel
theorem dX7_freeOf_18 : decode cX7_freeOf 18 = .ok (.aload_n 0, 1) := by decide +kernel
theorem dX7_freeOf_19 : decode cX7_freeOf 19 = .ok (.invokevirtual 44, 3) := by decide +kernel
theorem dX7_freeOf_22 : decode cX7_freeOf 22 = .ok (.if_icmp .ge 112, 3) := by decide +kernel
theorem dX7_freeOf_25 : decode cX7_freeOf 25 = .ok (.iload_n 2, 1) := by decide +kernel
theorem dX7_freeOf_26 : decode cX7_freeOf 26 = .ok (.istore 5, 2) := by decide +kernel
theorem dX7_freeOf_28 : decode cX7_freeOf 28 = .ok (.iload 5, 2) := by decide +kernel
theorem dX7_freeOf_30 : decode cX7_freeOf 30 = .ok (.bipush 24, 2) := by decide +kernel
theorem dX7_freeOf_32 : decode cX7_freeOf 32 = .ok (.if_icmp .ge 96, 3) := by decide +kernel
theorem dX7_freeOf_35 : decode cX7_freeOf 35 = .ok (.aload_n 0, 1) := by decide +kernel
theorem dX7_freeOf_36 : decode cX7_freeOf 36 = .ok (.getfield 28, 3) := by decide +kernel
theorem dX7_freeOf_39 : decode cX7_freeOf 39 = .ok (.bipush 24, 2) := by decide +kernel
theorem dX7_freeOf_41 : decode cX7_freeOf 41 = .ok (.iload 4, 2) := by decide +kernel
theorem dX7_freeOf_43 : decode cX7_freeOf 43 = .ok (.imul, 1) := by decide +kernel
theorem dX7_freeOf_44 : decode cX7_freeOf 44 = .ok (.iload 5, 2) := by decide +kernel
theorem dX7_freeOf_46 : decode cX7_freeOf 46 = .ok (.iadd, 1) := by decide +kernel
theorem dX7_freeOf_47 : decode cX7_freeOf 47 = .ok (.aload_n 0, 1) := by decide +kernel
theorem dX7_freeOf_48 : decode cX7_freeOf 48 = .ok (.iload 4, 2) := by decide +kernel
theorem dX7_freeOf_50 : decode cX7_freeOf 50 = .ok (.iload 5, 2) := by decide +kernel
theorem dX7_freeOf_52 : decode cX7_freeOf 52 = .ok (.invokevirtual 122, 3) := by decide +kernel
theorem dX7_freeOf_55 : decode cX7_freeOf 55 = .ok (.iastore, 1) := by decide +kernel
theorem dX7_freeOf_56 : decode cX7_freeOf 56 = .ok (.aload_n 0, 1) := by decide +kernel
theorem dX7_freeOf_57 : decode cX7_freeOf 57 = .ok (.getfield 31, 3) := by decide +kernel
theorem dX7_freeOf_60 : decode cX7_freeOf 60 = .ok (.bipush 24, 2) := by decide +kernel
theorem dX7_freeOf_62 : decode cX7_freeOf 62 = .ok (.iload 4, 2) := by decide +kernel
theorem dX7_freeOf_64 : decode cX7_freeOf 64 = .ok (.imul, 1) := by decide +kernel
theorem dX7_freeOf_65 : decode cX7_freeOf 65 = .ok (.iload 5, 2) := by decide +kernel
theorem dX7_freeOf_67 : decode cX7_freeOf 67 = .ok (.iadd, 1) := by decide +kernel
theorem dX7_freeOf_68 : decode cX7_freeOf 68 = .ok (.iconst 0, 1) := by decide +kernel
theorem dX7_freeOf_69 : decode cX7_freeOf 69 = .ok (.iastore, 1) := by decide +kernel
theorem dX7_freeOf_70 : decode cX7_freeOf 70 = .ok (.iload_n 2, 1) := by decide +kernel
theorem dX7_freeOf_71 : decode cX7_freeOf 71 = .ok (.istore 6, 2) := by decide +kernel
theorem dX7_freeOf_73 : decode cX7_freeOf 73 = .ok (.iload 6, 2) := by decide +kernel
theorem dX7_freeOf_75 : decode cX7_freeOf 75 = .ok (.iload 5, 2) := by decide +kernel
theorem dX7_freeOf_77 : decode cX7_freeOf 77 = .ok (.if_icmp .gt 45, 3) := by decide +kernel
theorem dX7_freeOf_80 : decode cX7_freeOf 80 = .ok (.aload_n 0, 1) := by decide +kernel
theorem dX7_freeOf_81 : decode cX7_freeOf 81 = .ok (.getfield 31, 3) := by decide +kernel
theorem dX7_freeOf_84 : decode cX7_freeOf 84 = .ok (.bipush 24, 2) := by decide +kernel
theorem dX7_freeOf_86 : decode cX7_freeOf 86 = .ok (.iload 4, 2) := by decide +kernel
theorem dX7_freeOf_88 : decode cX7_freeOf 88 = .ok (.imul, 1) := by decide +kernel
theorem dX7_freeOf_89 : decode cX7_freeOf 89 = .ok (.iload 5, 2) := by decide +kernel
theorem dX7_freeOf_91 : decode cX7_freeOf 91 = .ok (.iadd, 1) := by decide +kernel
theorem dX7_freeOf_92 : decode cX7_freeOf 92 = .ok (.dup2, 1) := by decide +kernel
theorem dX7_freeOf_93 : decode cX7_freeOf 93 = .ok (.iaload, 1) := by decide +kernel
theorem dX7_freeOf_94 : decode cX7_freeOf 94 = .ok (.aload_n 0, 1) := by decide +kernel
theorem dX7_freeOf_95 : decode cX7_freeOf 95 = .ok (.iload_n 1, 1) := by decide +kernel
theorem dX7_freeOf_96 : decode cX7_freeOf 96 = .ok (.iload 6, 2) := by decide +kernel
theorem dX7_freeOf_98 : decode cX7_freeOf 98 = .ok (.invokevirtual 105, 3) := by decide +kernel
theorem dX7_freeOf_101 : decode cX7_freeOf 101 = .ok (.aload_n 0, 1) := by decide +kernel
theorem dX7_freeOf_102 : decode cX7_freeOf 102 = .ok (.iload 4, 2) := by decide +kernel
theorem dX7_freeOf_104 : decode cX7_freeOf 104 = .ok (.iload_n 1, 1) := by decide +kernel
theorem dX7_freeOf_105 : decode cX7_freeOf 105 = .ok (.iload 5, 2) := by decide +kernel
theorem dX7_freeOf_107 : decode cX7_freeOf 107 = .ok (.iload 6, 2) := by decide +kernel
theorem dX7_freeOf_109 : decode cX7_freeOf 109 = .ok (.isub, 1) := by decide +kernel
theorem dX7_freeOf_110 : decode cX7_freeOf 110 = .ok (.invokevirtual 108, 3) := by decide +kernel
theorem dX7_freeOf_113 : decode cX7_freeOf 113 = .ok (.imul, 1) := by decide +kernel
theorem dX7_freeOf_114 : decode cX7_freeOf 114 = .ok (.iadd, 1) := by decide +kernel
theorem dX7_freeOf_115 : decode cX7_freeOf 115 = .ok (.iastore, 1) := by decide +kernel
theorem dX7_freeOf_116 : decode cX7_freeOf 116 = .ok (.iinc 6 1, 3) := by decide +kernel
theorem dX7_freeOf_119 : decode cX7_freeOf 119 = .ok (.goto (-46), 3) := by decide +kernel
theorem dX7_freeOf_122 : decode cX7_freeOf 122 = .ok (.iinc 5 1, 3) := by decide +kernel
theorem dX7_freeOf_125 : decode cX7_freeOf 125 = .ok (.goto (-97), 3) := by decide +kernel
theorem dX7_freeOf_128 : decode cX7_freeOf 128 = .ok (.iinc 4 1, 3) := by decide +kernel
theorem dX7_freeOf_131 : decode cX7_freeOf 131 = .ok (.goto (-115), 3) := by decide +kernel
theorem dX7_freeOf_134 : decode cX7_freeOf 134 = .ok (.sipush 1000, 3) := by decide +kernel
theorem dX7_freeOf_137 : decode cX7_freeOf 137 = .ok (.istore 4, 2) := by decide +kernel
theorem dX7_freeOf_139 : decode cX7_freeOf 139 = .ok (.iload 4, 2) := by decide +kernel
theorem dX7_freeOf_141 : decode cX7_freeOf 141 = .ok (.ifCond .le 19, 3) := by decide +kernel
theorem dX7_freeOf_144 : decode cX7_freeOf 144 = .ok (.aload_n 0, 1) := by decide +kernel
theorem dX7_freeOf_145 : decode cX7_freeOf 145 = .ok (.iload_n 2, 1) := by decide +kernel
theorem dX7_freeOf_146 : decode cX7_freeOf 146 = .ok (.iload 4, 2) := by decide +kernel
theorem dX7_freeOf_148 : decode cX7_freeOf 148 = .ok (.invokevirtual 125, 3) := by decide +kernel
theorem dX7_freeOf_151 : decode cX7_freeOf 151 = .ok (.ifCond .ne 9, 3) := by decide +kernel
theorem dX7_freeOf_154 : decode cX7_freeOf 154 = .ok (.iinc 4 (-1), 3) := by decide +kernel
theorem dX7_freeOf_157 : decode cX7_freeOf 157 = .ok (.goto (-18), 3) := by decide +kernel
theorem dX7_freeOf_160 : decode cX7_freeOf 160 = .ok (.iload 4, 2) := by decide +kernel
theorem dX7_freeOf_162 : decode cX7_freeOf 162 = .ok (.ireturn, 1) := by decide +kernel
theorem dX7_isFree_0 : decode cX7_isFree 0 = .ok (.iconst 0, 1) := by decide +kernel
theorem dX7_isFree_1 : decode cX7_isFree 1 = .ok (.istore_n 3, 1) := by decide +kernel
theorem dX7_isFree_2 : decode cX7_isFree 2 = .ok (.iload_n 3, 1) := by decide +kernel
theorem dX7_isFree_3 : decode cX7_isFree 3 = .ok (.aload_n 0, 1) := by decide +kernel
theorem dX7_isFree_4 : decode cX7_isFree 4 = .ok (.invokevirtual 44, 3) := by decide +kernel
theorem dX7_isFree_7 : decode cX7_isFree 7 = .ok (.if_icmp .ge 79, 3) := by decide +kernel
theorem dX7_isFree_10 : decode cX7_isFree 10 = .ok (.iload_n 1, 1) := by decide +kernel
theorem dX7_isFree_11 : decode cX7_isFree 11 = .ok (.istore 4, 2) := by decide +kernel
theorem dX7_isFree_13 : decode cX7_isFree 13 = .ok (.iload 4, 2) := by decide +kernel
theorem dX7_isFree_15 : decode cX7_isFree 15 = .ok (.bipush 24, 2) := by decide +kernel
theorem dX7_isFree_17 : decode cX7_isFree 17 = .ok (.if_icmp .ge 63, 3) := by decide +kernel
theorem dX7_isFree_20 : decode cX7_isFree 20 = .ok (.bipush 24, 2) := by decide +kernel
theorem dX7_isFree_22 : decode cX7_isFree 22 = .ok (.iload_n 3, 1) := by decide +kernel
theorem dX7_isFree_23 : decode cX7_isFree 23 = .ok (.imul, 1) := by decide +kernel
theorem dX7_isFree_24 : decode cX7_isFree 24 = .ok (.iload 4, 2) := by decide +kernel
theorem dX7_isFree_26 : decode cX7_isFree 26 = .ok (.iadd, 1) := by decide +kernel
theorem dX7_isFree_27 : decode cX7_isFree 27 = .ok (.istore 5, 2) := by decide +kernel
theorem dX7_isFree_29 : decode cX7_isFree 29 = .ok (.aload_n 0, 1) := by decide +kernel
theorem dX7_isFree_30 : decode cX7_isFree 30 = .ok (.getfield 28, 3) := by decide +kernel
theorem dX7_isFree_33 : decode cX7_isFree 33 = .ok (.iload 5, 2) := by decide +kernel
theorem dX7_isFree_35 : decode cX7_isFree 35 = .ok (.iaload, 1) := by decide +kernel
theorem dX7_isFree_36 : decode cX7_isFree 36 = .ok (.ifCond .ge 16, 3) := by decide +kernel
theorem dX7_isFree_39 : decode cX7_isFree 39 = .ok (.aload_n 0, 1) := by decide +kernel
theorem dX7_isFree_40 : decode cX7_isFree 40 = .ok (.getfield 31, 3) := by decide +kernel
theorem dX7_isFree_43 : decode cX7_isFree 43 = .ok (.iload 5, 2) := by decide +kernel
theorem dX7_isFree_45 : decode cX7_isFree 45 = .ok (.iaload, 1) := by decide +kernel
theorem dX7_isFree_46 : decode cX7_isFree 46 = .ok (.ifCond .le 28, 3) := by decide +kernel
theorem dX7_isFree_49 : decode cX7_isFree 49 = .ok (.goto 23, 3) := by decide +kernel
theorem dX7_isFree_52 : decode cX7_isFree 52 = .ok (.aload_n 0, 1) := by decide +kernel
theorem dX7_isFree_53 : decode cX7_isFree 53 = .ok (.getfield 28, 3) := by decide +kernel
theorem dX7_isFree_56 : decode cX7_isFree 56 = .ok (.iload 5, 2) := by decide +kernel
theorem dX7_isFree_58 : decode cX7_isFree 58 = .ok (.iaload, 1) := by decide +kernel
theorem dX7_isFree_59 : decode cX7_isFree 59 = .ok (.iload_n 2, 1) := by decide +kernel
theorem dX7_isFree_60 : decode cX7_isFree 60 = .ok (.aload_n 0, 1) := by decide +kernel
theorem dX7_isFree_61 : decode cX7_isFree 61 = .ok (.getfield 31, 3) := by decide +kernel
theorem dX7_isFree_64 : decode cX7_isFree 64 = .ok (.iload 5, 2) := by decide +kernel
theorem dX7_isFree_66 : decode cX7_isFree 66 = .ok (.iaload, 1) := by decide +kernel
theorem dX7_isFree_67 : decode cX7_isFree 67 = .ok (.imul, 1) := by decide +kernel
theorem dX7_isFree_68 : decode cX7_isFree 68 = .ok (.isub, 1) := by decide +kernel
theorem dX7_isFree_69 : decode cX7_isFree 69 = .ok (.ifCond .ge 5, 3) := by decide +kernel
theorem dX7_isFree_72 : decode cX7_isFree 72 = .ok (.iconst 0, 1) := by decide +kernel
theorem dX7_isFree_73 : decode cX7_isFree 73 = .ok (.ireturn, 1) := by decide +kernel
theorem dX7_isFree_74 : decode cX7_isFree 74 = .ok (.iinc 4 1, 3) := by decide +kernel
theorem dX7_isFree_77 : decode cX7_isFree 77 = .ok (.goto (-64), 3) := by decide +kernel
theorem dX7_isFree_80 : decode cX7_isFree 80 = .ok (.iinc 3 1, 3) := by decide +kernel
theorem dX7_isFree_83 : decode cX7_isFree 83 = .ok (.goto (-81), 3) := by decide +kernel
theorem dX7_isFree_86 : decode cX7_isFree 86 = .ok (.iconst 1, 1) := by decide +kernel
theorem dX7_isFree_87 : decode cX7_isFree 87 = .ok (.ireturn, 1) := by decide +kernel
theorem dX7_free_0 : decode cX7_free 0 = .ok (.aload_n 0, 1) := by decide +kernel
theorem dX7_free_1 : decode cX7_free 1 = .ok (.iload_n 1, 1) := by decide +kernel
theorem dX7_free_2 : decode cX7_free 2 = .ok (.invokevirtual 68, 3) := by decide +kernel
theorem dX7_free_5 : decode cX7_free 5 = .ok (.ifCond .eq 19, 3) := by decide +kernel
theorem dX7_free_8 : decode cX7_free 8 = .ok (.iload_n 2, 1) := by decide +kernel
theorem dX7_free_9 : decode cX7_free 9 = .ok (.invokestatic 98, 3) := by decide +kernel
theorem dX7_free_12 : decode cX7_free 12 = .ok (.ifCond .eq 12, 3) := by decide +kernel
theorem dX7_free_15 : decode cX7_free 15 = .ok (.aload_n 0, 1) := by decide +kernel
theorem dX7_free_16 : decode cX7_free 16 = .ok (.iload_n 1, 1) := by decide +kernel
theorem dX7_free_17 : decode cX7_free 17 = .ok (.iload_n 2, 1) := by decide +kernel
theorem dX7_free_18 : decode cX7_free 18 = .ok (.invokevirtual 129, 3) := by decide +kernel
theorem dX7_free_21 : decode cX7_free 21 = .ok (.goto 9, 3) := by decide +kernel
theorem dX7_free_24 : decode cX7_free 24 = .ok (.aload_n 0, 1) := by decide +kernel
theorem dX7_free_25 : decode cX7_free 25 = .ok (.ldc 62, 2) := by decide +kernel
theorem dX7_free_27 : decode cX7_free 27 = .ok (.invokevirtual 63, 3) := by decide +kernel
theorem dX7_free_30 : decode cX7_free 30 = .ok (.ireturn, 1) := by decide +kernel
theorem dX7_licenceOf_0 : decode cX7_licenceOf 0 = .ok (.aload_n 0, 1) := by decide +kernel
theorem dX7_licenceOf_1 : decode cX7_licenceOf 1 = .ok (.getfield 7, 3) := by decide +kernel
theorem dX7_licenceOf_4 : decode cX7_licenceOf 4 = .ok (.sipush 566, 3) := by decide +kernel
theorem dX7_licenceOf_7 : decode cX7_licenceOf 7 = .ok (.iconst 4, 1) := by decide +kernel
theorem dX7_licenceOf_8 : decode cX7_licenceOf 8 = .ok (.iload_n 1, 1) := by decide +kernel
theorem dX7_licenceOf_9 : decode cX7_licenceOf 9 = .ok (.imul, 1) := by decide +kernel
theorem dX7_licenceOf_10 : decode cX7_licenceOf 10 = .ok (.iadd, 1) := by decide +kernel
theorem dX7_licenceOf_11 : decode cX7_licenceOf 11 = .ok (.iload_n 2, 1) := by decide +kernel
theorem dX7_licenceOf_12 : decode cX7_licenceOf 12 = .ok (.iadd, 1) := by decide +kernel
theorem dX7_licenceOf_13 : decode cX7_licenceOf 13 = .ok (.iaload, 1) := by decide +kernel
theorem dX7_licenceOf_14 : decode cX7_licenceOf 14 = .ok (.ireturn, 1) := by decide +kernel
theorem dX7_licence_0 : decode cX7_licence 0 = .ok (.aload_n 0, 1) := by decide +kernel
theorem dX7_licence_1 : decode cX7_licence 1 = .ok (.iload_n 1, 1) := by decide +kernel
theorem dX7_licence_2 : decode cX7_licence 2 = .ok (.invokevirtual 68, 3) := by decide +kernel
theorem dX7_licence_5 : decode cX7_licence 5 = .ok (.ifCond .eq 25, 3) := by decide +kernel
theorem dX7_licence_8 : decode cX7_licence 8 = .ok (.iload_n 2, 1) := by decide +kernel
theorem dX7_licence_9 : decode cX7_licence 9 = .ok (.iconst 0, 1) := by decide +kernel
theorem dX7_licence_10 : decode cX7_licence 10 = .ok (.sipush 9999, 3) := by decide +kernel
theorem dX7_licence_13 : decode cX7_licence 13 = .ok (.invokestatic 48, 3) := by decide +kernel
theorem dX7_licence_16 : decode cX7_licence 16 = .ok (.ifCond .eq 14, 3) := by decide +kernel
theorem dX7_licence_19 : decode cX7_licence 19 = .ok (.iload_n 3, 1) := by decide +kernel
theorem dX7_licence_20 : decode cX7_licence 20 = .ok (.iconst 0, 1) := by decide +kernel
theorem dX7_licence_21 : decode cX7_licence 21 = .ok (.sipush 1000, 3) := by decide +kernel
theorem dX7_licence_24 : decode cX7_licence 24 = .ok (.invokestatic 48, 3) := by decide +kernel
theorem dX7_licence_27 : decode cX7_licence 27 = .ok (.ifCond .ne 10, 3) := by decide +kernel
theorem dX7_licence_30 : decode cX7_licence 30 = .ok (.aload_n 0, 1) := by decide +kernel
theorem dX7_licence_31 : decode cX7_licence 31 = .ok (.ldc 62, 2) := by decide +kernel
theorem dX7_licence_33 : decode cX7_licence 33 = .ok (.invokevirtual 63, 3) := by decide +kernel
theorem dX7_licence_36 : decode cX7_licence 36 = .ok (.ireturn, 1) := by decide +kernel
theorem dX7_licence_37 : decode cX7_licence 37 = .ok (.aload_n 0, 1) := by decide +kernel
theorem dX7_licence_38 : decode cX7_licence 38 = .ok (.iload_n 1, 1) := by decide +kernel
theorem dX7_licence_39 : decode cX7_licence 39 = .ok (.invokevirtual 71, 3) := by decide +kernel
theorem dX7_licence_42 : decode cX7_licence 42 = .ok (.iconst 2, 1) := by decide +kernel
theorem dX7_licence_43 : decode cX7_licence 43 = .ok (.if_icmp .le 10, 3) := by decide +kernel
theorem dX7_licence_46 : decode cX7_licence 46 = .ok (.aload_n 0, 1) := by decide +kernel
theorem dX7_licence_47 : decode cX7_licence 47 = .ok (.ldc 74, 2) := by decide +kernel
theorem dX7_licence_49 : decode cX7_licence 49 = .ok (.invokevirtual 63, 3) := by decide +kernel
theorem dX7_licence_52 : decode cX7_licence 52 = .ok (.ireturn, 1) := by decide +kernel
theorem dX7_licence_53 : decode cX7_licence 53 = .ok (.aload_n 0, 1) := by decide +kernel
theorem dX7_licence_54 : decode cX7_licence 54 = .ok (.getfield 7, 3) := by decide +kernel
theorem dX7_licence_57 : decode cX7_licence 57 = .ok (.sipush 1087, 3) := by decide +kernel
theorem dX7_licence_60 : decode cX7_licence 60 = .ok (.iaload, 1) := by decide +kernel
theorem dX7_licence_61 : decode cX7_licence 61 = .ok (.istore 4, 2) := by decide +kernel
theorem dX7_licence_63 : decode cX7_licence 63 = .ok (.iload 4, 2) := by decide +kernel
theorem dX7_licence_65 : decode cX7_licence 65 = .ok (.bipush 10, 2) := by decide +kernel
theorem dX7_licence_67 : decode cX7_licence 67 = .ok (.if_icmp .ne 10, 3) := by decide +kernel
theorem dX7_licence_70 : decode cX7_licence 70 = .ok (.aload_n 0, 1) := by decide +kernel
theorem dX7_licence_71 : decode cX7_licence 71 = .ok (.ldc 67, 2) := by decide +kernel
theorem dX7_licence_73 : decode cX7_licence 73 = .ok (.invokevirtual 63, 3) := by decide +kernel
theorem dX7_licence_76 : decode cX7_licence 76 = .ok (.ireturn, 1) := by decide +kernel
theorem dX7_licence_77 : decode cX7_licence 77 = .ok (.aload_n 0, 1) := by decide +kernel
theorem dX7_licence_78 : decode cX7_licence 78 = .ok (.getfield 7, 3) := by decide +kernel
theorem dX7_licence_81 : decode cX7_licence 81 = .ok (.sipush 566, 3) := by decide +kernel
theorem dX7_licence_84 : decode cX7_licence 84 = .ok (.iconst 4, 1) := by decide +kernel
theorem dX7_licence_85 : decode cX7_licence 85 = .ok (.iload 4, 2) := by decide +kernel
theorem dX7_licence_87 : decode cX7_licence 87 = .ok (.imul, 1) := by decide +kernel
theorem dX7_licence_88 : decode cX7_licence 88 = .ok (.iadd, 1) := by decide +kernel
theorem dX7_licence_89 : decode cX7_licence 89 = .ok (.iload_n 1, 1) := by decide +kernel
theorem dX7_licence_90 : decode cX7_licence 90 = .ok (.iastore, 1) := by decide +kernel
theorem dX7_licence_91 : decode cX7_licence 91 = .ok (.aload_n 0, 1) := by decide +kernel
theorem dX7_licence_92 : decode cX7_licence 92 = .ok (.getfield 7, 3) := by decide +kernel
theorem dX7_licence_95 : decode cX7_licence 95 = .ok (.sipush 566, 3) := by decide +kernel
theorem dX7_licence_98 : decode cX7_licence 98 = .ok (.iconst 4, 1) := by decide +kernel
theorem dX7_licence_99 : decode cX7_licence 99 = .ok (.iload 4, 2) := by decide +kernel
theorem dX7_licence_101 : decode cX7_licence 101 = .ok (.imul, 1) := by decide +kernel
theorem dX7_licence_102 : decode cX7_licence 102 = .ok (.iadd, 1) := by decide +kernel
theorem dX7_licence_103 : decode cX7_licence 103 = .ok (.iconst 1, 1) := by decide +kernel
theorem dX7_licence_104 : decode cX7_licence 104 = .ok (.iadd, 1) := by decide +kernel
theorem dX7_licence_105 : decode cX7_licence 105 = .ok (.iload_n 2, 1) := by decide +kernel
theorem dX7_licence_106 : decode cX7_licence 106 = .ok (.iastore, 1) := by decide +kernel
theorem dX7_licence_107 : decode cX7_licence 107 = .ok (.aload_n 0, 1) := by decide +kernel
theorem dX7_licence_108 : decode cX7_licence 108 = .ok (.getfield 7, 3) := by decide +kernel
theorem dX7_licence_111 : decode cX7_licence 111 = .ok (.sipush 566, 3) := by decide +kernel
theorem dX7_licence_114 : decode cX7_licence 114 = .ok (.iconst 4, 1) := by decide +kernel
theorem dX7_licence_115 : decode cX7_licence 115 = .ok (.iload 4, 2) := by decide +kernel
theorem dX7_licence_117 : decode cX7_licence 117 = .ok (.imul, 1) := by decide +kernel
theorem dX7_licence_118 : decode cX7_licence 118 = .ok (.iadd, 1) := by decide +kernel
theorem dX7_licence_119 : decode cX7_licence 119 = .ok (.iconst 2, 1) := by decide +kernel
theorem dX7_licence_120 : decode cX7_licence 120 = .ok (.iadd, 1) := by decide +kernel
theorem dX7_licence_121 : decode cX7_licence 121 = .ok (.iload_n 3, 1) := by decide +kernel
theorem dX7_licence_122 : decode cX7_licence 122 = .ok (.iastore, 1) := by decide +kernel
theorem dX7_licence_123 : decode cX7_licence 123 = .ok (.aload_n 0, 1) := by decide +kernel
theorem dX7_licence_124 : decode cX7_licence 124 = .ok (.getfield 7, 3) := by decide +kernel
theorem dX7_licence_127 : decode cX7_licence 127 = .ok (.sipush 566, 3) := by decide +kernel
theorem dX7_licence_130 : decode cX7_licence 130 = .ok (.iconst 4, 1) := by decide +kernel
theorem dX7_licence_131 : decode cX7_licence 131 = .ok (.iload 4, 2) := by decide +kernel
theorem dX7_licence_133 : decode cX7_licence 133 = .ok (.imul, 1) := by decide +kernel
theorem dX7_licence_134 : decode cX7_licence 134 = .ok (.iadd, 1) := by decide +kernel
theorem dX7_licence_135 : decode cX7_licence 135 = .ok (.iconst 3, 1) := by decide +kernel
theorem dX7_licence_136 : decode cX7_licence 136 = .ok (.iadd, 1) := by decide +kernel
theorem dX7_licence_137 : decode cX7_licence 137 = .ok (.iconst 0, 1) := by decide +kernel
theorem dX7_licence_138 : decode cX7_licence 138 = .ok (.iastore, 1) := by decide +kernel
theorem dX7_licence_139 : decode cX7_licence 139 = .ok (.aload_n 0, 1) := by decide +kernel
theorem dX7_licence_140 : decode cX7_licence 140 = .ok (.getfield 7, 3) := by decide +kernel
theorem dX7_licence_143 : decode cX7_licence 143 = .ok (.sipush 1087, 3) := by decide +kernel
theorem dX7_licence_146 : decode cX7_licence 146 = .ok (.dup2, 1) := by decide +kernel
theorem dX7_licence_147 : decode cX7_licence 147 = .ok (.iaload, 1) := by decide +kernel
theorem dX7_licence_148 : decode cX7_licence 148 = .ok (.iconst 1, 1) := by decide +kernel
theorem dX7_licence_149 : decode cX7_licence 149 = .ok (.iadd, 1) := by decide +kernel
theorem dX7_licence_150 : decode cX7_licence 150 = .ok (.iastore, 1) := by decide +kernel
theorem dX7_licence_151 : decode cX7_licence 151 = .ok (.iload 4, 2) := by decide +kernel
theorem dX7_licence_153 : decode cX7_licence 153 = .ok (.ireturn, 1) := by decide +kernel
theorem dX7_serve_0 : decode cX7_serve 0 = .ok (.iload_n 1, 1) := by decide +kernel
theorem dX7_serve_1 : decode cX7_serve 1 = .ok (.invokestatic 98, 3) := by decide +kernel
theorem dX7_serve_4 : decode cX7_serve 4 = .ok (.ifCond .ne 10, 3) := by decide +kernel
theorem dX7_serve_7 : decode cX7_serve 7 = .ok (.aload_n 0, 1) := by decide +kernel
theorem dX7_serve_8 : decode cX7_serve 8 = .ok (.ldc 62, 2) := by decide +kernel
theorem dX7_serve_10 : decode cX7_serve 10 = .ok (.invokevirtual 63, 3) := by decide +kernel
theorem dX7_serve_13 : decode cX7_serve 13 = .ok (.ireturn, 1) := by decide +kernel
theorem dX7_serve_14 : decode cX7_serve 14 = .ok (.aload_n 0, 1) := by decide +kernel
theorem dX7_serve_15 : decode cX7_serve 15 = .ok (.getfield 7, 3) := by decide +kernel
theorem dX7_serve_18 : decode cX7_serve 18 = .ok (.sipush 1087, 3) := by decide +kernel
theorem dX7_serve_21 : decode cX7_serve 21 = .ok (.iaload, 1) := by decide +kernel
theorem dX7_serve_22 : decode cX7_serve 22 = .ok (.istore_n 2, 1) := by decide +kernel
theorem dX7_serve_23 : decode cX7_serve 23 = .ok (.iconst 0, 1) := by decide +kernel
theorem dX7_serve_24 : decode cX7_serve 24 = .ok (.istore_n 3, 1) := by decide +kernel
theorem dX7_serve_25 : decode cX7_serve 25 = .ok (.iload_n 3, 1) := by decide +kernel
theorem dX7_serve_26 : decode cX7_serve 26 = .ok (.iload_n 2, 1) := by decide +kernel
theorem dX7_serve_27 : decode cX7_serve 27 = .ok (.if_icmp .ge 46, 3) := by decide +kernel
theorem dX7_serve_30 : decode cX7_serve 30 = .ok (.iload_n 1, 1) := by decide +kernel
theorem dX7_serve_31 : decode cX7_serve 31 = .ok (.istore 4, 2) := by decide +kernel
theorem dX7_serve_33 : decode cX7_serve 33 = .ok (.iload 4, 2) := by decide +kernel
theorem dX7_serve_35 : decode cX7_serve 35 = .ok (.bipush 24, 2) := by decide +kernel
theorem dX7_serve_37 : decode cX7_serve 37 = .ok (.if_icmp .ge 30, 3) := by decide +kernel
theorem dX7_serve_40 : decode cX7_serve 40 = .ok (.aload_n 0, 1) := by decide +kernel
theorem dX7_serve_41 : decode cX7_serve 41 = .ok (.getfield 7, 3) := by decide +kernel
theorem dX7_serve_44 : decode cX7_serve 44 = .ok (.bipush 50, 2) := by decide +kernel
theorem dX7_serve_46 : decode cX7_serve 46 = .ok (.bipush 24, 2) := by decide +kernel
theorem dX7_serve_48 : decode cX7_serve 48 = .ok (.aload_n 0, 1) := by decide +kernel
theorem dX7_serve_49 : decode cX7_serve 49 = .ok (.iload_n 3, 1) := by decide +kernel
theorem dX7_serve_50 : decode cX7_serve 50 = .ok (.iconst 0, 1) := by decide +kernel
theorem dX7_serve_51 : decode cX7_serve 51 = .ok (.invokevirtual 132, 3) := by decide +kernel
theorem dX7_serve_54 : decode cX7_serve 54 = .ok (.imul, 1) := by decide +kernel
theorem dX7_serve_55 : decode cX7_serve 55 = .ok (.iadd, 1) := by decide +kernel
theorem dX7_serve_56 : decode cX7_serve 56 = .ok (.iload 4, 2) := by decide +kernel
theorem dX7_serve_58 : decode cX7_serve 58 = .ok (.iadd, 1) := by decide +kernel
theorem dX7_serve_59 : decode cX7_serve 59 = .ok (.iconst 0, 1) := by decide +kernel
theorem dX7_serve_60 : decode cX7_serve 60 = .ok (.iastore, 1) := by decide +kernel
theorem dX7_serve_61 : decode cX7_serve 61 = .ok (.iinc 4 1, 3) := by decide +kernel
theorem dX7_serve_64 : decode cX7_serve 64 = .ok (.goto (-31), 3) := by decide +kernel
theorem dX7_serve_67 : decode cX7_serve 67 = .ok (.iinc 3 1, 3) := by decide +kernel
theorem dX7_serve_70 : decode cX7_serve 70 = .ok (.goto (-45), 3) := by decide +kernel
theorem dX7_serve_73 : decode cX7_serve 73 = .ok (.iconst 0, 1) := by decide +kernel
theorem dX7_serve_74 : decode cX7_serve 74 = .ok (.istore_n 3, 1) := by decide +kernel
theorem dX7_serve_75 : decode cX7_serve 75 = .ok (.iload_n 3, 1) := by decide +kernel
theorem dX7_serve_76 : decode cX7_serve 76 = .ok (.bipush 10, 2) := by decide +kernel
theorem dX7_serve_78 : decode cX7_serve 78 = .ok (.if_icmp .ge 16, 3) := by decide +kernel
theorem dX7_serve_81 : decode cX7_serve 81 = .ok (.aload_n 0, 1) := by decide +kernel
theorem dX7_serve_82 : decode cX7_serve 82 = .ok (.getfield 34, 3) := by decide +kernel
theorem dX7_serve_85 : decode cX7_serve 85 = .ok (.iload_n 3, 1) := by decide +kernel
theorem dX7_serve_86 : decode cX7_serve 86 = .ok (.iconst 0, 1) := by decide +kernel
theorem dX7_serve_87 : decode cX7_serve 87 = .ok (.iastore, 1) := by decide +kernel
theorem dX7_serve_88 : decode cX7_serve 88 = .ok (.iinc 3 1, 3) := by decide +kernel
theorem dX7_serve_91 : decode cX7_serve 91 = .ok (.goto (-16), 3) := by decide +kernel
theorem dX7_serve_94 : decode cX7_serve 94 = .ok (.iconst 0, 1) := by decide +kernel
theorem dX7_serve_95 : decode cX7_serve 95 = .ok (.istore_n 3, 1) := by decide +kernel
theorem dX7_serve_96 : decode cX7_serve 96 = .ok (.iconst 0, 1) := by decide +kernel
theorem dX7_serve_97 : decode cX7_serve 97 = .ok (.istore 4, 2) := by decide +kernel
theorem dX7_serve_99 : decode cX7_serve 99 = .ok (.iconst 0, 1) := by decide +kernel
theorem dX7_serve_100 : decode cX7_serve 100 = .ok (.istore 5, 2) := by decide +kernel
theorem dX7_serve_102 : decode cX7_serve 102 = .ok (.iload 5, 2) := by decide +kernel
theorem dX7_serve_104 : decode cX7_serve 104 = .ok (.iload_n 2, 1) := by decide +kernel
theorem dX7_serve_105 : decode cX7_serve 105 = .ok (.if_icmp .ge 258, 3) := by decide +kernel
theorem dX7_serve_108 : decode cX7_serve 108 = .ok (.iconst (-1), 1) := by decide +kernel
theorem dX7_serve_109 : decode cX7_serve 109 = .ok (.istore 6, 2) := by decide +kernel
theorem dX7_serve_111 : decode cX7_serve 111 = .ok (.iconst 0, 1) := by decide +kernel
theorem dX7_serve_112 : decode cX7_serve 112 = .ok (.istore 7, 2) := by decide +kernel
theorem dX7_serve_114 : decode cX7_serve 114 = .ok (.iload 7, 2) := by decide +kernel
theorem dX7_serve_116 : decode cX7_serve 116 = .ok (.iload_n 2, 1) := by decide +kernel
theorem dX7_serve_117 : decode cX7_serve 117 = .ok (.if_icmp .ge 44, 3) := by decide +kernel
theorem dX7_serve_120 : decode cX7_serve 120 = .ok (.iload_n 3, 1) := by decide +kernel
theorem dX7_serve_121 : decode cX7_serve 121 = .ok (.iload 7, 2) := by decide +kernel
theorem dX7_serve_123 : decode cX7_serve 123 = .ok (.ishr, 1) := by decide +kernel
theorem dX7_serve_124 : decode cX7_serve 124 = .ok (.iconst 1, 1) := by decide +kernel
theorem dX7_serve_125 : decode cX7_serve 125 = .ok (.iand, 1) := by decide +kernel
theorem dX7_serve_126 : decode cX7_serve 126 = .ok (.ifCond .ne 29, 3) := by decide +kernel
theorem dX7_serve_129 : decode cX7_serve 129 = .ok (.iload 6, 2) := by decide +kernel
theorem dX7_serve_131 : decode cX7_serve 131 = .ok (.ifCond .lt 20, 3) := by decide +kernel
theorem dX7_serve_134 : decode cX7_serve 134 = .ok (.aload_n 0, 1) := by decide +kernel
theorem dX7_serve_135 : decode cX7_serve 135 = .ok (.iload 7, 2) := by decide +kernel
theorem dX7_serve_137 : decode cX7_serve 137 = .ok (.iconst 1, 1) := by decide +kernel
theorem dX7_serve_138 : decode cX7_serve 138 = .ok (.invokevirtual 132, 3) := by decide +kernel
theorem dX7_serve_141 : decode cX7_serve 141 = .ok (.aload_n 0, 1) := by decide +kernel
theorem dX7_serve_142 : decode cX7_serve 142 = .ok (.iload 6, 2) := by decide +kernel
theorem dX7_serve_144 : decode cX7_serve 144 = .ok (.iconst 1, 1) := by decide +kernel
theorem dX7_serve_145 : decode cX7_serve 145 = .ok (.invokevirtual 132, 3) := by decide +kernel
theorem dX7_serve_148 : decode cX7_serve 148 = .ok (.if_icmp .ge 7, 3) := by decide +kernel
theorem dX7_serve_151 : decode cX7_serve 151 = .ok (.iload 7, 2) := by decide +kernel
theorem dX7_serve_153 : decode cX7_serve 153 = .ok (.istore 6, 2) := by decide +kernel
theorem dX7_serve_155 : decode cX7_serve 155 = .ok (.iinc 7 1, 3) := by decide +kernel
theorem dX7_serve_158 : decode cX7_serve 158 = .ok (.goto (-44), 3) := by decide +kernel
theorem dX7_serve_161 : decode cX7_serve 161 = .ok (.iload_n 3, 1) := by decide +kernel
theorem dX7_serve_162 : decode cX7_serve 162 = .ok (.iconst 1, 1) := by decide +kernel
theorem dX7_serve_163 : decode cX7_serve 163 = .ok (.iload 6, 2) := by decide +kernel
theorem dX7_serve_165 : decode cX7_serve 165 = .ok (.ishl, 1) := by decide +kernel
theorem dX7_serve_166 : decode cX7_serve 166 = .ok (.ior, 1) := by decide +kernel
theorem dX7_serve_167 : decode cX7_serve 167 = .ok (.istore_n 3, 1) := by decide +kernel
theorem dX7_serve_168 : decode cX7_serve 168 = .ok (.aload_n 0, 1) := by decide +kernel
theorem dX7_serve_169 : decode cX7_serve 169 = .ok (.iload 6, 2) := by decide +kernel
theorem dX7_serve_171 : decode cX7_serve 171 = .ok (.iconst 0, 1) := by decide +kernel
theorem dX7_serve_172 : decode cX7_serve 172 = .ok (.invokevirtual 132, 3) := by decide +kernel
theorem dX7_serve_175 : decode cX7_serve 175 = .ok (.istore 7, 2) := by decide +kernel
theorem dX7_serve_177 : decode cX7_serve 177 = .ok (.aload_n 0, 1) := by decide +kernel
theorem dX7_serve_178 : decode cX7_serve 178 = .ok (.iload 6, 2) := by decide +kernel
theorem dX7_serve_180 : decode cX7_serve 180 = .ok (.iconst 2, 1) := by decide +kernel
theorem dX7_serve_181 : decode cX7_serve 181 = .ok (.invokevirtual 132, 3) := by decide +kernel
theorem dX7_serve_184 : decode cX7_serve 184 = .ok (.istore 8, 2) := by decide +kernel
theorem dX7_serve_186 : decode cX7_serve 186 = .ok (.aload_n 0, 1) := by decide +kernel
theorem dX7_serve_187 : decode cX7_serve 187 = .ok (.iload 7, 2) := by decide +kernel
theorem dX7_serve_189 : decode cX7_serve 189 = .ok (.iload_n 1, 1) := by decide +kernel
theorem dX7_serve_190 : decode cX7_serve 190 = .ok (.invokevirtual 129, 3) := by decide +kernel
theorem dX7_serve_193 : decode cX7_serve 193 = .ok (.istore 9, 2) := by decide +kernel
theorem dX7_serve_195 : decode cX7_serve 195 = .ok (.iload 9, 2) := by decide +kernel
theorem dX7_serve_197 : decode cX7_serve 197 = .ok (.iload 8, 2) := by decide +kernel
theorem dX7_serve_199 : decode cX7_serve 199 = .ok (.if_icmp .ge 8, 3) := by decide +kernel
theorem dX7_serve_202 : decode cX7_serve 202 = .ok (.iload 9, 2) := by decide +kernel
theorem dX7_serve_204 : decode cX7_serve 204 = .ok (.goto 5, 3) := by decide +kernel
theorem dX7_serve_207 : decode cX7_serve 207 = .ok (.iload 8, 2) := by decide +kernel
theorem dX7_serve_209 : decode cX7_serve 209 = .ok (.istore 8, 2) := by decide +kernel
theorem dX7_serve_211 : decode cX7_serve 211 = .ok (.iload_n 1, 1) := by decide +kernel
theorem dX7_serve_212 : decode cX7_serve 212 = .ok (.bipush 23, 2) := by decide +kernel
theorem dX7_serve_214 : decode cX7_serve 214 = .ok (.if_icmp .lt 13, 3) := by decide +kernel
theorem dX7_serve_217 : decode cX7_serve 217 = .ok (.aload_n 0, 1) := by decide +kernel
theorem dX7_serve_218 : decode cX7_serve 218 = .ok (.iload 7, 2) := by decide +kernel
theorem dX7_serve_220 : decode cX7_serve 220 = .ok (.iload_n 1, 1) := by decide +kernel
theorem dX7_serve_221 : decode cX7_serve 221 = .ok (.invokevirtual 105, 3) := by decide +kernel
theorem dX7_serve_224 : decode cX7_serve 224 = .ok (.ifCond .eq 7, 3) := by decide +kernel
theorem dX7_serve_227 : decode cX7_serve 227 = .ok (.iconst 1, 1) := by decide +kernel
theorem dX7_serve_228 : decode cX7_serve 228 = .ok (.goto 4, 3) := by decide +kernel
theorem dX7_serve_231 : decode cX7_serve 231 = .ok (.iconst 0, 1) := by decide +kernel
theorem dX7_serve_232 : decode cX7_serve 232 = .ok (.istore 10, 2) := by decide +kernel
theorem dX7_serve_234 : decode cX7_serve 234 = .ok (.iload 10, 2) := by decide +kernel
theorem dX7_serve_236 : decode cX7_serve 236 = .ok (.ifCond .eq 33, 3) := by decide +kernel
theorem dX7_serve_239 : decode cX7_serve 239 = .ok (.sipush 1000, 3) := by decide +kernel
theorem dX7_serve_242 : decode cX7_serve 242 = .ok (.aload_n 0, 1) := by decide +kernel
theorem dX7_serve_243 : decode cX7_serve 243 = .ok (.getfield 34, 3) := by decide +kernel
theorem dX7_serve_246 : decode cX7_serve 246 = .ok (.iload 7, 2) := by decide +kernel
theorem dX7_serve_248 : decode cX7_serve 248 = .ok (.iaload, 1) := by decide +kernel
theorem dX7_serve_249 : decode cX7_serve 249 = .ok (.isub, 1) := by decide +kernel
theorem dX7_serve_250 : decode cX7_serve 250 = .ok (.iload 8, 2) := by decide +kernel
theorem dX7_serve_252 : decode cX7_serve 252 = .ok (.if_icmp .ge 17, 3) := by decide +kernel
theorem dX7_serve_255 : decode cX7_serve 255 = .ok (.sipush 1000, 3) := by decide +kernel
theorem dX7_serve_258 : decode cX7_serve 258 = .ok (.aload_n 0, 1) := by decide +kernel
theorem dX7_serve_259 : decode cX7_serve 259 = .ok (.getfield 34, 3) := by decide +kernel
theorem dX7_serve_262 : decode cX7_serve 262 = .ok (.iload 7, 2) := by decide +kernel
theorem dX7_serve_264 : decode cX7_serve 264 = .ok (.iaload, 1) := by decide +kernel
theorem dX7_serve_265 : decode cX7_serve 265 = .ok (.isub, 1) := by decide +kernel
theorem dX7_serve_266 : decode cX7_serve 266 = .ok (.goto 5, 3) := by decide +kernel
theorem dX7_serve_269 : decode cX7_serve 269 = .ok (.iload 8, 2) := by decide +kernel
theorem dX7_serve_271 : decode cX7_serve 271 = .ok (.istore 8, 2) := by decide +kernel
theorem dX7_serve_273 : decode cX7_serve 273 = .ok (.aload_n 0, 1) := by decide +kernel
theorem dX7_serve_274 : decode cX7_serve 274 = .ok (.getfield 34, 3) := by decide +kernel
theorem dX7_serve_277 : decode cX7_serve 277 = .ok (.iload 7, 2) := by decide +kernel
theorem dX7_serve_279 : decode cX7_serve 279 = .ok (.dup2, 1) := by decide +kernel
theorem dX7_serve_280 : decode cX7_serve 280 = .ok (.iaload, 1) := by decide +kernel
theorem dX7_serve_281 : decode cX7_serve 281 = .ok (.iload 8, 2) := by decide +kernel
theorem dX7_serve_283 : decode cX7_serve 283 = .ok (.iadd, 1) := by decide +kernel
theorem dX7_serve_284 : decode cX7_serve 284 = .ok (.iastore, 1) := by decide +kernel
theorem dX7_serve_285 : decode cX7_serve 285 = .ok (.iload_n 1, 1) := by decide +kernel
theorem dX7_serve_286 : decode cX7_serve 286 = .ok (.istore 11, 2) := by decide +kernel
theorem dX7_serve_288 : decode cX7_serve 288 = .ok (.iload 11, 2) := by decide +kernel
theorem dX7_serve_290 : decode cX7_serve 290 = .ok (.bipush 24, 2) := by decide +kernel
theorem dX7_serve_292 : decode cX7_serve 292 = .ok (.if_icmp .ge 41, 3) := by decide +kernel
theorem dX7_serve_295 : decode cX7_serve 295 = .ok (.aload_n 0, 1) := by decide +kernel
theorem dX7_serve_296 : decode cX7_serve 296 = .ok (.iload 7, 2) := by decide +kernel
theorem dX7_serve_298 : decode cX7_serve 298 = .ok (.iload 11, 2) := by decide +kernel
theorem dX7_serve_300 : decode cX7_serve 300 = .ok (.invokevirtual 105, 3) := by decide +kernel
theorem dX7_serve_303 : decode cX7_serve 303 = .ok (.ifCond .eq 24, 3) := by decide +kernel
theorem dX7_serve_306 : decode cX7_serve 306 = .ok (.aload_n 0, 1) := by decide +kernel
theorem dX7_serve_307 : decode cX7_serve 307 = .ok (.getfield 7, 3) := by decide +kernel
theorem dX7_serve_310 : decode cX7_serve 310 = .ok (.bipush 50, 2) := by decide +kernel
theorem dX7_serve_312 : decode cX7_serve 312 = .ok (.bipush 24, 2) := by decide +kernel
theorem dX7_serve_314 : decode cX7_serve 314 = .ok (.iload 7, 2) := by decide +kernel
theorem dX7_serve_316 : decode cX7_serve 316 = .ok (.imul, 1) := by decide +kernel
theorem dX7_serve_317 : decode cX7_serve 317 = .ok (.iadd, 1) := by decide +kernel
theorem dX7_serve_318 : decode cX7_serve 318 = .ok (.iload 11, 2) := by decide +kernel
theorem dX7_serve_320 : decode cX7_serve 320 = .ok (.iadd, 1) := by decide +kernel
theorem dX7_serve_321 : decode cX7_serve 321 = .ok (.dup2, 1) := by decide +kernel
theorem dX7_serve_322 : decode cX7_serve 322 = .ok (.iaload, 1) := by decide +kernel
theorem dX7_serve_323 : decode cX7_serve 323 = .ok (.iload 8, 2) := by decide +kernel
theorem dX7_serve_325 : decode cX7_serve 325 = .ok (.iadd, 1) := by decide +kernel
theorem dX7_serve_326 : decode cX7_serve 326 = .ok (.iastore, 1) := by decide +kernel
theorem dX7_serve_327 : decode cX7_serve 327 = .ok (.iinc 11 1, 3) := by decide +kernel
theorem dX7_serve_330 : decode cX7_serve 330 = .ok (.goto (-42), 3) := by decide +kernel
theorem dX7_serve_333 : decode cX7_serve 333 = .ok (.aload_n 0, 1) := by decide +kernel
theorem dX7_serve_334 : decode cX7_serve 334 = .ok (.getfield 7, 3) := by decide +kernel
theorem dX7_serve_337 : decode cX7_serve 337 = .ok (.sipush 566, 3) := by decide +kernel
theorem dX7_serve_340 : decode cX7_serve 340 = .ok (.iconst 4, 1) := by decide +kernel
theorem dX7_serve_341 : decode cX7_serve 341 = .ok (.iload 6, 2) := by decide +kernel
theorem dX7_serve_343 : decode cX7_serve 343 = .ok (.imul, 1) := by decide +kernel
theorem dX7_serve_344 : decode cX7_serve 344 = .ok (.iadd, 1) := by decide +kernel
theorem dX7_serve_345 : decode cX7_serve 345 = .ok (.iconst 3, 1) := by decide +kernel
theorem dX7_serve_346 : decode cX7_serve 346 = .ok (.iadd, 1) := by decide +kernel
theorem dX7_serve_347 : decode cX7_serve 347 = .ok (.iload 8, 2) := by decide +kernel
theorem dX7_serve_349 : decode cX7_serve 349 = .ok (.iastore, 1) := by decide +kernel
theorem dX7_serve_350 : decode cX7_serve 350 = .ok (.iload 4, 2) := by decide +kernel
theorem dX7_serve_352 : decode cX7_serve 352 = .ok (.iload 8, 2) := by decide +kernel
theorem dX7_serve_354 : decode cX7_serve 354 = .ok (.iadd, 1) := by decide +kernel
theorem dX7_serve_355 : decode cX7_serve 355 = .ok (.istore 4, 2) := by decide +kernel
theorem dX7_serve_357 : decode cX7_serve 357 = .ok (.iinc 5 1, 3) := by decide +kernel
theorem dX7_serve_360 : decode cX7_serve 360 = .ok (.goto (-258), 3) := by decide +kernel
theorem dX7_serve_363 : decode cX7_serve 363 = .ok (.aload_n 0, 1) := by decide +kernel
theorem dX7_serve_364 : decode cX7_serve 364 = .ok (.getfield 7, 3) := by decide +kernel
theorem dX7_serve_367 : decode cX7_serve 367 = .ok (.sipush 1089, 3) := by decide +kernel
theorem dX7_serve_370 : decode cX7_serve 370 = .ok (.iload_n 2, 1) := by decide +kernel
theorem dX7_serve_371 : decode cX7_serve 371 = .ok (.iastore, 1) := by decide +kernel
theorem dX7_serve_372 : decode cX7_serve 372 = .ok (.iload 4, 2) := by decide +kernel
theorem dX7_serve_374 : decode cX7_serve 374 = .ok (.ireturn, 1) := by decide +kernel
theorem dX7_served_0 : decode cX7_served 0 = .ok (.iload_n 1, 1) := by decide +kernel
theorem dX7_served_1 : decode cX7_served 1 = .ok (.iconst 0, 1) := by decide +kernel
theorem dX7_served_2 : decode cX7_served 2 = .ok (.aload_n 0, 1) := by decide +kernel
theorem dX7_served_3 : decode cX7_served 3 = .ok (.getfield 7, 3) := by decide +kernel
theorem dX7_served_6 : decode cX7_served 6 = .ok (.sipush 1087, 3) := by decide +kernel
theorem dX7_served_9 : decode cX7_served 9 = .ok (.iaload, 1) := by decide +kernel
theorem dX7_served_10 : decode cX7_served 10 = .ok (.iconst 1, 1) := by decide +kernel
theorem dX7_served_11 : decode cX7_served 11 = .ok (.isub, 1) := by decide +kernel
theorem dX7_served_12 : decode cX7_served 12 = .ok (.invokestatic 48, 3) := by decide +kernel
theorem dX7_served_15 : decode cX7_served 15 = .ok (.ifCond .ne 10, 3) := by decide +kernel
theorem dX7_served_18 : decode cX7_served 18 = .ok (.aload_n 0, 1) := by decide +kernel
theorem dX7_served_19 : decode cX7_served 19 = .ok (.ldc 62, 2) := by decide +kernel
theorem dX7_served_21 : decode cX7_served 21 = .ok (.invokevirtual 63, 3) := by decide +kernel
theorem dX7_served_24 : decode cX7_served 24 = .ok (.ireturn, 1) := by decide +kernel
theorem dX7_served_25 : decode cX7_served 25 = .ok (.iload_n 1, 1) := by decide +kernel
theorem dX7_served_26 : decode cX7_served 26 = .ok (.aload_n 0, 1) := by decide +kernel
theorem dX7_served_27 : decode cX7_served 27 = .ok (.getfield 7, 3) := by decide +kernel
theorem dX7_served_30 : decode cX7_served 30 = .ok (.sipush 1089, 3) := by decide +kernel
theorem dX7_served_33 : decode cX7_served 33 = .ok (.iaload, 1) := by decide +kernel
theorem dX7_served_34 : decode cX7_served 34 = .ok (.if_icmp .lt 10, 3) := by decide +kernel
theorem dX7_served_37 : decode cX7_served 37 = .ok (.aload_n 0, 1) := by decide +kernel
theorem dX7_served_38 : decode cX7_served 38 = .ok (.ldc 121, 2) := by decide +kernel
theorem dX7_served_40 : decode cX7_served 40 = .ok (.invokevirtual 63, 3) := by decide +kernel
theorem dX7_served_43 : decode cX7_served 43 = .ok (.ireturn, 1) := by decide +kernel
theorem dX7_served_44 : decode cX7_served 44 = .ok (.iload_n 2, 1) := by decide +kernel
theorem dX7_served_45 : decode cX7_served 45 = .ok (.ifCond .eq 19, 3) := by decide +kernel
theorem dX7_served_48 : decode cX7_served 48 = .ok (.aload_n 0, 1) := by decide +kernel
theorem dX7_served_49 : decode cX7_served 49 = .ok (.iload_n 1, 1) := by decide +kernel
theorem dX7_served_50 : decode cX7_served 50 = .ok (.iconst 2, 1) := by decide +kernel
theorem dX7_served_51 : decode cX7_served 51 = .ok (.invokevirtual 132, 3) := by decide +kernel
theorem dX7_served_54 : decode cX7_served 54 = .ok (.aload_n 0, 1) := by decide +kernel
theorem dX7_served_55 : decode cX7_served 55 = .ok (.iload_n 1, 1) := by decide +kernel
theorem dX7_served_56 : decode cX7_served 56 = .ok (.iconst 3, 1) := by decide +kernel
theorem dX7_served_57 : decode cX7_served 57 = .ok (.invokevirtual 132, 3) := by decide +kernel
theorem dX7_served_60 : decode cX7_served 60 = .ok (.isub, 1) := by decide +kernel
theorem dX7_served_61 : decode cX7_served 61 = .ok (.goto 9, 3) := by decide +kernel
theorem dX7_served_64 : decode cX7_served 64 = .ok (.aload_n 0, 1) := by decide +kernel
theorem dX7_served_65 : decode cX7_served 65 = .ok (.iload_n 1, 1) := by decide +kernel
theorem dX7_served_66 : decode cX7_served 66 = .ok (.iconst 3, 1) := by decide +kernel
theorem dX7_served_67 : decode cX7_served 67 = .ok (.invokevirtual 132, 3) := by decide +kernel
theorem dX7_served_70 : decode cX7_served 70 = .ok (.ireturn, 1) := by decide +kernel
theorem dX7_hold_0 : decode cX7_hold 0 = .ok (.aload_n 0, 1) := by decide +kernel
theorem dX7_hold_1 : decode cX7_hold 1 = .ok (.iload_n 1, 1) := by decide +kernel
theorem dX7_hold_2 : decode cX7_hold 2 = .ok (.invokevirtual 68, 3) := by decide +kernel
theorem dX7_hold_5 : decode cX7_hold 5 = .ok (.ifCond .eq 17, 3) := by decide +kernel
theorem dX7_hold_8 : decode cX7_hold 8 = .ok (.iload_n 2, 1) := by decide +kernel
theorem dX7_hold_9 : decode cX7_hold 9 = .ok (.invokestatic 98, 3) := by decide +kernel
theorem dX7_hold_12 : decode cX7_hold 12 = .ok (.ifCond .eq 10, 3) := by decide +kernel
theorem dX7_hold_15 : decode cX7_hold 15 = .ok (.iload_n 3, 1) := by decide +kernel
theorem dX7_hold_16 : decode cX7_hold 16 = .ok (.invokestatic 58, 3) := by decide +kernel
theorem dX7_hold_19 : decode cX7_hold 19 = .ok (.ifCond .ne 10, 3) := by decide +kernel
theorem dX7_hold_22 : decode cX7_hold 22 = .ok (.aload_n 0, 1) := by decide +kernel
theorem dX7_hold_23 : decode cX7_hold 23 = .ok (.ldc 62, 2) := by decide +kernel
theorem dX7_hold_25 : decode cX7_hold 25 = .ok (.invokevirtual 63, 3) := by decide +kernel
theorem dX7_hold_28 : decode cX7_hold 28 = .ok (.ireturn, 1) := by decide +kernel
theorem dX7_hold_29 : decode cX7_hold 29 = .ok (.aload_n 0, 1) := by decide +kernel
theorem dX7_hold_30 : decode cX7_hold 30 = .ok (.iload_n 1, 1) := by decide +kernel
theorem dX7_hold_31 : decode cX7_hold 31 = .ok (.invokevirtual 71, 3) := by decide +kernel
theorem dX7_hold_34 : decode cX7_hold 34 = .ok (.iconst 4, 1) := by decide +kernel
theorem dX7_hold_35 : decode cX7_hold 35 = .ok (.if_icmp .eq 10, 3) := by decide +kernel
theorem dX7_hold_38 : decode cX7_hold 38 = .ok (.aload_n 0, 1) := by decide +kernel
theorem dX7_hold_39 : decode cX7_hold 39 = .ok (.ldc 74, 2) := by decide +kernel
theorem dX7_hold_41 : decode cX7_hold 41 = .ok (.invokevirtual 63, 3) := by decide +kernel
theorem dX7_hold_44 : decode cX7_hold 44 = .ok (.ireturn, 1) := by decide +kernel
theorem dX7_hold_45 : decode cX7_hold 45 = .ok (.bipush 50, 2) := by decide +kernel
theorem dX7_hold_47 : decode cX7_hold 47 = .ok (.bipush 24, 2) := by decide +kernel
theorem dX7_hold_49 : decode cX7_hold 49 = .ok (.iload_n 1, 1) := by decide +kernel
theorem dX7_hold_50 : decode cX7_hold 50 = .ok (.imul, 1) := by decide +kernel
theorem dX7_hold_51 : decode cX7_hold 51 = .ok (.iadd, 1) := by decide +kernel
theorem dX7_hold_52 : decode cX7_hold 52 = .ok (.iload_n 2, 1) := by decide +kernel
theorem dX7_hold_53 : decode cX7_hold 53 = .ok (.iadd, 1) := by decide +kernel
theorem dX7_hold_54 : decode cX7_hold 54 = .ok (.istore 4, 2) := by decide +kernel
theorem dX7_hold_56 : decode cX7_hold 56 = .ok (.aload_n 0, 1) := by decide +kernel
theorem dX7_hold_57 : decode cX7_hold 57 = .ok (.getfield 7, 3) := by decide +kernel
theorem dX7_hold_60 : decode cX7_hold 60 = .ok (.iload 4, 2) := by decide +kernel
theorem dX7_hold_62 : decode cX7_hold 62 = .ok (.iaload, 1) := by decide +kernel
theorem dX7_hold_63 : decode cX7_hold 63 = .ok (.istore 5, 2) := by decide +kernel
theorem dX7_hold_65 : decode cX7_hold 65 = .ok (.iconst 0, 1) := by decide +kernel
theorem dX7_hold_66 : decode cX7_hold 66 = .ok (.istore 6, 2) := by decide +kernel
theorem dX7_hold_68 : decode cX7_hold 68 = .ok (.iload 6, 2) := by decide +kernel
theorem dX7_hold_70 : decode cX7_hold 70 = .ok (.sipush 1000, 3) := by decide +kernel
theorem dX7_hold_73 : decode cX7_hold 73 = .ok (.if_icmp .gt 31, 3) := by decide +kernel
theorem dX7_hold_76 : decode cX7_hold 76 = .ok (.aload_n 0, 1) := by decide +kernel
theorem dX7_hold_77 : decode cX7_hold 77 = .ok (.getfield 7, 3) := by decide +kernel
theorem dX7_hold_80 : decode cX7_hold 80 = .ok (.iload 4, 2) := by decide +kernel
theorem dX7_hold_82 : decode cX7_hold 82 = .ok (.iload 6, 2) := by decide +kernel
theorem dX7_hold_84 : decode cX7_hold 84 = .ok (.iastore, 1) := by decide +kernel
theorem dX7_hold_85 : decode cX7_hold 85 = .ok (.aload_n 0, 1) := by decide +kernel
theorem dX7_hold_86 : decode cX7_hold 86 = .ok (.iload_n 1, 1) := by decide +kernel
theorem dX7_hold_87 : decode cX7_hold 87 = .ok (.iload_n 2, 1) := by decide +kernel
theorem dX7_hold_88 : decode cX7_hold 88 = .ok (.invokevirtual 118, 3) := by decide +kernel
theorem dX7_hold_91 : decode cX7_hold 91 = .ok (.iload_n 3, 1) := by decide +kernel
theorem dX7_hold_92 : decode cX7_hold 92 = .ok (.if_icmp .lt 6, 3) := by decide +kernel
theorem dX7_hold_95 : decode cX7_hold 95 = .ok (.iload 6, 2) := by decide +kernel
theorem dX7_hold_97 : decode cX7_hold 97 = .ok (.ireturn, 1) := by decide +kernel
theorem dX7_hold_98 : decode cX7_hold 98 = .ok (.iinc 6 1, 3) := by decide +kernel
theorem dX7_hold_101 : decode cX7_hold 101 = .ok (.goto (-33), 3) := by decide +kernel
theorem dX7_hold_104 : decode cX7_hold 104 = .ok (.aload_n 0, 1) := by decide +kernel
theorem dX7_hold_105 : decode cX7_hold 105 = .ok (.getfield 7, 3) := by decide +kernel
theorem dX7_hold_108 : decode cX7_hold 108 = .ok (.iload 4, 2) := by decide +kernel
theorem dX7_hold_110 : decode cX7_hold 110 = .ok (.iload 5, 2) := by decide +kernel
theorem dX7_hold_112 : decode cX7_hold 112 = .ok (.iastore, 1) := by decide +kernel
theorem dX7_hold_113 : decode cX7_hold 113 = .ok (.aload_n 0, 1) := by decide +kernel
theorem dX7_hold_114 : decode cX7_hold 114 = .ok (.ldc 121, 2) := by decide +kernel
theorem dX7_hold_116 : decode cX7_hold 116 = .ok (.invokevirtual 63, 3) := by decide +kernel
theorem dX7_hold_119 : decode cX7_hold 119 = .ok (.ireturn, 1) := by decide +kernel
theorem dX7_move_0 : decode cX7_move 0 = .ok (.aload_n 0, 1) := by decide +kernel
theorem dX7_move_1 : decode cX7_move 1 = .ok (.iload_n 1, 1) := by decide +kernel
theorem dX7_move_2 : decode cX7_move 2 = .ok (.invokevirtual 68, 3) := by decide +kernel
theorem dX7_move_5 : decode cX7_move 5 = .ok (.ifCond .eq 23, 3) := by decide +kernel
theorem dX7_move_8 : decode cX7_move 8 = .ok (.aload_n 0, 1) := by decide +kernel
theorem dX7_move_9 : decode cX7_move 9 = .ok (.iload_n 3, 1) := by decide +kernel
theorem dX7_move_10 : decode cX7_move 10 = .ok (.invokevirtual 68, 3) := by decide +kernel
theorem dX7_move_13 : decode cX7_move 13 = .ok (.ifCond .eq 15, 3) := by decide +kernel
theorem dX7_move_16 : decode cX7_move 16 = .ok (.iload_n 1, 1) := by decide +kernel
theorem dX7_move_17 : decode cX7_move 17 = .ok (.iload_n 3, 1) := by decide +kernel
theorem dX7_move_18 : decode cX7_move 18 = .ok (.if_icmp .eq 10, 3) := by decide +kernel
theorem dX7_move_21 : decode cX7_move 21 = .ok (.iload_n 2, 1) := by decide +kernel
theorem dX7_move_22 : decode cX7_move 22 = .ok (.invokestatic 98, 3) := by decide +kernel
theorem dX7_move_25 : decode cX7_move 25 = .ok (.ifCond .ne 10, 3) := by decide +kernel
theorem dX7_move_28 : decode cX7_move 28 = .ok (.aload_n 0, 1) := by decide +kernel
theorem dX7_move_29 : decode cX7_move 29 = .ok (.ldc 62, 2) := by decide +kernel
theorem dX7_move_31 : decode cX7_move 31 = .ok (.invokevirtual 63, 3) := by decide +kernel
theorem dX7_move_34 : decode cX7_move 34 = .ok (.ireturn, 1) := by decide +kernel
theorem dX7_move_35 : decode cX7_move 35 = .ok (.aload_n 0, 1) := by decide +kernel
theorem dX7_move_36 : decode cX7_move 36 = .ok (.iload_n 1, 1) := by decide +kernel
theorem dX7_move_37 : decode cX7_move 37 = .ok (.invokevirtual 71, 3) := by decide +kernel
theorem dX7_move_40 : decode cX7_move 40 = .ok (.iconst 2, 1) := by decide +kernel
theorem dX7_move_41 : decode cX7_move 41 = .ok (.if_icmp .gt 12, 3) := by decide +kernel
theorem dX7_move_44 : decode cX7_move 44 = .ok (.aload_n 0, 1) := by decide +kernel
theorem dX7_move_45 : decode cX7_move 45 = .ok (.iload_n 3, 1) := by decide +kernel
theorem dX7_move_46 : decode cX7_move 46 = .ok (.invokevirtual 71, 3) := by decide +kernel
theorem dX7_move_49 : decode cX7_move 49 = .ok (.iconst 2, 1) := by decide +kernel
theorem dX7_move_50 : decode cX7_move 50 = .ok (.if_icmp .le 10, 3) := by decide +kernel
theorem dX7_move_53 : decode cX7_move 53 = .ok (.aload_n 0, 1) := by decide +kernel
theorem dX7_move_54 : decode cX7_move 54 = .ok (.ldc 74, 2) := by decide +kernel
theorem dX7_move_56 : decode cX7_move 56 = .ok (.invokevirtual 63, 3) := by decide +kernel
theorem dX7_move_59 : decode cX7_move 59 = .ok (.ireturn, 1) := by decide +kernel
theorem dX7_move_60 : decode cX7_move 60 = .ok (.aload_n 0, 1) := by decide +kernel
theorem dX7_move_61 : decode cX7_move 61 = .ok (.iload_n 1, 1) := by decide +kernel
theorem dX7_move_62 : decode cX7_move 62 = .ok (.iload_n 2, 1) := by decide +kernel
theorem dX7_move_63 : decode cX7_move 63 = .ok (.invokevirtual 105, 3) := by decide +kernel
theorem dX7_move_66 : decode cX7_move 66 = .ok (.aload_n 0, 1) := by decide +kernel
theorem dX7_move_67 : decode cX7_move 67 = .ok (.iload_n 1, 1) := by decide +kernel
theorem dX7_move_68 : decode cX7_move 68 = .ok (.iload_n 2, 1) := by decide +kernel
theorem dX7_move_69 : decode cX7_move 69 = .ok (.invokevirtual 75, 3) := by decide +kernel
theorem dX7_move_72 : decode cX7_move 72 = .ok (.imul, 1) := by decide +kernel
theorem dX7_move_73 : decode cX7_move 73 = .ok (.istore 4, 2) := by decide +kernel
theorem dX7_move_75 : decode cX7_move 75 = .ok (.aload_n 0, 1) := by decide +kernel
theorem dX7_move_76 : decode cX7_move 76 = .ok (.iload_n 3, 1) := by decide +kernel
theorem dX7_move_77 : decode cX7_move 77 = .ok (.iload_n 2, 1) := by decide +kernel
theorem dX7_move_78 : decode cX7_move 78 = .ok (.invokevirtual 105, 3) := by decide +kernel
theorem dX7_move_81 : decode cX7_move 81 = .ok (.aload_n 0, 1) := by decide +kernel
theorem dX7_move_82 : decode cX7_move 82 = .ok (.iload_n 3, 1) := by decide +kernel
theorem dX7_move_83 : decode cX7_move 83 = .ok (.iload_n 2, 1) := by decide +kernel
theorem dX7_move_84 : decode cX7_move 84 = .ok (.invokevirtual 75, 3) := by decide +kernel
theorem dX7_move_87 : decode cX7_move 87 = .ok (.imul, 1) := by decide +kernel
theorem dX7_move_88 : decode cX7_move 88 = .ok (.istore 5, 2) := by decide +kernel
theorem dX7_move_90 : decode cX7_move 90 = .ok (.sipush 1000, 3) := by decide +kernel
theorem dX7_move_93 : decode cX7_move 93 = .ok (.istore 6, 2) := by decide +kernel
theorem dX7_move_95 : decode cX7_move 95 = .ok (.iload 6, 2) := by decide +kernel
theorem dX7_move_97 : decode cX7_move 97 = .ok (.ifCond .le 36, 3) := by decide +kernel
theorem dX7_move_100 : decode cX7_move 100 = .ok (.aload_n 0, 1) := by decide +kernel
theorem dX7_move_101 : decode cX7_move 101 = .ok (.iload_n 1, 1) := by decide +kernel
theorem dX7_move_102 : decode cX7_move 102 = .ok (.iload_n 3, 1) := by decide +kernel
theorem dX7_move_103 : decode cX7_move 103 = .ok (.bipush 24, 2) := by decide +kernel
theorem dX7_move_105 : decode cX7_move 105 = .ok (.iload_n 2, 1) := by decide +kernel
theorem dX7_move_106 : decode cX7_move 106 = .ok (.isub, 1) := by decide +kernel
theorem dX7_move_107 : decode cX7_move 107 = .ok (.aload_n 0, 1) := by decide +kernel
theorem dX7_move_108 : decode cX7_move 108 = .ok (.iload_n 1, 1) := by decide +kernel
theorem dX7_move_109 : decode cX7_move 109 = .ok (.iload_n 2, 1) := by decide +kernel
theorem dX7_move_110 : decode cX7_move 110 = .ok (.invokevirtual 105, 3) := by decide +kernel
theorem dX7_move_113 : decode cX7_move 113 = .ok (.iload 6, 2) := by decide +kernel
theorem dX7_move_115 : decode cX7_move 115 = .ok (.imul, 1) := by decide +kernel
theorem dX7_move_116 : decode cX7_move 116 = .ok (.iload 4, 2) := by decide +kernel
theorem dX7_move_118 : decode cX7_move 118 = .ok (.isub, 1) := by decide +kernel
theorem dX7_move_119 : decode cX7_move 119 = .ok (.iload 5, 2) := by decide +kernel
theorem dX7_move_121 : decode cX7_move 121 = .ok (.invokevirtual 135, 3) := by decide +kernel
theorem dX7_move_124 : decode cX7_move 124 = .ok (.ifCond .ne 9, 3) := by decide +kernel
theorem dX7_move_127 : decode cX7_move 127 = .ok (.iinc 6 (-1), 3) := by decide +kernel
theorem dX7_move_130 : decode cX7_move 130 = .ok (.goto (-35), 3) := by decide +kernel
theorem dX7_move_133 : decode cX7_move 133 = .ok (.aload_n 0, 1) := by decide +kernel
theorem dX7_move_134 : decode cX7_move 134 = .ok (.getfield 7, 3) := by decide +kernel
theorem dX7_move_137 : decode cX7_move 137 = .ok (.bipush 50, 2) := by decide +kernel
theorem dX7_move_139 : decode cX7_move 139 = .ok (.bipush 24, 2) := by decide +kernel
theorem dX7_move_141 : decode cX7_move 141 = .ok (.iload_n 1, 1) := by decide +kernel
theorem dX7_move_142 : decode cX7_move 142 = .ok (.imul, 1) := by decide +kernel
theorem dX7_move_143 : decode cX7_move 143 = .ok (.iadd, 1) := by decide +kernel
theorem dX7_move_144 : decode cX7_move 144 = .ok (.iload_n 2, 1) := by decide +kernel
theorem dX7_move_145 : decode cX7_move 145 = .ok (.iadd, 1) := by decide +kernel
theorem dX7_move_146 : decode cX7_move 146 = .ok (.iload 6, 2) := by decide +kernel
theorem dX7_move_148 : decode cX7_move 148 = .ok (.iastore, 1) := by decide +kernel
theorem dX7_move_149 : decode cX7_move 149 = .ok (.aload_n 0, 1) := by decide +kernel
theorem dX7_move_150 : decode cX7_move 150 = .ok (.getfield 7, 3) := by decide +kernel
theorem dX7_move_153 : decode cX7_move 153 = .ok (.bipush 50, 2) := by decide +kernel
theorem dX7_move_155 : decode cX7_move 155 = .ok (.bipush 24, 2) := by decide +kernel
theorem dX7_move_157 : decode cX7_move 157 = .ok (.iload_n 3, 1) := by decide +kernel
theorem dX7_move_158 : decode cX7_move 158 = .ok (.imul, 1) := by decide +kernel
theorem dX7_move_159 : decode cX7_move 159 = .ok (.iadd, 1) := by decide +kernel
theorem dX7_move_160 : decode cX7_move 160 = .ok (.iload_n 2, 1) := by decide +kernel
theorem dX7_move_161 : decode cX7_move 161 = .ok (.iadd, 1) := by decide +kernel
theorem dX7_move_162 : decode cX7_move 162 = .ok (.iconst 0, 1) := by decide +kernel
theorem dX7_move_163 : decode cX7_move 163 = .ok (.iastore, 1) := by decide +kernel
theorem dX7_move_164 : decode cX7_move 164 = .ok (.iload 6, 2) := by decide +kernel
theorem dX7_move_166 : decode cX7_move 166 = .ok (.ireturn, 1) := by decide +kernel
theorem dX7_mayMove_0 : decode cX7_mayMove 0 = .ok (.iconst 0, 1) := by decide +kernel
theorem dX7_mayMove_1 : decode cX7_mayMove 1 = .ok (.istore 6, 2) := by decide +kernel
theorem dX7_mayMove_3 : decode cX7_mayMove 3 = .ok (.iload 6, 2) := by decide +kernel
theorem dX7_mayMove_5 : decode cX7_mayMove 5 = .ok (.aload_n 0, 1) := by decide +kernel
theorem dX7_mayMove_6 : decode cX7_mayMove 6 = .ok (.invokevirtual 44, 3) := by decide +kernel
theorem dX7_mayMove_9 : decode cX7_mayMove 9 = .ok (.if_icmp .ge 53, 3) := by decide +kernel
theorem dX7_mayMove_12 : decode cX7_mayMove 12 = .ok (.iconst 0, 1) := by decide +kernel
theorem dX7_mayMove_13 : decode cX7_mayMove 13 = .ok (.istore 7, 2) := by decide +kernel
theorem dX7_mayMove_15 : decode cX7_mayMove 15 = .ok (.iload 7, 2) := by decide +kernel
theorem dX7_mayMove_17 : decode cX7_mayMove 17 = .ok (.iload_n 3, 1) := by decide +kernel
theorem dX7_mayMove_18 : decode cX7_mayMove 18 = .ok (.if_icmp .ge 38, 3) := by decide +kernel
theorem dX7_mayMove_21 : decode cX7_mayMove 21 = .ok (.iload 4, 2) := by decide +kernel
theorem dX7_mayMove_23 : decode cX7_mayMove 23 = .ok (.aload_n 0, 1) := by decide +kernel
theorem dX7_mayMove_24 : decode cX7_mayMove 24 = .ok (.iload 6, 2) := by decide +kernel
theorem dX7_mayMove_26 : decode cX7_mayMove 26 = .ok (.iload_n 1, 1) := by decide +kernel
theorem dX7_mayMove_27 : decode cX7_mayMove 27 = .ok (.iload 7, 2) := by decide +kernel
theorem dX7_mayMove_29 : decode cX7_mayMove 29 = .ok (.invokevirtual 108, 3) := by decide +kernel
theorem dX7_mayMove_32 : decode cX7_mayMove 32 = .ok (.imul, 1) := by decide +kernel
theorem dX7_mayMove_33 : decode cX7_mayMove 33 = .ok (.iload 5, 2) := by decide +kernel
theorem dX7_mayMove_35 : decode cX7_mayMove 35 = .ok (.aload_n 0, 1) := by decide +kernel
theorem dX7_mayMove_36 : decode cX7_mayMove 36 = .ok (.iload 6, 2) := by decide +kernel
theorem dX7_mayMove_38 : decode cX7_mayMove 38 = .ok (.iload_n 2, 1) := by decide +kernel
theorem dX7_mayMove_39 : decode cX7_mayMove 39 = .ok (.iload 7, 2) := by decide +kernel
theorem dX7_mayMove_41 : decode cX7_mayMove 41 = .ok (.invokevirtual 108, 3) := by decide +kernel
theorem dX7_mayMove_44 : decode cX7_mayMove 44 = .ok (.imul, 1) := by decide +kernel
theorem dX7_mayMove_45 : decode cX7_mayMove 45 = .ok (.if_icmp .le 5, 3) := by decide +kernel
theorem dX7_mayMove_48 : decode cX7_mayMove 48 = .ok (.iconst 0, 1) := by decide +kernel
theorem dX7_mayMove_49 : decode cX7_mayMove 49 = .ok (.ireturn, 1) := by decide +kernel
theorem dX7_mayMove_50 : decode cX7_mayMove 50 = .ok (.iinc 7 1, 3) := by decide +kernel
theorem dX7_mayMove_53 : decode cX7_mayMove 53 = .ok (.goto (-38), 3) := by decide +kernel
theorem dX7_mayMove_56 : decode cX7_mayMove 56 = .ok (.iinc 6 1, 3) := by decide +kernel
theorem dX7_mayMove_59 : decode cX7_mayMove 59 = .ok (.goto (-56), 3) := by decide +kernel
theorem dX7_mayMove_62 : decode cX7_mayMove 62 = .ok (.iconst 1, 1) := by decide +kernel
theorem dX7_mayMove_63 : decode cX7_mayMove 63 = .ok (.ireturn, 1) := by decide +kernel
theorem dX7_reading_0 : decode cX7_reading 0 = .ok (.sipush 606, 3) := by decide +kernel
theorem dX7_reading_3 : decode cX7_reading 3 = .ok (.iconst 2, 1) := by decide +kernel
theorem dX7_reading_4 : decode cX7_reading 4 = .ok (.bipush 24, 2) := by decide +kernel
theorem dX7_reading_6 : decode cX7_reading 6 = .ok (.iload_n 1, 1) := by decide +kernel
theorem dX7_reading_7 : decode cX7_reading 7 = .ok (.imul, 1) := by decide +kernel
theorem dX7_reading_8 : decode cX7_reading 8 = .ok (.iload_n 2, 1) := by decide +kernel
theorem dX7_reading_9 : decode cX7_reading 9 = .ok (.iadd, 1) := by decide +kernel
theorem dX7_reading_10 : decode cX7_reading 10 = .ok (.imul, 1) := by decide +kernel
theorem dX7_reading_11 : decode cX7_reading 11 = .ok (.iadd, 1) := by decide +kernel
theorem dX7_reading_12 : decode cX7_reading 12 = .ok (.ireturn, 1) := by decide +kernel
theorem dX7_read_0 : decode cX7_read 0 = .ok (.aload_n 0, 1) := by decide +kernel
theorem dX7_read_1 : decode cX7_read 1 = .ok (.iload_n 1, 1) := by decide +kernel
theorem dX7_read_2 : decode cX7_read 2 = .ok (.invokevirtual 68, 3) := by decide +kernel
theorem dX7_read_5 : decode cX7_read 5 = .ok (.ifCond .eq 21, 3) := by decide +kernel
theorem dX7_read_8 : decode cX7_read 8 = .ok (.iload_n 2, 1) := by decide +kernel
theorem dX7_read_9 : decode cX7_read 9 = .ok (.invokestatic 98, 3) := by decide +kernel
theorem dX7_read_12 : decode cX7_read 12 = .ok (.ifCond .eq 14, 3) := by decide +kernel
theorem dX7_read_15 : decode cX7_read 15 = .ok (.iload_n 3, 1) := by decide +kernel
theorem dX7_read_16 : decode cX7_read 16 = .ok (.ldc 139, 2) := by decide +kernel
theorem dX7_read_18 : decode cX7_read 18 = .ok (.ldc 140, 2) := by decide +kernel
theorem dX7_read_20 : decode cX7_read 20 = .ok (.invokestatic 48, 3) := by decide +kernel
theorem dX7_read_23 : decode cX7_read 23 = .ok (.ifCond .ne 10, 3) := by decide +kernel
theorem dX7_read_26 : decode cX7_read 26 = .ok (.aload_n 0, 1) := by decide +kernel
theorem dX7_read_27 : decode cX7_read 27 = .ok (.ldc 62, 2) := by decide +kernel
theorem dX7_read_29 : decode cX7_read 29 = .ok (.invokevirtual 63, 3) := by decide +kernel
theorem dX7_read_32 : decode cX7_read 32 = .ok (.ireturn, 1) := by decide +kernel
theorem dX7_read_33 : decode cX7_read 33 = .ok (.aload_n 0, 1) := by decide +kernel
theorem dX7_read_34 : decode cX7_read 34 = .ok (.iload_n 1, 1) := by decide +kernel
theorem dX7_read_35 : decode cX7_read 35 = .ok (.iload_n 2, 1) := by decide +kernel
theorem dX7_read_36 : decode cX7_read 36 = .ok (.invokevirtual 141, 3) := by decide +kernel
theorem dX7_read_39 : decode cX7_read 39 = .ok (.istore 4, 2) := by decide +kernel
theorem dX7_read_41 : decode cX7_read 41 = .ok (.aload_n 0, 1) := by decide +kernel
theorem dX7_read_42 : decode cX7_read 42 = .ok (.getfield 7, 3) := by decide +kernel
theorem dX7_read_45 : decode cX7_read 45 = .ok (.iload 4, 2) := by decide +kernel
theorem dX7_read_47 : decode cX7_read 47 = .ok (.iaload, 1) := by decide +kernel
theorem dX7_read_48 : decode cX7_read 48 = .ok (.ifCond .ne 23, 3) := by decide +kernel
theorem dX7_read_51 : decode cX7_read 51 = .ok (.aload_n 0, 1) := by decide +kernel
theorem dX7_read_52 : decode cX7_read 52 = .ok (.getfield 7, 3) := by decide +kernel
theorem dX7_read_55 : decode cX7_read 55 = .ok (.sipush 1088, 3) := by decide +kernel
theorem dX7_read_58 : decode cX7_read 58 = .ok (.iaload, 1) := by decide +kernel
theorem dX7_read_59 : decode cX7_read 59 = .ok (.bipush 40, 2) := by decide +kernel
theorem dX7_read_61 : decode cX7_read 61 = .ok (.if_icmp .ne 10, 3) := by decide +kernel
theorem dX7_read_64 : decode cX7_read 64 = .ok (.aload_n 0, 1) := by decide +kernel
theorem dX7_read_65 : decode cX7_read 65 = .ok (.ldc 67, 2) := by decide +kernel
theorem dX7_read_67 : decode cX7_read 67 = .ok (.invokevirtual 63, 3) := by decide +kernel
theorem dX7_read_70 : decode cX7_read 70 = .ok (.ireturn, 1) := by decide +kernel
theorem dX7_read_71 : decode cX7_read 71 = .ok (.aload_n 0, 1) := by decide +kernel
theorem dX7_read_72 : decode cX7_read 72 = .ok (.getfield 7, 3) := by decide +kernel
theorem dX7_read_75 : decode cX7_read 75 = .ok (.sipush 1088, 3) := by decide +kernel
theorem dX7_read_78 : decode cX7_read 78 = .ok (.dup2, 1) := by decide +kernel
theorem dX7_read_79 : decode cX7_read 79 = .ok (.iaload, 1) := by decide +kernel
theorem dX7_read_80 : decode cX7_read 80 = .ok (.iconst 1, 1) := by decide +kernel
theorem dX7_read_81 : decode cX7_read 81 = .ok (.aload_n 0, 1) := by decide +kernel
theorem dX7_read_82 : decode cX7_read 82 = .ok (.getfield 7, 3) := by decide +kernel
theorem dX7_read_85 : decode cX7_read 85 = .ok (.iload 4, 2) := by decide +kernel
theorem dX7_read_87 : decode cX7_read 87 = .ok (.iaload, 1) := by decide +kernel
theorem dX7_read_88 : decode cX7_read 88 = .ok (.isub, 1) := by decide +kernel
theorem dX7_read_89 : decode cX7_read 89 = .ok (.iadd, 1) := by decide +kernel
theorem dX7_read_90 : decode cX7_read 90 = .ok (.iastore, 1) := by decide +kernel
theorem dX7_read_91 : decode cX7_read 91 = .ok (.aload_n 0, 1) := by decide +kernel
theorem dX7_read_92 : decode cX7_read 92 = .ok (.getfield 7, 3) := by decide +kernel
theorem dX7_read_95 : decode cX7_read 95 = .ok (.iload 4, 2) := by decide +kernel
theorem dX7_read_97 : decode cX7_read 97 = .ok (.iconst 1, 1) := by decide +kernel
theorem dX7_read_98 : decode cX7_read 98 = .ok (.iastore, 1) := by decide +kernel
theorem dX7_read_99 : decode cX7_read 99 = .ok (.aload_n 0, 1) := by decide +kernel
theorem dX7_read_100 : decode cX7_read 100 = .ok (.getfield 7, 3) := by decide +kernel
theorem dX7_read_103 : decode cX7_read 103 = .ok (.iload 4, 2) := by decide +kernel
theorem dX7_read_105 : decode cX7_read 105 = .ok (.iconst 1, 1) := by decide +kernel
theorem dX7_read_106 : decode cX7_read 106 = .ok (.iadd, 1) := by decide +kernel
theorem dX7_read_107 : decode cX7_read 107 = .ok (.iload_n 3, 1) := by decide +kernel
theorem dX7_read_108 : decode cX7_read 108 = .ok (.iastore, 1) := by decide +kernel
theorem dX7_read_109 : decode cX7_read 109 = .ok (.aload_n 0, 1) := by decide +kernel
theorem dX7_read_110 : decode cX7_read 110 = .ok (.getfield 7, 3) := by decide +kernel
theorem dX7_read_113 : decode cX7_read 113 = .ok (.sipush 1088, 3) := by decide +kernel
theorem dX7_read_116 : decode cX7_read 116 = .ok (.iaload, 1) := by decide +kernel
theorem dX7_read_117 : decode cX7_read 117 = .ok (.ireturn, 1) := by decide +kernel
theorem dX7_differ_0 : decode cX7_differ 0 = .ok (.aload_n 0, 1) := by decide +kernel
theorem dX7_differ_1 : decode cX7_differ 1 = .ok (.iload_n 1, 1) := by decide +kernel
theorem dX7_differ_2 : decode cX7_differ 2 = .ok (.invokevirtual 68, 3) := by decide +kernel
theorem dX7_differ_5 : decode cX7_differ 5 = .ok (.ifCond .eq 10, 3) := by decide +kernel
theorem dX7_differ_8 : decode cX7_differ 8 = .ok (.iload_n 2, 1) := by decide +kernel
theorem dX7_differ_9 : decode cX7_differ 9 = .ok (.invokestatic 98, 3) := by decide +kernel
theorem dX7_differ_12 : decode cX7_differ 12 = .ok (.ifCond .ne 10, 3) := by decide +kernel
theorem dX7_differ_15 : decode cX7_differ 15 = .ok (.aload_n 0, 1) := by decide +kernel
theorem dX7_differ_16 : decode cX7_differ 16 = .ok (.ldc 62, 2) := by decide +kernel
theorem dX7_differ_18 : decode cX7_differ 18 = .ok (.invokevirtual 63, 3) := by decide +kernel
theorem dX7_differ_21 : decode cX7_differ 21 = .ok (.ireturn, 1) := by decide +kernel
theorem dX7_differ_22 : decode cX7_differ 22 = .ok (.aload_n 0, 1) := by decide +kernel
theorem dX7_differ_23 : decode cX7_differ 23 = .ok (.iload_n 1, 1) := by decide +kernel
theorem dX7_differ_24 : decode cX7_differ 24 = .ok (.iload_n 2, 1) := by decide +kernel
theorem dX7_differ_25 : decode cX7_differ 25 = .ok (.invokevirtual 141, 3) := by decide +kernel
theorem dX7_differ_28 : decode cX7_differ 28 = .ok (.istore_n 3, 1) := by decide +kernel
theorem dX7_differ_29 : decode cX7_differ 29 = .ok (.aload_n 0, 1) := by decide +kernel
theorem dX7_differ_30 : decode cX7_differ 30 = .ok (.getfield 7, 3) := by decide +kernel
theorem dX7_differ_33 : decode cX7_differ 33 = .ok (.iload_n 3, 1) := by decide +kernel
theorem dX7_differ_34 : decode cX7_differ 34 = .ok (.iaload, 1) := by decide +kernel
theorem dX7_differ_35 : decode cX7_differ 35 = .ok (.ifCond .ne 12, 3) := by decide +kernel
theorem dX7_differ_38 : decode cX7_differ 38 = .ok (.aload_n 0, 1) := by decide +kernel
theorem dX7_differ_39 : decode cX7_differ 39 = .ok (.ldc 121, 2) := by decide +kernel
theorem dX7_differ_41 : decode cX7_differ 41 = .ok (.invokevirtual 63, 3) := by decide +kernel
theorem dX7_differ_44 : decode cX7_differ 44 = .ok (.goto 18, 3) := by decide +kernel
theorem dX7_differ_47 : decode cX7_differ 47 = .ok (.aload_n 0, 1) := by decide +kernel
theorem dX7_differ_48 : decode cX7_differ 48 = .ok (.getfield 7, 3) := by decide +kernel
theorem dX7_differ_51 : decode cX7_differ 51 = .ok (.iload_n 3, 1) := by decide +kernel
theorem dX7_differ_52 : decode cX7_differ 52 = .ok (.iconst 1, 1) := by decide +kernel
theorem dX7_differ_53 : decode cX7_differ 53 = .ok (.iadd, 1) := by decide +kernel
theorem dX7_differ_54 : decode cX7_differ 54 = .ok (.iaload, 1) := by decide +kernel
theorem dX7_differ_55 : decode cX7_differ 55 = .ok (.aload_n 0, 1) := by decide +kernel
theorem dX7_differ_56 : decode cX7_differ 56 = .ok (.iload_n 1, 1) := by decide +kernel
theorem dX7_differ_57 : decode cX7_differ 57 = .ok (.iload_n 2, 1) := by decide +kernel
theorem dX7_differ_58 : decode cX7_differ 58 = .ok (.invokevirtual 118, 3) := by decide +kernel
theorem dX7_differ_61 : decode cX7_differ 61 = .ok (.isub, 1) := by decide +kernel
theorem dX7_differ_62 : decode cX7_differ 62 = .ok (.ireturn, 1) := by decide +kernel
theorem dX7_squaresNow_0 : decode cX7_squaresNow 0 = .ok (.lconst 0, 1) := by decide +kernel
theorem dX7_squaresNow_1 : decode cX7_squaresNow 1 = .ok (.lstore_n 1, 1) := by decide +kernel
theorem dX7_squaresNow_2 : decode cX7_squaresNow 2 = .ok (.iconst 0, 1) := by decide +kernel
theorem dX7_squaresNow_3 : decode cX7_squaresNow 3 = .ok (.istore_n 3, 1) := by decide +kernel
theorem dX7_squaresNow_4 : decode cX7_squaresNow 4 = .ok (.iload_n 3, 1) := by decide +kernel
theorem dX7_squaresNow_5 : decode cX7_squaresNow 5 = .ok (.aload_n 0, 1) := by decide +kernel
theorem dX7_squaresNow_6 : decode cX7_squaresNow 6 = .ok (.invokevirtual 44, 3) := by decide +kernel
theorem dX7_squaresNow_9 : decode cX7_squaresNow 9 = .ok (.if_icmp .ge 75, 3) := by decide +kernel
theorem dX7_squaresNow_12 : decode cX7_squaresNow 12 = .ok (.iconst 0, 1) := by decide +kernel
theorem dX7_squaresNow_13 : decode cX7_squaresNow 13 = .ok (.istore 4, 2) := by decide +kernel
theorem dX7_squaresNow_15 : decode cX7_squaresNow 15 = .ok (.iload 4, 2) := by decide +kernel
theorem dX7_squaresNow_17 : decode cX7_squaresNow 17 = .ok (.bipush 24, 2) := by decide +kernel
theorem dX7_squaresNow_19 : decode cX7_squaresNow 19 = .ok (.if_icmp .ge 59, 3) := by decide +kernel
theorem dX7_squaresNow_22 : decode cX7_squaresNow 22 = .ok (.aload_n 0, 1) := by decide +kernel
theorem dX7_squaresNow_23 : decode cX7_squaresNow 23 = .ok (.iload_n 3, 1) := by decide +kernel
theorem dX7_squaresNow_24 : decode cX7_squaresNow 24 = .ok (.iload 4, 2) := by decide +kernel
theorem dX7_squaresNow_26 : decode cX7_squaresNow 26 = .ok (.invokevirtual 141, 3) := by decide +kernel
theorem dX7_squaresNow_29 : decode cX7_squaresNow 29 = .ok (.istore 5, 2) := by decide +kernel
theorem dX7_squaresNow_31 : decode cX7_squaresNow 31 = .ok (.aload_n 0, 1) := by decide +kernel
theorem dX7_squaresNow_32 : decode cX7_squaresNow 32 = .ok (.getfield 7, 3) := by decide +kernel
theorem dX7_squaresNow_35 : decode cX7_squaresNow 35 = .ok (.iload 5, 2) := by decide +kernel
theorem dX7_squaresNow_37 : decode cX7_squaresNow 37 = .ok (.iaload, 1) := by decide +kernel
theorem dX7_squaresNow_38 : decode cX7_squaresNow 38 = .ok (.ifCond .ne 6, 3) := by decide +kernel
theorem dX7_squaresNow_41 : decode cX7_squaresNow 41 = .ok (.goto 31, 3) := by decide +kernel
theorem dX7_squaresNow_44 : decode cX7_squaresNow 44 = .ok (.aload_n 0, 1) := by decide +kernel
theorem dX7_squaresNow_45 : decode cX7_squaresNow 45 = .ok (.getfield 7, 3) := by decide +kernel
theorem dX7_squaresNow_48 : decode cX7_squaresNow 48 = .ok (.iload 5, 2) := by decide +kernel
theorem dX7_squaresNow_50 : decode cX7_squaresNow 50 = .ok (.iconst 1, 1) := by decide +kernel
theorem dX7_squaresNow_51 : decode cX7_squaresNow 51 = .ok (.iadd, 1) := by decide +kernel
theorem dX7_squaresNow_52 : decode cX7_squaresNow 52 = .ok (.iaload, 1) := by decide +kernel
theorem dX7_squaresNow_53 : decode cX7_squaresNow 53 = .ok (.aload_n 0, 1) := by decide +kernel
theorem dX7_squaresNow_54 : decode cX7_squaresNow 54 = .ok (.iload_n 3, 1) := by decide +kernel
theorem dX7_squaresNow_55 : decode cX7_squaresNow 55 = .ok (.iload 4, 2) := by decide +kernel
theorem dX7_squaresNow_57 : decode cX7_squaresNow 57 = .ok (.invokevirtual 118, 3) := by decide +kernel
theorem dX7_squaresNow_60 : decode cX7_squaresNow 60 = .ok (.isub, 1) := by decide +kernel
theorem dX7_squaresNow_61 : decode cX7_squaresNow 61 = .ok (.i2l, 1) := by decide +kernel
theorem dX7_squaresNow_62 : decode cX7_squaresNow 62 = .ok (.lstore 6, 2) := by decide +kernel
theorem dX7_squaresNow_64 : decode cX7_squaresNow 64 = .ok (.lload_n 1, 1) := by decide +kernel
theorem dX7_squaresNow_65 : decode cX7_squaresNow 65 = .ok (.lload 6, 2) := by decide +kernel
theorem dX7_squaresNow_67 : decode cX7_squaresNow 67 = .ok (.lload 6, 2) := by decide +kernel
theorem dX7_squaresNow_69 : decode cX7_squaresNow 69 = .ok (.lmul, 1) := by decide +kernel
theorem dX7_squaresNow_70 : decode cX7_squaresNow 70 = .ok (.ladd, 1) := by decide +kernel
theorem dX7_squaresNow_71 : decode cX7_squaresNow 71 = .ok (.lstore_n 1, 1) := by decide +kernel
theorem dX7_squaresNow_72 : decode cX7_squaresNow 72 = .ok (.iinc 4 1, 3) := by decide +kernel
theorem dX7_squaresNow_75 : decode cX7_squaresNow 75 = .ok (.goto (-60), 3) := by decide +kernel
theorem dX7_squaresNow_78 : decode cX7_squaresNow 78 = .ok (.iinc 3 1, 3) := by decide +kernel
theorem dX7_squaresNow_81 : decode cX7_squaresNow 81 = .ok (.goto (-77), 3) := by decide +kernel
theorem dX7_squaresNow_84 : decode cX7_squaresNow 84 = .ok (.lload_n 1, 1) := by decide +kernel
theorem dX7_squaresNow_85 : decode cX7_squaresNow 85 = .ok (.lreturn, 1) := by decide +kernel
theorem dX7_times_0 : decode cX7_times 0 = .ok (.iconst 0, 1) := by decide +kernel
theorem dX7_times_1 : decode cX7_times 1 = .ok (.istore 4, 2) := by decide +kernel
theorem dX7_times_3 : decode cX7_times 3 = .ok (.iload 4, 2) := by decide +kernel
theorem dX7_times_5 : decode cX7_times 5 = .ok (.bipush 10, 2) := by decide +kernel
theorem dX7_times_7 : decode cX7_times 7 = .ok (.if_icmp .ge 51, 3) := by decide +kernel
theorem dX7_times_10 : decode cX7_times 10 = .ok (.aload_n 0, 1) := by decide +kernel
theorem dX7_times_11 : decode cX7_times 11 = .ok (.getfield 37, 3) := by decide +kernel
theorem dX7_times_14 : decode cX7_times 14 = .ok (.iload 4, 2) := by decide +kernel
theorem dX7_times_16 : decode cX7_times 16 = .ok (.iaload, 1) := by decide +kernel
theorem dX7_times_17 : decode cX7_times 17 = .ok (.iload_n 3, 1) := by decide +kernel
theorem dX7_times_18 : decode cX7_times 18 = .ok (.imul, 1) := by decide +kernel
theorem dX7_times_19 : decode cX7_times 19 = .ok (.bipush 100, 2) := by decide +kernel
theorem dX7_times_21 : decode cX7_times 21 = .ok (.idiv, 1) := by decide +kernel
theorem dX7_times_22 : decode cX7_times 22 = .ok (.istore 5, 2) := by decide +kernel
theorem dX7_times_24 : decode cX7_times 24 = .ok (.aload_n 0, 1) := by decide +kernel
theorem dX7_times_25 : decode cX7_times 25 = .ok (.getfield 7, 3) := by decide +kernel
theorem dX7_times_28 : decode cX7_times 28 = .ok (.iload_n 1, 1) := by decide +kernel
theorem dX7_times_29 : decode cX7_times 29 = .ok (.iload 4, 2) := by decide +kernel
theorem dX7_times_31 : decode cX7_times 31 = .ok (.iload_n 2, 1) := by decide +kernel
theorem dX7_times_32 : decode cX7_times 32 = .ok (.invokestatic 81, 3) := by decide +kernel
theorem dX7_times_35 : decode cX7_times 35 = .ok (.iload 5, 2) := by decide +kernel
theorem dX7_times_37 : decode cX7_times 37 = .ok (.sipush 1000, 3) := by decide +kernel
theorem dX7_times_40 : decode cX7_times 40 = .ok (.if_icmp .le 9, 3) := by decide +kernel
theorem dX7_times_43 : decode cX7_times 43 = .ok (.sipush 1000, 3) := by decide +kernel
theorem dX7_times_46 : decode cX7_times 46 = .ok (.goto 5, 3) := by decide +kernel
theorem dX7_times_49 : decode cX7_times 49 = .ok (.iload 5, 2) := by decide +kernel
theorem dX7_times_51 : decode cX7_times 51 = .ok (.iastore, 1) := by decide +kernel
theorem dX7_times_52 : decode cX7_times 52 = .ok (.iinc 4 1, 3) := by decide +kernel
theorem dX7_times_55 : decode cX7_times 55 = .ok (.goto (-52), 3) := by decide +kernel
theorem dX7_times_58 : decode cX7_times 58 = .ok (.return_, 1) := by decide +kernel
theorem dX7_fit_0 : decode cX7_fit 0 = .ok (.iload_n 1, 1) := by decide +kernel
theorem dX7_fit_1 : decode cX7_fit 1 = .ok (.iconst 0, 1) := by decide +kernel
theorem dX7_fit_2 : decode cX7_fit 2 = .ok (.iconst 1, 1) := by decide +kernel
theorem dX7_fit_3 : decode cX7_fit 3 = .ok (.invokestatic 48, 3) := by decide +kernel
