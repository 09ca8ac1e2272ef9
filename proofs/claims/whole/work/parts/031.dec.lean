theorem dX0_init_0 : decode cX0_init 0 = .ok (.aload_n 0, 1) := by decide +kernel
theorem dX0_init_1 : decode cX0_init 1 = .ok (.invokespecial 3, 3) := by decide +kernel
theorem dX0_init_4 : decode cX0_init 4 = .ok (.aload_n 0, 1) := by decide +kernel
theorem dX0_init_5 : decode cX0_init 5 = .ok (.iconst 0, 1) := by decide +kernel
theorem dX0_init_6 : decode cX0_init 6 = .ok (.putfield 9, 3) := by decide +kernel
theorem dX0_init_9 : decode cX0_init 9 = .ok (.aload_n 0, 1) := by decide +kernel
theorem dX0_init_10 : decode cX0_init 10 = .ok (.bipush 10, 2) := by decide +kernel
theorem dX0_init_12 : decode cX0_init 12 = .ok (.newarray .int, 2) := by decide +kernel
theorem dX0_init_14 : decode cX0_init 14 = .ok (.putfield 15, 3) := by decide +kernel
theorem dX0_init_17 : decode cX0_init 17 = .ok (.aload_n 0, 1) := by decide +kernel
theorem dX0_init_18 : decode cX0_init 18 = .ok (.bipush 10, 2) := by decide +kernel
theorem dX0_init_20 : decode cX0_init 20 = .ok (.newarray .int, 2) := by decide +kernel
theorem dX0_init_22 : decode cX0_init 22 = .ok (.putfield 19, 3) := by decide +kernel
theorem dX0_init_25 : decode cX0_init 25 = .ok (.aload_n 0, 1) := by decide +kernel
theorem dX0_init_26 : decode cX0_init 26 = .ok (.bipush 10, 2) := by decide +kernel
theorem dX0_init_28 : decode cX0_init 28 = .ok (.newarray .int, 2) := by decide +kernel
theorem dX0_init_30 : decode cX0_init 30 = .ok (.putfield 22, 3) := by decide +kernel
theorem dX0_init_33 : decode cX0_init 33 = .ok (.aload_n 0, 1) := by decide +kernel
theorem dX0_init_34 : decode cX0_init 34 = .ok (.bipush 10, 2) := by decide +kernel
theorem dX0_init_36 : decode cX0_init 36 = .ok (.newarray .int, 2) := by decide +kernel
theorem dX0_init_38 : decode cX0_init 38 = .ok (.putfield 25, 3) := by decide +kernel
theorem dX0_init_41 : decode cX0_init 41 = .ok (.return_, 1) := by decide +kernel
theorem dX0_add_0 : decode cX0_add 0 = .ok (.aload_n 0, 1) := by decide +kernel
theorem dX0_add_1 : decode cX0_add 1 = .ok (.getfield 9, 3) := by decide +kernel
theorem dX0_add_4 : decode cX0_add 4 = .ok (.istore 4, 2) := by decide +kernel
theorem dX0_add_6 : decode cX0_add 6 = .ok (.aload_n 0, 1) := by decide +kernel
theorem dX0_add_7 : decode cX0_add 7 = .ok (.getfield 15, 3) := by decide +kernel
theorem dX0_add_10 : decode cX0_add 10 = .ok (.iload 4, 2) := by decide +kernel
theorem dX0_add_12 : decode cX0_add 12 = .ok (.iload_n 1, 1) := by decide +kernel
theorem dX0_add_13 : decode cX0_add 13 = .ok (.iastore, 1) := by decide +kernel
theorem dX0_add_14 : decode cX0_add 14 = .ok (.aload_n 0, 1) := by decide +kernel
theorem dX0_add_15 : decode cX0_add 15 = .ok (.getfield 19, 3) := by decide +kernel
theorem dX0_add_18 : decode cX0_add 18 = .ok (.iload 4, 2) := by decide +kernel
theorem dX0_add_20 : decode cX0_add 20 = .ok (.iload_n 2, 1) := by decide +kernel
theorem dX0_add_21 : decode cX0_add 21 = .ok (.iastore, 1) := by decide +kernel
theorem dX0_add_22 : decode cX0_add 22 = .ok (.aload_n 0, 1) := by decide +kernel
theorem dX0_add_23 : decode cX0_add 23 = .ok (.getfield 22, 3) := by decide +kernel
theorem dX0_add_26 : decode cX0_add 26 = .ok (.iload 4, 2) := by decide +kernel
theorem dX0_add_28 : decode cX0_add 28 = .ok (.iload_n 3, 1) := by decide +kernel
theorem dX0_add_29 : decode cX0_add 29 = .ok (.iastore, 1) := by decide +kernel
theorem dX0_add_30 : decode cX0_add 30 = .ok (.aload_n 0, 1) := by decide +kernel
theorem dX0_add_31 : decode cX0_add 31 = .ok (.getfield 25, 3) := by decide +kernel
theorem dX0_add_34 : decode cX0_add 34 = .ok (.iload 4, 2) := by decide +kernel
theorem dX0_add_36 : decode cX0_add 36 = .ok (.iconst (-1), 1) := by decide +kernel
theorem dX0_add_37 : decode cX0_add 37 = .ok (.iastore, 1) := by decide +kernel
theorem dX0_add_38 : decode cX0_add 38 = .ok (.aload_n 0, 1) := by decide +kernel
theorem dX0_add_39 : decode cX0_add 39 = .ok (.dup, 1) := by decide +kernel
theorem dX0_add_40 : decode cX0_add 40 = .ok (.getfield 9, 3) := by decide +kernel
theorem dX0_add_43 : decode cX0_add 43 = .ok (.iconst 1, 1) := by decide +kernel
theorem dX0_add_44 : decode cX0_add 44 = .ok (.iadd, 1) := by decide +kernel
theorem dX0_add_45 : decode cX0_add 45 = .ok (.putfield 9, 3) := by decide +kernel
theorem dX0_add_48 : decode cX0_add 48 = .ok (.iload 4, 2) := by decide +kernel
theorem dX0_add_50 : decode cX0_add 50 = .ok (.ireturn, 1) := by decide +kernel
theorem dX0_nextUnserved_0 : decode cX0_nextUnserved 0 = .ok (.iconst (-1), 1) := by decide +kernel
theorem dX0_nextUnserved_1 : decode cX0_nextUnserved 1 = .ok (.istore_n 1, 1) := by decide +kernel
theorem dX0_nextUnserved_2 : decode cX0_nextUnserved 2 = .ok (.iconst 0, 1) := by decide +kernel
theorem dX0_nextUnserved_3 : decode cX0_nextUnserved 3 = .ok (.istore_n 2, 1) := by decide +kernel
theorem dX0_nextUnserved_4 : decode cX0_nextUnserved 4 = .ok (.iload_n 2, 1) := by decide +kernel
theorem dX0_nextUnserved_5 : decode cX0_nextUnserved 5 = .ok (.aload_n 0, 1) := by decide +kernel
theorem dX0_nextUnserved_6 : decode cX0_nextUnserved 6 = .ok (.getfield 9, 3) := by decide +kernel
theorem dX0_nextUnserved_9 : decode cX0_nextUnserved 9 = .ok (.if_icmp .ge 40, 3) := by decide +kernel
theorem dX0_nextUnserved_12 : decode cX0_nextUnserved 12 = .ok (.aload_n 0, 1) := by decide +kernel
theorem dX0_nextUnserved_13 : decode cX0_nextUnserved 13 = .ok (.getfield 25, 3) := by decide +kernel
theorem dX0_nextUnserved_16 : decode cX0_nextUnserved 16 = .ok (.iload_n 2, 1) := by decide +kernel
theorem dX0_nextUnserved_17 : decode cX0_nextUnserved 17 = .ok (.iaload, 1) := by decide +kernel
theorem dX0_nextUnserved_18 : decode cX0_nextUnserved 18 = .ok (.iconst (-1), 1) := by decide +kernel
theorem dX0_nextUnserved_19 : decode cX0_nextUnserved 19 = .ok (.if_icmp .ne 24, 3) := by decide +kernel
theorem dX0_nextUnserved_22 : decode cX0_nextUnserved 22 = .ok (.iload_n 1, 1) := by decide +kernel
theorem dX0_nextUnserved_23 : decode cX0_nextUnserved 23 = .ok (.ifCond .lt 18, 3) := by decide +kernel
theorem dX0_nextUnserved_26 : decode cX0_nextUnserved 26 = .ok (.aload_n 0, 1) := by decide +kernel
theorem dX0_nextUnserved_27 : decode cX0_nextUnserved 27 = .ok (.getfield 19, 3) := by decide +kernel
theorem dX0_nextUnserved_30 : decode cX0_nextUnserved 30 = .ok (.iload_n 2, 1) := by decide +kernel
theorem dX0_nextUnserved_31 : decode cX0_nextUnserved 31 = .ok (.iaload, 1) := by decide +kernel
theorem dX0_nextUnserved_32 : decode cX0_nextUnserved 32 = .ok (.aload_n 0, 1) := by decide +kernel
theorem dX0_nextUnserved_33 : decode cX0_nextUnserved 33 = .ok (.getfield 19, 3) := by decide +kernel
theorem dX0_nextUnserved_36 : decode cX0_nextUnserved 36 = .ok (.iload_n 1, 1) := by decide +kernel
theorem dX0_nextUnserved_37 : decode cX0_nextUnserved 37 = .ok (.iaload, 1) := by decide +kernel
theorem dX0_nextUnserved_38 : decode cX0_nextUnserved 38 = .ok (.if_icmp .ge 5, 3) := by decide +kernel
theorem dX0_nextUnserved_41 : decode cX0_nextUnserved 41 = .ok (.iload_n 2, 1) := by decide +kernel
theorem dX0_nextUnserved_42 : decode cX0_nextUnserved 42 = .ok (.istore_n 1, 1) := by decide +kernel
theorem dX0_nextUnserved_43 : decode cX0_nextUnserved 43 = .ok (.iinc 2 1, 3) := by decide +kernel
theorem dX0_nextUnserved_46 : decode cX0_nextUnserved 46 = .ok (.goto (-42), 3) := by decide +kernel
theorem dX0_nextUnserved_49 : decode cX0_nextUnserved 49 = .ok (.iload_n 1, 1) := by decide +kernel
theorem dX0_nextUnserved_50 : decode cX0_nextUnserved 50 = .ok (.ireturn, 1) := by decide +kernel
theorem dX0_take_0 : decode cX0_take 0 = .ok (.aload_n 0, 1) := by decide +kernel
theorem dX0_take_1 : decode cX0_take 1 = .ok (.aload_n 1, 1) := by decide +kernel
theorem dX0_take_2 : decode cX0_take 2 = .ok (.getfield 9, 3) := by decide +kernel
theorem dX0_take_5 : decode cX0_take 5 = .ok (.putfield 9, 3) := by decide +kernel
theorem dX0_take_8 : decode cX0_take 8 = .ok (.aload_n 1, 1) := by decide +kernel
theorem dX0_take_9 : decode cX0_take 9 = .ok (.getfield 15, 3) := by decide +kernel
theorem dX0_take_12 : decode cX0_take 12 = .ok (.aload_n 0, 1) := by decide +kernel
theorem dX0_take_13 : decode cX0_take 13 = .ok (.getfield 15, 3) := by decide +kernel
theorem dX0_take_16 : decode cX0_take 16 = .ok (.invokestatic 28, 3) := by decide +kernel
theorem dX0_take_19 : decode cX0_take 19 = .ok (.aload_n 1, 1) := by decide +kernel
theorem dX0_take_20 : decode cX0_take 20 = .ok (.getfield 19, 3) := by decide +kernel
theorem dX0_take_23 : decode cX0_take 23 = .ok (.aload_n 0, 1) := by decide +kernel
theorem dX0_take_24 : decode cX0_take 24 = .ok (.getfield 19, 3) := by decide +kernel
theorem dX0_take_27 : decode cX0_take 27 = .ok (.invokestatic 28, 3) := by decide +kernel
theorem dX0_take_30 : decode cX0_take 30 = .ok (.aload_n 1, 1) := by decide +kernel
theorem dX0_take_31 : decode cX0_take 31 = .ok (.getfield 22, 3) := by decide +kernel
theorem dX0_take_34 : decode cX0_take 34 = .ok (.aload_n 0, 1) := by decide +kernel
theorem dX0_take_35 : decode cX0_take 35 = .ok (.getfield 22, 3) := by decide +kernel
theorem dX0_take_38 : decode cX0_take 38 = .ok (.invokestatic 28, 3) := by decide +kernel
theorem dX0_take_41 : decode cX0_take 41 = .ok (.aload_n 1, 1) := by decide +kernel
theorem dX0_take_42 : decode cX0_take 42 = .ok (.getfield 25, 3) := by decide +kernel
theorem dX0_take_45 : decode cX0_take 45 = .ok (.aload_n 0, 1) := by decide +kernel
theorem dX0_take_46 : decode cX0_take 46 = .ok (.getfield 25, 3) := by decide +kernel
theorem dX0_take_49 : decode cX0_take 49 = .ok (.invokestatic 28, 3) := by decide +kernel
theorem dX0_take_52 : decode cX0_take 52 = .ok (.return_, 1) := by decide +kernel
theorem dX1_init_0 : decode cX1_init 0 = .ok (.aload_n 0, 1) := by decide +kernel
theorem dX1_init_1 : decode cX1_init 1 = .ok (.invokespecial 3, 3) := by decide +kernel
theorem dX1_init_4 : decode cX1_init 4 = .ok (.aload_n 0, 1) := by decide +kernel
theorem dX1_init_5 : decode cX1_init 5 = .ok (.iconst 0, 1) := by decide +kernel
theorem dX1_init_6 : decode cX1_init 6 = .ok (.putfield 9, 3) := by decide +kernel
theorem dX1_init_9 : decode cX1_init 9 = .ok (.aload_n 0, 1) := by decide +kernel
theorem dX1_init_10 : decode cX1_init 10 = .ok (.sipush 240, 3) := by decide +kernel
theorem dX1_init_13 : decode cX1_init 13 = .ok (.newarray .int, 2) := by decide +kernel
theorem dX1_init_15 : decode cX1_init 15 = .ok (.putfield 15, 3) := by decide +kernel
theorem dX1_init_18 : decode cX1_init 18 = .ok (.aload_n 0, 1) := by decide +kernel
theorem dX1_init_19 : decode cX1_init 19 = .ok (.sipush 240, 3) := by decide +kernel
theorem dX1_init_22 : decode cX1_init 22 = .ok (.newarray .int, 2) := by decide +kernel
theorem dX1_init_24 : decode cX1_init 24 = .ok (.putfield 19, 3) := by decide +kernel
theorem dX1_init_27 : decode cX1_init 27 = .ok (.return_, 1) := by decide +kernel
theorem dX1_has_0 : decode cX1_has 0 = .ok (.aload_n 0, 1) := by decide +kernel
theorem dX1_has_1 : decode cX1_has 1 = .ok (.getfield 15, 3) := by decide +kernel
theorem dX1_has_4 : decode cX1_has 4 = .ok (.iload_n 1, 1) := by decide +kernel
theorem dX1_has_5 : decode cX1_has 5 = .ok (.bipush 24, 2) := by decide +kernel
theorem dX1_has_7 : decode cX1_has 7 = .ok (.imul, 1) := by decide +kernel
theorem dX1_has_8 : decode cX1_has 8 = .ok (.iload_n 2, 1) := by decide +kernel
theorem dX1_has_9 : decode cX1_has 9 = .ok (.iadd, 1) := by decide +kernel
theorem dX1_has_10 : decode cX1_has 10 = .ok (.iaload, 1) := by decide +kernel
theorem dX1_has_11 : decode cX1_has 11 = .ok (.ifCond .eq 7, 3) := by decide +kernel
theorem dX1_has_14 : decode cX1_has 14 = .ok (.iconst 1, 1) := by decide +kernel
theorem dX1_has_15 : decode cX1_has 15 = .ok (.goto 4, 3) := by decide +kernel
theorem dX1_has_18 : decode cX1_has 18 = .ok (.iconst 0, 1) := by decide +kernel
theorem dX1_has_19 : decode cX1_has 19 = .ok (.ireturn, 1) := by decide +kernel
theorem dX1_at_0 : decode cX1_at 0 = .ok (.aload_n 0, 1) := by decide +kernel
theorem dX1_at_1 : decode cX1_at 1 = .ok (.getfield 19, 3) := by decide +kernel
theorem dX1_at_4 : decode cX1_at 4 = .ok (.iload_n 1, 1) := by decide +kernel
theorem dX1_at_5 : decode cX1_at 5 = .ok (.bipush 24, 2) := by decide +kernel
theorem dX1_at_7 : decode cX1_at 7 = .ok (.imul, 1) := by decide +kernel
theorem dX1_at_8 : decode cX1_at 8 = .ok (.iload_n 2, 1) := by decide +kernel
theorem dX1_at_9 : decode cX1_at 9 = .ok (.iadd, 1) := by decide +kernel
theorem dX1_at_10 : decode cX1_at 10 = .ok (.iaload, 1) := by decide +kernel
theorem dX1_at_11 : decode cX1_at 11 = .ok (.ireturn, 1) := by decide +kernel
theorem dX1_write_0 : decode cX1_write 0 = .ok (.aload_n 0, 1) := by decide +kernel
theorem dX1_write_1 : decode cX1_write 1 = .ok (.iload_n 1, 1) := by decide +kernel
theorem dX1_write_2 : decode cX1_write 2 = .ok (.iload_n 2, 1) := by decide +kernel
theorem dX1_write_3 : decode cX1_write 3 = .ok (.invokevirtual 22, 3) := by decide +kernel
theorem dX1_write_6 : decode cX1_write 6 = .ok (.ifCond .ne 25, 3) := by decide +kernel
theorem dX1_write_9 : decode cX1_write 9 = .ok (.aload_n 0, 1) := by decide +kernel
theorem dX1_write_10 : decode cX1_write 10 = .ok (.getfield 15, 3) := by decide +kernel
theorem dX1_write_13 : decode cX1_write 13 = .ok (.iload_n 1, 1) := by decide +kernel
theorem dX1_write_14 : decode cX1_write 14 = .ok (.bipush 24, 2) := by decide +kernel
theorem dX1_write_16 : decode cX1_write 16 = .ok (.imul, 1) := by decide +kernel
theorem dX1_write_17 : decode cX1_write 17 = .ok (.iload_n 2, 1) := by decide +kernel
theorem dX1_write_18 : decode cX1_write 18 = .ok (.iadd, 1) := by decide +kernel
theorem dX1_write_19 : decode cX1_write 19 = .ok (.iconst 1, 1) := by decide +kernel
theorem dX1_write_20 : decode cX1_write 20 = .ok (.iastore, 1) := by decide +kernel
theorem dX1_write_21 : decode cX1_write 21 = .ok (.aload_n 0, 1) := by decide +kernel
theorem dX1_write_22 : decode cX1_write 22 = .ok (.dup, 1) := by decide +kernel
theorem dX1_write_23 : decode cX1_write 23 = .ok (.getfield 9, 3) := by decide +kernel
theorem dX1_write_26 : decode cX1_write 26 = .ok (.iconst 1, 1) := by decide +kernel
theorem dX1_write_27 : decode cX1_write 27 = .ok (.iadd, 1) := by decide +kernel
theorem dX1_write_28 : decode cX1_write 28 = .ok (.putfield 9, 3) := by decide +kernel
theorem dX1_write_31 : decode cX1_write 31 = .ok (.aload_n 0, 1) := by decide +kernel
theorem dX1_write_32 : decode cX1_write 32 = .ok (.getfield 19, 3) := by decide +kernel
theorem dX1_write_35 : decode cX1_write 35 = .ok (.iload_n 1, 1) := by decide +kernel
theorem dX1_write_36 : decode cX1_write 36 = .ok (.bipush 24, 2) := by decide +kernel
theorem dX1_write_38 : decode cX1_write 38 = .ok (.imul, 1) := by decide +kernel
theorem dX1_write_39 : decode cX1_write 39 = .ok (.iload_n 2, 1) := by decide +kernel
theorem dX1_write_40 : decode cX1_write 40 = .ok (.iadd, 1) := by decide +kernel
theorem dX1_write_41 : decode cX1_write 41 = .ok (.iload_n 3, 1) := by decide +kernel
theorem dX1_write_42 : decode cX1_write 42 = .ok (.iastore, 1) := by decide +kernel
theorem dX1_write_43 : decode cX1_write 43 = .ok (.return_, 1) := by decide +kernel
theorem dX1_take_0 : decode cX1_take 0 = .ok (.aload_n 0, 1) := by decide +kernel
theorem dX1_take_1 : decode cX1_take 1 = .ok (.aload_n 1, 1) := by decide +kernel
theorem dX1_take_2 : decode cX1_take 2 = .ok (.getfield 9, 3) := by decide +kernel
theorem dX1_take_5 : decode cX1_take 5 = .ok (.putfield 9, 3) := by decide +kernel
theorem dX1_take_8 : decode cX1_take 8 = .ok (.aload_n 1, 1) := by decide +kernel
theorem dX1_take_9 : decode cX1_take 9 = .ok (.getfield 15, 3) := by decide +kernel
theorem dX1_take_12 : decode cX1_take 12 = .ok (.aload_n 0, 1) := by decide +kernel
theorem dX1_take_13 : decode cX1_take 13 = .ok (.getfield 15, 3) := by decide +kernel
theorem dX1_take_16 : decode cX1_take 16 = .ok (.invokestatic 26, 3) := by decide +kernel
theorem dX1_take_19 : decode cX1_take 19 = .ok (.aload_n 1, 1) := by decide +kernel
theorem dX1_take_20 : decode cX1_take 20 = .ok (.getfield 19, 3) := by decide +kernel
theorem dX1_take_23 : decode cX1_take 23 = .ok (.aload_n 0, 1) := by decide +kernel
theorem dX1_take_24 : decode cX1_take 24 = .ok (.getfield 19, 3) := by decide +kernel
theorem dX1_take_27 : decode cX1_take 27 = .ok (.invokestatic 26, 3) := by decide +kernel
theorem dX1_take_30 : decode cX1_take 30 = .ok (.return_, 1) := by decide +kernel
theorem dX2_init_0 : decode cX2_init 0 = .ok (.aload_n 0, 1) := by decide +kernel
theorem dX2_init_1 : decode cX2_init 1 = .ok (.invokespecial 3, 3) := by decide +kernel
theorem dX2_init_4 : decode cX2_init 4 = .ok (.aload_n 0, 1) := by decide +kernel
theorem dX2_init_5 : decode cX2_init 5 = .ok (.iconst 0, 1) := by decide +kernel
theorem dX2_init_6 : decode cX2_init 6 = .ok (.putfield 9, 3) := by decide +kernel
theorem dX2_init_9 : decode cX2_init 9 = .ok (.aload_n 0, 1) := by decide +kernel
theorem dX2_init_10 : decode cX2_init 10 = .ok (.iconst 0, 1) := by decide +kernel
theorem dX2_init_11 : decode cX2_init 11 = .ok (.putfield 15, 3) := by decide +kernel
theorem dX2_init_14 : decode cX2_init 14 = .ok (.aload_n 0, 1) := by decide +kernel
theorem dX2_init_15 : decode cX2_init 15 = .ok (.bipush 24, 2) := by decide +kernel
theorem dX2_init_17 : decode cX2_init 17 = .ok (.newarray .int, 2) := by decide +kernel
theorem dX2_init_19 : decode cX2_init 19 = .ok (.putfield 18, 3) := by decide +kernel
theorem dX2_init_22 : decode cX2_init 22 = .ok (.return_, 1) := by decide +kernel
theorem dX2_isMissing_0 : decode cX2_isMissing 0 = .ok (.aload_n 0, 1) := by decide +kernel
theorem dX2_isMissing_1 : decode cX2_isMissing 1 = .ok (.getfield 9, 3) := by decide +kernel
theorem dX2_isMissing_4 : decode cX2_isMissing 4 = .ok (.ifCond .ne 7, 3) := by decide +kernel
theorem dX2_isMissing_7 : decode cX2_isMissing 7 = .ok (.iconst 1, 1) := by decide +kernel
theorem dX2_isMissing_8 : decode cX2_isMissing 8 = .ok (.goto 4, 3) := by decide +kernel
theorem dX2_isMissing_11 : decode cX2_isMissing 11 = .ok (.iconst 0, 1) := by decide +kernel
theorem dX2_isMissing_12 : decode cX2_isMissing 12 = .ok (.ireturn, 1) := by decide +kernel
theorem dX2_start_0 : decode cX2_start 0 = .ok (.aload_n 0, 1) := by decide +kernel
theorem dX2_start_1 : decode cX2_start 1 = .ok (.iload_n 1, 1) := by decide +kernel
theorem dX2_start_2 : decode cX2_start 2 = .ok (.putfield 9, 3) := by decide +kernel
theorem dX2_start_5 : decode cX2_start 5 = .ok (.aload_n 0, 1) := by decide +kernel
theorem dX2_start_6 : decode cX2_start 6 = .ok (.iload_n 1, 1) := by decide +kernel
theorem dX2_start_7 : decode cX2_start 7 = .ok (.ifCond .ne 7, 3) := by decide +kernel
theorem dX2_start_10 : decode cX2_start 10 = .ok (.iconst 0, 1) := by decide +kernel
theorem dX2_start_11 : decode cX2_start 11 = .ok (.goto 4, 3) := by decide +kernel
theorem dX2_start_14 : decode cX2_start 14 = .ok (.iload_n 2, 1) := by decide +kernel
theorem dX2_start_15 : decode cX2_start 15 = .ok (.putfield 15, 3) := by decide +kernel
theorem dX2_start_18 : decode cX2_start 18 = .ok (.aload_n 0, 1) := by decide +kernel
theorem dX2_start_19 : decode cX2_start 19 = .ok (.getfield 18, 3) := by decide +kernel
theorem dX2_start_22 : decode cX2_start 22 = .ok (.invokestatic 22, 3) := by decide +kernel
theorem dX2_start_25 : decode cX2_start 25 = .ok (.pop, 1) := by decide +kernel
theorem dX2_start_26 : decode cX2_start 26 = .ok (.aload_n 0, 1) := by decide +kernel
theorem dX2_start_27 : decode cX2_start 27 = .ok (.getfield 15, 3) := by decide +kernel
theorem dX2_start_30 : decode cX2_start 30 = .ok (.ireturn, 1) := by decide +kernel
theorem dX2_write_0 : decode cX2_write 0 = .ok (.aload_n 0, 1) := by decide +kernel
theorem dX2_write_1 : decode cX2_write 1 = .ok (.getfield 18, 3) := by decide +kernel
theorem dX2_write_4 : decode cX2_write 4 = .ok (.iload_n 1, 1) := by decide +kernel
theorem dX2_write_5 : decode cX2_write 5 = .ok (.aload_n 0, 1) := by decide +kernel
theorem dX2_write_6 : decode cX2_write 6 = .ok (.getfield 9, 3) := by decide +kernel
theorem dX2_write_9 : decode cX2_write 9 = .ok (.iconst 2, 1) := by decide +kernel
theorem dX2_write_10 : decode cX2_write 10 = .ok (.if_icmp .ne 15, 3) := by decide +kernel
theorem dX2_write_13 : decode cX2_write 13 = .ok (.iload_n 2, 1) := by decide +kernel
theorem dX2_write_14 : decode cX2_write 14 = .ok (.invokestatic 26, 3) := by decide +kernel
theorem dX2_write_17 : decode cX2_write 17 = .ok (.ifCond .eq 8, 3) := by decide +kernel
theorem dX2_write_20 : decode cX2_write 20 = .ok (.ldc 30, 2) := by decide +kernel
theorem dX2_write_22 : decode cX2_write 22 = .ok (.goto 4, 3) := by decide +kernel
theorem dX2_write_25 : decode cX2_write 25 = .ok (.iload_n 2, 1) := by decide +kernel
theorem dX2_write_26 : decode cX2_write 26 = .ok (.iastore, 1) := by decide +kernel
theorem dX2_write_27 : decode cX2_write 27 = .ok (.return_, 1) := by decide +kernel
theorem dX2_hasPart_0 : decode cX2_hasPart 0 = .ok (.iload_n 1, 1) := by decide +kernel
theorem dX2_hasPart_1 : decode cX2_hasPart 1 = .ok (.ifCond .lt 29, 3) := by decide +kernel
theorem dX2_hasPart_4 : decode cX2_hasPart 4 = .ok (.iload_n 2, 1) := by decide +kernel
theorem dX2_hasPart_5 : decode cX2_hasPart 5 = .ok (.ifCond .lt 25, 3) := by decide +kernel
theorem dX2_hasPart_8 : decode cX2_hasPart 8 = .ok (.iload_n 1, 1) := by decide +kernel
theorem dX2_hasPart_9 : decode cX2_hasPart 9 = .ok (.aload_n 0, 1) := by decide +kernel
theorem dX2_hasPart_10 : decode cX2_hasPart 10 = .ok (.getfield 15, 3) := by decide +kernel
theorem dX2_hasPart_13 : decode cX2_hasPart 13 = .ok (.if_icmp .gt 17, 3) := by decide +kernel
theorem dX2_hasPart_16 : decode cX2_hasPart 16 = .ok (.iload_n 2, 1) := by decide +kernel
theorem dX2_hasPart_17 : decode cX2_hasPart 17 = .ok (.aload_n 0, 1) := by decide +kernel
theorem dX2_hasPart_18 : decode cX2_hasPart 18 = .ok (.getfield 15, 3) := by decide +kernel
theorem dX2_hasPart_21 : decode cX2_hasPart 21 = .ok (.iload_n 1, 1) := by decide +kernel
theorem dX2_hasPart_22 : decode cX2_hasPart 22 = .ok (.isub, 1) := by decide +kernel
theorem dX2_hasPart_23 : decode cX2_hasPart 23 = .ok (.if_icmp .gt 7, 3) := by decide +kernel
theorem dX2_hasPart_26 : decode cX2_hasPart 26 = .ok (.iconst 1, 1) := by decide +kernel
theorem dX2_hasPart_27 : decode cX2_hasPart 27 = .ok (.goto 4, 3) := by decide +kernel
theorem dX2_hasPart_30 : decode cX2_hasPart 30 = .ok (.iconst 0, 1) := by decide +kernel
theorem dX2_hasPart_31 : decode cX2_hasPart 31 = .ok (.ireturn, 1) := by decide +kernel
theorem dX2_startsWithNumbers_0 : decode cX2_startsWithNumbers 0 = .ok (.iconst 0, 1) := by decide +kernel
theorem dX2_startsWithNumbers_1 : decode cX2_startsWithNumbers 1 = .ok (.istore_n 2, 1) := by decide +kernel
theorem dX2_startsWithNumbers_2 : decode cX2_startsWithNumbers 2 = .ok (.iload_n 2, 1) := by decide +kernel
theorem dX2_startsWithNumbers_3 : decode cX2_startsWithNumbers 3 = .ok (.iload_n 1, 1) := by decide +kernel
theorem dX2_startsWithNumbers_4 : decode cX2_startsWithNumbers 4 = .ok (.if_icmp .ge 31, 3) := by decide +kernel
theorem dX2_startsWithNumbers_7 : decode cX2_startsWithNumbers 7 = .ok (.aload_n 0, 1) := by decide +kernel
theorem dX2_startsWithNumbers_8 : decode cX2_startsWithNumbers 8 = .ok (.getfield 9, 3) := by decide +kernel
theorem dX2_startsWithNumbers_11 : decode cX2_startsWithNumbers 11 = .ok (.iconst 2, 1) := by decide +kernel
theorem dX2_startsWithNumbers_12 : decode cX2_startsWithNumbers 12 = .ok (.if_icmp .ne 17, 3) := by decide +kernel
theorem dX2_startsWithNumbers_15 : decode cX2_startsWithNumbers 15 = .ok (.aload_n 0, 1) := by decide +kernel
theorem dX2_startsWithNumbers_16 : decode cX2_startsWithNumbers 16 = .ok (.getfield 18, 3) := by decide +kernel
theorem dX2_startsWithNumbers_19 : decode cX2_startsWithNumbers 19 = .ok (.iload_n 2, 1) := by decide +kernel
theorem dX2_startsWithNumbers_20 : decode cX2_startsWithNumbers 20 = .ok (.iaload, 1) := by decide +kernel
theorem dX2_startsWithNumbers_21 : decode cX2_startsWithNumbers 21 = .ok (.invokestatic 26, 3) := by decide +kernel
theorem dX2_startsWithNumbers_24 : decode cX2_startsWithNumbers 24 = .ok (.ifCond .eq 5, 3) := by decide +kernel
theorem dX2_startsWithNumbers_27 : decode cX2_startsWithNumbers 27 = .ok (.iconst 0, 1) := by decide +kernel
theorem dX2_startsWithNumbers_28 : decode cX2_startsWithNumbers 28 = .ok (.ireturn, 1) := by decide +kernel
theorem dX2_startsWithNumbers_29 : decode cX2_startsWithNumbers 29 = .ok (.iinc 2 1, 3) := by decide +kernel
theorem dX2_startsWithNumbers_32 : decode cX2_startsWithNumbers 32 = .ok (.goto (-30), 3) := by decide +kernel
theorem dX2_startsWithNumbers_35 : decode cX2_startsWithNumbers 35 = .ok (.iconst 1, 1) := by decide +kernel
theorem dX2_startsWithNumbers_36 : decode cX2_startsWithNumbers 36 = .ok (.ireturn, 1) := by decide +kernel
theorem dX2_startsWithAmounts_0 : decode cX2_startsWithAmounts 0 = .ok (.iconst 0, 1) := by decide +kernel
theorem dX2_startsWithAmounts_1 : decode cX2_startsWithAmounts 1 = .ok (.istore_n 2, 1) := by decide +kernel
theorem dX2_startsWithAmounts_2 : decode cX2_startsWithAmounts 2 = .ok (.iload_n 2, 1) := by decide +kernel
theorem dX2_startsWithAmounts_3 : decode cX2_startsWithAmounts 3 = .ok (.iload_n 1, 1) := by decide +kernel
theorem dX2_startsWithAmounts_4 : decode cX2_startsWithAmounts 4 = .ok (.if_icmp .ge 22, 3) := by decide +kernel
theorem dX2_startsWithAmounts_7 : decode cX2_startsWithAmounts 7 = .ok (.aload_n 0, 1) := by decide +kernel
theorem dX2_startsWithAmounts_8 : decode cX2_startsWithAmounts 8 = .ok (.iload_n 2, 1) := by decide +kernel
theorem dX2_startsWithAmounts_9 : decode cX2_startsWithAmounts 9 = .ok (.invokevirtual 31, 3) := by decide +kernel
theorem dX2_startsWithAmounts_12 : decode cX2_startsWithAmounts 12 = .ok (.invokestatic 35, 3) := by decide +kernel
theorem dX2_startsWithAmounts_15 : decode cX2_startsWithAmounts 15 = .ok (.ifCond .ne 5, 3) := by decide +kernel
theorem dX2_startsWithAmounts_18 : decode cX2_startsWithAmounts 18 = .ok (.iconst 0, 1) := by decide +kernel
theorem dX2_startsWithAmounts_19 : decode cX2_startsWithAmounts 19 = .ok (.ireturn, 1) := by decide +kernel
theorem dX2_startsWithAmounts_20 : decode cX2_startsWithAmounts 20 = .ok (.iinc 2 1, 3) := by decide +kernel
theorem dX2_startsWithAmounts_23 : decode cX2_startsWithAmounts 23 = .ok (.goto (-21), 3) := by decide +kernel
theorem dX2_startsWithAmounts_26 : decode cX2_startsWithAmounts 26 = .ok (.iconst 1, 1) := by decide +kernel
theorem dX2_startsWithAmounts_27 : decode cX2_startsWithAmounts 27 = .ok (.ireturn, 1) := by decide +kernel
theorem dX2_whole_0 : decode cX2_whole 0 = .ok (.aload_n 0, 1) := by decide +kernel
theorem dX2_whole_1 : decode cX2_whole 1 = .ok (.getfield 9, 3) := by decide +kernel
theorem dX2_whole_4 : decode cX2_whole 4 = .ok (.iconst 2, 1) := by decide +kernel
theorem dX2_whole_5 : decode cX2_whole 5 = .ok (.if_icmp .ne 15, 3) := by decide +kernel
theorem dX2_whole_8 : decode cX2_whole 8 = .ok (.aload_n 0, 1) := by decide +kernel
theorem dX2_whole_9 : decode cX2_whole 9 = .ok (.getfield 18, 3) := by decide +kernel
theorem dX2_whole_12 : decode cX2_whole 12 = .ok (.iload_n 1, 1) := by decide +kernel
theorem dX2_whole_13 : decode cX2_whole 13 = .ok (.iaload, 1) := by decide +kernel
theorem dX2_whole_14 : decode cX2_whole 14 = .ok (.invokestatic 38, 3) := by decide +kernel
theorem dX2_whole_17 : decode cX2_whole 17 = .ok (.goto 9, 3) := by decide +kernel
theorem dX2_whole_20 : decode cX2_whole 20 = .ok (.aload_n 0, 1) := by decide +kernel
theorem dX2_whole_21 : decode cX2_whole 21 = .ok (.getfield 18, 3) := by decide +kernel
theorem dX2_whole_24 : decode cX2_whole 24 = .ok (.iload_n 1, 1) := by decide +kernel
theorem dX2_whole_25 : decode cX2_whole 25 = .ok (.iaload, 1) := by decide +kernel
theorem dX2_whole_26 : decode cX2_whole 26 = .ok (.ireturn, 1) := by decide +kernel
theorem dX2_isNoNumber_0 : decode cX2_isNoNumber 0 = .ok (.iload_n 0, 1) := by decide +kernel
theorem dX2_isNoNumber_1 : decode cX2_isNoNumber 1 = .ok (.ldc 41, 2) := by decide +kernel
theorem dX2_isNoNumber_3 : decode cX2_isNoNumber 3 = .ok (.iand, 1) := by decide +kernel
theorem dX2_isNoNumber_4 : decode cX2_isNoNumber 4 = .ok (.ldc 42, 2) := by decide +kernel
theorem dX2_isNoNumber_6 : decode cX2_isNoNumber 6 = .ok (.if_icmp .le 7, 3) := by decide +kernel
theorem dX2_isNoNumber_9 : decode cX2_isNoNumber 9 = .ok (.iconst 1, 1) := by decide +kernel
theorem dX2_isNoNumber_10 : decode cX2_isNoNumber 10 = .ok (.goto 4, 3) := by decide +kernel
theorem dX2_isNoNumber_13 : decode cX2_isNoNumber 13 = .ok (.iconst 0, 1) := by decide +kernel
theorem dX2_isNoNumber_14 : decode cX2_isNoNumber 14 = .ok (.ireturn, 1) := by decide +kernel
theorem dX2_cut_0 : decode cX2_cut 0 = .ok (.iload_n 0, 1) := by decide +kernel
theorem dX2_cut_1 : decode cX2_cut 1 = .ok (.bipush 23, 2) := by decide +kernel
theorem dX2_cut_3 : decode cX2_cut 3 = .ok (.iushr, 1) := by decide +kernel
theorem dX2_cut_4 : decode cX2_cut 4 = .ok (.sipush 255, 3) := by decide +kernel
theorem dX2_cut_7 : decode cX2_cut 7 = .ok (.iand, 1) := by decide +kernel
theorem dX2_cut_8 : decode cX2_cut 8 = .ok (.bipush 127, 2) := by decide +kernel
theorem dX2_cut_10 : decode cX2_cut 10 = .ok (.isub, 1) := by decide +kernel
theorem dX2_cut_11 : decode cX2_cut 11 = .ok (.istore_n 1, 1) := by decide +kernel
theorem dX2_cut_12 : decode cX2_cut 12 = .ok (.iload_n 1, 1) := by decide +kernel
theorem dX2_cut_13 : decode cX2_cut 13 = .ok (.ifCond .ge 5, 3) := by decide +kernel
theorem dX2_cut_16 : decode cX2_cut 16 = .ok (.iconst 0, 1) := by decide +kernel
theorem dX2_cut_17 : decode cX2_cut 17 = .ok (.ireturn, 1) := by decide +kernel
theorem dX2_cut_18 : decode cX2_cut 18 = .ok (.iload_n 1, 1) := by decide +kernel
theorem dX2_cut_19 : decode cX2_cut 19 = .ok (.bipush 22, 2) := by decide +kernel
theorem dX2_cut_21 : decode cX2_cut 21 = .ok (.if_icmp .le 6, 3) := by decide +kernel
theorem dX2_cut_24 : decode cX2_cut 24 = .ok (.ldc 43, 2) := by decide +kernel
theorem dX2_cut_26 : decode cX2_cut 26 = .ok (.ireturn, 1) := by decide +kernel
theorem dX2_cut_27 : decode cX2_cut 27 = .ok (.iload_n 0, 1) := by decide +kernel
theorem dX2_cut_28 : decode cX2_cut 28 = .ok (.ldc 44, 2) := by decide +kernel
theorem dX2_cut_30 : decode cX2_cut 30 = .ok (.iand, 1) := by decide +kernel
theorem dX2_cut_31 : decode cX2_cut 31 = .ok (.ldc 43, 2) := by decide +kernel
theorem dX2_cut_33 : decode cX2_cut 33 = .ok (.ior, 1) := by decide +kernel
theorem dX2_cut_34 : decode cX2_cut 34 = .ok (.bipush 23, 2) := by decide +kernel
theorem dX2_cut_36 : decode cX2_cut 36 = .ok (.iload_n 1, 1) := by decide +kernel
theorem dX2_cut_37 : decode cX2_cut 37 = .ok (.isub, 1) := by decide +kernel
theorem dX2_cut_38 : decode cX2_cut 38 = .ok (.ishr, 1) := by decide +kernel
theorem dX2_cut_39 : decode cX2_cut 39 = .ok (.istore_n 2, 1) := by decide +kernel
theorem dX2_cut_40 : decode cX2_cut 40 = .ok (.iload_n 0, 1) := by decide +kernel
theorem dX2_cut_41 : decode cX2_cut 41 = .ok (.ifCond .ge 8, 3) := by decide +kernel
theorem dX2_cut_44 : decode cX2_cut 44 = .ok (.iload_n 2, 1) := by decide +kernel
theorem dX2_cut_45 : decode cX2_cut 45 = .ok (.ineg, 1) := by decide +kernel
theorem dX2_cut_46 : decode cX2_cut 46 = .ok (.goto 4, 3) := by decide +kernel
theorem dX2_cut_49 : decode cX2_cut 49 = .ok (.iload_n 2, 1) := by decide +kernel
theorem dX2_cut_50 : decode cX2_cut 50 = .ok (.ireturn, 1) := by decide +kernel
theorem dX3_init_0 : decode cX3_init 0 = .ok (.aload_n 0, 1) := by decide +kernel
theorem dX3_init_1 : decode cX3_init 1 = .ok (.invokespecial 3, 3) := by decide +kernel
theorem dX3_init_4 : decode cX3_init 4 = .ok (.aload_n 0, 1) := by decide +kernel
theorem dX3_init_5 : decode cX3_init 5 = .ok (.sipush 240, 3) := by decide +kernel
theorem dX3_init_8 : decode cX3_init 8 = .ok (.newarray .int, 2) := by decide +kernel
theorem dX3_init_10 : decode cX3_init 10 = .ok (.putfield 9, 3) := by decide +kernel
theorem dX3_init_13 : decode cX3_init 13 = .ok (.aload_n 0, 1) := by decide +kernel
theorem dX3_init_14 : decode cX3_init 14 = .ok (.bipush 12, 2) := by decide +kernel
theorem dX3_init_16 : decode cX3_init 16 = .ok (.newarray .int, 2) := by decide +kernel
theorem dX3_init_18 : decode cX3_init 18 = .ok (.putfield 15, 3) := by decide +kernel
theorem dX3_init_21 : decode cX3_init 21 = .ok (.aload_n 0, 1) := by decide +kernel
theorem dX3_init_22 : decode cX3_init 22 = .ok (.bipush 10, 2) := by decide +kernel
theorem dX3_init_24 : decode cX3_init 24 = .ok (.newarray .int, 2) := by decide +kernel
theorem dX3_init_26 : decode cX3_init 26 = .ok (.putfield 18, 3) := by decide +kernel
theorem dX3_init_29 : decode cX3_init 29 = .ok (.iconst 0, 1) := by decide +kernel
theorem dX3_init_30 : decode cX3_init 30 = .ok (.istore_n 1, 1) := by decide +kernel
theorem dX3_init_31 : decode cX3_init 31 = .ok (.iload_n 1, 1) := by decide +kernel
theorem dX3_init_32 : decode cX3_init 32 = .ok (.bipush 10, 2) := by decide +kernel
theorem dX3_init_34 : decode cX3_init 34 = .ok (.if_icmp .ge 41, 3) := by decide +kernel
theorem dX3_init_37 : decode cX3_init 37 = .ok (.bipush 100, 2) := by decide +kernel
theorem dX3_init_39 : decode cX3_init 39 = .ok (.bipush 10, 2) := by decide +kernel
theorem dX3_init_41 : decode cX3_init 41 = .ok (.iload_n 1, 1) := by decide +kernel
theorem dX3_init_42 : decode cX3_init 42 = .ok (.imul, 1) := by decide +kernel
theorem dX3_init_43 : decode cX3_init 43 = .ok (.isub, 1) := by decide +kernel
theorem dX3_init_44 : decode cX3_init 44 = .ok (.istore_n 2, 1) := by decide +kernel
theorem dX3_init_45 : decode cX3_init 45 = .ok (.aload_n 0, 1) := by decide +kernel
theorem dX3_init_46 : decode cX3_init 46 = .ok (.getfield 9, 3) := by decide +kernel
theorem dX3_init_49 : decode cX3_init 49 = .ok (.iconst 0, 1) := by decide +kernel
theorem dX3_init_50 : decode cX3_init 50 = .ok (.iload_n 1, 1) := by decide +kernel
theorem dX3_init_51 : decode cX3_init 51 = .ok (.invokestatic 21, 3) := by decide +kernel
theorem dX3_init_54 : decode cX3_init 54 = .ok (.iload_n 2, 1) := by decide +kernel
theorem dX3_init_55 : decode cX3_init 55 = .ok (.iastore, 1) := by decide +kernel
theorem dX3_init_56 : decode cX3_init 56 = .ok (.aload_n 0, 1) := by decide +kernel
theorem dX3_init_57 : decode cX3_init 57 = .ok (.getfield 9, 3) := by decide +kernel
theorem dX3_init_60 : decode cX3_init 60 = .ok (.iconst 1, 1) := by decide +kernel
theorem dX3_init_61 : decode cX3_init 61 = .ok (.iload_n 1, 1) := by decide +kernel
theorem dX3_init_62 : decode cX3_init 62 = .ok (.invokestatic 21, 3) := by decide +kernel
theorem dX3_init_65 : decode cX3_init 65 = .ok (.iload_n 2, 1) := by decide +kernel
theorem dX3_init_66 : decode cX3_init 66 = .ok (.iconst 2, 1) := by decide +kernel
theorem dX3_init_67 : decode cX3_init 67 = .ok (.idiv, 1) := by decide +kernel
theorem dX3_init_68 : decode cX3_init 68 = .ok (.iastore, 1) := by decide +kernel
theorem dX3_init_69 : decode cX3_init 69 = .ok (.iinc 1 1, 3) := by decide +kernel
theorem dX3_init_72 : decode cX3_init 72 = .ok (.goto (-41), 3) := by decide +kernel
theorem dX3_init_75 : decode cX3_init 75 = .ok (.aload_n 0, 1) := by decide +kernel
theorem dX3_init_76 : decode cX3_init 76 = .ok (.getfield 15, 3) := by decide +kernel
theorem dX3_init_79 : decode cX3_init 79 = .ok (.iconst 0, 1) := by decide +kernel
theorem dX3_init_80 : decode cX3_init 80 = .ok (.bipush 10, 2) := by decide +kernel
theorem dX3_init_82 : decode cX3_init 82 = .ok (.iastore, 1) := by decide +kernel
theorem dX3_init_83 : decode cX3_init 83 = .ok (.return_, 1) := by decide +kernel
theorem dX3_row_0 : decode cX3_row 0 = .ok (.iload_n 0, 1) := by decide +kernel
theorem dX3_row_1 : decode cX3_row 1 = .ok (.bipush 10, 2) := by decide +kernel
theorem dX3_row_3 : decode cX3_row 3 = .ok (.imul, 1) := by decide +kernel
theorem dX3_row_4 : decode cX3_row 4 = .ok (.iload_n 1, 1) := by decide +kernel
theorem dX3_row_5 : decode cX3_row 5 = .ok (.iadd, 1) := by decide +kernel
theorem dX3_row_6 : decode cX3_row 6 = .ok (.bipush 12, 2) := by decide +kernel
theorem dX3_row_8 : decode cX3_row 8 = .ok (.imul, 1) := by decide +kernel
theorem dX3_row_9 : decode cX3_row 9 = .ok (.ireturn, 1) := by decide +kernel
theorem dX3_keepsOrder_0 : decode cX3_keepsOrder 0 = .ok (.iload_n 2, 1) := by decide +kernel
theorem dX3_keepsOrder_1 : decode cX3_keepsOrder 1 = .ok (.ifCond .le 24, 3) := by decide +kernel
theorem dX3_keepsOrder_4 : decode cX3_keepsOrder 4 = .ok (.iload 4, 2) := by decide +kernel
theorem dX3_keepsOrder_6 : decode cX3_keepsOrder 6 = .ok (.aload_n 0, 1) := by decide +kernel
theorem dX3_keepsOrder_7 : decode cX3_keepsOrder 7 = .ok (.getfield 9, 3) := by decide +kernel
theorem dX3_keepsOrder_10 : decode cX3_keepsOrder 10 = .ok (.iload_n 1, 1) := by decide +kernel
theorem dX3_keepsOrder_11 : decode cX3_keepsOrder 11 = .ok (.iload_n 2, 1) := by decide +kernel
theorem dX3_keepsOrder_12 : decode cX3_keepsOrder 12 = .ok (.iconst 1, 1) := by decide +kernel
theorem dX3_keepsOrder_13 : decode cX3_keepsOrder 13 = .ok (.isub, 1) := by decide +kernel
theorem dX3_keepsOrder_14 : decode cX3_keepsOrder 14 = .ok (.invokestatic 21, 3) := by decide +kernel
theorem dX3_keepsOrder_17 : decode cX3_keepsOrder 17 = .ok (.iload_n 3, 1) := by decide +kernel
theorem dX3_keepsOrder_18 : decode cX3_keepsOrder 18 = .ok (.iadd, 1) := by decide +kernel
theorem dX3_keepsOrder_19 : decode cX3_keepsOrder 19 = .ok (.iaload, 1) := by decide +kernel
theorem dX3_keepsOrder_20 : decode cX3_keepsOrder 20 = .ok (.if_icmp .le 5, 3) := by decide +kernel
theorem dX3_keepsOrder_23 : decode cX3_keepsOrder 23 = .ok (.iconst 0, 1) := by decide +kernel
theorem dX3_keepsOrder_24 : decode cX3_keepsOrder 24 = .ok (.ireturn, 1) := by decide +kernel
theorem dX3_keepsOrder_25 : decode cX3_keepsOrder 25 = .ok (.iload_n 2, 1) := by decide +kernel
theorem dX3_keepsOrder_26 : decode cX3_keepsOrder 26 = .ok (.bipush 9, 2) := by decide +kernel
theorem dX3_keepsOrder_28 : decode cX3_keepsOrder 28 = .ok (.if_icmp .eq 22, 3) := by decide +kernel
theorem dX3_keepsOrder_31 : decode cX3_keepsOrder 31 = .ok (.iload 4, 2) := by decide +kernel
theorem dX3_keepsOrder_33 : decode cX3_keepsOrder 33 = .ok (.aload_n 0, 1) := by decide +kernel
theorem dX3_keepsOrder_34 : decode cX3_keepsOrder 34 = .ok (.getfield 9, 3) := by decide +kernel
theorem dX3_keepsOrder_37 : decode cX3_keepsOrder 37 = .ok (.iload_n 1, 1) := by decide +kernel
theorem dX3_keepsOrder_38 : decode cX3_keepsOrder 38 = .ok (.iload_n 2, 1) := by decide +kernel
theorem dX3_keepsOrder_39 : decode cX3_keepsOrder 39 = .ok (.iconst 1, 1) := by decide +kernel
theorem dX3_keepsOrder_40 : decode cX3_keepsOrder 40 = .ok (.iadd, 1) := by decide +kernel
theorem dX3_keepsOrder_41 : decode cX3_keepsOrder 41 = .ok (.invokestatic 21, 3) := by decide +kernel
theorem dX3_keepsOrder_44 : decode cX3_keepsOrder 44 = .ok (.iload_n 3, 1) := by decide +kernel
theorem dX3_keepsOrder_45 : decode cX3_keepsOrder 45 = .ok (.iadd, 1) := by decide +kernel
theorem dX3_keepsOrder_46 : decode cX3_keepsOrder 46 = .ok (.iaload, 1) := by decide +kernel
theorem dX3_keepsOrder_47 : decode cX3_keepsOrder 47 = .ok (.if_icmp .lt 7, 3) := by decide +kernel
theorem dX3_keepsOrder_50 : decode cX3_keepsOrder 50 = .ok (.iconst 1, 1) := by decide +kernel
theorem dX3_keepsOrder_51 : decode cX3_keepsOrder 51 = .ok (.goto 4, 3) := by decide +kernel
theorem dX3_keepsOrder_54 : decode cX3_keepsOrder 54 = .ok (.iconst 0, 1) := by decide +kernel
theorem dX3_keepsOrder_55 : decode cX3_keepsOrder 55 = .ok (.ireturn, 1) := by decide +kernel
theorem dX3_startTrial_0 : decode cX3_startTrial 0 = .ok (.iconst 0, 1) := by decide +kernel
theorem dX3_startTrial_1 : decode cX3_startTrial 1 = .ok (.istore_n 3, 1) := by decide +kernel
theorem dX3_startTrial_2 : decode cX3_startTrial 2 = .ok (.iload_n 3, 1) := by decide +kernel
theorem dX3_startTrial_3 : decode cX3_startTrial 3 = .ok (.bipush 10, 2) := by decide +kernel
theorem dX3_startTrial_5 : decode cX3_startTrial 5 = .ok (.if_icmp .ge 27, 3) := by decide +kernel
theorem dX3_startTrial_8 : decode cX3_startTrial 8 = .ok (.aload_n 0, 1) := by decide +kernel
theorem dX3_startTrial_9 : decode cX3_startTrial 9 = .ok (.getfield 18, 3) := by decide +kernel
theorem dX3_startTrial_12 : decode cX3_startTrial 12 = .ok (.iload_n 3, 1) := by decide +kernel
theorem dX3_startTrial_13 : decode cX3_startTrial 13 = .ok (.aload_n 0, 1) := by decide +kernel
theorem dX3_startTrial_14 : decode cX3_startTrial 14 = .ok (.getfield 9, 3) := by decide +kernel
theorem dX3_startTrial_17 : decode cX3_startTrial 17 = .ok (.iload_n 1, 1) := by decide +kernel
theorem dX3_startTrial_18 : decode cX3_startTrial 18 = .ok (.iload_n 3, 1) := by decide +kernel
theorem dX3_startTrial_19 : decode cX3_startTrial 19 = .ok (.invokestatic 21, 3) := by decide +kernel
theorem dX3_startTrial_22 : decode cX3_startTrial 22 = .ok (.iload_n 2, 1) := by decide +kernel
theorem dX3_startTrial_23 : decode cX3_startTrial 23 = .ok (.iadd, 1) := by decide +kernel
theorem dX3_startTrial_24 : decode cX3_startTrial 24 = .ok (.iaload, 1) := by decide +kernel
theorem dX3_startTrial_25 : decode cX3_startTrial 25 = .ok (.iastore, 1) := by decide +kernel
theorem dX3_startTrial_26 : decode cX3_startTrial 26 = .ok (.iinc 3 1, 3) := by decide +kernel
theorem dX3_startTrial_29 : decode cX3_startTrial 29 = .ok (.goto (-27), 3) := by decide +kernel
theorem dX3_startTrial_32 : decode cX3_startTrial 32 = .ok (.return_, 1) := by decide +kernel
theorem dX3_tryFactor_0 : decode cX3_tryFactor 0 = .ok (.iconst 0, 1) := by decide +kernel
theorem dX3_tryFactor_1 : decode cX3_tryFactor 1 = .ok (.istore 4, 2) := by decide +kernel
theorem dX3_tryFactor_3 : decode cX3_tryFactor 3 = .ok (.iload 4, 2) := by decide +kernel
theorem dX3_tryFactor_5 : decode cX3_tryFactor 5 = .ok (.bipush 10, 2) := by decide +kernel
theorem dX3_tryFactor_7 : decode cX3_tryFactor 7 = .ok (.if_icmp .ge 40, 3) := by decide +kernel
theorem dX3_tryFactor_10 : decode cX3_tryFactor 10 = .ok (.aload_n 0, 1) := by decide +kernel
theorem dX3_tryFactor_11 : decode cX3_tryFactor 11 = .ok (.getfield 9, 3) := by decide +kernel
theorem dX3_tryFactor_14 : decode cX3_tryFactor 14 = .ok (.iload_n 1, 1) := by decide +kernel
theorem dX3_tryFactor_15 : decode cX3_tryFactor 15 = .ok (.iload 4, 2) := by decide +kernel
theorem dX3_tryFactor_17 : decode cX3_tryFactor 17 = .ok (.invokestatic 21, 3) := by decide +kernel
theorem dX3_tryFactor_20 : decode cX3_tryFactor 20 = .ok (.iload_n 2, 1) := by decide +kernel
theorem dX3_tryFactor_21 : decode cX3_tryFactor 21 = .ok (.iadd, 1) := by decide +kernel
theorem dX3_tryFactor_22 : decode cX3_tryFactor 22 = .ok (.aload_n 0, 1) := by decide +kernel
theorem dX3_tryFactor_23 : decode cX3_tryFactor 23 = .ok (.getfield 18, 3) := by decide +kernel
theorem dX3_tryFactor_26 : decode cX3_tryFactor 26 = .ok (.iload 4, 2) := by decide +kernel
theorem dX3_tryFactor_28 : decode cX3_tryFactor 28 = .ok (.iaload, 1) := by decide +kernel
theorem dX3_tryFactor_29 : decode cX3_tryFactor 29 = .ok (.iload_n 3, 1) := by decide +kernel
theorem dX3_tryFactor_30 : decode cX3_tryFactor 30 = .ok (.imul, 1) := by decide +kernel
theorem dX3_tryFactor_31 : decode cX3_tryFactor 31 = .ok (.bipush 100, 2) := by decide +kernel
theorem dX3_tryFactor_33 : decode cX3_tryFactor 33 = .ok (.idiv, 1) := by decide +kernel
theorem dX3_tryFactor_34 : decode cX3_tryFactor 34 = .ok (.sipush 1000, 3) := by decide +kernel
theorem dX3_tryFactor_37 : decode cX3_tryFactor 37 = .ok (.invokestatic 25, 3) := by decide +kernel
theorem dX3_tryFactor_40 : decode cX3_tryFactor 40 = .ok (.iastore, 1) := by decide +kernel
theorem dX3_tryFactor_41 : decode cX3_tryFactor 41 = .ok (.iinc 4 1, 3) := by decide +kernel
theorem dX3_tryFactor_44 : decode cX3_tryFactor 44 = .ok (.goto (-41), 3) := by decide +kernel
theorem dX3_tryFactor_47 : decode cX3_tryFactor 47 = .ok (.return_, 1) := by decide +kernel
theorem dX3_take_0 : decode cX3_take 0 = .ok (.aload_n 1, 1) := by decide +kernel
theorem dX3_take_1 : decode cX3_take 1 = .ok (.getfield 9, 3) := by decide +kernel
theorem dX3_take_4 : decode cX3_take 4 = .ok (.aload_n 0, 1) := by decide +kernel
theorem dX3_take_5 : decode cX3_take 5 = .ok (.getfield 9, 3) := by decide +kernel
theorem dX3_take_8 : decode cX3_take 8 = .ok (.invokestatic 30, 3) := by decide +kernel
theorem dX3_take_11 : decode cX3_take 11 = .ok (.aload_n 1, 1) := by decide +kernel
theorem dX3_take_12 : decode cX3_take 12 = .ok (.getfield 15, 3) := by decide +kernel
theorem dX3_take_15 : decode cX3_take 15 = .ok (.aload_n 0, 1) := by decide +kernel
theorem dX3_take_16 : decode cX3_take 16 = .ok (.getfield 15, 3) := by decide +kernel
theorem dX3_take_19 : decode cX3_take 19 = .ok (.invokestatic 30, 3) := by decide +kernel
theorem dX3_take_22 : decode cX3_take 22 = .ok (.return_, 1) := by decide +kernel
theorem dX4_init_0 : decode cX4_init 0 = .ok (.aload_n 0, 1) := by decide +kernel
theorem dX4_init_1 : decode cX4_init 1 = .ok (.invokespecial 3, 3) := by decide +kernel
theorem dX4_init_4 : decode cX4_init 4 = .ok (.aload_n 0, 1) := by decide +kernel
theorem dX4_init_5 : decode cX4_init 5 = .ok (.new 9, 3) := by decide +kernel
theorem dX4_init_8 : decode cX4_init 8 = .ok (.dup, 1) := by decide +kernel
theorem dX4_init_9 : decode cX4_init 9 = .ok (.invokespecial 11, 3) := by decide +kernel
theorem dX4_init_12 : decode cX4_init 12 = .ok (.putfield 12, 3) := by decide +kernel
theorem dX4_init_15 : decode cX4_init 15 = .ok (.aload_n 0, 1) := by decide +kernel
theorem dX4_init_16 : decode cX4_init 16 = .ok (.new 18, 3) := by decide +kernel
theorem dX4_init_19 : decode cX4_init 19 = .ok (.dup, 1) := by decide +kernel
theorem dX4_init_20 : decode cX4_init 20 = .ok (.invokespecial 20, 3) := by decide +kernel
theorem dX4_init_23 : decode cX4_init 23 = .ok (.putfield 21, 3) := by decide +kernel
theorem dX4_init_26 : decode cX4_init 26 = .ok (.aload_n 0, 1) := by decide +kernel
theorem dX4_init_27 : decode cX4_init 27 = .ok (.new 25, 3) := by decide +kernel
theorem dX4_init_30 : decode cX4_init 30 = .ok (.dup, 1) := by decide +kernel
theorem dX4_init_31 : decode cX4_init 31 = .ok (.invokespecial 27, 3) := by decide +kernel
theorem dX4_init_34 : decode cX4_init 34 = .ok (.putfield 28, 3) := by decide +kernel
theorem dX4_init_37 : decode cX4_init 37 = .ok (.aload_n 0, 1) := by decide +kernel
theorem dX4_init_38 : decode cX4_init 38 = .ok (.new 32, 3) := by decide +kernel
theorem dX4_init_41 : decode cX4_init 41 = .ok (.dup, 1) := by decide +kernel
theorem dX4_init_42 : decode cX4_init 42 = .ok (.invokespecial 34, 3) := by decide +kernel
theorem dX4_init_45 : decode cX4_init 45 = .ok (.putfield 35, 3) := by decide +kernel
theorem dX4_init_48 : decode cX4_init 48 = .ok (.aload_n 0, 1) := by decide +kernel
theorem dX4_init_49 : decode cX4_init 49 = .ok (.sipush 240, 3) := by decide +kernel
theorem dX4_init_52 : decode cX4_init 52 = .ok (.newarray .int, 2) := by decide +kernel
theorem dX4_init_54 : decode cX4_init 54 = .ok (.putfield 39, 3) := by decide +kernel
theorem dX4_init_57 : decode cX4_init 57 = .ok (.aload_n 0, 1) := by decide +kernel
theorem dX4_init_58 : decode cX4_init 58 = .ok (.bipush 24, 2) := by decide +kernel
theorem dX4_init_60 : decode cX4_init 60 = .ok (.newarray .int, 2) := by decide +kernel
theorem dX4_init_62 : decode cX4_init 62 = .ok (.putfield 43, 3) := by decide +kernel
theorem dX4_init_65 : decode cX4_init 65 = .ok (.aload_n 0, 1) := by decide +kernel
theorem dX4_init_66 : decode cX4_init 66 = .ok (.sipush 240, 3) := by decide +kernel
theorem dX4_init_69 : decode cX4_init 69 = .ok (.newarray .int, 2) := by decide +kernel
theorem dX4_init_71 : decode cX4_init 71 = .ok (.putfield 46, 3) := by decide +kernel
theorem dX4_init_74 : decode cX4_init 74 = .ok (.return_, 1) := by decide +kernel
theorem dX4_drawOf_0 : decode cX4_drawOf 0 = .ok (.aload_n 0, 1) := by decide +kernel
theorem dX4_drawOf_1 : decode cX4_drawOf 1 = .ok (.getfield 39, 3) := by decide +kernel
theorem dX4_drawOf_4 : decode cX4_drawOf 4 = .ok (.iload_n 1, 1) := by decide +kernel
theorem dX4_drawOf_5 : decode cX4_drawOf 5 = .ok (.bipush 24, 2) := by decide +kernel
theorem dX4_drawOf_7 : decode cX4_drawOf 7 = .ok (.imul, 1) := by decide +kernel
theorem dX4_drawOf_8 : decode cX4_drawOf 8 = .ok (.iload_n 2, 1) := by decide +kernel
theorem dX4_drawOf_9 : decode cX4_drawOf 9 = .ok (.iadd, 1) := by decide +kernel
theorem dX4_drawOf_10 : decode cX4_drawOf 10 = .ok (.iaload, 1) := by decide +kernel
theorem dX4_drawOf_11 : decode cX4_drawOf 11 = .ok (.ireturn, 1) := by decide +kernel
theorem dX4_setDraw_0 : decode cX4_setDraw 0 = .ok (.aload_n 0, 1) := by decide +kernel
theorem dX4_setDraw_1 : decode cX4_setDraw 1 = .ok (.getfield 39, 3) := by decide +kernel
theorem dX4_setDraw_4 : decode cX4_setDraw 4 = .ok (.iload_n 1, 1) := by decide +kernel
theorem dX4_setDraw_5 : decode cX4_setDraw 5 = .ok (.bipush 24, 2) := by decide +kernel
theorem dX4_setDraw_7 : decode cX4_setDraw 7 = .ok (.imul, 1) := by decide +kernel
theorem dX4_setDraw_8 : decode cX4_setDraw 8 = .ok (.iload_n 2, 1) := by decide +kernel
theorem dX4_setDraw_9 : decode cX4_setDraw 9 = .ok (.iadd, 1) := by decide +kernel
theorem dX4_setDraw_10 : decode cX4_setDraw 10 = .ok (.iload_n 3, 1) := by decide +kernel
theorem dX4_setDraw_11 : decode cX4_setDraw 11 = .ok (.iastore, 1) := by decide +kernel
theorem dX4_setDraw_12 : decode cX4_setDraw 12 = .ok (.return_, 1) := by decide +kernel
theorem dX4_sumOfDraws_0 : decode cX4_sumOfDraws 0 = .ok (.iconst 0, 1) := by decide +kernel
theorem dX4_sumOfDraws_1 : decode cX4_sumOfDraws 1 = .ok (.istore_n 2, 1) := by decide +kernel
theorem dX4_sumOfDraws_2 : decode cX4_sumOfDraws 2 = .ok (.iconst 0, 1) := by decide +kernel
theorem dX4_sumOfDraws_3 : decode cX4_sumOfDraws 3 = .ok (.istore_n 3, 1) := by decide +kernel
theorem dX4_sumOfDraws_4 : decode cX4_sumOfDraws 4 = .ok (.iload_n 3, 1) := by decide +kernel
theorem dX4_sumOfDraws_5 : decode cX4_sumOfDraws 5 = .ok (.bipush 24, 2) := by decide +kernel
theorem dX4_sumOfDraws_7 : decode cX4_sumOfDraws 7 = .ok (.if_icmp .ge 18, 3) := by decide +kernel
theorem dX4_sumOfDraws_10 : decode cX4_sumOfDraws 10 = .ok (.iload_n 2, 1) := by decide +kernel
theorem dX4_sumOfDraws_11 : decode cX4_sumOfDraws 11 = .ok (.aload_n 0, 1) := by decide +kernel
theorem dX4_sumOfDraws_12 : decode cX4_sumOfDraws 12 = .ok (.iload_n 1, 1) := by decide +kernel
theorem dX4_sumOfDraws_13 : decode cX4_sumOfDraws 13 = .ok (.iload_n 3, 1) := by decide +kernel
theorem dX4_sumOfDraws_14 : decode cX4_sumOfDraws 14 = .ok (.invokevirtual 49, 3) := by decide +kernel
theorem dX4_sumOfDraws_17 : decode cX4_sumOfDraws 17 = .ok (.iadd, 1) := by decide +kernel
theorem dX4_sumOfDraws_18 : decode cX4_sumOfDraws 18 = .ok (.istore_n 2, 1) := by decide +kernel
theorem dX4_sumOfDraws_19 : decode cX4_sumOfDraws 19 = .ok (.iinc 3 1, 3) := by decide +kernel
theorem dX4_sumOfDraws_22 : decode cX4_sumOfDraws 22 = .ok (.goto (-18), 3) := by decide +kernel
theorem dX4_sumOfDraws_25 : decode cX4_sumOfDraws 25 = .ok (.iload_n 2, 1) := by decide +kernel
theorem dX4_sumOfDraws_26 : decode cX4_sumOfDraws 26 = .ok (.ireturn, 1) := by decide +kernel
theorem dX4_counted_0 : decode cX4_counted 0 = .ok (.aload_n 0, 1) := by decide +kernel
theorem dX4_counted_1 : decode cX4_counted 1 = .ok (.getfield 12, 3) := by decide +kernel
theorem dX4_counted_4 : decode cX4_counted 4 = .ok (.iload_n 1, 1) := by decide +kernel
theorem dX4_counted_5 : decode cX4_counted 5 = .ok (.iload_n 2, 1) := by decide +kernel
theorem dX4_counted_6 : decode cX4_counted 6 = .ok (.invokevirtual 53, 3) := by decide +kernel
theorem dX4_counted_9 : decode cX4_counted 9 = .ok (.ifCond .eq 26, 3) := by decide +kernel
theorem dX4_counted_12 : decode cX4_counted 12 = .ok (.getstatic 57, 3) := by decide +kernel
theorem dX4_counted_15 : decode cX4_counted 15 = .ok (.aload_n 0, 1) := by decide +kernel
theorem dX4_counted_16 : decode cX4_counted 16 = .ok (.getfield 12, 3) := by decide +kernel
theorem dX4_counted_19 : decode cX4_counted 19 = .ok (.getfield 60, 3) := by decide +kernel
theorem dX4_counted_22 : decode cX4_counted 22 = .ok (.iload_n 1, 1) := by decide +kernel
theorem dX4_counted_23 : decode cX4_counted 23 = .ok (.iaload, 1) := by decide +kernel
theorem dX4_counted_24 : decode cX4_counted 24 = .ok (.iaload, 1) := by decide +kernel
theorem dX4_counted_25 : decode cX4_counted 25 = .ok (.aload_n 0, 1) := by decide +kernel
theorem dX4_counted_26 : decode cX4_counted 26 = .ok (.iload_n 1, 1) := by decide +kernel
theorem dX4_counted_27 : decode cX4_counted 27 = .ok (.iload_n 2, 1) := by decide +kernel
theorem dX4_counted_28 : decode cX4_counted 28 = .ok (.invokevirtual 49, 3) := by decide +kernel
theorem dX4_counted_31 : decode cX4_counted 31 = .ok (.imul, 1) := by decide +kernel
theorem dX4_counted_32 : decode cX4_counted 32 = .ok (.goto 4, 3) := by decide +kernel
theorem dX4_counted_35 : decode cX4_counted 35 = .ok (.iconst 0, 1) := by decide +kernel
theorem dX4_counted_36 : decode cX4_counted 36 = .ok (.ireturn, 1) := by decide +kernel
theorem dX4_rowBetween_0 : decode cX4_rowBetween 0 = .ok (.aload_n 0, 1) := by decide +kernel
theorem dX4_rowBetween_1 : decode cX4_rowBetween 1 = .ok (.getfield 12, 3) := by decide +kernel
theorem dX4_rowBetween_4 : decode cX4_rowBetween 4 = .ok (.iload_n 1, 1) := by decide +kernel
theorem dX4_rowBetween_5 : decode cX4_rowBetween 5 = .ok (.iload_n 2, 1) := by decide +kernel
theorem dX4_rowBetween_6 : decode cX4_rowBetween 6 = .ok (.invokevirtual 63, 3) := by decide +kernel
theorem dX4_rowBetween_9 : decode cX4_rowBetween 9 = .ok (.aload_n 0, 1) := by decide +kernel
theorem dX4_rowBetween_10 : decode cX4_rowBetween 10 = .ok (.getfield 12, 3) := by decide +kernel
theorem dX4_rowBetween_13 : decode cX4_rowBetween 13 = .ok (.iload_n 1, 1) := by decide +kernel
theorem dX4_rowBetween_14 : decode cX4_rowBetween 14 = .ok (.iload_n 2, 1) := by decide +kernel
theorem dX4_rowBetween_15 : decode cX4_rowBetween 15 = .ok (.invokevirtual 66, 3) := by decide +kernel
theorem dX4_rowBetween_18 : decode cX4_rowBetween 18 = .ok (.invokestatic 69, 3) := by decide +kernel
theorem dX4_rowBetween_21 : decode cX4_rowBetween 21 = .ok (.ireturn, 1) := by decide +kernel
theorem dX4_lowering_0 : decode cX4_lowering 0 = .ok (.aload_n 0, 1) := by decide +kernel
theorem dX4_lowering_1 : decode cX4_lowering 1 = .ok (.iload_n 1, 1) := by decide +kernel
theorem dX4_lowering_2 : decode cX4_lowering 2 = .ok (.iload_n 3, 1) := by decide +kernel
theorem dX4_lowering_3 : decode cX4_lowering 3 = .ok (.invokevirtual 72, 3) := by decide +kernel
theorem dX4_lowering_6 : decode cX4_lowering 6 = .ok (.istore 5, 2) := by decide +kernel
theorem dX4_lowering_8 : decode cX4_lowering 8 = .ok (.iconst 0, 1) := by decide +kernel
theorem dX4_lowering_9 : decode cX4_lowering 9 = .ok (.istore 6, 2) := by decide +kernel
theorem dX4_lowering_11 : decode cX4_lowering 11 = .ok (.iload 4, 2) := by decide +kernel
theorem dX4_lowering_13 : decode cX4_lowering 13 = .ok (.iload_n 2, 1) := by decide +kernel
theorem dX4_lowering_14 : decode cX4_lowering 14 = .ok (.bipush 12, 2) := by decide +kernel
theorem dX4_lowering_16 : decode cX4_lowering 16 = .ok (.isub, 1) := by decide +kernel
theorem dX4_lowering_17 : decode cX4_lowering 17 = .ok (.iconst 1, 1) := by decide +kernel
theorem dX4_lowering_18 : decode cX4_lowering 18 = .ok (.iadd, 1) := by decide +kernel
theorem dX4_lowering_19 : decode cX4_lowering 19 = .ok (.invokestatic 75, 3) := by decide +kernel
theorem dX4_lowering_22 : decode cX4_lowering 22 = .ok (.istore 7, 2) := by decide +kernel
theorem dX4_lowering_24 : decode cX4_lowering 24 = .ok (.iload 7, 2) := by decide +kernel
theorem dX4_lowering_26 : decode cX4_lowering 26 = .ok (.iload_n 2, 1) := by decide +kernel
theorem dX4_lowering_27 : decode cX4_lowering 27 = .ok (.if_icmp .gt 55, 3) := by decide +kernel
theorem dX4_lowering_30 : decode cX4_lowering 30 = .ok (.aload_n 0, 1) := by decide +kernel
theorem dX4_lowering_31 : decode cX4_lowering 31 = .ok (.getfield 12, 3) := by decide +kernel
theorem dX4_lowering_34 : decode cX4_lowering 34 = .ok (.iload_n 3, 1) := by decide +kernel
theorem dX4_lowering_35 : decode cX4_lowering 35 = .ok (.iload 7, 2) := by decide +kernel
theorem dX4_lowering_37 : decode cX4_lowering 37 = .ok (.invokevirtual 53, 3) := by decide +kernel
theorem dX4_lowering_40 : decode cX4_lowering 40 = .ok (.ifCond .eq 36, 3) := by decide +kernel
theorem dX4_lowering_43 : decode cX4_lowering 43 = .ok (.iload 6, 2) := by decide +kernel
theorem dX4_lowering_45 : decode cX4_lowering 45 = .ok (.aload_n 0, 1) := by decide +kernel
theorem dX4_lowering_46 : decode cX4_lowering 46 = .ok (.getfield 39, 3) := by decide +kernel
theorem dX4_lowering_49 : decode cX4_lowering 49 = .ok (.iload_n 3, 1) := by decide +kernel
theorem dX4_lowering_50 : decode cX4_lowering 50 = .ok (.bipush 24, 2) := by decide +kernel
theorem dX4_lowering_52 : decode cX4_lowering 52 = .ok (.imul, 1) := by decide +kernel
theorem dX4_lowering_53 : decode cX4_lowering 53 = .ok (.iload 7, 2) := by decide +kernel
theorem dX4_lowering_55 : decode cX4_lowering 55 = .ok (.iadd, 1) := by decide +kernel
theorem dX4_lowering_56 : decode cX4_lowering 56 = .ok (.iaload, 1) := by decide +kernel
theorem dX4_lowering_57 : decode cX4_lowering 57 = .ok (.aload_n 0, 1) := by decide +kernel
theorem dX4_lowering_58 : decode cX4_lowering 58 = .ok (.getfield 21, 3) := by decide +kernel
theorem dX4_lowering_61 : decode cX4_lowering 61 = .ok (.getfield 80, 3) := by decide +kernel
theorem dX4_lowering_64 : decode cX4_lowering 64 = .ok (.iload 5, 2) := by decide +kernel
theorem dX4_lowering_66 : decode cX4_lowering 66 = .ok (.iload_n 2, 1) := by decide +kernel
theorem dX4_lowering_67 : decode cX4_lowering 67 = .ok (.iadd, 1) := by decide +kernel
theorem dX4_lowering_68 : decode cX4_lowering 68 = .ok (.iload 7, 2) := by decide +kernel
theorem dX4_lowering_70 : decode cX4_lowering 70 = .ok (.isub, 1) := by decide +kernel
theorem dX4_lowering_71 : decode cX4_lowering 71 = .ok (.iaload, 1) := by decide +kernel
theorem dX4_lowering_72 : decode cX4_lowering 72 = .ok (.imul, 1) := by decide +kernel
theorem dX4_lowering_73 : decode cX4_lowering 73 = .ok (.iadd, 1) := by decide +kernel
theorem dX4_lowering_74 : decode cX4_lowering 74 = .ok (.istore 6, 2) := by decide +kernel
theorem dX4_lowering_76 : decode cX4_lowering 76 = .ok (.iinc 7 1, 3) := by decide +kernel
theorem dX4_lowering_79 : decode cX4_lowering 79 = .ok (.goto (-55), 3) := by decide +kernel
theorem dX4_lowering_82 : decode cX4_lowering 82 = .ok (.iload 6, 2) := by decide +kernel
theorem dX4_lowering_84 : decode cX4_lowering 84 = .ok (.getstatic 57, 3) := by decide +kernel
theorem dX4_lowering_87 : decode cX4_lowering 87 = .ok (.aload_n 0, 1) := by decide +kernel
theorem dX4_lowering_88 : decode cX4_lowering 88 = .ok (.getfield 12, 3) := by decide +kernel
theorem dX4_lowering_91 : decode cX4_lowering 91 = .ok (.getfield 60, 3) := by decide +kernel
theorem dX4_lowering_94 : decode cX4_lowering 94 = .ok (.iload_n 3, 1) := by decide +kernel
theorem dX4_lowering_95 : decode cX4_lowering 95 = .ok (.iaload, 1) := by decide +kernel
theorem dX4_lowering_96 : decode cX4_lowering 96 = .ok (.iaload, 1) := by decide +kernel
theorem dX4_lowering_97 : decode cX4_lowering 97 = .ok (.imul, 1) := by decide +kernel
theorem dX4_lowering_98 : decode cX4_lowering 98 = .ok (.ireturn, 1) := by decide +kernel
theorem dX4_loweringOfOneMore_0 : decode cX4_loweringOfOneMore 0 = .ok (.aload_n 0, 1) := by decide +kernel
theorem dX4_loweringOfOneMore_1 : decode cX4_loweringOfOneMore 1 = .ok (.iload_n 1, 1) := by decide +kernel
theorem dX4_loweringOfOneMore_2 : decode cX4_loweringOfOneMore 2 = .ok (.iload_n 3, 1) := by decide +kernel
theorem dX4_loweringOfOneMore_3 : decode cX4_loweringOfOneMore 3 = .ok (.invokevirtual 72, 3) := by decide +kernel
theorem dX4_loweringOfOneMore_6 : decode cX4_loweringOfOneMore 6 = .ok (.istore 5, 2) := by decide +kernel
theorem dX4_loweringOfOneMore_8 : decode cX4_loweringOfOneMore 8 = .ok (.iconst 0, 1) := by decide +kernel
theorem dX4_loweringOfOneMore_9 : decode cX4_loweringOfOneMore 9 = .ok (.istore 6, 2) := by decide +kernel
theorem dX4_loweringOfOneMore_11 : decode cX4_loweringOfOneMore 11 = .ok (.iload 4, 2) := by decide +kernel
theorem dX4_loweringOfOneMore_13 : decode cX4_loweringOfOneMore 13 = .ok (.iload_n 2, 1) := by decide +kernel
theorem dX4_loweringOfOneMore_14 : decode cX4_loweringOfOneMore 14 = .ok (.bipush 12, 2) := by decide +kernel
theorem dX4_loweringOfOneMore_16 : decode cX4_loweringOfOneMore 16 = .ok (.isub, 1) := by decide +kernel
theorem dX4_loweringOfOneMore_17 : decode cX4_loweringOfOneMore 17 = .ok (.iconst 1, 1) := by decide +kernel
theorem dX4_loweringOfOneMore_18 : decode cX4_loweringOfOneMore 18 = .ok (.iadd, 1) := by decide +kernel
theorem dX4_loweringOfOneMore_19 : decode cX4_loweringOfOneMore 19 = .ok (.invokestatic 75, 3) := by decide +kernel
theorem dX4_loweringOfOneMore_22 : decode cX4_loweringOfOneMore 22 = .ok (.istore 7, 2) := by decide +kernel
theorem dX4_loweringOfOneMore_24 : decode cX4_loweringOfOneMore 24 = .ok (.iload 7, 2) := by decide +kernel
theorem dX4_loweringOfOneMore_26 : decode cX4_loweringOfOneMore 26 = .ok (.iload_n 2, 1) := by decide +kernel
theorem dX4_loweringOfOneMore_27 : decode cX4_loweringOfOneMore 27 = .ok (.if_icmp .gt 42, 3) := by decide +kernel
theorem dX4_loweringOfOneMore_30 : decode cX4_loweringOfOneMore 30 = .ok (.aload_n 0, 1) := by decide +kernel
theorem dX4_loweringOfOneMore_31 : decode cX4_loweringOfOneMore 31 = .ok (.getfield 12, 3) := by decide +kernel
theorem dX4_loweringOfOneMore_34 : decode cX4_loweringOfOneMore 34 = .ok (.iload_n 3, 1) := by decide +kernel
theorem dX4_loweringOfOneMore_35 : decode cX4_loweringOfOneMore 35 = .ok (.iload 7, 2) := by decide +kernel
theorem dX4_loweringOfOneMore_37 : decode cX4_loweringOfOneMore 37 = .ok (.invokevirtual 53, 3) := by decide +kernel
theorem dX4_loweringOfOneMore_40 : decode cX4_loweringOfOneMore 40 = .ok (.ifCond .eq 23, 3) := by decide +kernel
theorem dX4_loweringOfOneMore_43 : decode cX4_loweringOfOneMore 43 = .ok (.iload 6, 2) := by decide +kernel
theorem dX4_loweringOfOneMore_45 : decode cX4_loweringOfOneMore 45 = .ok (.aload_n 0, 1) := by decide +kernel
theorem dX4_loweringOfOneMore_46 : decode cX4_loweringOfOneMore 46 = .ok (.getfield 21, 3) := by decide +kernel
theorem dX4_loweringOfOneMore_49 : decode cX4_loweringOfOneMore 49 = .ok (.getfield 80, 3) := by decide +kernel
theorem dX4_loweringOfOneMore_52 : decode cX4_loweringOfOneMore 52 = .ok (.iload 5, 2) := by decide +kernel
theorem dX4_loweringOfOneMore_54 : decode cX4_loweringOfOneMore 54 = .ok (.iload_n 2, 1) := by decide +kernel
theorem dX4_loweringOfOneMore_55 : decode cX4_loweringOfOneMore 55 = .ok (.iadd, 1) := by decide +kernel
theorem dX4_loweringOfOneMore_56 : decode cX4_loweringOfOneMore 56 = .ok (.iload 7, 2) := by decide +kernel
theorem dX4_loweringOfOneMore_58 : decode cX4_loweringOfOneMore 58 = .ok (.isub, 1) := by decide +kernel
theorem dX4_loweringOfOneMore_59 : decode cX4_loweringOfOneMore 59 = .ok (.iaload, 1) := by decide +kernel
theorem dX4_loweringOfOneMore_60 : decode cX4_loweringOfOneMore 60 = .ok (.iadd, 1) := by decide +kernel
theorem dX4_loweringOfOneMore_61 : decode cX4_loweringOfOneMore 61 = .ok (.istore 6, 2) := by decide +kernel
theorem dX4_loweringOfOneMore_63 : decode cX4_loweringOfOneMore 63 = .ok (.iinc 7 1, 3) := by decide +kernel
theorem dX4_loweringOfOneMore_66 : decode cX4_loweringOfOneMore 66 = .ok (.goto (-42), 3) := by decide +kernel
theorem dX4_loweringOfOneMore_69 : decode cX4_loweringOfOneMore 69 = .ok (.iload 6, 2) := by decide +kernel
theorem dX4_loweringOfOneMore_71 : decode cX4_loweringOfOneMore 71 = .ok (.ireturn, 1) := by decide +kernel
theorem dX4_raisedByRain_0 : decode cX4_raisedByRain 0 = .ok (.iconst 0, 1) := by decide +kernel
theorem dX4_raisedByRain_1 : decode cX4_raisedByRain 1 = .ok (.istore_n 2, 1) := by decide +kernel
theorem dX4_raisedByRain_2 : decode cX4_raisedByRain 2 = .ok (.iconst 0, 1) := by decide +kernel
theorem dX4_raisedByRain_3 : decode cX4_raisedByRain 3 = .ok (.iload_n 1, 1) := by decide +kernel
theorem dX4_raisedByRain_4 : decode cX4_raisedByRain 4 = .ok (.bipush 12, 2) := by decide +kernel
theorem dX4_raisedByRain_6 : decode cX4_raisedByRain 6 = .ok (.isub, 1) := by decide +kernel
theorem dX4_raisedByRain_7 : decode cX4_raisedByRain 7 = .ok (.iconst 1, 1) := by decide +kernel
theorem dX4_raisedByRain_8 : decode cX4_raisedByRain 8 = .ok (.iadd, 1) := by decide +kernel
theorem dX4_raisedByRain_9 : decode cX4_raisedByRain 9 = .ok (.invokestatic 75, 3) := by decide +kernel
theorem dX4_raisedByRain_12 : decode cX4_raisedByRain 12 = .ok (.istore_n 3, 1) := by decide +kernel
theorem dX4_raisedByRain_13 : decode cX4_raisedByRain 13 = .ok (.iload_n 3, 1) := by decide +kernel
theorem dX4_raisedByRain_14 : decode cX4_raisedByRain 14 = .ok (.iload_n 1, 1) := by decide +kernel
theorem dX4_raisedByRain_15 : decode cX4_raisedByRain 15 = .ok (.if_icmp .gt 30, 3) := by decide +kernel
theorem dX4_raisedByRain_18 : decode cX4_raisedByRain 18 = .ok (.iload_n 2, 1) := by decide +kernel
theorem dX4_raisedByRain_19 : decode cX4_raisedByRain 19 = .ok (.aload_n 0, 1) := by decide +kernel
theorem dX4_raisedByRain_20 : decode cX4_raisedByRain 20 = .ok (.getfield 43, 3) := by decide +kernel
theorem dX4_raisedByRain_23 : decode cX4_raisedByRain 23 = .ok (.iload_n 3, 1) := by decide +kernel
theorem dX4_raisedByRain_24 : decode cX4_raisedByRain 24 = .ok (.iaload, 1) := by decide +kernel
theorem dX4_raisedByRain_25 : decode cX4_raisedByRain 25 = .ok (.aload_n 0, 1) := by decide +kernel
theorem dX4_raisedByRain_26 : decode cX4_raisedByRain 26 = .ok (.getfield 21, 3) := by decide +kernel
theorem dX4_raisedByRain_29 : decode cX4_raisedByRain 29 = .ok (.getfield 83, 3) := by decide +kernel
theorem dX4_raisedByRain_32 : decode cX4_raisedByRain 32 = .ok (.iload_n 1, 1) := by decide +kernel
theorem dX4_raisedByRain_33 : decode cX4_raisedByRain 33 = .ok (.iload_n 3, 1) := by decide +kernel
theorem dX4_raisedByRain_34 : decode cX4_raisedByRain 34 = .ok (.isub, 1) := by decide +kernel
theorem dX4_raisedByRain_35 : decode cX4_raisedByRain 35 = .ok (.iaload, 1) := by decide +kernel
theorem dX4_raisedByRain_36 : decode cX4_raisedByRain 36 = .ok (.imul, 1) := by decide +kernel
theorem dX4_raisedByRain_37 : decode cX4_raisedByRain 37 = .ok (.iadd, 1) := by decide +kernel
theorem dX4_raisedByRain_38 : decode cX4_raisedByRain 38 = .ok (.istore_n 2, 1) := by decide +kernel
theorem dX4_raisedByRain_39 : decode cX4_raisedByRain 39 = .ok (.iinc 3 1, 3) := by decide +kernel
theorem dX4_raisedByRain_42 : decode cX4_raisedByRain 42 = .ok (.goto (-29), 3) := by decide +kernel
theorem dX4_raisedByRain_45 : decode cX4_raisedByRain 45 = .ok (.iload_n 2, 1) := by decide +kernel
theorem dX4_raisedByRain_46 : decode cX4_raisedByRain 46 = .ok (.ireturn, 1) := by decide +kernel
theorem dX4_headOf_0 : decode cX4_headOf 0 = .ok (.aload_n 0, 1) := by decide +kernel
theorem dX4_headOf_1 : decode cX4_headOf 1 = .ok (.getfield 12, 3) := by decide +kernel
theorem dX4_headOf_4 : decode cX4_headOf 4 = .ok (.getfield 86, 3) := by decide +kernel
theorem dX4_headOf_7 : decode cX4_headOf 7 = .ok (.iload_n 1, 1) := by decide +kernel
theorem dX4_headOf_8 : decode cX4_headOf 8 = .ok (.iaload, 1) := by decide +kernel
theorem dX4_headOf_9 : decode cX4_headOf 9 = .ok (.aload_n 0, 1) := by decide +kernel
theorem dX4_headOf_10 : decode cX4_headOf 10 = .ok (.iload_n 2, 1) := by decide +kernel
theorem dX4_headOf_11 : decode cX4_headOf 11 = .ok (.invokevirtual 89, 3) := by decide +kernel
theorem dX4_headOf_14 : decode cX4_headOf 14 = .ok (.iadd, 1) := by decide +kernel
theorem dX4_headOf_15 : decode cX4_headOf 15 = .ok (.istore_n 3, 1) := by decide +kernel
theorem dX4_headOf_16 : decode cX4_headOf 16 = .ok (.iconst 0, 1) := by decide +kernel
theorem dX4_headOf_17 : decode cX4_headOf 17 = .ok (.istore 4, 2) := by decide +kernel
theorem dX4_headOf_19 : decode cX4_headOf 19 = .ok (.iload 4, 2) := by decide +kernel
theorem dX4_headOf_21 : decode cX4_headOf 21 = .ok (.aload_n 0, 1) := by decide +kernel
theorem dX4_headOf_22 : decode cX4_headOf 22 = .ok (.getfield 12, 3) := by decide +kernel
theorem dX4_headOf_25 : decode cX4_headOf 25 = .ok (.getfield 93, 3) := by decide +kernel
theorem dX4_headOf_28 : decode cX4_headOf 28 = .ok (.if_icmp .ge 21, 3) := by decide +kernel
theorem dX4_headOf_31 : decode cX4_headOf 31 = .ok (.iload_n 3, 1) := by decide +kernel
theorem dX4_headOf_32 : decode cX4_headOf 32 = .ok (.aload_n 0, 1) := by decide +kernel
theorem dX4_headOf_33 : decode cX4_headOf 33 = .ok (.iload_n 1, 1) := by decide +kernel
theorem dX4_headOf_34 : decode cX4_headOf 34 = .ok (.iload_n 2, 1) := by decide +kernel
theorem dX4_headOf_35 : decode cX4_headOf 35 = .ok (.iload 4, 2) := by decide +kernel
theorem dX4_headOf_37 : decode cX4_headOf 37 = .ok (.iconst 0, 1) := by decide +kernel
theorem dX4_headOf_38 : decode cX4_headOf 38 = .ok (.invokevirtual 97, 3) := by decide +kernel
theorem dX4_headOf_41 : decode cX4_headOf 41 = .ok (.isub, 1) := by decide +kernel
theorem dX4_headOf_42 : decode cX4_headOf 42 = .ok (.istore_n 3, 1) := by decide +kernel
theorem dX4_headOf_43 : decode cX4_headOf 43 = .ok (.iinc 4 1, 3) := by decide +kernel
theorem dX4_headOf_46 : decode cX4_headOf 46 = .ok (.goto (-27), 3) := by decide +kernel
theorem dX4_headOf_49 : decode cX4_headOf 49 = .ok (.iload_n 3, 1) := by decide +kernel
theorem dX4_headOf_50 : decode cX4_headOf 50 = .ok (.ireturn, 1) := by decide +kernel
theorem dX4_aboveLimit_0 : decode cX4_aboveLimit 0 = .ok (.aload_n 0, 1) := by decide +kernel
theorem dX4_aboveLimit_1 : decode cX4_aboveLimit 1 = .ok (.iload_n 1, 1) := by decide +kernel
theorem dX4_aboveLimit_2 : decode cX4_aboveLimit 2 = .ok (.iload_n 2, 1) := by decide +kernel
theorem dX4_aboveLimit_3 : decode cX4_aboveLimit 3 = .ok (.invokevirtual 101, 3) := by decide +kernel
theorem dX4_aboveLimit_6 : decode cX4_aboveLimit 6 = .ok (.aload_n 0, 1) := by decide +kernel
theorem dX4_aboveLimit_7 : decode cX4_aboveLimit 7 = .ok (.getfield 12, 3) := by decide +kernel
theorem dX4_aboveLimit_10 : decode cX4_aboveLimit 10 = .ok (.getfield 104, 3) := by decide +kernel
theorem dX4_aboveLimit_13 : decode cX4_aboveLimit 13 = .ok (.iload_n 1, 1) := by decide +kernel
theorem dX4_aboveLimit_14 : decode cX4_aboveLimit 14 = .ok (.iaload, 1) := by decide +kernel
theorem dX4_aboveLimit_15 : decode cX4_aboveLimit 15 = .ok (.isub, 1) := by decide +kernel
theorem dX4_aboveLimit_16 : decode cX4_aboveLimit 16 = .ok (.ireturn, 1) := by decide +kernel
theorem dX4_findSpare_0 : decode cX4_findSpare 0 = .ok (.iconst 0, 1) := by decide +kernel
theorem dX4_findSpare_1 : decode cX4_findSpare 1 = .ok (.istore_n 2, 1) := by decide +kernel
theorem dX4_findSpare_2 : decode cX4_findSpare 2 = .ok (.iload_n 2, 1) := by decide +kernel
theorem dX4_findSpare_3 : decode cX4_findSpare 3 = .ok (.aload_n 0, 1) := by decide +kernel
theorem dX4_findSpare_4 : decode cX4_findSpare 4 = .ok (.getfield 12, 3) := by decide +kernel
theorem dX4_findSpare_7 : decode cX4_findSpare 7 = .ok (.getfield 93, 3) := by decide +kernel
theorem dX4_findSpare_10 : decode cX4_findSpare 10 = .ok (.if_icmp .ge 50, 3) := by decide +kernel
theorem dX4_findSpare_13 : decode cX4_findSpare 13 = .ok (.iload_n 1, 1) := by decide +kernel
theorem dX4_findSpare_14 : decode cX4_findSpare 14 = .ok (.istore_n 3, 1) := by decide +kernel
theorem dX4_findSpare_15 : decode cX4_findSpare 15 = .ok (.iload_n 3, 1) := by decide +kernel
theorem dX4_findSpare_16 : decode cX4_findSpare 16 = .ok (.bipush 24, 2) := by decide +kernel
theorem dX4_findSpare_18 : decode cX4_findSpare 18 = .ok (.if_icmp .ge 36, 3) := by decide +kernel
theorem dX4_findSpare_21 : decode cX4_findSpare 21 = .ok (.aload_n 0, 1) := by decide +kernel
theorem dX4_findSpare_22 : decode cX4_findSpare 22 = .ok (.getfield 46, 3) := by decide +kernel
theorem dX4_findSpare_25 : decode cX4_findSpare 25 = .ok (.iload_n 2, 1) := by decide +kernel
theorem dX4_findSpare_26 : decode cX4_findSpare 26 = .ok (.bipush 24, 2) := by decide +kernel
theorem dX4_findSpare_28 : decode cX4_findSpare 28 = .ok (.imul, 1) := by decide +kernel
theorem dX4_findSpare_29 : decode cX4_findSpare 29 = .ok (.iload_n 3, 1) := by decide +kernel
theorem dX4_findSpare_30 : decode cX4_findSpare 30 = .ok (.iadd, 1) := by decide +kernel
theorem dX4_findSpare_31 : decode cX4_findSpare 31 = .ok (.aload_n 0, 1) := by decide +kernel
theorem dX4_findSpare_32 : decode cX4_findSpare 32 = .ok (.iload_n 2, 1) := by decide +kernel
theorem dX4_findSpare_33 : decode cX4_findSpare 33 = .ok (.iload_n 3, 1) := by decide +kernel
theorem dX4_findSpare_34 : decode cX4_findSpare 34 = .ok (.invokevirtual 101, 3) := by decide +kernel
theorem dX4_findSpare_37 : decode cX4_findSpare 37 = .ok (.aload_n 0, 1) := by decide +kernel
theorem dX4_findSpare_38 : decode cX4_findSpare 38 = .ok (.getfield 12, 3) := by decide +kernel
theorem dX4_findSpare_41 : decode cX4_findSpare 41 = .ok (.getfield 104, 3) := by decide +kernel
theorem dX4_findSpare_44 : decode cX4_findSpare 44 = .ok (.iload_n 2, 1) := by decide +kernel
theorem dX4_findSpare_45 : decode cX4_findSpare 45 = .ok (.iaload, 1) := by decide +kernel
theorem dX4_findSpare_46 : decode cX4_findSpare 46 = .ok (.isub, 1) := by decide +kernel
theorem dX4_findSpare_47 : decode cX4_findSpare 47 = .ok (.iastore, 1) := by decide +kernel
theorem dX4_findSpare_48 : decode cX4_findSpare 48 = .ok (.iinc 3 1, 3) := by decide +kernel
theorem dX4_findSpare_51 : decode cX4_findSpare 51 = .ok (.goto (-36), 3) := by decide +kernel
theorem dX4_findSpare_54 : decode cX4_findSpare 54 = .ok (.iinc 2 1, 3) := by decide +kernel
theorem dX4_findSpare_57 : decode cX4_findSpare 57 = .ok (.goto (-55), 3) := by decide +kernel
theorem dX4_findSpare_60 : decode cX4_findSpare 60 = .ok (.return_, 1) := by decide +kernel
theorem dX4_useSpare_0 : decode cX4_useSpare 0 = .ok (.iconst 0, 1) := by decide +kernel
theorem dX4_useSpare_1 : decode cX4_useSpare 1 = .ok (.istore 4, 2) := by decide +kernel
theorem dX4_useSpare_3 : decode cX4_useSpare 3 = .ok (.iload 4, 2) := by decide +kernel
theorem dX4_useSpare_5 : decode cX4_useSpare 5 = .ok (.aload_n 0, 1) := by decide +kernel
theorem dX4_useSpare_6 : decode cX4_useSpare 6 = .ok (.getfield 12, 3) := by decide +kernel
theorem dX4_useSpare_9 : decode cX4_useSpare 9 = .ok (.getfield 93, 3) := by decide +kernel
theorem dX4_useSpare_12 : decode cX4_useSpare 12 = .ok (.if_icmp .ge 53, 3) := by decide +kernel
theorem dX4_useSpare_15 : decode cX4_useSpare 15 = .ok (.iload_n 2, 1) := by decide +kernel
theorem dX4_useSpare_16 : decode cX4_useSpare 16 = .ok (.istore 5, 2) := by decide +kernel
theorem dX4_useSpare_18 : decode cX4_useSpare 18 = .ok (.iload 5, 2) := by decide +kernel
theorem dX4_useSpare_20 : decode cX4_useSpare 20 = .ok (.bipush 24, 2) := by decide +kernel
theorem dX4_useSpare_22 : decode cX4_useSpare 22 = .ok (.if_icmp .ge 37, 3) := by decide +kernel
theorem dX4_useSpare_25 : decode cX4_useSpare 25 = .ok (.aload_n 0, 1) := by decide +kernel
theorem dX4_useSpare_26 : decode cX4_useSpare 26 = .ok (.getfield 46, 3) := by decide +kernel
theorem dX4_useSpare_29 : decode cX4_useSpare 29 = .ok (.iload 4, 2) := by decide +kernel
theorem dX4_useSpare_31 : decode cX4_useSpare 31 = .ok (.bipush 24, 2) := by decide +kernel
theorem dX4_useSpare_33 : decode cX4_useSpare 33 = .ok (.imul, 1) := by decide +kernel
theorem dX4_useSpare_34 : decode cX4_useSpare 34 = .ok (.iload 5, 2) := by decide +kernel
theorem dX4_useSpare_36 : decode cX4_useSpare 36 = .ok (.iadd, 1) := by decide +kernel
theorem dX4_useSpare_37 : decode cX4_useSpare 37 = .ok (.dup2, 1) := by decide +kernel
theorem dX4_useSpare_38 : decode cX4_useSpare 38 = .ok (.iaload, 1) := by decide +kernel
theorem dX4_useSpare_39 : decode cX4_useSpare 39 = .ok (.iload_n 3, 1) := by decide +kernel
theorem dX4_useSpare_40 : decode cX4_useSpare 40 = .ok (.aload_n 0, 1) := by decide +kernel
theorem dX4_useSpare_41 : decode cX4_useSpare 41 = .ok (.iload 4, 2) := by decide +kernel
theorem dX4_useSpare_43 : decode cX4_useSpare 43 = .ok (.iload 5, 2) := by decide +kernel
theorem dX4_useSpare_45 : decode cX4_useSpare 45 = .ok (.iload_n 1, 1) := by decide +kernel
theorem dX4_useSpare_46 : decode cX4_useSpare 46 = .ok (.iload_n 2, 1) := by decide +kernel
theorem dX4_useSpare_47 : decode cX4_useSpare 47 = .ok (.invokevirtual 107, 3) := by decide +kernel
theorem dX4_useSpare_50 : decode cX4_useSpare 50 = .ok (.imul, 1) := by decide +kernel
theorem dX4_useSpare_51 : decode cX4_useSpare 51 = .ok (.isub, 1) := by decide +kernel
theorem dX4_useSpare_52 : decode cX4_useSpare 52 = .ok (.iastore, 1) := by decide +kernel
theorem dX4_useSpare_53 : decode cX4_useSpare 53 = .ok (.iinc 5 1, 3) := by decide +kernel
theorem dX4_useSpare_56 : decode cX4_useSpare 56 = .ok (.goto (-38), 3) := by decide +kernel
theorem dX4_useSpare_59 : decode cX4_useSpare 59 = .ok (.iinc 4 1, 3) := by decide +kernel
theorem dX4_useSpare_62 : decode cX4_useSpare 62 = .ok (.goto (-59), 3) := by decide +kernel
theorem dX4_useSpare_65 : decode cX4_useSpare 65 = .ok (.return_, 1) := by decide +kernel
theorem dX4_freeOf_0 : decode cX4_freeOf 0 = .ok (.aload_n 0, 1) := by decide +kernel
theorem dX4_freeOf_1 : decode cX4_freeOf 1 = .ok (.getfield 12, 3) := by decide +kernel
theorem dX4_freeOf_4 : decode cX4_freeOf 4 = .ok (.iload_n 1, 1) := by decide +kernel
theorem dX4_freeOf_5 : decode cX4_freeOf 5 = .ok (.invokevirtual 110, 3) := by decide +kernel
theorem dX4_freeOf_8 : decode cX4_freeOf 8 = .ok (.ifCond .ne 5, 3) := by decide +kernel
theorem dX4_freeOf_11 : decode cX4_freeOf 11 = .ok (.iconst 0, 1) := by decide +kernel
theorem dX4_freeOf_12 : decode cX4_freeOf 12 = .ok (.ireturn, 1) := by decide +kernel
theorem dX4_freeOf_13 : decode cX4_freeOf 13 = .ok (.sipush 1000, 3) := by decide +kernel
theorem dX4_freeOf_16 : decode cX4_freeOf 16 = .ok (.istore_n 3, 1) := by decide +kernel
theorem dX4_freeOf_17 : decode cX4_freeOf 17 = .ok (.iconst 0, 1) := by decide +kernel
theorem dX4_freeOf_18 : decode cX4_freeOf 18 = .ok (.istore 4, 2) := by decide +kernel
theorem dX4_freeOf_20 : decode cX4_freeOf 20 = .ok (.iload 4, 2) := by decide +kernel
theorem dX4_freeOf_22 : decode cX4_freeOf 22 = .ok (.aload_n 0, 1) := by decide +kernel
theorem dX4_freeOf_23 : decode cX4_freeOf 23 = .ok (.getfield 12, 3) := by decide +kernel
theorem dX4_freeOf_26 : decode cX4_freeOf 26 = .ok (.getfield 93, 3) := by decide +kernel
theorem dX4_freeOf_29 : decode cX4_freeOf 29 = .ok (.if_icmp .ge 67, 3) := by decide +kernel
theorem dX4_freeOf_32 : decode cX4_freeOf 32 = .ok (.iload_n 2, 1) := by decide +kernel
theorem dX4_freeOf_33 : decode cX4_freeOf 33 = .ok (.istore 5, 2) := by decide +kernel
theorem dX4_freeOf_35 : decode cX4_freeOf 35 = .ok (.iload 5, 2) := by decide +kernel
theorem dX4_freeOf_37 : decode cX4_freeOf 37 = .ok (.bipush 24, 2) := by decide +kernel
theorem dX4_freeOf_39 : decode cX4_freeOf 39 = .ok (.if_icmp .ge 51, 3) := by decide +kernel
theorem dX4_freeOf_42 : decode cX4_freeOf 42 = .ok (.aload_n 0, 1) := by decide +kernel
theorem dX4_freeOf_43 : decode cX4_freeOf 43 = .ok (.iload 4, 2) := by decide +kernel
theorem dX4_freeOf_45 : decode cX4_freeOf 45 = .ok (.iload 5, 2) := by decide +kernel
theorem dX4_freeOf_47 : decode cX4_freeOf 47 = .ok (.iload_n 1, 1) := by decide +kernel
theorem dX4_freeOf_48 : decode cX4_freeOf 48 = .ok (.iload_n 2, 1) := by decide +kernel
theorem dX4_freeOf_49 : decode cX4_freeOf 49 = .ok (.invokevirtual 107, 3) := by decide +kernel
theorem dX4_freeOf_52 : decode cX4_freeOf 52 = .ok (.istore 6, 2) := by decide +kernel
theorem dX4_freeOf_54 : decode cX4_freeOf 54 = .ok (.iload 6, 2) := by decide +kernel
theorem dX4_freeOf_56 : decode cX4_freeOf 56 = .ok (.ifCond .le 28, 3) := by decide +kernel
theorem dX4_freeOf_59 : decode cX4_freeOf 59 = .ok (.iload_n 3, 1) := by decide +kernel
theorem dX4_freeOf_60 : decode cX4_freeOf 60 = .ok (.iconst 0, 1) := by decide +kernel
theorem dX4_freeOf_61 : decode cX4_freeOf 61 = .ok (.aload_n 0, 1) := by decide +kernel
theorem dX4_freeOf_62 : decode cX4_freeOf 62 = .ok (.getfield 46, 3) := by decide +kernel
theorem dX4_freeOf_65 : decode cX4_freeOf 65 = .ok (.iload 4, 2) := by decide +kernel
theorem dX4_freeOf_67 : decode cX4_freeOf 67 = .ok (.bipush 24, 2) := by decide +kernel
theorem dX4_freeOf_69 : decode cX4_freeOf 69 = .ok (.imul, 1) := by decide +kernel
theorem dX4_freeOf_70 : decode cX4_freeOf 70 = .ok (.iload 5, 2) := by decide +kernel
theorem dX4_freeOf_72 : decode cX4_freeOf 72 = .ok (.iadd, 1) := by decide +kernel
theorem dX4_freeOf_73 : decode cX4_freeOf 73 = .ok (.iaload, 1) := by decide +kernel
theorem dX4_freeOf_74 : decode cX4_freeOf 74 = .ok (.invokestatic 75, 3) := by decide +kernel
theorem dX4_freeOf_77 : decode cX4_freeOf 77 = .ok (.iload 6, 2) := by decide +kernel
theorem dX4_freeOf_79 : decode cX4_freeOf 79 = .ok (.idiv, 1) := by decide +kernel
theorem dX4_freeOf_80 : decode cX4_freeOf 80 = .ok (.invokestatic 114, 3) := by decide +kernel
theorem dX4_freeOf_83 : decode cX4_freeOf 83 = .ok (.istore_n 3, 1) := by decide +kernel
theorem dX4_freeOf_84 : decode cX4_freeOf 84 = .ok (.iinc 5 1, 3) := by decide +kernel
theorem dX4_freeOf_87 : decode cX4_freeOf 87 = .ok (.goto (-52), 3) := by decide +kernel
theorem dX4_freeOf_90 : decode cX4_freeOf 90 = .ok (.iinc 4 1, 3) := by decide +kernel
theorem dX4_freeOf_93 : decode cX4_freeOf 93 = .ok (.goto (-73), 3) := by decide +kernel
theorem dX4_freeOf_96 : decode cX4_freeOf 96 = .ok (.iload_n 3, 1) := by decide +kernel
theorem dX4_freeOf_97 : decode cX4_freeOf 97 = .ok (.ireturn, 1) := by decide +kernel
theorem dX4_unserve_0 : decode cX4_unserve 0 = .ok (.iconst 0, 1) := by decide +kernel
theorem dX4_unserve_1 : decode cX4_unserve 1 = .ok (.istore_n 2, 1) := by decide +kernel
theorem dX4_unserve_2 : decode cX4_unserve 2 = .ok (.iload_n 2, 1) := by decide +kernel
theorem dX4_unserve_3 : decode cX4_unserve 3 = .ok (.aload_n 0, 1) := by decide +kernel
theorem dX4_unserve_4 : decode cX4_unserve 4 = .ok (.getfield 28, 3) := by decide +kernel
theorem dX4_unserve_7 : decode cX4_unserve 7 = .ok (.getfield 117, 3) := by decide +kernel
theorem dX4_unserve_10 : decode cX4_unserve 10 = .ok (.if_icmp .ge 48, 3) := by decide +kernel
theorem dX4_unserve_13 : decode cX4_unserve 13 = .ok (.aload_n 0, 1) := by decide +kernel
theorem dX4_unserve_14 : decode cX4_unserve 14 = .ok (.getfield 28, 3) := by decide +kernel
theorem dX4_unserve_17 : decode cX4_unserve 17 = .ok (.getfield 118, 3) := by decide +kernel
theorem dX4_unserve_20 : decode cX4_unserve 20 = .ok (.iload_n 2, 1) := by decide +kernel
theorem dX4_unserve_21 : decode cX4_unserve 21 = .ok (.iconst (-1), 1) := by decide +kernel
theorem dX4_unserve_22 : decode cX4_unserve 22 = .ok (.iastore, 1) := by decide +kernel
theorem dX4_unserve_23 : decode cX4_unserve 23 = .ok (.iload_n 1, 1) := by decide +kernel
theorem dX4_unserve_24 : decode cX4_unserve 24 = .ok (.istore_n 3, 1) := by decide +kernel
theorem dX4_unserve_25 : decode cX4_unserve 25 = .ok (.iload_n 3, 1) := by decide +kernel
theorem dX4_unserve_26 : decode cX4_unserve 26 = .ok (.bipush 24, 2) := by decide +kernel
theorem dX4_unserve_28 : decode cX4_unserve 28 = .ok (.if_icmp .ge 24, 3) := by decide +kernel
theorem dX4_unserve_31 : decode cX4_unserve 31 = .ok (.aload_n 0, 1) := by decide +kernel
theorem dX4_unserve_32 : decode cX4_unserve 32 = .ok (.aload_n 0, 1) := by decide +kernel
theorem dX4_unserve_33 : decode cX4_unserve 33 = .ok (.getfield 28, 3) := by decide +kernel
theorem dX4_unserve_36 : decode cX4_unserve 36 = .ok (.getfield 121, 3) := by decide +kernel
theorem dX4_unserve_39 : decode cX4_unserve 39 = .ok (.iload_n 2, 1) := by decide +kernel
theorem dX4_unserve_40 : decode cX4_unserve 40 = .ok (.iaload, 1) := by decide +kernel
theorem dX4_unserve_41 : decode cX4_unserve 41 = .ok (.iload_n 3, 1) := by decide +kernel
theorem dX4_unserve_42 : decode cX4_unserve 42 = .ok (.iconst 0, 1) := by decide +kernel
theorem dX4_unserve_43 : decode cX4_unserve 43 = .ok (.invokevirtual 123, 3) := by decide +kernel
theorem dX4_unserve_46 : decode cX4_unserve 46 = .ok (.iinc 3 1, 3) := by decide +kernel
theorem dX4_unserve_49 : decode cX4_unserve 49 = .ok (.goto (-24), 3) := by decide +kernel
theorem dX4_unserve_52 : decode cX4_unserve 52 = .ok (.iinc 2 1, 3) := by decide +kernel
theorem dX4_unserve_55 : decode cX4_unserve 55 = .ok (.goto (-53), 3) := by decide +kernel
theorem dX4_unserve_58 : decode cX4_unserve 58 = .ok (.return_, 1) := by decide +kernel
theorem dX4_grant_0 : decode cX4_grant 0 = .ok (.aload_n 0, 1) := by decide +kernel
theorem dX4_grant_1 : decode cX4_grant 1 = .ok (.getfield 28, 3) := by decide +kernel
theorem dX4_grant_4 : decode cX4_grant 4 = .ok (.getfield 121, 3) := by decide +kernel
theorem dX4_grant_7 : decode cX4_grant 7 = .ok (.iload_n 1, 1) := by decide +kernel
theorem dX4_grant_8 : decode cX4_grant 8 = .ok (.iaload, 1) := by decide +kernel
theorem dX4_grant_9 : decode cX4_grant 9 = .ok (.istore 4, 2) := by decide +kernel
theorem dX4_grant_11 : decode cX4_grant 11 = .ok (.aload_n 0, 1) := by decide +kernel
theorem dX4_grant_12 : decode cX4_grant 12 = .ok (.getfield 28, 3) := by decide +kernel
theorem dX4_grant_15 : decode cX4_grant 15 = .ok (.getfield 127, 3) := by decide +kernel
theorem dX4_grant_18 : decode cX4_grant 18 = .ok (.iload_n 1, 1) := by decide +kernel
theorem dX4_grant_19 : decode cX4_grant 19 = .ok (.iaload, 1) := by decide +kernel
theorem dX4_grant_20 : decode cX4_grant 20 = .ok (.iload_n 3, 1) := by decide +kernel
theorem dX4_grant_21 : decode cX4_grant 21 = .ok (.invokestatic 114, 3) := by decide +kernel
theorem dX4_grant_24 : decode cX4_grant 24 = .ok (.istore 5, 2) := by decide +kernel
theorem dX4_grant_26 : decode cX4_grant 26 = .ok (.iload 5, 2) := by decide +kernel
theorem dX4_grant_28 : decode cX4_grant 28 = .ok (.aload_n 0, 1) := by decide +kernel
theorem dX4_grant_29 : decode cX4_grant 29 = .ok (.iload 4, 2) := by decide +kernel
theorem dX4_grant_31 : decode cX4_grant 31 = .ok (.iload_n 2, 1) := by decide +kernel
theorem dX4_grant_32 : decode cX4_grant 32 = .ok (.invokevirtual 130, 3) := by decide +kernel
theorem dX4_grant_35 : decode cX4_grant 35 = .ok (.invokestatic 114, 3) := by decide +kernel
theorem dX4_grant_38 : decode cX4_grant 38 = .ok (.istore 5, 2) := by decide +kernel
theorem dX4_grant_40 : decode cX4_grant 40 = .ok (.iload_n 2, 1) := by decide +kernel
theorem dX4_grant_41 : decode cX4_grant 41 = .ok (.istore 6, 2) := by decide +kernel
theorem dX4_grant_43 : decode cX4_grant 43 = .ok (.iload 6, 2) := by decide +kernel
theorem dX4_grant_45 : decode cX4_grant 45 = .ok (.bipush 24, 2) := by decide +kernel
theorem dX4_grant_47 : decode cX4_grant 47 = .ok (.if_icmp .ge 42, 3) := by decide +kernel
theorem dX4_grant_50 : decode cX4_grant 50 = .ok (.aload_n 0, 1) := by decide +kernel
theorem dX4_grant_51 : decode cX4_grant 51 = .ok (.getfield 12, 3) := by decide +kernel
theorem dX4_grant_54 : decode cX4_grant 54 = .ok (.iload 4, 2) := by decide +kernel
theorem dX4_grant_56 : decode cX4_grant 56 = .ok (.iload 6, 2) := by decide +kernel
theorem dX4_grant_58 : decode cX4_grant 58 = .ok (.invokevirtual 53, 3) := by decide +kernel
theorem dX4_grant_61 : decode cX4_grant 61 = .ok (.ifCond .eq 22, 3) := by decide +kernel
theorem dX4_grant_64 : decode cX4_grant 64 = .ok (.aload_n 0, 1) := by decide +kernel
theorem dX4_grant_65 : decode cX4_grant 65 = .ok (.iload 4, 2) := by decide +kernel
theorem dX4_grant_67 : decode cX4_grant 67 = .ok (.iload 6, 2) := by decide +kernel
theorem dX4_grant_69 : decode cX4_grant 69 = .ok (.aload_n 0, 1) := by decide +kernel
theorem dX4_grant_70 : decode cX4_grant 70 = .ok (.iload 4, 2) := by decide +kernel
theorem dX4_grant_72 : decode cX4_grant 72 = .ok (.iload 6, 2) := by decide +kernel
theorem dX4_grant_74 : decode cX4_grant 74 = .ok (.invokevirtual 49, 3) := by decide +kernel
theorem dX4_grant_77 : decode cX4_grant 77 = .ok (.iload 5, 2) := by decide +kernel
theorem dX4_grant_79 : decode cX4_grant 79 = .ok (.iadd, 1) := by decide +kernel
theorem dX4_grant_80 : decode cX4_grant 80 = .ok (.invokevirtual 123, 3) := by decide +kernel
theorem dX4_grant_83 : decode cX4_grant 83 = .ok (.iinc 6 1, 3) := by decide +kernel
theorem dX4_grant_86 : decode cX4_grant 86 = .ok (.goto (-43), 3) := by decide +kernel
theorem dX4_grant_89 : decode cX4_grant 89 = .ok (.aload_n 0, 1) := by decide +kernel
theorem dX4_grant_90 : decode cX4_grant 90 = .ok (.iload 4, 2) := by decide +kernel
theorem dX4_grant_92 : decode cX4_grant 92 = .ok (.iload_n 2, 1) := by decide +kernel
theorem dX4_grant_93 : decode cX4_grant 93 = .ok (.iload 5, 2) := by decide +kernel
theorem dX4_grant_95 : decode cX4_grant 95 = .ok (.invokevirtual 133, 3) := by decide +kernel
theorem dX4_grant_98 : decode cX4_grant 98 = .ok (.aload_n 0, 1) := by decide +kernel
theorem dX4_grant_99 : decode cX4_grant 99 = .ok (.getfield 28, 3) := by decide +kernel
theorem dX4_grant_102 : decode cX4_grant 102 = .ok (.getfield 118, 3) := by decide +kernel
theorem dX4_grant_105 : decode cX4_grant 105 = .ok (.iload_n 1, 1) := by decide +kernel
theorem dX4_grant_106 : decode cX4_grant 106 = .ok (.iload 5, 2) := by decide +kernel
theorem dX4_grant_108 : decode cX4_grant 108 = .ok (.iastore, 1) := by decide +kernel
theorem dX4_grant_109 : decode cX4_grant 109 = .ok (.iload 5, 2) := by decide +kernel
theorem dX4_grant_111 : decode cX4_grant 111 = .ok (.ireturn, 1) := by decide +kernel
theorem dX4_roomForDraws_0 : decode cX4_roomForDraws 0 = .ok (.sipush 1000, 3) := by decide +kernel
theorem dX4_roomForDraws_3 : decode cX4_roomForDraws 3 = .ok (.istore_n 3, 1) := by decide +kernel
theorem dX4_roomForDraws_4 : decode cX4_roomForDraws 4 = .ok (.iload_n 2, 1) := by decide +kernel
theorem dX4_roomForDraws_5 : decode cX4_roomForDraws 5 = .ok (.istore 4, 2) := by decide +kernel
theorem dX4_roomForDraws_7 : decode cX4_roomForDraws 7 = .ok (.iload 4, 2) := by decide +kernel
theorem dX4_roomForDraws_9 : decode cX4_roomForDraws 9 = .ok (.bipush 24, 2) := by decide +kernel
theorem dX4_roomForDraws_11 : decode cX4_roomForDraws 11 = .ok (.if_icmp .ge 38, 3) := by decide +kernel
theorem dX4_roomForDraws_14 : decode cX4_roomForDraws 14 = .ok (.aload_n 0, 1) := by decide +kernel
theorem dX4_roomForDraws_15 : decode cX4_roomForDraws 15 = .ok (.getfield 12, 3) := by decide +kernel
theorem dX4_roomForDraws_18 : decode cX4_roomForDraws 18 = .ok (.iload_n 1, 1) := by decide +kernel
theorem dX4_roomForDraws_19 : decode cX4_roomForDraws 19 = .ok (.iload 4, 2) := by decide +kernel
theorem dX4_roomForDraws_21 : decode cX4_roomForDraws 21 = .ok (.invokevirtual 53, 3) := by decide +kernel
theorem dX4_roomForDraws_24 : decode cX4_roomForDraws 24 = .ok (.ifCond .eq 19, 3) := by decide +kernel
theorem dX4_roomForDraws_27 : decode cX4_roomForDraws 27 = .ok (.iload_n 3, 1) := by decide +kernel
theorem dX4_roomForDraws_28 : decode cX4_roomForDraws 28 = .ok (.sipush 1000, 3) := by decide +kernel
theorem dX4_roomForDraws_31 : decode cX4_roomForDraws 31 = .ok (.aload_n 0, 1) := by decide +kernel
theorem dX4_roomForDraws_32 : decode cX4_roomForDraws 32 = .ok (.iload_n 1, 1) := by decide +kernel
theorem dX4_roomForDraws_33 : decode cX4_roomForDraws 33 = .ok (.iload 4, 2) := by decide +kernel
theorem dX4_roomForDraws_35 : decode cX4_roomForDraws 35 = .ok (.invokevirtual 49, 3) := by decide +kernel
theorem dX4_roomForDraws_38 : decode cX4_roomForDraws 38 = .ok (.isub, 1) := by decide +kernel
theorem dX4_roomForDraws_39 : decode cX4_roomForDraws 39 = .ok (.invokestatic 114, 3) := by decide +kernel
theorem dX4_roomForDraws_42 : decode cX4_roomForDraws 42 = .ok (.istore_n 3, 1) := by decide +kernel
theorem dX4_roomForDraws_43 : decode cX4_roomForDraws 43 = .ok (.iinc 4 1, 3) := by decide +kernel
theorem dX4_roomForDraws_46 : decode cX4_roomForDraws 46 = .ok (.goto (-39), 3) := by decide +kernel
theorem dX4_roomForDraws_49 : decode cX4_roomForDraws 49 = .ok (.iload_n 3, 1) := by decide +kernel
theorem dX4_roomForDraws_50 : decode cX4_roomForDraws 50 = .ok (.ireturn, 1) := by decide +kernel
theorem dX4_leastToHold_0 : decode cX4_leastToHold 0 = .ok (.aload_n 0, 1) := by decide +kernel
theorem dX4_leastToHold_1 : decode cX4_leastToHold 1 = .ok (.getfield 21, 3) := by decide +kernel
theorem dX4_leastToHold_4 : decode cX4_leastToHold 4 = .ok (.getfield 80, 3) := by decide +kernel
theorem dX4_leastToHold_7 : decode cX4_leastToHold 7 = .ok (.aload_n 0, 1) := by decide +kernel
theorem dX4_leastToHold_8 : decode cX4_leastToHold 8 = .ok (.iload_n 1, 1) := by decide +kernel
theorem dX4_leastToHold_9 : decode cX4_leastToHold 9 = .ok (.iload_n 1, 1) := by decide +kernel
theorem dX4_leastToHold_10 : decode cX4_leastToHold 10 = .ok (.invokevirtual 72, 3) := by decide +kernel
theorem dX4_leastToHold_13 : decode cX4_leastToHold 13 = .ok (.iaload, 1) := by decide +kernel
theorem dX4_leastToHold_14 : decode cX4_leastToHold 14 = .ok (.istore 4, 2) := by decide +kernel
theorem dX4_leastToHold_16 : decode cX4_leastToHold 16 = .ok (.iload_n 3, 1) := by decide +kernel
theorem dX4_leastToHold_17 : decode cX4_leastToHold 17 = .ok (.aload_n 0, 1) := by decide +kernel
theorem dX4_leastToHold_18 : decode cX4_leastToHold 18 = .ok (.iload_n 1, 1) := by decide +kernel
theorem dX4_leastToHold_19 : decode cX4_leastToHold 19 = .ok (.iload_n 2, 1) := by decide +kernel
theorem dX4_leastToHold_20 : decode cX4_leastToHold 20 = .ok (.invokevirtual 101, 3) := by decide +kernel
theorem dX4_leastToHold_23 : decode cX4_leastToHold 23 = .ok (.aload_n 0, 1) := by decide +kernel
theorem dX4_leastToHold_24 : decode cX4_leastToHold 24 = .ok (.iload_n 1, 1) := by decide +kernel
theorem dX4_leastToHold_25 : decode cX4_leastToHold 25 = .ok (.iload_n 2, 1) := by decide +kernel
theorem dX4_leastToHold_26 : decode cX4_leastToHold 26 = .ok (.invokevirtual 49, 3) := by decide +kernel
theorem dX4_leastToHold_29 : decode cX4_leastToHold 29 = .ok (.iload 4, 2) := by decide +kernel
theorem dX4_leastToHold_31 : decode cX4_leastToHold 31 = .ok (.imul, 1) := by decide +kernel
theorem dX4_leastToHold_32 : decode cX4_leastToHold 32 = .ok (.isub, 1) := by decide +kernel
theorem dX4_leastToHold_33 : decode cX4_leastToHold 33 = .ok (.isub, 1) := by decide +kernel
theorem dX4_leastToHold_34 : decode cX4_leastToHold 34 = .ok (.istore 5, 2) := by decide +kernel
theorem dX4_leastToHold_36 : decode cX4_leastToHold 36 = .ok (.iload 5, 2) := by decide +kernel
theorem dX4_leastToHold_38 : decode cX4_leastToHold 38 = .ok (.ifCond .gt 5, 3) := by decide +kernel
theorem dX4_leastToHold_41 : decode cX4_leastToHold 41 = .ok (.iconst 0, 1) := by decide +kernel
theorem dX4_leastToHold_42 : decode cX4_leastToHold 42 = .ok (.ireturn, 1) := by decide +kernel
theorem dX4_leastToHold_43 : decode cX4_leastToHold 43 = .ok (.iload 4, 2) := by decide +kernel
theorem dX4_leastToHold_45 : decode cX4_leastToHold 45 = .ok (.ifCond .le 16, 3) := by decide +kernel
theorem dX4_leastToHold_48 : decode cX4_leastToHold 48 = .ok (.iload 5, 2) := by decide +kernel
theorem dX4_leastToHold_50 : decode cX4_leastToHold 50 = .ok (.iload 4, 2) := by decide +kernel
theorem dX4_leastToHold_52 : decode cX4_leastToHold 52 = .ok (.iadd, 1) := by decide +kernel
theorem dX4_leastToHold_53 : decode cX4_leastToHold 53 = .ok (.iconst 1, 1) := by decide +kernel
theorem dX4_leastToHold_54 : decode cX4_leastToHold 54 = .ok (.isub, 1) := by decide +kernel
theorem dX4_leastToHold_55 : decode cX4_leastToHold 55 = .ok (.iload 4, 2) := by decide +kernel
theorem dX4_leastToHold_57 : decode cX4_leastToHold 57 = .ok (.idiv, 1) := by decide +kernel
theorem dX4_leastToHold_58 : decode cX4_leastToHold 58 = .ok (.goto 6, 3) := by decide +kernel
theorem dX4_leastToHold_61 : decode cX4_leastToHold 61 = .ok (.sipush 1001, 3) := by decide +kernel
theorem dX4_leastToHold_64 : decode cX4_leastToHold 64 = .ok (.ireturn, 1) := by decide +kernel
theorem dX4_mostToMove_0 : decode cX4_mostToMove 0 = .ok (.aload_n 0, 1) := by decide +kernel
theorem dX4_mostToMove_1 : decode cX4_mostToMove 1 = .ok (.getfield 12, 3) := by decide +kernel
theorem dX4_mostToMove_4 : decode cX4_mostToMove 4 = .ok (.iload_n 1, 1) := by decide +kernel
theorem dX4_mostToMove_5 : decode cX4_mostToMove 5 = .ok (.iload_n 2, 1) := by decide +kernel
theorem dX4_mostToMove_6 : decode cX4_mostToMove 6 = .ok (.invokevirtual 53, 3) := by decide +kernel
theorem dX4_mostToMove_9 : decode cX4_mostToMove 9 = .ok (.ifCond .ne 7, 3) := by decide +kernel
theorem dX4_mostToMove_12 : decode cX4_mostToMove 12 = .ok (.sipush 1000, 3) := by decide +kernel
theorem dX4_mostToMove_15 : decode cX4_mostToMove 15 = .ok (.ireturn, 1) := by decide +kernel
theorem dX4_mostToMove_16 : decode cX4_mostToMove 16 = .ok (.sipush 1000, 3) := by decide +kernel
theorem dX4_mostToMove_19 : decode cX4_mostToMove 19 = .ok (.istore 4, 2) := by decide +kernel
theorem dX4_mostToMove_21 : decode cX4_mostToMove 21 = .ok (.aload_n 0, 1) := by decide +kernel
theorem dX4_mostToMove_22 : decode cX4_mostToMove 22 = .ok (.iload_n 3, 1) := by decide +kernel
theorem dX4_mostToMove_23 : decode cX4_mostToMove 23 = .ok (.iload_n 2, 1) := by decide +kernel
theorem dX4_mostToMove_24 : decode cX4_mostToMove 24 = .ok (.invokevirtual 136, 3) := by decide +kernel
theorem dX4_mostToMove_27 : decode cX4_mostToMove 27 = .ok (.istore 5, 2) := by decide +kernel
theorem dX4_mostToMove_29 : decode cX4_mostToMove 29 = .ok (.iconst 0, 1) := by decide +kernel
theorem dX4_mostToMove_30 : decode cX4_mostToMove 30 = .ok (.istore 6, 2) := by decide +kernel
theorem dX4_mostToMove_32 : decode cX4_mostToMove 32 = .ok (.iload 6, 2) := by decide +kernel
theorem dX4_mostToMove_34 : decode cX4_mostToMove 34 = .ok (.aload_n 0, 1) := by decide +kernel
theorem dX4_mostToMove_35 : decode cX4_mostToMove 35 = .ok (.getfield 12, 3) := by decide +kernel
theorem dX4_mostToMove_38 : decode cX4_mostToMove 38 = .ok (.getfield 93, 3) := by decide +kernel
theorem dX4_mostToMove_41 : decode cX4_mostToMove 41 = .ok (.if_icmp .ge 109, 3) := by decide +kernel
theorem dX4_mostToMove_44 : decode cX4_mostToMove 44 = .ok (.aload_n 0, 1) := by decide +kernel
theorem dX4_mostToMove_45 : decode cX4_mostToMove 45 = .ok (.iload 6, 2) := by decide +kernel
theorem dX4_mostToMove_47 : decode cX4_mostToMove 47 = .ok (.iload_n 1, 1) := by decide +kernel
theorem dX4_mostToMove_48 : decode cX4_mostToMove 48 = .ok (.invokevirtual 72, 3) := by decide +kernel
theorem dX4_mostToMove_51 : decode cX4_mostToMove 51 = .ok (.istore 7, 2) := by decide +kernel
theorem dX4_mostToMove_53 : decode cX4_mostToMove 53 = .ok (.aload_n 0, 1) := by decide +kernel
theorem dX4_mostToMove_54 : decode cX4_mostToMove 54 = .ok (.iload 6, 2) := by decide +kernel
theorem dX4_mostToMove_56 : decode cX4_mostToMove 56 = .ok (.iload_n 3, 1) := by decide +kernel
theorem dX4_mostToMove_57 : decode cX4_mostToMove 57 = .ok (.invokevirtual 72, 3) := by decide +kernel
theorem dX4_mostToMove_60 : decode cX4_mostToMove 60 = .ok (.istore 8, 2) := by decide +kernel
theorem dX4_mostToMove_62 : decode cX4_mostToMove 62 = .ok (.iconst 0, 1) := by decide +kernel
theorem dX4_mostToMove_63 : decode cX4_mostToMove 63 = .ok (.istore 9, 2) := by decide +kernel
theorem dX4_mostToMove_65 : decode cX4_mostToMove 65 = .ok (.iload 9, 2) := by decide +kernel
theorem dX4_mostToMove_67 : decode cX4_mostToMove 67 = .ok (.bipush 12, 2) := by decide +kernel
theorem dX4_mostToMove_69 : decode cX4_mostToMove 69 = .ok (.if_icmp .ge 75, 3) := by decide +kernel
theorem dX4_mostToMove_72 : decode cX4_mostToMove 72 = .ok (.iload_n 2, 1) := by decide +kernel
theorem dX4_mostToMove_73 : decode cX4_mostToMove 73 = .ok (.iload 9, 2) := by decide +kernel
theorem dX4_mostToMove_75 : decode cX4_mostToMove 75 = .ok (.iadd, 1) := by decide +kernel
theorem dX4_mostToMove_76 : decode cX4_mostToMove 76 = .ok (.bipush 24, 2) := by decide +kernel
theorem dX4_mostToMove_78 : decode cX4_mostToMove 78 = .ok (.if_icmp .ge 66, 3) := by decide +kernel
theorem dX4_mostToMove_81 : decode cX4_mostToMove 81 = .ok (.aload_n 0, 1) := by decide +kernel
theorem dX4_mostToMove_82 : decode cX4_mostToMove 82 = .ok (.getfield 21, 3) := by decide +kernel
theorem dX4_mostToMove_85 : decode cX4_mostToMove 85 = .ok (.getfield 80, 3) := by decide +kernel
theorem dX4_mostToMove_88 : decode cX4_mostToMove 88 = .ok (.iload 7, 2) := by decide +kernel
theorem dX4_mostToMove_90 : decode cX4_mostToMove 90 = .ok (.iload 9, 2) := by decide +kernel
theorem dX4_mostToMove_92 : decode cX4_mostToMove 92 = .ok (.iadd, 1) := by decide +kernel
theorem dX4_mostToMove_93 : decode cX4_mostToMove 93 = .ok (.iaload, 1) := by decide +kernel
theorem dX4_mostToMove_94 : decode cX4_mostToMove 94 = .ok (.istore 10, 2) := by decide +kernel
theorem dX4_mostToMove_96 : decode cX4_mostToMove 96 = .ok (.iload 10, 2) := by decide +kernel
theorem dX4_mostToMove_98 : decode cX4_mostToMove 98 = .ok (.ifCond .le 40, 3) := by decide +kernel
theorem dX4_mostToMove_101 : decode cX4_mostToMove 101 = .ok (.iload 5, 2) := by decide +kernel
theorem dX4_mostToMove_103 : decode cX4_mostToMove 103 = .ok (.aload_n 0, 1) := by decide +kernel
theorem dX4_mostToMove_104 : decode cX4_mostToMove 104 = .ok (.getfield 21, 3) := by decide +kernel
theorem dX4_mostToMove_107 : decode cX4_mostToMove 107 = .ok (.getfield 80, 3) := by decide +kernel
theorem dX4_mostToMove_110 : decode cX4_mostToMove 110 = .ok (.iload 8, 2) := by decide +kernel
theorem dX4_mostToMove_112 : decode cX4_mostToMove 112 = .ok (.iload 9, 2) := by decide +kernel
theorem dX4_mostToMove_114 : decode cX4_mostToMove 114 = .ok (.iadd, 1) := by decide +kernel
theorem dX4_mostToMove_115 : decode cX4_mostToMove 115 = .ok (.iaload, 1) := by decide +kernel
theorem dX4_mostToMove_116 : decode cX4_mostToMove 116 = .ok (.imul, 1) := by decide +kernel
theorem dX4_mostToMove_117 : decode cX4_mostToMove 117 = .ok (.iload 10, 2) := by decide +kernel
theorem dX4_mostToMove_119 : decode cX4_mostToMove 119 = .ok (.idiv, 1) := by decide +kernel
theorem dX4_mostToMove_120 : decode cX4_mostToMove 120 = .ok (.istore 11, 2) := by decide +kernel
theorem dX4_mostToMove_122 : decode cX4_mostToMove 122 = .ok (.iload 4, 2) := by decide +kernel
theorem dX4_mostToMove_124 : decode cX4_mostToMove 124 = .ok (.aload_n 0, 1) := by decide +kernel
theorem dX4_mostToMove_125 : decode cX4_mostToMove 125 = .ok (.iload_n 1, 1) := by decide +kernel
theorem dX4_mostToMove_126 : decode cX4_mostToMove 126 = .ok (.iload_n 2, 1) := by decide +kernel
theorem dX4_mostToMove_127 : decode cX4_mostToMove 127 = .ok (.invokevirtual 49, 3) := by decide +kernel
theorem dX4_mostToMove_130 : decode cX4_mostToMove 130 = .ok (.iload 11, 2) := by decide +kernel
theorem dX4_mostToMove_132 : decode cX4_mostToMove 132 = .ok (.iadd, 1) := by decide +kernel
theorem dX4_mostToMove_133 : decode cX4_mostToMove 133 = .ok (.invokestatic 114, 3) := by decide +kernel
theorem dX4_mostToMove_136 : decode cX4_mostToMove 136 = .ok (.istore 4, 2) := by decide +kernel
theorem dX4_mostToMove_138 : decode cX4_mostToMove 138 = .ok (.iinc 9 1, 3) := by decide +kernel
theorem dX4_mostToMove_141 : decode cX4_mostToMove 141 = .ok (.goto (-76), 3) := by decide +kernel
theorem dX4_mostToMove_144 : decode cX4_mostToMove 144 = .ok (.iinc 6 1, 3) := by decide +kernel
theorem dX4_mostToMove_147 : decode cX4_mostToMove 147 = .ok (.goto (-115), 3) := by decide +kernel
theorem dX4_mostToMove_150 : decode cX4_mostToMove 150 = .ok (.iload 4, 2) := by decide +kernel
theorem dX4_mostToMove_152 : decode cX4_mostToMove 152 = .ok (.ireturn, 1) := by decide +kernel
theorem dX4_sumOfSquares_0 : decode cX4_sumOfSquares 0 = .ok (.lconst 0, 1) := by decide +kernel
theorem dX4_sumOfSquares_1 : decode cX4_sumOfSquares 1 = .ok (.lstore_n 1, 1) := by decide +kernel
theorem dX4_sumOfSquares_2 : decode cX4_sumOfSquares 2 = .ok (.iconst 0, 1) := by decide +kernel
theorem dX4_sumOfSquares_3 : decode cX4_sumOfSquares 3 = .ok (.istore_n 3, 1) := by decide +kernel
theorem dX4_sumOfSquares_4 : decode cX4_sumOfSquares 4 = .ok (.iload_n 3, 1) := by decide +kernel
theorem dX4_sumOfSquares_5 : decode cX4_sumOfSquares 5 = .ok (.aload_n 0, 1) := by decide +kernel
theorem dX4_sumOfSquares_6 : decode cX4_sumOfSquares 6 = .ok (.getfield 12, 3) := by decide +kernel
theorem dX4_sumOfSquares_9 : decode cX4_sumOfSquares 9 = .ok (.getfield 93, 3) := by decide +kernel
theorem dX4_sumOfSquares_12 : decode cX4_sumOfSquares 12 = .ok (.if_icmp .ge 67, 3) := by decide +kernel
theorem dX4_sumOfSquares_15 : decode cX4_sumOfSquares 15 = .ok (.iconst 0, 1) := by decide +kernel
theorem dX4_sumOfSquares_16 : decode cX4_sumOfSquares 16 = .ok (.istore 4, 2) := by decide +kernel
theorem dX4_sumOfSquares_18 : decode cX4_sumOfSquares 18 = .ok (.iload 4, 2) := by decide +kernel
theorem dX4_sumOfSquares_20 : decode cX4_sumOfSquares 20 = .ok (.bipush 24, 2) := by decide +kernel
theorem dX4_sumOfSquares_22 : decode cX4_sumOfSquares 22 = .ok (.if_icmp .ge 51, 3) := by decide +kernel
theorem dX4_sumOfSquares_25 : decode cX4_sumOfSquares 25 = .ok (.aload_n 0, 1) := by decide +kernel
theorem dX4_sumOfSquares_26 : decode cX4_sumOfSquares 26 = .ok (.getfield 35, 3) := by decide +kernel
theorem dX4_sumOfSquares_29 : decode cX4_sumOfSquares 29 = .ok (.iload_n 3, 1) := by decide +kernel
theorem dX4_sumOfSquares_30 : decode cX4_sumOfSquares 30 = .ok (.iload 4, 2) := by decide +kernel
theorem dX4_sumOfSquares_32 : decode cX4_sumOfSquares 32 = .ok (.invokevirtual 139, 3) := by decide +kernel
theorem dX4_sumOfSquares_35 : decode cX4_sumOfSquares 35 = .ok (.ifCond .eq 32, 3) := by decide +kernel
theorem dX4_sumOfSquares_38 : decode cX4_sumOfSquares 38 = .ok (.aload_n 0, 1) := by decide +kernel
theorem dX4_sumOfSquares_39 : decode cX4_sumOfSquares 39 = .ok (.getfield 35, 3) := by decide +kernel
theorem dX4_sumOfSquares_42 : decode cX4_sumOfSquares 42 = .ok (.iload_n 3, 1) := by decide +kernel
theorem dX4_sumOfSquares_43 : decode cX4_sumOfSquares 43 = .ok (.iload 4, 2) := by decide +kernel
theorem dX4_sumOfSquares_45 : decode cX4_sumOfSquares 45 = .ok (.invokevirtual 142, 3) := by decide +kernel
theorem dX4_sumOfSquares_48 : decode cX4_sumOfSquares 48 = .ok (.aload_n 0, 1) := by decide +kernel
theorem dX4_sumOfSquares_49 : decode cX4_sumOfSquares 49 = .ok (.iload_n 3, 1) := by decide +kernel
theorem dX4_sumOfSquares_50 : decode cX4_sumOfSquares 50 = .ok (.iload 4, 2) := by decide +kernel
theorem dX4_sumOfSquares_52 : decode cX4_sumOfSquares 52 = .ok (.invokevirtual 101, 3) := by decide +kernel
theorem dX4_sumOfSquares_55 : decode cX4_sumOfSquares 55 = .ok (.isub, 1) := by decide +kernel
theorem dX4_sumOfSquares_56 : decode cX4_sumOfSquares 56 = .ok (.i2l, 1) := by decide +kernel
theorem dX4_sumOfSquares_57 : decode cX4_sumOfSquares 57 = .ok (.lstore 5, 2) := by decide +kernel
theorem dX4_sumOfSquares_59 : decode cX4_sumOfSquares 59 = .ok (.lload_n 1, 1) := by decide +kernel
theorem dX4_sumOfSquares_60 : decode cX4_sumOfSquares 60 = .ok (.lload 5, 2) := by decide +kernel
theorem dX4_sumOfSquares_62 : decode cX4_sumOfSquares 62 = .ok (.lload 5, 2) := by decide +kernel
theorem dX4_sumOfSquares_64 : decode cX4_sumOfSquares 64 = .ok (.lmul, 1) := by decide +kernel
theorem dX4_sumOfSquares_65 : decode cX4_sumOfSquares 65 = .ok (.ladd, 1) := by decide +kernel
theorem dX4_sumOfSquares_66 : decode cX4_sumOfSquares 66 = .ok (.lstore_n 1, 1) := by decide +kernel
theorem dX4_sumOfSquares_67 : decode cX4_sumOfSquares 67 = .ok (.iinc 4 1, 3) := by decide +kernel
theorem dX4_sumOfSquares_70 : decode cX4_sumOfSquares 70 = .ok (.goto (-52), 3) := by decide +kernel
theorem dX4_sumOfSquares_73 : decode cX4_sumOfSquares 73 = .ok (.iinc 3 1, 3) := by decide +kernel
theorem dX4_sumOfSquares_76 : decode cX4_sumOfSquares 76 = .ok (.goto (-72), 3) := by decide +kernel
theorem dX4_sumOfSquares_79 : decode cX4_sumOfSquares 79 = .ok (.lload_n 1, 1) := by decide +kernel
theorem dX4_sumOfSquares_80 : decode cX4_sumOfSquares 80 = .ok (.lreturn, 1) := by decide +kernel
theorem dX4_take_0 : decode cX4_take 0 = .ok (.aload_n 0, 1) := by decide +kernel
theorem dX4_take_1 : decode cX4_take 1 = .ok (.getfield 12, 3) := by decide +kernel
theorem dX4_take_4 : decode cX4_take 4 = .ok (.aload_n 1, 1) := by decide +kernel
theorem dX4_take_5 : decode cX4_take 5 = .ok (.getfield 12, 3) := by decide +kernel
theorem dX4_take_8 : decode cX4_take 8 = .ok (.invokevirtual 145, 3) := by decide +kernel
theorem dX4_take_11 : decode cX4_take 11 = .ok (.aload_n 0, 1) := by decide +kernel
theorem dX4_take_12 : decode cX4_take 12 = .ok (.getfield 21, 3) := by decide +kernel
theorem dX4_take_15 : decode cX4_take 15 = .ok (.aload_n 1, 1) := by decide +kernel
theorem dX4_take_16 : decode cX4_take 16 = .ok (.getfield 21, 3) := by decide +kernel
theorem dX4_take_19 : decode cX4_take 19 = .ok (.invokevirtual 149, 3) := by decide +kernel
theorem dX4_take_22 : decode cX4_take 22 = .ok (.aload_n 0, 1) := by decide +kernel
theorem dX4_take_23 : decode cX4_take 23 = .ok (.getfield 28, 3) := by decide +kernel
theorem dX4_take_26 : decode cX4_take 26 = .ok (.aload_n 1, 1) := by decide +kernel
theorem dX4_take_27 : decode cX4_take 27 = .ok (.getfield 28, 3) := by decide +kernel
theorem dX4_take_30 : decode cX4_take 30 = .ok (.invokevirtual 152, 3) := by decide +kernel
theorem dX4_take_33 : decode cX4_take 33 = .ok (.aload_n 0, 1) := by decide +kernel
theorem dX4_take_34 : decode cX4_take 34 = .ok (.getfield 35, 3) := by decide +kernel
theorem dX4_take_37 : decode cX4_take 37 = .ok (.aload_n 1, 1) := by decide +kernel
theorem dX4_take_38 : decode cX4_take 38 = .ok (.getfield 35, 3) := by decide +kernel
theorem dX4_take_41 : decode cX4_take 41 = .ok (.invokevirtual 155, 3) := by decide +kernel
theorem dX4_take_44 : decode cX4_take 44 = .ok (.aload_n 1, 1) := by decide +kernel
theorem dX4_take_45 : decode cX4_take 45 = .ok (.getfield 39, 3) := by decide +kernel
theorem dX4_take_48 : decode cX4_take 48 = .ok (.aload_n 0, 1) := by decide +kernel
theorem dX4_take_49 : decode cX4_take 49 = .ok (.getfield 39, 3) := by decide +kernel
theorem dX4_take_52 : decode cX4_take 52 = .ok (.invokestatic 158, 3) := by decide +kernel
theorem dX4_take_55 : decode cX4_take 55 = .ok (.aload_n 1, 1) := by decide +kernel
theorem dX4_take_56 : decode cX4_take 56 = .ok (.getfield 43, 3) := by decide +kernel
theorem dX4_take_59 : decode cX4_take 59 = .ok (.aload_n 0, 1) := by decide +kernel
theorem dX4_take_60 : decode cX4_take 60 = .ok (.getfield 43, 3) := by decide +kernel
theorem dX4_take_63 : decode cX4_take 63 = .ok (.invokestatic 158, 3) := by decide +kernel
theorem dX4_take_66 : decode cX4_take 66 = .ok (.return_, 1) := by decide +kernel
theorem dX5_init_0 : decode cX5_init 0 = .ok (.aload_n 0, 1) := by decide +kernel
theorem dX5_init_1 : decode cX5_init 1 = .ok (.invokespecial 3, 3) := by decide +kernel
theorem dX5_init_4 : decode cX5_init 4 = .ok (.aload_n 0, 1) := by decide +kernel
theorem dX5_init_5 : decode cX5_init 5 = .ok (.iconst 0, 1) := by decide +kernel
theorem dX5_init_6 : decode cX5_init 6 = .ok (.putfield 9, 3) := by decide +kernel
theorem dX5_init_9 : decode cX5_init 9 = .ok (.aload_n 0, 1) := by decide +kernel
theorem dX5_init_10 : decode cX5_init 10 = .ok (.bipush 10, 2) := by decide +kernel
theorem dX5_init_12 : decode cX5_init 12 = .ok (.newarray .int, 2) := by decide +kernel
theorem dX5_init_14 : decode cX5_init 14 = .ok (.putfield 15, 3) := by decide +kernel
theorem dX5_init_17 : decode cX5_init 17 = .ok (.aload_n 0, 1) := by decide +kernel
theorem dX5_init_18 : decode cX5_init 18 = .ok (.bipush 10, 2) := by decide +kernel
theorem dX5_init_20 : decode cX5_init 20 = .ok (.newarray .int, 2) := by decide +kernel
theorem dX5_init_22 : decode cX5_init 22 = .ok (.putfield 19, 3) := by decide +kernel
theorem dX5_init_25 : decode cX5_init 25 = .ok (.aload_n 0, 1) := by decide +kernel
theorem dX5_init_26 : decode cX5_init 26 = .ok (.bipush 10, 2) := by decide +kernel
theorem dX5_init_28 : decode cX5_init 28 = .ok (.newarray .int, 2) := by decide +kernel
theorem dX5_init_30 : decode cX5_init 30 = .ok (.putfield 22, 3) := by decide +kernel
theorem dX5_init_33 : decode cX5_init 33 = .ok (.aload_n 0, 1) := by decide +kernel
theorem dX5_init_34 : decode cX5_init 34 = .ok (.bipush 10, 2) := by decide +kernel
theorem dX5_init_36 : decode cX5_init 36 = .ok (.newarray .int, 2) := by decide +kernel
theorem dX5_init_38 : decode cX5_init 38 = .ok (.putfield 25, 3) := by decide +kernel
theorem dX5_init_41 : decode cX5_init 41 = .ok (.aload_n 0, 1) := by decide +kernel
theorem dX5_init_42 : decode cX5_init 42 = .ok (.bipush 10, 2) := by decide +kernel
theorem dX5_init_44 : decode cX5_init 44 = .ok (.newarray .int, 2) := by decide +kernel
theorem dX5_init_46 : decode cX5_init 46 = .ok (.putfield 28, 3) := by decide +kernel
theorem dX5_init_49 : decode cX5_init 49 = .ok (.return_, 1) := by decide +kernel
theorem dX5_add_0 : decode cX5_add 0 = .ok (.aload_n 0, 1) := by decide +kernel
theorem dX5_add_1 : decode cX5_add 1 = .ok (.getfield 9, 3) := by decide +kernel
theorem dX5_add_4 : decode cX5_add 4 = .ok (.istore 5, 2) := by decide +kernel
theorem dX5_add_6 : decode cX5_add 6 = .ok (.aload_n 0, 1) := by decide +kernel
theorem dX5_add_7 : decode cX5_add 7 = .ok (.getfield 15, 3) := by decide +kernel
theorem dX5_add_10 : decode cX5_add 10 = .ok (.iload 5, 2) := by decide +kernel
theorem dX5_add_12 : decode cX5_add 12 = .ok (.iload_n 1, 1) := by decide +kernel
theorem dX5_add_13 : decode cX5_add 13 = .ok (.iastore, 1) := by decide +kernel
theorem dX5_add_14 : decode cX5_add 14 = .ok (.aload_n 0, 1) := by decide +kernel
theorem dX5_add_15 : decode cX5_add 15 = .ok (.getfield 19, 3) := by decide +kernel
theorem dX5_add_18 : decode cX5_add 18 = .ok (.iload 5, 2) := by decide +kernel
theorem dX5_add_20 : decode cX5_add 20 = .ok (.iload_n 2, 1) := by decide +kernel
theorem dX5_add_21 : decode cX5_add 21 = .ok (.iastore, 1) := by decide +kernel
theorem dX5_add_22 : decode cX5_add 22 = .ok (.aload_n 0, 1) := by decide +kernel
theorem dX5_add_23 : decode cX5_add 23 = .ok (.getfield 22, 3) := by decide +kernel
theorem dX5_add_26 : decode cX5_add 26 = .ok (.iload 5, 2) := by decide +kernel
theorem dX5_add_28 : decode cX5_add 28 = .ok (.iload_n 3, 1) := by decide +kernel
theorem dX5_add_29 : decode cX5_add 29 = .ok (.iastore, 1) := by decide +kernel
theorem dX5_add_30 : decode cX5_add 30 = .ok (.aload_n 0, 1) := by decide +kernel
theorem dX5_add_31 : decode cX5_add 31 = .ok (.getfield 25, 3) := by decide +kernel
theorem dX5_add_34 : decode cX5_add 34 = .ok (.iload 5, 2) := by decide +kernel
theorem dX5_add_36 : decode cX5_add 36 = .ok (.iload 4, 2) := by decide +kernel
theorem dX5_add_38 : decode cX5_add 38 = .ok (.iastore, 1) := by decide +kernel
theorem dX5_add_39 : decode cX5_add 39 = .ok (.aload_n 0, 1) := by decide +kernel
theorem dX5_add_40 : decode cX5_add 40 = .ok (.getfield 28, 3) := by decide +kernel
theorem dX5_add_43 : decode cX5_add 43 = .ok (.iload 5, 2) := by decide +kernel
theorem dX5_add_45 : decode cX5_add 45 = .ok (.ldc 31, 2) := by decide +kernel
theorem dX5_add_47 : decode cX5_add 47 = .ok (.iastore, 1) := by decide +kernel
theorem dX5_add_48 : decode cX5_add 48 = .ok (.aload_n 0, 1) := by decide +kernel
theorem dX5_add_49 : decode cX5_add 49 = .ok (.dup, 1) := by decide +kernel
theorem dX5_add_50 : decode cX5_add 50 = .ok (.getfield 9, 3) := by decide +kernel
theorem dX5_add_53 : decode cX5_add 53 = .ok (.iconst 1, 1) := by decide +kernel
theorem dX5_add_54 : decode cX5_add 54 = .ok (.iadd, 1) := by decide +kernel
theorem dX5_add_55 : decode cX5_add 55 = .ok (.putfield 9, 3) := by decide +kernel
theorem dX5_add_58 : decode cX5_add 58 = .ok (.iload 5, 2) := by decide +kernel
theorem dX5_add_60 : decode cX5_add 60 = .ok (.ireturn, 1) := by decide +kernel
theorem dX5_isOneOf_0 : decode cX5_isOneOf 0 = .ok (.aload_n 0, 1) := by decide +kernel
theorem dX5_isOneOf_1 : decode cX5_isOneOf 1 = .ok (.getfield 15, 3) := by decide +kernel
theorem dX5_isOneOf_4 : decode cX5_isOneOf 4 = .ok (.iload_n 1, 1) := by decide +kernel
theorem dX5_isOneOf_5 : decode cX5_isOneOf 5 = .ok (.iaload, 1) := by decide +kernel
theorem dX5_isOneOf_6 : decode cX5_isOneOf 6 = .ok (.iload_n 2, 1) := by decide +kernel
theorem dX5_isOneOf_7 : decode cX5_isOneOf 7 = .ok (.if_icmp .eq 22, 3) := by decide +kernel
theorem dX5_isOneOf_10 : decode cX5_isOneOf 10 = .ok (.iload_n 2, 1) := by decide +kernel
theorem dX5_isOneOf_11 : decode cX5_isOneOf 11 = .ok (.ifCond .eq 18, 3) := by decide +kernel
theorem dX5_isOneOf_14 : decode cX5_isOneOf 14 = .ok (.iload_n 2, 1) := by decide +kernel
theorem dX5_isOneOf_15 : decode cX5_isOneOf 15 = .ok (.iconst 3, 1) := by decide +kernel
theorem dX5_isOneOf_16 : decode cX5_isOneOf 16 = .ok (.if_icmp .ne 17, 3) := by decide +kernel
theorem dX5_isOneOf_19 : decode cX5_isOneOf 19 = .ok (.aload_n 0, 1) := by decide +kernel
theorem dX5_isOneOf_20 : decode cX5_isOneOf 20 = .ok (.getfield 15, 3) := by decide +kernel
theorem dX5_isOneOf_23 : decode cX5_isOneOf 23 = .ok (.iload_n 1, 1) := by decide +kernel
theorem dX5_isOneOf_24 : decode cX5_isOneOf 24 = .ok (.iaload, 1) := by decide +kernel
theorem dX5_isOneOf_25 : decode cX5_isOneOf 25 = .ok (.iconst 4, 1) := by decide +kernel
theorem dX5_isOneOf_26 : decode cX5_isOneOf 26 = .ok (.if_icmp .ne 7, 3) := by decide +kernel
theorem dX5_isOneOf_29 : decode cX5_isOneOf 29 = .ok (.iconst 1, 1) := by decide +kernel
theorem dX5_isOneOf_30 : decode cX5_isOneOf 30 = .ok (.goto 4, 3) := by decide +kernel
theorem dX5_isOneOf_33 : decode cX5_isOneOf 33 = .ok (.iconst 0, 1) := by decide +kernel
theorem dX5_isOneOf_34 : decode cX5_isOneOf 34 = .ok (.ireturn, 1) := by decide +kernel
theorem dX5_isDrawing_0 : decode cX5_isDrawing 0 = .ok (.getstatic 32, 3) := by decide +kernel
theorem dX5_isDrawing_3 : decode cX5_isDrawing 3 = .ok (.aload_n 0, 1) := by decide +kernel
theorem dX5_isDrawing_4 : decode cX5_isDrawing 4 = .ok (.getfield 15, 3) := by decide +kernel
theorem dX5_isDrawing_7 : decode cX5_isDrawing 7 = .ok (.iload_n 1, 1) := by decide +kernel
theorem dX5_isDrawing_8 : decode cX5_isDrawing 8 = .ok (.iaload, 1) := by decide +kernel
theorem dX5_isDrawing_9 : decode cX5_isDrawing 9 = .ok (.iaload, 1) := by decide +kernel
theorem dX5_isDrawing_10 : decode cX5_isDrawing 10 = .ok (.ifCond .le 7, 3) := by decide +kernel
theorem dX5_isDrawing_13 : decode cX5_isDrawing 13 = .ok (.iconst 1, 1) := by decide +kernel
