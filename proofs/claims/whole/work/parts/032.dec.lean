theorem dX5_isDrawing_14 : decode cX5_isDrawing 14 = .ok (.goto 4, 3) := by decide +kernel
theorem dX5_isDrawing_17 : decode cX5_isDrawing 17 = .ok (.iconst 0, 1) := by decide +kernel
theorem dX5_isDrawing_18 : decode cX5_isDrawing 18 = .ok (.ireturn, 1) := by decide +kernel
theorem dX5_isOwnMonth_0 : decode cX5_isOwnMonth 0 = .ok (.aload_n 0, 1) := by decide +kernel
theorem dX5_isOwnMonth_1 : decode cX5_isOwnMonth 1 = .ok (.getfield 15, 3) := by decide +kernel
theorem dX5_isOwnMonth_4 : decode cX5_isOwnMonth 4 = .ok (.iload_n 1, 1) := by decide +kernel
theorem dX5_isOwnMonth_5 : decode cX5_isOwnMonth 5 = .ok (.iaload, 1) := by decide +kernel
theorem dX5_isOwnMonth_6 : decode cX5_isOwnMonth 6 = .ok (.iconst 2, 1) := by decide +kernel
theorem dX5_isOwnMonth_7 : decode cX5_isOwnMonth 7 = .ok (.if_icmp .ne 12, 3) := by decide +kernel
theorem dX5_isOwnMonth_10 : decode cX5_isOwnMonth 10 = .ok (.iload_n 1, 1) := by decide +kernel
theorem dX5_isOwnMonth_11 : decode cX5_isOwnMonth 11 = .ok (.iconst 1, 1) := by decide +kernel
theorem dX5_isOwnMonth_12 : decode cX5_isOwnMonth 12 = .ok (.iand, 1) := by decide +kernel
theorem dX5_isOwnMonth_13 : decode cX5_isOwnMonth 13 = .ok (.iload_n 2, 1) := by decide +kernel
theorem dX5_isOwnMonth_14 : decode cX5_isOwnMonth 14 = .ok (.iconst 1, 1) := by decide +kernel
theorem dX5_isOwnMonth_15 : decode cX5_isOwnMonth 15 = .ok (.iand, 1) := by decide +kernel
theorem dX5_isOwnMonth_16 : decode cX5_isOwnMonth 16 = .ok (.if_icmp .ne 7, 3) := by decide +kernel
theorem dX5_isOwnMonth_19 : decode cX5_isOwnMonth 19 = .ok (.iconst 1, 1) := by decide +kernel
theorem dX5_isOwnMonth_20 : decode cX5_isOwnMonth 20 = .ok (.goto 4, 3) := by decide +kernel
theorem dX5_isOwnMonth_23 : decode cX5_isOwnMonth 23 = .ok (.iconst 0, 1) := by decide +kernel
theorem dX5_isOwnMonth_24 : decode cX5_isOwnMonth 24 = .ok (.ireturn, 1) := by decide +kernel
theorem dX5_apart_0 : decode cX5_apart 0 = .ok (.aload_n 0, 1) := by decide +kernel
theorem dX5_apart_1 : decode cX5_apart 1 = .ok (.getfield 19, 3) := by decide +kernel
theorem dX5_apart_4 : decode cX5_apart 4 = .ok (.iload_n 1, 1) := by decide +kernel
theorem dX5_apart_5 : decode cX5_apart 5 = .ok (.iaload, 1) := by decide +kernel
theorem dX5_apart_6 : decode cX5_apart 6 = .ok (.aload_n 0, 1) := by decide +kernel
theorem dX5_apart_7 : decode cX5_apart 7 = .ok (.getfield 19, 3) := by decide +kernel
theorem dX5_apart_10 : decode cX5_apart 10 = .ok (.iload_n 2, 1) := by decide +kernel
theorem dX5_apart_11 : decode cX5_apart 11 = .ok (.iaload, 1) := by decide +kernel
theorem dX5_apart_12 : decode cX5_apart 12 = .ok (.isub, 1) := by decide +kernel
theorem dX5_apart_13 : decode cX5_apart 13 = .ok (.invokestatic 35, 3) := by decide +kernel
theorem dX5_apart_16 : decode cX5_apart 16 = .ok (.aload_n 0, 1) := by decide +kernel
theorem dX5_apart_17 : decode cX5_apart 17 = .ok (.getfield 22, 3) := by decide +kernel
theorem dX5_apart_20 : decode cX5_apart 20 = .ok (.iload_n 1, 1) := by decide +kernel
theorem dX5_apart_21 : decode cX5_apart 21 = .ok (.iaload, 1) := by decide +kernel
theorem dX5_apart_22 : decode cX5_apart 22 = .ok (.aload_n 0, 1) := by decide +kernel
theorem dX5_apart_23 : decode cX5_apart 23 = .ok (.getfield 22, 3) := by decide +kernel
theorem dX5_apart_26 : decode cX5_apart 26 = .ok (.iload_n 2, 1) := by decide +kernel
theorem dX5_apart_27 : decode cX5_apart 27 = .ok (.iaload, 1) := by decide +kernel
theorem dX5_apart_28 : decode cX5_apart 28 = .ok (.isub, 1) := by decide +kernel
theorem dX5_apart_29 : decode cX5_apart 29 = .ok (.invokestatic 35, 3) := by decide +kernel
theorem dX5_apart_32 : decode cX5_apart 32 = .ok (.invokestatic 41, 3) := by decide +kernel
theorem dX5_apart_35 : decode cX5_apart 35 = .ok (.istore_n 3, 1) := by decide +kernel
theorem dX5_apart_36 : decode cX5_apart 36 = .ok (.iload_n 3, 1) := by decide +kernel
theorem dX5_apart_37 : decode cX5_apart 37 = .ok (.bipush 9, 2) := by decide +kernel
theorem dX5_apart_39 : decode cX5_apart 39 = .ok (.invokestatic 45, 3) := by decide +kernel
theorem dX5_apart_42 : decode cX5_apart 42 = .ok (.ireturn, 1) := by decide +kernel
theorem dX5_layer_0 : decode cX5_layer 0 = .ok (.aload_n 0, 1) := by decide +kernel
theorem dX5_layer_1 : decode cX5_layer 1 = .ok (.getfield 15, 3) := by decide +kernel
theorem dX5_layer_4 : decode cX5_layer 4 = .ok (.iload_n 1, 1) := by decide +kernel
theorem dX5_layer_5 : decode cX5_layer 5 = .ok (.iaload, 1) := by decide +kernel
theorem dX5_layer_6 : decode cX5_layer 6 = .ok (.iconst 1, 1) := by decide +kernel
theorem dX5_layer_7 : decode cX5_layer 7 = .ok (.if_icmp .ne 7, 3) := by decide +kernel
theorem dX5_layer_10 : decode cX5_layer 10 = .ok (.iconst 1, 1) := by decide +kernel
theorem dX5_layer_11 : decode cX5_layer 11 = .ok (.goto 4, 3) := by decide +kernel
theorem dX5_layer_14 : decode cX5_layer 14 = .ok (.iconst 0, 1) := by decide +kernel
theorem dX5_layer_15 : decode cX5_layer 15 = .ok (.aload_n 0, 1) := by decide +kernel
theorem dX5_layer_16 : decode cX5_layer 16 = .ok (.getfield 15, 3) := by decide +kernel
theorem dX5_layer_19 : decode cX5_layer 19 = .ok (.iload_n 2, 1) := by decide +kernel
theorem dX5_layer_20 : decode cX5_layer 20 = .ok (.iaload, 1) := by decide +kernel
theorem dX5_layer_21 : decode cX5_layer 21 = .ok (.iconst 1, 1) := by decide +kernel
theorem dX5_layer_22 : decode cX5_layer 22 = .ok (.if_icmp .ne 7, 3) := by decide +kernel
theorem dX5_layer_25 : decode cX5_layer 25 = .ok (.iconst 1, 1) := by decide +kernel
theorem dX5_layer_26 : decode cX5_layer 26 = .ok (.goto 4, 3) := by decide +kernel
theorem dX5_layer_29 : decode cX5_layer 29 = .ok (.iconst 0, 1) := by decide +kernel
theorem dX5_layer_30 : decode cX5_layer 30 = .ok (.if_icmp .eq 7, 3) := by decide +kernel
theorem dX5_layer_33 : decode cX5_layer 33 = .ok (.iconst 1, 1) := by decide +kernel
theorem dX5_layer_34 : decode cX5_layer 34 = .ok (.goto 4, 3) := by decide +kernel
theorem dX5_layer_37 : decode cX5_layer 37 = .ok (.iconst 0, 1) := by decide +kernel
theorem dX5_layer_38 : decode cX5_layer 38 = .ok (.ireturn, 1) := by decide +kernel
theorem dX5_take_0 : decode cX5_take 0 = .ok (.aload_n 0, 1) := by decide +kernel
theorem dX5_take_1 : decode cX5_take 1 = .ok (.aload_n 1, 1) := by decide +kernel
theorem dX5_take_2 : decode cX5_take 2 = .ok (.getfield 9, 3) := by decide +kernel
theorem dX5_take_5 : decode cX5_take 5 = .ok (.putfield 9, 3) := by decide +kernel
theorem dX5_take_8 : decode cX5_take 8 = .ok (.aload_n 1, 1) := by decide +kernel
theorem dX5_take_9 : decode cX5_take 9 = .ok (.getfield 15, 3) := by decide +kernel
theorem dX5_take_12 : decode cX5_take 12 = .ok (.aload_n 0, 1) := by decide +kernel
theorem dX5_take_13 : decode cX5_take 13 = .ok (.getfield 15, 3) := by decide +kernel
theorem dX5_take_16 : decode cX5_take 16 = .ok (.invokestatic 48, 3) := by decide +kernel
theorem dX5_take_19 : decode cX5_take 19 = .ok (.aload_n 1, 1) := by decide +kernel
theorem dX5_take_20 : decode cX5_take 20 = .ok (.getfield 19, 3) := by decide +kernel
theorem dX5_take_23 : decode cX5_take 23 = .ok (.aload_n 0, 1) := by decide +kernel
theorem dX5_take_24 : decode cX5_take 24 = .ok (.getfield 19, 3) := by decide +kernel
theorem dX5_take_27 : decode cX5_take 27 = .ok (.invokestatic 48, 3) := by decide +kernel
theorem dX5_take_30 : decode cX5_take 30 = .ok (.aload_n 1, 1) := by decide +kernel
theorem dX5_take_31 : decode cX5_take 31 = .ok (.getfield 22, 3) := by decide +kernel
theorem dX5_take_34 : decode cX5_take 34 = .ok (.aload_n 0, 1) := by decide +kernel
theorem dX5_take_35 : decode cX5_take 35 = .ok (.getfield 22, 3) := by decide +kernel
theorem dX5_take_38 : decode cX5_take 38 = .ok (.invokestatic 48, 3) := by decide +kernel
theorem dX5_take_41 : decode cX5_take 41 = .ok (.aload_n 1, 1) := by decide +kernel
theorem dX5_take_42 : decode cX5_take 42 = .ok (.getfield 25, 3) := by decide +kernel
theorem dX5_take_45 : decode cX5_take 45 = .ok (.aload_n 0, 1) := by decide +kernel
theorem dX5_take_46 : decode cX5_take 46 = .ok (.getfield 25, 3) := by decide +kernel
theorem dX5_take_49 : decode cX5_take 49 = .ok (.invokestatic 48, 3) := by decide +kernel
theorem dX5_take_52 : decode cX5_take 52 = .ok (.aload_n 1, 1) := by decide +kernel
theorem dX5_take_53 : decode cX5_take 53 = .ok (.getfield 28, 3) := by decide +kernel
theorem dX5_take_56 : decode cX5_take 56 = .ok (.aload_n 0, 1) := by decide +kernel
theorem dX5_take_57 : decode cX5_take 57 = .ok (.getfield 28, 3) := by decide +kernel
theorem dX5_take_60 : decode cX5_take 60 = .ok (.invokestatic 48, 3) := by decide +kernel
theorem dX5_take_63 : decode cX5_take 63 = .ok (.return_, 1) := by decide +kernel
theorem dX6_init_0 : decode cX6_init 0 = .ok (.aload_n 0, 1) := by decide +kernel
theorem dX6_init_1 : decode cX6_init 1 = .ok (.invokespecial 1, 3) := by decide +kernel
theorem dX6_init_4 : decode cX6_init 4 = .ok (.aload_n 0, 1) := by decide +kernel
theorem dX6_init_5 : decode cX6_init 5 = .ok (.new 7, 3) := by decide +kernel
theorem dX6_init_8 : decode cX6_init 8 = .ok (.dup, 1) := by decide +kernel
theorem dX6_init_9 : decode cX6_init 9 = .ok (.invokespecial 9, 3) := by decide +kernel
theorem dX6_init_12 : decode cX6_init 12 = .ok (.putfield 10, 3) := by decide +kernel
theorem dX6_init_15 : decode cX6_init 15 = .ok (.aload_n 0, 1) := by decide +kernel
theorem dX6_init_16 : decode cX6_init 16 = .ok (.new 7, 3) := by decide +kernel
theorem dX6_init_19 : decode cX6_init 19 = .ok (.dup, 1) := by decide +kernel
theorem dX6_init_20 : decode cX6_init 20 = .ok (.invokespecial 9, 3) := by decide +kernel
theorem dX6_init_23 : decode cX6_init 23 = .ok (.putfield 16, 3) := by decide +kernel
theorem dX6_init_26 : decode cX6_init 26 = .ok (.aload_n 0, 1) := by decide +kernel
theorem dX6_init_27 : decode cX6_init 27 = .ok (.iconst 0, 1) := by decide +kernel
theorem dX6_init_28 : decode cX6_init 28 = .ok (.putfield 19, 3) := by decide +kernel
theorem dX6_init_31 : decode cX6_init 31 = .ok (.aload_n 0, 1) := by decide +kernel
theorem dX6_init_32 : decode cX6_init 32 = .ok (.iconst 4, 1) := by decide +kernel
theorem dX6_init_33 : decode cX6_init 33 = .ok (.anewarray 23, 3) := by decide +kernel
theorem dX6_init_36 : decode cX6_init 36 = .ok (.dup, 1) := by decide +kernel
theorem dX6_init_37 : decode cX6_init 37 = .ok (.iconst 0, 1) := by decide +kernel
theorem dX6_init_38 : decode cX6_init 38 = .ok (.new 23, 3) := by decide +kernel
theorem dX6_init_41 : decode cX6_init 41 = .ok (.dup, 1) := by decide +kernel
theorem dX6_init_42 : decode cX6_init 42 = .ok (.invokespecial 25, 3) := by decide +kernel
theorem dX6_init_45 : decode cX6_init 45 = .ok (.aastore, 1) := by decide +kernel
theorem dX6_init_46 : decode cX6_init 46 = .ok (.dup, 1) := by decide +kernel
theorem dX6_init_47 : decode cX6_init 47 = .ok (.iconst 1, 1) := by decide +kernel
theorem dX6_init_48 : decode cX6_init 48 = .ok (.new 23, 3) := by decide +kernel
theorem dX6_init_51 : decode cX6_init 51 = .ok (.dup, 1) := by decide +kernel
theorem dX6_init_52 : decode cX6_init 52 = .ok (.invokespecial 25, 3) := by decide +kernel
theorem dX6_init_55 : decode cX6_init 55 = .ok (.aastore, 1) := by decide +kernel
theorem dX6_init_56 : decode cX6_init 56 = .ok (.dup, 1) := by decide +kernel
theorem dX6_init_57 : decode cX6_init 57 = .ok (.iconst 2, 1) := by decide +kernel
theorem dX6_init_58 : decode cX6_init 58 = .ok (.new 23, 3) := by decide +kernel
theorem dX6_init_61 : decode cX6_init 61 = .ok (.dup, 1) := by decide +kernel
theorem dX6_init_62 : decode cX6_init 62 = .ok (.invokespecial 25, 3) := by decide +kernel
theorem dX6_init_65 : decode cX6_init 65 = .ok (.aastore, 1) := by decide +kernel
theorem dX6_init_66 : decode cX6_init 66 = .ok (.dup, 1) := by decide +kernel
theorem dX6_init_67 : decode cX6_init 67 = .ok (.iconst 3, 1) := by decide +kernel
theorem dX6_init_68 : decode cX6_init 68 = .ok (.new 23, 3) := by decide +kernel
theorem dX6_init_71 : decode cX6_init 71 = .ok (.dup, 1) := by decide +kernel
theorem dX6_init_72 : decode cX6_init 72 = .ok (.invokespecial 25, 3) := by decide +kernel
theorem dX6_init_75 : decode cX6_init 75 = .ok (.aastore, 1) := by decide +kernel
theorem dX6_init_76 : decode cX6_init 76 = .ok (.putfield 26, 3) := by decide +kernel
theorem dX6_init_79 : decode cX6_init 79 = .ok (.aload_n 0, 1) := by decide +kernel
theorem dX6_init_80 : decode cX6_init 80 = .ok (.iconst 0, 1) := by decide +kernel
theorem dX6_init_81 : decode cX6_init 81 = .ok (.putfield 30, 3) := by decide +kernel
theorem dX6_init_84 : decode cX6_init 84 = .ok (.return_, 1) := by decide +kernel
theorem dX6_well_0 : decode cX6_well 0 = .ok (.iload_n 1, 1) := by decide +kernel
theorem dX6_well_1 : decode cX6_well 1 = .ok (.invokestatic 34, 3) := by decide +kernel
theorem dX6_well_4 : decode cX6_well 4 = .ok (.ifCond .eq 25, 3) := by decide +kernel
theorem dX6_well_7 : decode cX6_well 7 = .ok (.iload_n 2, 1) := by decide +kernel
theorem dX6_well_8 : decode cX6_well 8 = .ok (.invokestatic 38, 3) := by decide +kernel
theorem dX6_well_11 : decode cX6_well 11 = .ok (.ifCond .eq 18, 3) := by decide +kernel
theorem dX6_well_14 : decode cX6_well 14 = .ok (.iload_n 3, 1) := by decide +kernel
theorem dX6_well_15 : decode cX6_well 15 = .ok (.invokestatic 38, 3) := by decide +kernel
theorem dX6_well_18 : decode cX6_well 18 = .ok (.ifCond .eq 11, 3) := by decide +kernel
theorem dX6_well_21 : decode cX6_well 21 = .ok (.iload 4, 2) := by decide +kernel
theorem dX6_well_23 : decode cX6_well 23 = .ok (.invokestatic 41, 3) := by decide +kernel
theorem dX6_well_26 : decode cX6_well 26 = .ok (.ifCond .ne 10, 3) := by decide +kernel
theorem dX6_well_29 : decode cX6_well 29 = .ok (.aload_n 0, 1) := by decide +kernel
theorem dX6_well_30 : decode cX6_well 30 = .ok (.ldc 44, 2) := by decide +kernel
theorem dX6_well_32 : decode cX6_well 32 = .ok (.invokevirtual 45, 3) := by decide +kernel
theorem dX6_well_35 : decode cX6_well 35 = .ok (.ireturn, 1) := by decide +kernel
theorem dX6_well_36 : decode cX6_well 36 = .ok (.aload_n 0, 1) := by decide +kernel
theorem dX6_well_37 : decode cX6_well 37 = .ok (.getfield 10, 3) := by decide +kernel
theorem dX6_well_40 : decode cX6_well 40 = .ok (.getfield 49, 3) := by decide +kernel
theorem dX6_well_43 : decode cX6_well 43 = .ok (.getfield 53, 3) := by decide +kernel
theorem dX6_well_46 : decode cX6_well 46 = .ok (.bipush 10, 2) := by decide +kernel
theorem dX6_well_48 : decode cX6_well 48 = .ok (.if_icmp .lt 10, 3) := by decide +kernel
theorem dX6_well_51 : decode cX6_well 51 = .ok (.aload_n 0, 1) := by decide +kernel
theorem dX6_well_52 : decode cX6_well 52 = .ok (.ldc 58, 2) := by decide +kernel
theorem dX6_well_54 : decode cX6_well 54 = .ok (.invokevirtual 45, 3) := by decide +kernel
theorem dX6_well_57 : decode cX6_well 57 = .ok (.ireturn, 1) := by decide +kernel
theorem dX6_well_58 : decode cX6_well 58 = .ok (.aload_n 0, 1) := by decide +kernel
theorem dX6_well_59 : decode cX6_well 59 = .ok (.getfield 10, 3) := by decide +kernel
theorem dX6_well_62 : decode cX6_well 62 = .ok (.getfield 49, 3) := by decide +kernel
theorem dX6_well_65 : decode cX6_well 65 = .ok (.iload_n 1, 1) := by decide +kernel
theorem dX6_well_66 : decode cX6_well 66 = .ok (.iload_n 2, 1) := by decide +kernel
theorem dX6_well_67 : decode cX6_well 67 = .ok (.iload_n 3, 1) := by decide +kernel
theorem dX6_well_68 : decode cX6_well 68 = .ok (.iload 4, 2) := by decide +kernel
theorem dX6_well_70 : decode cX6_well 70 = .ok (.invokevirtual 59, 3) := by decide +kernel
theorem dX6_well_73 : decode cX6_well 73 = .ok (.ireturn, 1) := by decide +kernel
theorem dX6_limit_0 : decode cX6_limit 0 = .ok (.aload_n 0, 1) := by decide +kernel
theorem dX6_limit_1 : decode cX6_limit 1 = .ok (.iload_n 1, 1) := by decide +kernel
theorem dX6_limit_2 : decode cX6_limit 2 = .ok (.invokevirtual 63, 3) := by decide +kernel
theorem dX6_limit_5 : decode cX6_limit 5 = .ok (.ifCond .eq 10, 3) := by decide +kernel
theorem dX6_limit_8 : decode cX6_limit 8 = .ok (.iload_n 2, 1) := by decide +kernel
theorem dX6_limit_9 : decode cX6_limit 9 = .ok (.invokestatic 41, 3) := by decide +kernel
theorem dX6_limit_12 : decode cX6_limit 12 = .ok (.ifCond .ne 10, 3) := by decide +kernel
theorem dX6_limit_15 : decode cX6_limit 15 = .ok (.aload_n 0, 1) := by decide +kernel
theorem dX6_limit_16 : decode cX6_limit 16 = .ok (.ldc 44, 2) := by decide +kernel
theorem dX6_limit_18 : decode cX6_limit 18 = .ok (.invokevirtual 45, 3) := by decide +kernel
theorem dX6_limit_21 : decode cX6_limit 21 = .ok (.ireturn, 1) := by decide +kernel
theorem dX6_limit_22 : decode cX6_limit 22 = .ok (.aload_n 0, 1) := by decide +kernel
theorem dX6_limit_23 : decode cX6_limit 23 = .ok (.getfield 10, 3) := by decide +kernel
theorem dX6_limit_26 : decode cX6_limit 26 = .ok (.getfield 49, 3) := by decide +kernel
theorem dX6_limit_29 : decode cX6_limit 29 = .ok (.getfield 66, 3) := by decide +kernel
theorem dX6_limit_32 : decode cX6_limit 32 = .ok (.iload_n 1, 1) := by decide +kernel
theorem dX6_limit_33 : decode cX6_limit 33 = .ok (.iaload, 1) := by decide +kernel
theorem dX6_limit_34 : decode cX6_limit 34 = .ok (.istore_n 3, 1) := by decide +kernel
theorem dX6_limit_35 : decode cX6_limit 35 = .ok (.aload_n 0, 1) := by decide +kernel
theorem dX6_limit_36 : decode cX6_limit 36 = .ok (.getfield 10, 3) := by decide +kernel
theorem dX6_limit_39 : decode cX6_limit 39 = .ok (.getfield 49, 3) := by decide +kernel
theorem dX6_limit_42 : decode cX6_limit 42 = .ok (.getfield 66, 3) := by decide +kernel
theorem dX6_limit_45 : decode cX6_limit 45 = .ok (.iload_n 1, 1) := by decide +kernel
theorem dX6_limit_46 : decode cX6_limit 46 = .ok (.iload_n 2, 1) := by decide +kernel
theorem dX6_limit_47 : decode cX6_limit 47 = .ok (.iastore, 1) := by decide +kernel
theorem dX6_limit_48 : decode cX6_limit 48 = .ok (.iload_n 3, 1) := by decide +kernel
theorem dX6_limit_49 : decode cX6_limit 49 = .ok (.ireturn, 1) := by decide +kernel
theorem dX6_as_0 : decode cX6_as 0 = .ok (.aload_n 0, 1) := by decide +kernel
theorem dX6_as_1 : decode cX6_as 1 = .ok (.iload_n 1, 1) := by decide +kernel
theorem dX6_as_2 : decode cX6_as 2 = .ok (.invokevirtual 63, 3) := by decide +kernel
theorem dX6_as_5 : decode cX6_as 5 = .ok (.ifCond .eq 10, 3) := by decide +kernel
theorem dX6_as_8 : decode cX6_as 8 = .ok (.iload_n 2, 1) := by decide +kernel
theorem dX6_as_9 : decode cX6_as 9 = .ok (.invokestatic 34, 3) := by decide +kernel
theorem dX6_as_12 : decode cX6_as 12 = .ok (.ifCond .ne 10, 3) := by decide +kernel
theorem dX6_as_15 : decode cX6_as 15 = .ok (.aload_n 0, 1) := by decide +kernel
theorem dX6_as_16 : decode cX6_as 16 = .ok (.ldc 44, 2) := by decide +kernel
theorem dX6_as_18 : decode cX6_as 18 = .ok (.invokevirtual 45, 3) := by decide +kernel
theorem dX6_as_21 : decode cX6_as 21 = .ok (.ireturn, 1) := by decide +kernel
theorem dX6_as_22 : decode cX6_as 22 = .ok (.aload_n 0, 1) := by decide +kernel
theorem dX6_as_23 : decode cX6_as 23 = .ok (.getfield 10, 3) := by decide +kernel
theorem dX6_as_26 : decode cX6_as 26 = .ok (.getfield 49, 3) := by decide +kernel
theorem dX6_as_29 : decode cX6_as 29 = .ok (.iload_n 1, 1) := by decide +kernel
theorem dX6_as_30 : decode cX6_as 30 = .ok (.iload_n 2, 1) := by decide +kernel
theorem dX6_as_31 : decode cX6_as 31 = .ok (.invokevirtual 70, 3) := by decide +kernel
theorem dX6_as_34 : decode cX6_as 34 = .ok (.ifCond .eq 7, 3) := by decide +kernel
theorem dX6_as_37 : decode cX6_as 37 = .ok (.iload_n 1, 1) := by decide +kernel
theorem dX6_as_38 : decode cX6_as 38 = .ok (.goto 9, 3) := by decide +kernel
theorem dX6_as_41 : decode cX6_as 41 = .ok (.aload_n 0, 1) := by decide +kernel
theorem dX6_as_42 : decode cX6_as 42 = .ok (.ldc 74, 2) := by decide +kernel
theorem dX6_as_44 : decode cX6_as 44 = .ok (.invokevirtual 45, 3) := by decide +kernel
theorem dX6_as_47 : decode cX6_as 47 = .ok (.ireturn, 1) := by decide +kernel
theorem dX6_of_0 : decode cX6_of 0 = .ok (.aload_n 0, 1) := by decide +kernel
theorem dX6_of_1 : decode cX6_of 1 = .ok (.iload_n 1, 1) := by decide +kernel
theorem dX6_of_2 : decode cX6_of 2 = .ok (.invokevirtual 63, 3) := by decide +kernel
theorem dX6_of_5 : decode cX6_of 5 = .ok (.ifCond .ne 10, 3) := by decide +kernel
theorem dX6_of_8 : decode cX6_of 8 = .ok (.aload_n 0, 1) := by decide +kernel
theorem dX6_of_9 : decode cX6_of 9 = .ok (.ldc 44, 2) := by decide +kernel
theorem dX6_of_11 : decode cX6_of 11 = .ok (.invokevirtual 45, 3) := by decide +kernel
theorem dX6_of_14 : decode cX6_of 14 = .ok (.ireturn, 1) := by decide +kernel
theorem dX6_of_15 : decode cX6_of 15 = .ok (.iload_n 2, 1) := by decide +kernel
theorem dX6_of_16 : decode cX6_of 16 = .ok (.tableswitch 114 0 5 #[40, 53, 66, 79, 92, 105], 40) := by decide +kernel
theorem dX6_of_56 : decode cX6_of 56 = .ok (.aload_n 0, 1) := by decide +kernel
theorem dX6_of_57 : decode cX6_of 57 = .ok (.getfield 10, 3) := by decide +kernel
theorem dX6_of_60 : decode cX6_of 60 = .ok (.getfield 49, 3) := by decide +kernel
theorem dX6_of_63 : decode cX6_of 63 = .ok (.getfield 75, 3) := by decide +kernel
theorem dX6_of_66 : decode cX6_of 66 = .ok (.iload_n 1, 1) := by decide +kernel
theorem dX6_of_67 : decode cX6_of 67 = .ok (.iaload, 1) := by decide +kernel
theorem dX6_of_68 : decode cX6_of 68 = .ok (.ireturn, 1) := by decide +kernel
theorem dX6_of_69 : decode cX6_of 69 = .ok (.aload_n 0, 1) := by decide +kernel
theorem dX6_of_70 : decode cX6_of 70 = .ok (.getfield 10, 3) := by decide +kernel
theorem dX6_of_73 : decode cX6_of 73 = .ok (.getfield 49, 3) := by decide +kernel
theorem dX6_of_76 : decode cX6_of 76 = .ok (.getfield 78, 3) := by decide +kernel
theorem dX6_of_79 : decode cX6_of 79 = .ok (.iload_n 1, 1) := by decide +kernel
theorem dX6_of_80 : decode cX6_of 80 = .ok (.iaload, 1) := by decide +kernel
theorem dX6_of_81 : decode cX6_of 81 = .ok (.ireturn, 1) := by decide +kernel
theorem dX6_of_82 : decode cX6_of 82 = .ok (.aload_n 0, 1) := by decide +kernel
theorem dX6_of_83 : decode cX6_of 83 = .ok (.getfield 10, 3) := by decide +kernel
theorem dX6_of_86 : decode cX6_of 86 = .ok (.getfield 49, 3) := by decide +kernel
theorem dX6_of_89 : decode cX6_of 89 = .ok (.getfield 81, 3) := by decide +kernel
theorem dX6_of_92 : decode cX6_of 92 = .ok (.iload_n 1, 1) := by decide +kernel
theorem dX6_of_93 : decode cX6_of 93 = .ok (.iaload, 1) := by decide +kernel
theorem dX6_of_94 : decode cX6_of 94 = .ok (.ireturn, 1) := by decide +kernel
theorem dX6_of_95 : decode cX6_of 95 = .ok (.aload_n 0, 1) := by decide +kernel
theorem dX6_of_96 : decode cX6_of 96 = .ok (.getfield 10, 3) := by decide +kernel
theorem dX6_of_99 : decode cX6_of 99 = .ok (.getfield 49, 3) := by decide +kernel
theorem dX6_of_102 : decode cX6_of 102 = .ok (.getfield 84, 3) := by decide +kernel
theorem dX6_of_105 : decode cX6_of 105 = .ok (.iload_n 1, 1) := by decide +kernel
theorem dX6_of_106 : decode cX6_of 106 = .ok (.iaload, 1) := by decide +kernel
theorem dX6_of_107 : decode cX6_of 107 = .ok (.ireturn, 1) := by decide +kernel
theorem dX6_of_108 : decode cX6_of 108 = .ok (.aload_n 0, 1) := by decide +kernel
theorem dX6_of_109 : decode cX6_of 109 = .ok (.getfield 10, 3) := by decide +kernel
theorem dX6_of_112 : decode cX6_of 112 = .ok (.getfield 49, 3) := by decide +kernel
theorem dX6_of_115 : decode cX6_of 115 = .ok (.getfield 66, 3) := by decide +kernel
theorem dX6_of_118 : decode cX6_of 118 = .ok (.iload_n 1, 1) := by decide +kernel
theorem dX6_of_119 : decode cX6_of 119 = .ok (.iaload, 1) := by decide +kernel
theorem dX6_of_120 : decode cX6_of 120 = .ok (.ireturn, 1) := by decide +kernel
theorem dX6_of_121 : decode cX6_of 121 = .ok (.aload_n 0, 1) := by decide +kernel
theorem dX6_of_122 : decode cX6_of 122 = .ok (.getfield 10, 3) := by decide +kernel
theorem dX6_of_125 : decode cX6_of 125 = .ok (.iload_n 1, 1) := by decide +kernel
theorem dX6_of_126 : decode cX6_of 126 = .ok (.invokevirtual 87, 3) := by decide +kernel
theorem dX6_of_129 : decode cX6_of 129 = .ok (.ireturn, 1) := by decide +kernel
theorem dX6_of_130 : decode cX6_of 130 = .ok (.aload_n 0, 1) := by decide +kernel
theorem dX6_of_131 : decode cX6_of 131 = .ok (.ldc 44, 2) := by decide +kernel
theorem dX6_of_133 : decode cX6_of 133 = .ok (.invokevirtual 45, 3) := by decide +kernel
theorem dX6_of_136 : decode cX6_of 136 = .ok (.ireturn, 1) := by decide +kernel
theorem dX6_distance_0 : decode cX6_distance 0 = .ok (.aload_n 0, 1) := by decide +kernel
theorem dX6_distance_1 : decode cX6_distance 1 = .ok (.iload_n 1, 1) := by decide +kernel
theorem dX6_distance_2 : decode cX6_distance 2 = .ok (.invokevirtual 63, 3) := by decide +kernel
theorem dX6_distance_5 : decode cX6_distance 5 = .ok (.ifCond .eq 11, 3) := by decide +kernel
theorem dX6_distance_8 : decode cX6_distance 8 = .ok (.aload_n 0, 1) := by decide +kernel
theorem dX6_distance_9 : decode cX6_distance 9 = .ok (.iload_n 2, 1) := by decide +kernel
theorem dX6_distance_10 : decode cX6_distance 10 = .ok (.invokevirtual 63, 3) := by decide +kernel
theorem dX6_distance_13 : decode cX6_distance 13 = .ok (.ifCond .ne 10, 3) := by decide +kernel
theorem dX6_distance_16 : decode cX6_distance 16 = .ok (.aload_n 0, 1) := by decide +kernel
theorem dX6_distance_17 : decode cX6_distance 17 = .ok (.ldc 44, 2) := by decide +kernel
theorem dX6_distance_19 : decode cX6_distance 19 = .ok (.invokevirtual 45, 3) := by decide +kernel
theorem dX6_distance_22 : decode cX6_distance 22 = .ok (.ireturn, 1) := by decide +kernel
theorem dX6_distance_23 : decode cX6_distance 23 = .ok (.aload_n 0, 1) := by decide +kernel
theorem dX6_distance_24 : decode cX6_distance 24 = .ok (.getfield 10, 3) := by decide +kernel
theorem dX6_distance_27 : decode cX6_distance 27 = .ok (.getfield 49, 3) := by decide +kernel
theorem dX6_distance_30 : decode cX6_distance 30 = .ok (.iload_n 1, 1) := by decide +kernel
theorem dX6_distance_31 : decode cX6_distance 31 = .ok (.iload_n 2, 1) := by decide +kernel
theorem dX6_distance_32 : decode cX6_distance 32 = .ok (.invokevirtual 90, 3) := by decide +kernel
theorem dX6_distance_35 : decode cX6_distance 35 = .ok (.ireturn, 1) := by decide +kernel
theorem dX6_table_0 : decode cX6_table 0 = .ok (.iload_n 1, 1) := by decide +kernel
theorem dX6_table_1 : decode cX6_table 1 = .ok (.invokestatic 94, 3) := by decide +kernel
theorem dX6_table_4 : decode cX6_table 4 = .ok (.ifCond .eq 28, 3) := by decide +kernel
theorem dX6_table_7 : decode cX6_table 7 = .ok (.iload_n 3, 1) := by decide +kernel
theorem dX6_table_8 : decode cX6_table 8 = .ok (.invokestatic 97, 3) := by decide +kernel
theorem dX6_table_11 : decode cX6_table 11 = .ok (.ifCond .eq 21, 3) := by decide +kernel
theorem dX6_table_14 : decode cX6_table 14 = .ok (.iload 4, 2) := by decide +kernel
theorem dX6_table_16 : decode cX6_table 16 = .ok (.invokestatic 100, 3) := by decide +kernel
theorem dX6_table_19 : decode cX6_table 19 = .ok (.ifCond .eq 13, 3) := by decide +kernel
theorem dX6_table_22 : decode cX6_table 22 = .ok (.iload_n 2, 1) := by decide +kernel
theorem dX6_table_23 : decode cX6_table 23 = .ok (.iconst 0, 1) := by decide +kernel
theorem dX6_table_24 : decode cX6_table 24 = .ok (.bipush 9, 2) := by decide +kernel
theorem dX6_table_26 : decode cX6_table 26 = .ok (.invokestatic 103, 3) := by decide +kernel
theorem dX6_table_29 : decode cX6_table 29 = .ok (.ifCond .ne 10, 3) := by decide +kernel
theorem dX6_table_32 : decode cX6_table 32 = .ok (.aload_n 0, 1) := by decide +kernel
theorem dX6_table_33 : decode cX6_table 33 = .ok (.ldc 44, 2) := by decide +kernel
theorem dX6_table_35 : decode cX6_table 35 = .ok (.invokevirtual 45, 3) := by decide +kernel
theorem dX6_table_38 : decode cX6_table 38 = .ok (.ireturn, 1) := by decide +kernel
theorem dX6_table_39 : decode cX6_table 39 = .ok (.aload_n 0, 1) := by decide +kernel
theorem dX6_table_40 : decode cX6_table 40 = .ok (.getfield 10, 3) := by decide +kernel
theorem dX6_table_43 : decode cX6_table 43 = .ok (.getfield 107, 3) := by decide +kernel
theorem dX6_table_46 : decode cX6_table 46 = .ok (.iload_n 1, 1) := by decide +kernel
theorem dX6_table_47 : decode cX6_table 47 = .ok (.iload_n 2, 1) := by decide +kernel
theorem dX6_table_48 : decode cX6_table 48 = .ok (.iload_n 3, 1) := by decide +kernel
theorem dX6_table_49 : decode cX6_table 49 = .ok (.iload 4, 2) := by decide +kernel
theorem dX6_table_51 : decode cX6_table 51 = .ok (.invokevirtual 111, 3) := by decide +kernel
theorem dX6_table_54 : decode cX6_table 54 = .ok (.ifCond .ne 10, 3) := by decide +kernel
theorem dX6_table_57 : decode cX6_table 57 = .ok (.aload_n 0, 1) := by decide +kernel
theorem dX6_table_58 : decode cX6_table 58 = .ok (.ldc 117, 2) := by decide +kernel
theorem dX6_table_60 : decode cX6_table 60 = .ok (.invokevirtual 45, 3) := by decide +kernel
theorem dX6_table_63 : decode cX6_table 63 = .ok (.ireturn, 1) := by decide +kernel
theorem dX6_table_64 : decode cX6_table 64 = .ok (.iload_n 1, 1) := by decide +kernel
theorem dX6_table_65 : decode cX6_table 65 = .ok (.iload_n 2, 1) := by decide +kernel
theorem dX6_table_66 : decode cX6_table 66 = .ok (.invokestatic 118, 3) := by decide +kernel
theorem dX6_table_69 : decode cX6_table 69 = .ok (.iload_n 3, 1) := by decide +kernel
theorem dX6_table_70 : decode cX6_table 70 = .ok (.iadd, 1) := by decide +kernel
theorem dX6_table_71 : decode cX6_table 71 = .ok (.istore 5, 2) := by decide +kernel
theorem dX6_table_73 : decode cX6_table 73 = .ok (.aload_n 0, 1) := by decide +kernel
theorem dX6_table_74 : decode cX6_table 74 = .ok (.getfield 10, 3) := by decide +kernel
theorem dX6_table_77 : decode cX6_table 77 = .ok (.getfield 107, 3) := by decide +kernel
theorem dX6_table_80 : decode cX6_table 80 = .ok (.getfield 121, 3) := by decide +kernel
theorem dX6_table_83 : decode cX6_table 83 = .ok (.iload 5, 2) := by decide +kernel
theorem dX6_table_85 : decode cX6_table 85 = .ok (.iaload, 1) := by decide +kernel
theorem dX6_table_86 : decode cX6_table 86 = .ok (.istore 6, 2) := by decide +kernel
theorem dX6_table_88 : decode cX6_table 88 = .ok (.aload_n 0, 1) := by decide +kernel
theorem dX6_table_89 : decode cX6_table 89 = .ok (.getfield 10, 3) := by decide +kernel
theorem dX6_table_92 : decode cX6_table 92 = .ok (.getfield 107, 3) := by decide +kernel
theorem dX6_table_95 : decode cX6_table 95 = .ok (.getfield 121, 3) := by decide +kernel
theorem dX6_table_98 : decode cX6_table 98 = .ok (.iload 5, 2) := by decide +kernel
theorem dX6_table_100 : decode cX6_table 100 = .ok (.iload 4, 2) := by decide +kernel
theorem dX6_table_102 : decode cX6_table 102 = .ok (.iastore, 1) := by decide +kernel
theorem dX6_table_103 : decode cX6_table 103 = .ok (.iload 6, 2) := by decide +kernel
theorem dX6_table_105 : decode cX6_table 105 = .ok (.ireturn, 1) := by decide +kernel
theorem dX6_rainTable_0 : decode cX6_rainTable 0 = .ok (.iload_n 1, 1) := by decide +kernel
theorem dX6_rainTable_1 : decode cX6_rainTable 1 = .ok (.invokestatic 97, 3) := by decide +kernel
theorem dX6_rainTable_4 : decode cX6_rainTable 4 = .ok (.ifCond .eq 10, 3) := by decide +kernel
theorem dX6_rainTable_7 : decode cX6_rainTable 7 = .ok (.iload_n 2, 1) := by decide +kernel
theorem dX6_rainTable_8 : decode cX6_rainTable 8 = .ok (.invokestatic 100, 3) := by decide +kernel
theorem dX6_rainTable_11 : decode cX6_rainTable 11 = .ok (.ifCond .ne 10, 3) := by decide +kernel
theorem dX6_rainTable_14 : decode cX6_rainTable 14 = .ok (.aload_n 0, 1) := by decide +kernel
theorem dX6_rainTable_15 : decode cX6_rainTable 15 = .ok (.ldc 44, 2) := by decide +kernel
theorem dX6_rainTable_17 : decode cX6_rainTable 17 = .ok (.invokevirtual 45, 3) := by decide +kernel
theorem dX6_rainTable_20 : decode cX6_rainTable 20 = .ok (.ireturn, 1) := by decide +kernel
theorem dX6_rainTable_21 : decode cX6_rainTable 21 = .ok (.aload_n 0, 1) := by decide +kernel
theorem dX6_rainTable_22 : decode cX6_rainTable 22 = .ok (.getfield 10, 3) := by decide +kernel
theorem dX6_rainTable_25 : decode cX6_rainTable 25 = .ok (.getfield 107, 3) := by decide +kernel
theorem dX6_rainTable_28 : decode cX6_rainTable 28 = .ok (.getfield 124, 3) := by decide +kernel
theorem dX6_rainTable_31 : decode cX6_rainTable 31 = .ok (.iload_n 1, 1) := by decide +kernel
theorem dX6_rainTable_32 : decode cX6_rainTable 32 = .ok (.iaload, 1) := by decide +kernel
theorem dX6_rainTable_33 : decode cX6_rainTable 33 = .ok (.istore_n 3, 1) := by decide +kernel
theorem dX6_rainTable_34 : decode cX6_rainTable 34 = .ok (.aload_n 0, 1) := by decide +kernel
theorem dX6_rainTable_35 : decode cX6_rainTable 35 = .ok (.getfield 10, 3) := by decide +kernel
theorem dX6_rainTable_38 : decode cX6_rainTable 38 = .ok (.getfield 107, 3) := by decide +kernel
theorem dX6_rainTable_41 : decode cX6_rainTable 41 = .ok (.getfield 124, 3) := by decide +kernel
theorem dX6_rainTable_44 : decode cX6_rainTable 44 = .ok (.iload_n 1, 1) := by decide +kernel
theorem dX6_rainTable_45 : decode cX6_rainTable 45 = .ok (.iload_n 2, 1) := by decide +kernel
theorem dX6_rainTable_46 : decode cX6_rainTable 46 = .ok (.iastore, 1) := by decide +kernel
theorem dX6_rainTable_47 : decode cX6_rainTable 47 = .ok (.iload_n 3, 1) := by decide +kernel
theorem dX6_rainTable_48 : decode cX6_rainTable 48 = .ok (.ireturn, 1) := by decide +kernel
theorem dX6_sheet_0 : decode cX6_sheet 0 = .ok (.iload_n 1, 1) := by decide +kernel
theorem dX6_sheet_1 : decode cX6_sheet 1 = .ok (.invokestatic 127, 3) := by decide +kernel
theorem dX6_sheet_4 : decode cX6_sheet 4 = .ok (.ifCond .eq 12, 3) := by decide +kernel
theorem dX6_sheet_7 : decode cX6_sheet 7 = .ok (.iload_n 2, 1) := by decide +kernel
theorem dX6_sheet_8 : decode cX6_sheet 8 = .ok (.iconst 0, 1) := by decide +kernel
theorem dX6_sheet_9 : decode cX6_sheet 9 = .ok (.iconst 2, 1) := by decide +kernel
theorem dX6_sheet_10 : decode cX6_sheet 10 = .ok (.invokestatic 103, 3) := by decide +kernel
theorem dX6_sheet_13 : decode cX6_sheet 13 = .ok (.ifCond .ne 10, 3) := by decide +kernel
theorem dX6_sheet_16 : decode cX6_sheet 16 = .ok (.aload_n 0, 1) := by decide +kernel
theorem dX6_sheet_17 : decode cX6_sheet 17 = .ok (.ldc 44, 2) := by decide +kernel
theorem dX6_sheet_19 : decode cX6_sheet 19 = .ok (.invokevirtual 45, 3) := by decide +kernel
theorem dX6_sheet_22 : decode cX6_sheet 22 = .ok (.ireturn, 1) := by decide +kernel
theorem dX6_sheet_23 : decode cX6_sheet 23 = .ok (.iload_n 3, 1) := by decide +kernel
theorem dX6_sheet_24 : decode cX6_sheet 24 = .ok (.ifCond .ge 10, 3) := by decide +kernel
theorem dX6_sheet_27 : decode cX6_sheet 27 = .ok (.aload_n 0, 1) := by decide +kernel
theorem dX6_sheet_28 : decode cX6_sheet 28 = .ok (.ldc 117, 2) := by decide +kernel
theorem dX6_sheet_30 : decode cX6_sheet 30 = .ok (.invokevirtual 45, 3) := by decide +kernel
theorem dX6_sheet_33 : decode cX6_sheet 33 = .ok (.ireturn, 1) := by decide +kernel
theorem dX6_sheet_34 : decode cX6_sheet 34 = .ok (.iload_n 3, 1) := by decide +kernel
theorem dX6_sheet_35 : decode cX6_sheet 35 = .ok (.bipush 24, 2) := by decide +kernel
theorem dX6_sheet_37 : decode cX6_sheet 37 = .ok (.if_icmp .le 10, 3) := by decide +kernel
theorem dX6_sheet_40 : decode cX6_sheet 40 = .ok (.aload_n 0, 1) := by decide +kernel
theorem dX6_sheet_41 : decode cX6_sheet 41 = .ok (.ldc 44, 2) := by decide +kernel
theorem dX6_sheet_43 : decode cX6_sheet 43 = .ok (.invokevirtual 45, 3) := by decide +kernel
theorem dX6_sheet_46 : decode cX6_sheet 46 = .ok (.ireturn, 1) := by decide +kernel
theorem dX6_sheet_47 : decode cX6_sheet 47 = .ok (.aload_n 0, 1) := by decide +kernel
theorem dX6_sheet_48 : decode cX6_sheet 48 = .ok (.getfield 26, 3) := by decide +kernel
theorem dX6_sheet_51 : decode cX6_sheet 51 = .ok (.iload_n 1, 1) := by decide +kernel
theorem dX6_sheet_52 : decode cX6_sheet 52 = .ok (.aaload, 1) := by decide +kernel
theorem dX6_sheet_53 : decode cX6_sheet 53 = .ok (.iload_n 2, 1) := by decide +kernel
theorem dX6_sheet_54 : decode cX6_sheet 54 = .ok (.iload_n 3, 1) := by decide +kernel
theorem dX6_sheet_55 : decode cX6_sheet 55 = .ok (.invokevirtual 130, 3) := by decide +kernel
theorem dX6_sheet_58 : decode cX6_sheet 58 = .ok (.ireturn, 1) := by decide +kernel
theorem dX6_put_0 : decode cX6_put 0 = .ok (.iload_n 1, 1) := by decide +kernel
theorem dX6_put_1 : decode cX6_put 1 = .ok (.invokestatic 127, 3) := by decide +kernel
theorem dX6_put_4 : decode cX6_put 4 = .ok (.ifCond .ne 10, 3) := by decide +kernel
theorem dX6_put_7 : decode cX6_put 7 = .ok (.aload_n 0, 1) := by decide +kernel
theorem dX6_put_8 : decode cX6_put 8 = .ok (.ldc 44, 2) := by decide +kernel
theorem dX6_put_10 : decode cX6_put 10 = .ok (.invokevirtual 45, 3) := by decide +kernel
theorem dX6_put_13 : decode cX6_put 13 = .ok (.ireturn, 1) := by decide +kernel
theorem dX6_put_14 : decode cX6_put 14 = .ok (.aload_n 0, 1) := by decide +kernel
theorem dX6_put_15 : decode cX6_put 15 = .ok (.getfield 26, 3) := by decide +kernel
theorem dX6_put_18 : decode cX6_put 18 = .ok (.iload_n 1, 1) := by decide +kernel
theorem dX6_put_19 : decode cX6_put 19 = .ok (.aaload, 1) := by decide +kernel
theorem dX6_put_20 : decode cX6_put 20 = .ok (.invokevirtual 133, 3) := by decide +kernel
theorem dX6_put_23 : decode cX6_put 23 = .ok (.ifCond .eq 10, 3) := by decide +kernel
theorem dX6_put_26 : decode cX6_put 26 = .ok (.aload_n 0, 1) := by decide +kernel
theorem dX6_put_27 : decode cX6_put 27 = .ok (.ldc 137, 2) := by decide +kernel
theorem dX6_put_29 : decode cX6_put 29 = .ok (.invokevirtual 45, 3) := by decide +kernel
theorem dX6_put_32 : decode cX6_put 32 = .ok (.ireturn, 1) := by decide +kernel
theorem dX6_put_33 : decode cX6_put 33 = .ok (.iload_n 2, 1) := by decide +kernel
theorem dX6_put_34 : decode cX6_put 34 = .ok (.iconst 0, 1) := by decide +kernel
theorem dX6_put_35 : decode cX6_put 35 = .ok (.aload_n 0, 1) := by decide +kernel
theorem dX6_put_36 : decode cX6_put 36 = .ok (.getfield 26, 3) := by decide +kernel
theorem dX6_put_39 : decode cX6_put 39 = .ok (.iload_n 1, 1) := by decide +kernel
theorem dX6_put_40 : decode cX6_put 40 = .ok (.aaload, 1) := by decide +kernel
theorem dX6_put_41 : decode cX6_put 41 = .ok (.getfield 138, 3) := by decide +kernel
theorem dX6_put_44 : decode cX6_put 44 = .ok (.iconst 1, 1) := by decide +kernel
theorem dX6_put_45 : decode cX6_put 45 = .ok (.isub, 1) := by decide +kernel
theorem dX6_put_46 : decode cX6_put 46 = .ok (.invokestatic 103, 3) := by decide +kernel
theorem dX6_put_49 : decode cX6_put 49 = .ok (.ifCond .ne 10, 3) := by decide +kernel
theorem dX6_put_52 : decode cX6_put 52 = .ok (.aload_n 0, 1) := by decide +kernel
theorem dX6_put_53 : decode cX6_put 53 = .ok (.ldc 44, 2) := by decide +kernel
theorem dX6_put_55 : decode cX6_put 55 = .ok (.invokevirtual 45, 3) := by decide +kernel
theorem dX6_put_58 : decode cX6_put 58 = .ok (.ireturn, 1) := by decide +kernel
theorem dX6_put_59 : decode cX6_put 59 = .ok (.aload_n 0, 1) := by decide +kernel
theorem dX6_put_60 : decode cX6_put 60 = .ok (.getfield 26, 3) := by decide +kernel
theorem dX6_put_63 : decode cX6_put 63 = .ok (.iload_n 1, 1) := by decide +kernel
theorem dX6_put_64 : decode cX6_put 64 = .ok (.aaload, 1) := by decide +kernel
theorem dX6_put_65 : decode cX6_put 65 = .ok (.iload_n 2, 1) := by decide +kernel
theorem dX6_put_66 : decode cX6_put 66 = .ok (.iload_n 3, 1) := by decide +kernel
theorem dX6_put_67 : decode cX6_put 67 = .ok (.invokevirtual 139, 3) := by decide +kernel
theorem dX6_put_70 : decode cX6_put 70 = .ok (.iconst 0, 1) := by decide +kernel
theorem dX6_put_71 : decode cX6_put 71 = .ok (.ireturn, 1) := by decide +kernel
theorem dX6_copy_0 : decode cX6_copy 0 = .ok (.iload_n 1, 1) := by decide +kernel
theorem dX6_copy_1 : decode cX6_copy 1 = .ok (.invokestatic 127, 3) := by decide +kernel
theorem dX6_copy_4 : decode cX6_copy 4 = .ok (.ifCond .eq 10, 3) := by decide +kernel
theorem dX6_copy_7 : decode cX6_copy 7 = .ok (.iload_n 3, 1) := by decide +kernel
theorem dX6_copy_8 : decode cX6_copy 8 = .ok (.invokestatic 127, 3) := by decide +kernel
theorem dX6_copy_11 : decode cX6_copy 11 = .ok (.ifCond .ne 10, 3) := by decide +kernel
theorem dX6_copy_14 : decode cX6_copy 14 = .ok (.aload_n 0, 1) := by decide +kernel
theorem dX6_copy_15 : decode cX6_copy 15 = .ok (.ldc 44, 2) := by decide +kernel
theorem dX6_copy_17 : decode cX6_copy 17 = .ok (.invokevirtual 45, 3) := by decide +kernel
theorem dX6_copy_20 : decode cX6_copy 20 = .ok (.ireturn, 1) := by decide +kernel
theorem dX6_copy_21 : decode cX6_copy 21 = .ok (.aload_n 0, 1) := by decide +kernel
theorem dX6_copy_22 : decode cX6_copy 22 = .ok (.getfield 26, 3) := by decide +kernel
theorem dX6_copy_25 : decode cX6_copy 25 = .ok (.iload_n 1, 1) := by decide +kernel
theorem dX6_copy_26 : decode cX6_copy 26 = .ok (.aaload, 1) := by decide +kernel
theorem dX6_copy_27 : decode cX6_copy 27 = .ok (.invokevirtual 133, 3) := by decide +kernel
theorem dX6_copy_30 : decode cX6_copy 30 = .ok (.ifCond .ne 15, 3) := by decide +kernel
theorem dX6_copy_33 : decode cX6_copy 33 = .ok (.aload_n 0, 1) := by decide +kernel
theorem dX6_copy_34 : decode cX6_copy 34 = .ok (.getfield 26, 3) := by decide +kernel
theorem dX6_copy_37 : decode cX6_copy 37 = .ok (.iload_n 3, 1) := by decide +kernel
theorem dX6_copy_38 : decode cX6_copy 38 = .ok (.aaload, 1) := by decide +kernel
theorem dX6_copy_39 : decode cX6_copy 39 = .ok (.invokevirtual 133, 3) := by decide +kernel
theorem dX6_copy_42 : decode cX6_copy 42 = .ok (.ifCond .eq 10, 3) := by decide +kernel
theorem dX6_copy_45 : decode cX6_copy 45 = .ok (.aload_n 0, 1) := by decide +kernel
theorem dX6_copy_46 : decode cX6_copy 46 = .ok (.ldc 137, 2) := by decide +kernel
theorem dX6_copy_48 : decode cX6_copy 48 = .ok (.invokevirtual 45, 3) := by decide +kernel
theorem dX6_copy_51 : decode cX6_copy 51 = .ok (.ireturn, 1) := by decide +kernel
theorem dX6_copy_52 : decode cX6_copy 52 = .ok (.aload_n 0, 1) := by decide +kernel
theorem dX6_copy_53 : decode cX6_copy 53 = .ok (.getfield 26, 3) := by decide +kernel
theorem dX6_copy_56 : decode cX6_copy 56 = .ok (.iload_n 1, 1) := by decide +kernel
theorem dX6_copy_57 : decode cX6_copy 57 = .ok (.aaload, 1) := by decide +kernel
theorem dX6_copy_58 : decode cX6_copy 58 = .ok (.getfield 143, 3) := by decide +kernel
theorem dX6_copy_61 : decode cX6_copy 61 = .ok (.aload_n 0, 1) := by decide +kernel
theorem dX6_copy_62 : decode cX6_copy 62 = .ok (.getfield 26, 3) := by decide +kernel
theorem dX6_copy_65 : decode cX6_copy 65 = .ok (.iload_n 3, 1) := by decide +kernel
theorem dX6_copy_66 : decode cX6_copy 66 = .ok (.aaload, 1) := by decide +kernel
theorem dX6_copy_67 : decode cX6_copy 67 = .ok (.getfield 143, 3) := by decide +kernel
theorem dX6_copy_70 : decode cX6_copy 70 = .ok (.if_icmp .eq 10, 3) := by decide +kernel
theorem dX6_copy_73 : decode cX6_copy 73 = .ok (.aload_n 0, 1) := by decide +kernel
theorem dX6_copy_74 : decode cX6_copy 74 = .ok (.ldc 74, 2) := by decide +kernel
theorem dX6_copy_76 : decode cX6_copy 76 = .ok (.invokevirtual 45, 3) := by decide +kernel
theorem dX6_copy_79 : decode cX6_copy 79 = .ok (.ireturn, 1) := by decide +kernel
theorem dX6_copy_80 : decode cX6_copy 80 = .ok (.aload_n 0, 1) := by decide +kernel
theorem dX6_copy_81 : decode cX6_copy 81 = .ok (.getfield 26, 3) := by decide +kernel
theorem dX6_copy_84 : decode cX6_copy 84 = .ok (.iload_n 1, 1) := by decide +kernel
theorem dX6_copy_85 : decode cX6_copy 85 = .ok (.aaload, 1) := by decide +kernel
theorem dX6_copy_86 : decode cX6_copy 86 = .ok (.iload_n 2, 1) := by decide +kernel
theorem dX6_copy_87 : decode cX6_copy 87 = .ok (.iload 5, 2) := by decide +kernel
theorem dX6_copy_89 : decode cX6_copy 89 = .ok (.invokevirtual 146, 3) := by decide +kernel
theorem dX6_copy_92 : decode cX6_copy 92 = .ok (.ifCond .eq 19, 3) := by decide +kernel
theorem dX6_copy_95 : decode cX6_copy 95 = .ok (.aload_n 0, 1) := by decide +kernel
theorem dX6_copy_96 : decode cX6_copy 96 = .ok (.getfield 26, 3) := by decide +kernel
theorem dX6_copy_99 : decode cX6_copy 99 = .ok (.iload_n 3, 1) := by decide +kernel
theorem dX6_copy_100 : decode cX6_copy 100 = .ok (.aaload, 1) := by decide +kernel
theorem dX6_copy_101 : decode cX6_copy 101 = .ok (.iload 4, 2) := by decide +kernel
theorem dX6_copy_103 : decode cX6_copy 103 = .ok (.iload 5, 2) := by decide +kernel
theorem dX6_copy_105 : decode cX6_copy 105 = .ok (.invokevirtual 146, 3) := by decide +kernel
theorem dX6_copy_108 : decode cX6_copy 108 = .ok (.ifCond .ne 10, 3) := by decide +kernel
theorem dX6_copy_111 : decode cX6_copy 111 = .ok (.aload_n 0, 1) := by decide +kernel
theorem dX6_copy_112 : decode cX6_copy 112 = .ok (.ldc 44, 2) := by decide +kernel
theorem dX6_copy_114 : decode cX6_copy 114 = .ok (.invokevirtual 45, 3) := by decide +kernel
theorem dX6_copy_117 : decode cX6_copy 117 = .ok (.ireturn, 1) := by decide +kernel
theorem dX6_copy_118 : decode cX6_copy 118 = .ok (.aload_n 0, 1) := by decide +kernel
theorem dX6_copy_119 : decode cX6_copy 119 = .ok (.getfield 26, 3) := by decide +kernel
theorem dX6_copy_122 : decode cX6_copy 122 = .ok (.iload_n 1, 1) := by decide +kernel
theorem dX6_copy_123 : decode cX6_copy 123 = .ok (.aaload, 1) := by decide +kernel
theorem dX6_copy_124 : decode cX6_copy 124 = .ok (.getfield 149, 3) := by decide +kernel
theorem dX6_copy_127 : decode cX6_copy 127 = .ok (.iload_n 2, 1) := by decide +kernel
theorem dX6_copy_128 : decode cX6_copy 128 = .ok (.aload_n 0, 1) := by decide +kernel
theorem dX6_copy_129 : decode cX6_copy 129 = .ok (.getfield 26, 3) := by decide +kernel
theorem dX6_copy_132 : decode cX6_copy 132 = .ok (.iload_n 3, 1) := by decide +kernel
theorem dX6_copy_133 : decode cX6_copy 133 = .ok (.aaload, 1) := by decide +kernel
theorem dX6_copy_134 : decode cX6_copy 134 = .ok (.getfield 149, 3) := by decide +kernel
theorem dX6_copy_137 : decode cX6_copy 137 = .ok (.iload 4, 2) := by decide +kernel
theorem dX6_copy_139 : decode cX6_copy 139 = .ok (.iload 5, 2) := by decide +kernel
theorem dX6_copy_141 : decode cX6_copy 141 = .ok (.invokestatic 152, 3) := by decide +kernel
theorem dX6_copy_144 : decode cX6_copy 144 = .ok (.iload 5, 2) := by decide +kernel
theorem dX6_copy_146 : decode cX6_copy 146 = .ok (.ireturn, 1) := by decide +kernel
theorem dX6_draws_0 : decode cX6_draws 0 = .ok (.aload_n 0, 1) := by decide +kernel
theorem dX6_draws_1 : decode cX6_draws 1 = .ok (.iload_n 1, 1) := by decide +kernel
theorem dX6_draws_2 : decode cX6_draws 2 = .ok (.invokevirtual 63, 3) := by decide +kernel
theorem dX6_draws_5 : decode cX6_draws 5 = .ok (.ifCond .eq 17, 3) := by decide +kernel
theorem dX6_draws_8 : decode cX6_draws 8 = .ok (.iload_n 2, 1) := by decide +kernel
theorem dX6_draws_9 : decode cX6_draws 9 = .ok (.invokestatic 158, 3) := by decide +kernel
theorem dX6_draws_12 : decode cX6_draws 12 = .ok (.ifCond .eq 10, 3) := by decide +kernel
theorem dX6_draws_15 : decode cX6_draws 15 = .ok (.iload_n 3, 1) := by decide +kernel
theorem dX6_draws_16 : decode cX6_draws 16 = .ok (.invokestatic 127, 3) := by decide +kernel
theorem dX6_draws_19 : decode cX6_draws 19 = .ok (.ifCond .ne 10, 3) := by decide +kernel
theorem dX6_draws_22 : decode cX6_draws 22 = .ok (.aload_n 0, 1) := by decide +kernel
theorem dX6_draws_23 : decode cX6_draws 23 = .ok (.ldc 44, 2) := by decide +kernel
theorem dX6_draws_25 : decode cX6_draws 25 = .ok (.invokevirtual 45, 3) := by decide +kernel
theorem dX6_draws_28 : decode cX6_draws 28 = .ok (.ireturn, 1) := by decide +kernel
theorem dX6_draws_29 : decode cX6_draws 29 = .ok (.aload_n 0, 1) := by decide +kernel
theorem dX6_draws_30 : decode cX6_draws 30 = .ok (.getfield 10, 3) := by decide +kernel
theorem dX6_draws_33 : decode cX6_draws 33 = .ok (.getfield 49, 3) := by decide +kernel
theorem dX6_draws_36 : decode cX6_draws 36 = .ok (.getfield 75, 3) := by decide +kernel
theorem dX6_draws_39 : decode cX6_draws 39 = .ok (.iload_n 1, 1) := by decide +kernel
theorem dX6_draws_40 : decode cX6_draws 40 = .ok (.iaload, 1) := by decide +kernel
theorem dX6_draws_41 : decode cX6_draws 41 = .ok (.iconst 5, 1) := by decide +kernel
theorem dX6_draws_42 : decode cX6_draws 42 = .ok (.if_icmp .ne 10, 3) := by decide +kernel
theorem dX6_draws_45 : decode cX6_draws 45 = .ok (.aload_n 0, 1) := by decide +kernel
theorem dX6_draws_46 : decode cX6_draws 46 = .ok (.ldc 74, 2) := by decide +kernel
theorem dX6_draws_48 : decode cX6_draws 48 = .ok (.invokevirtual 45, 3) := by decide +kernel
theorem dX6_draws_51 : decode cX6_draws 51 = .ok (.ireturn, 1) := by decide +kernel
theorem dX6_draws_52 : decode cX6_draws 52 = .ok (.aload_n 0, 1) := by decide +kernel
theorem dX6_draws_53 : decode cX6_draws 53 = .ok (.getfield 26, 3) := by decide +kernel
theorem dX6_draws_56 : decode cX6_draws 56 = .ok (.iload_n 3, 1) := by decide +kernel
theorem dX6_draws_57 : decode cX6_draws 57 = .ok (.aaload, 1) := by decide +kernel
theorem dX6_draws_58 : decode cX6_draws 58 = .ok (.astore 4, 2) := by decide +kernel
theorem dX6_draws_60 : decode cX6_draws 60 = .ok (.aload 4, 2) := by decide +kernel
theorem dX6_draws_62 : decode cX6_draws 62 = .ok (.invokevirtual 133, 3) := by decide +kernel
theorem dX6_draws_65 : decode cX6_draws 65 = .ok (.ifCond .eq 10, 3) := by decide +kernel
theorem dX6_draws_68 : decode cX6_draws 68 = .ok (.aload_n 0, 1) := by decide +kernel
theorem dX6_draws_69 : decode cX6_draws 69 = .ok (.ldc 137, 2) := by decide +kernel
theorem dX6_draws_71 : decode cX6_draws 71 = .ok (.invokevirtual 45, 3) := by decide +kernel
theorem dX6_draws_74 : decode cX6_draws 74 = .ok (.ireturn, 1) := by decide +kernel
theorem dX6_draws_75 : decode cX6_draws 75 = .ok (.aload 4, 2) := by decide +kernel
theorem dX6_draws_77 : decode cX6_draws 77 = .ok (.getfield 138, 3) := by decide +kernel
theorem dX6_draws_80 : decode cX6_draws 80 = .ok (.bipush 24, 2) := by decide +kernel
theorem dX6_draws_82 : decode cX6_draws 82 = .ok (.iload_n 2, 1) := by decide +kernel
theorem dX6_draws_83 : decode cX6_draws 83 = .ok (.isub, 1) := by decide +kernel
theorem dX6_draws_84 : decode cX6_draws 84 = .ok (.invokestatic 161, 3) := by decide +kernel
theorem dX6_draws_87 : decode cX6_draws 87 = .ok (.istore 5, 2) := by decide +kernel
theorem dX6_draws_89 : decode cX6_draws 89 = .ok (.aload 4, 2) := by decide +kernel
theorem dX6_draws_91 : decode cX6_draws 91 = .ok (.iload 5, 2) := by decide +kernel
theorem dX6_draws_93 : decode cX6_draws 93 = .ok (.invokevirtual 166, 3) := by decide +kernel
theorem dX6_draws_96 : decode cX6_draws 96 = .ok (.ifCond .ne 10, 3) := by decide +kernel
theorem dX6_draws_99 : decode cX6_draws 99 = .ok (.aload_n 0, 1) := by decide +kernel
theorem dX6_draws_100 : decode cX6_draws 100 = .ok (.ldc 169, 2) := by decide +kernel
theorem dX6_draws_102 : decode cX6_draws 102 = .ok (.invokevirtual 45, 3) := by decide +kernel
theorem dX6_draws_105 : decode cX6_draws 105 = .ok (.ireturn, 1) := by decide +kernel
theorem dX6_draws_106 : decode cX6_draws 106 = .ok (.aload 4, 2) := by decide +kernel
theorem dX6_draws_108 : decode cX6_draws 108 = .ok (.iload 5, 2) := by decide +kernel
theorem dX6_draws_110 : decode cX6_draws 110 = .ok (.invokevirtual 170, 3) := by decide +kernel
theorem dX6_draws_113 : decode cX6_draws 113 = .ok (.ifCond .ne 10, 3) := by decide +kernel
theorem dX6_draws_116 : decode cX6_draws 116 = .ok (.aload_n 0, 1) := by decide +kernel
theorem dX6_draws_117 : decode cX6_draws 117 = .ok (.ldc 44, 2) := by decide +kernel
theorem dX6_draws_119 : decode cX6_draws 119 = .ok (.invokevirtual 45, 3) := by decide +kernel
theorem dX6_draws_122 : decode cX6_draws 122 = .ok (.ireturn, 1) := by decide +kernel
theorem dX6_draws_123 : decode cX6_draws 123 = .ok (.iconst 0, 1) := by decide +kernel
theorem dX6_draws_124 : decode cX6_draws 124 = .ok (.istore 6, 2) := by decide +kernel
theorem dX6_draws_126 : decode cX6_draws 126 = .ok (.iload 6, 2) := by decide +kernel
theorem dX6_draws_128 : decode cX6_draws 128 = .ok (.iload 5, 2) := by decide +kernel
theorem dX6_draws_130 : decode cX6_draws 130 = .ok (.if_icmp .ge 28, 3) := by decide +kernel
theorem dX6_draws_133 : decode cX6_draws 133 = .ok (.aload_n 0, 1) := by decide +kernel
theorem dX6_draws_134 : decode cX6_draws 134 = .ok (.getfield 10, 3) := by decide +kernel
theorem dX6_draws_137 : decode cX6_draws 137 = .ok (.iload_n 1, 1) := by decide +kernel
theorem dX6_draws_138 : decode cX6_draws 138 = .ok (.iload_n 2, 1) := by decide +kernel
theorem dX6_draws_139 : decode cX6_draws 139 = .ok (.iload 6, 2) := by decide +kernel
theorem dX6_draws_141 : decode cX6_draws 141 = .ok (.iadd, 1) := by decide +kernel
theorem dX6_draws_142 : decode cX6_draws 142 = .ok (.aload 4, 2) := by decide +kernel
theorem dX6_draws_144 : decode cX6_draws 144 = .ok (.iload 6, 2) := by decide +kernel
theorem dX6_draws_146 : decode cX6_draws 146 = .ok (.invokevirtual 173, 3) := by decide +kernel
theorem dX6_draws_149 : decode cX6_draws 149 = .ok (.invokevirtual 176, 3) := by decide +kernel
theorem dX6_draws_152 : decode cX6_draws 152 = .ok (.iinc 6 1, 3) := by decide +kernel
theorem dX6_draws_155 : decode cX6_draws 155 = .ok (.goto (-29), 3) := by decide +kernel
theorem dX6_draws_158 : decode cX6_draws 158 = .ok (.iload 5, 2) := by decide +kernel
theorem dX6_draws_160 : decode cX6_draws 160 = .ok (.ireturn, 1) := by decide +kernel
theorem dX6_draw_0 : decode cX6_draw 0 = .ok (.aload_n 0, 1) := by decide +kernel
theorem dX6_draw_1 : decode cX6_draw 1 = .ok (.iload_n 1, 1) := by decide +kernel
theorem dX6_draw_2 : decode cX6_draw 2 = .ok (.invokevirtual 63, 3) := by decide +kernel
theorem dX6_draw_5 : decode cX6_draw 5 = .ok (.ifCond .eq 17, 3) := by decide +kernel
theorem dX6_draw_8 : decode cX6_draw 8 = .ok (.iload_n 2, 1) := by decide +kernel
theorem dX6_draw_9 : decode cX6_draw 9 = .ok (.invokestatic 158, 3) := by decide +kernel
theorem dX6_draw_12 : decode cX6_draw 12 = .ok (.ifCond .eq 10, 3) := by decide +kernel
theorem dX6_draw_15 : decode cX6_draw 15 = .ok (.iload_n 3, 1) := by decide +kernel
theorem dX6_draw_16 : decode cX6_draw 16 = .ok (.invokestatic 100, 3) := by decide +kernel
theorem dX6_draw_19 : decode cX6_draw 19 = .ok (.ifCond .ne 10, 3) := by decide +kernel
theorem dX6_draw_22 : decode cX6_draw 22 = .ok (.aload_n 0, 1) := by decide +kernel
theorem dX6_draw_23 : decode cX6_draw 23 = .ok (.ldc 44, 2) := by decide +kernel
theorem dX6_draw_25 : decode cX6_draw 25 = .ok (.invokevirtual 45, 3) := by decide +kernel
theorem dX6_draw_28 : decode cX6_draw 28 = .ok (.ireturn, 1) := by decide +kernel
theorem dX6_draw_29 : decode cX6_draw 29 = .ok (.aload_n 0, 1) := by decide +kernel
theorem dX6_draw_30 : decode cX6_draw 30 = .ok (.getfield 10, 3) := by decide +kernel
theorem dX6_draw_33 : decode cX6_draw 33 = .ok (.getfield 49, 3) := by decide +kernel
theorem dX6_draw_36 : decode cX6_draw 36 = .ok (.getfield 75, 3) := by decide +kernel
theorem dX6_draw_39 : decode cX6_draw 39 = .ok (.iload_n 1, 1) := by decide +kernel
theorem dX6_draw_40 : decode cX6_draw 40 = .ok (.iaload, 1) := by decide +kernel
theorem dX6_draw_41 : decode cX6_draw 41 = .ok (.iconst 5, 1) := by decide +kernel
theorem dX6_draw_42 : decode cX6_draw 42 = .ok (.if_icmp .ne 10, 3) := by decide +kernel
theorem dX6_draw_45 : decode cX6_draw 45 = .ok (.aload_n 0, 1) := by decide +kernel
theorem dX6_draw_46 : decode cX6_draw 46 = .ok (.ldc 74, 2) := by decide +kernel
theorem dX6_draw_48 : decode cX6_draw 48 = .ok (.invokevirtual 45, 3) := by decide +kernel
theorem dX6_draw_51 : decode cX6_draw 51 = .ok (.ireturn, 1) := by decide +kernel
theorem dX6_draw_52 : decode cX6_draw 52 = .ok (.aload_n 0, 1) := by decide +kernel
theorem dX6_draw_53 : decode cX6_draw 53 = .ok (.getfield 10, 3) := by decide +kernel
theorem dX6_draw_56 : decode cX6_draw 56 = .ok (.iload_n 1, 1) := by decide +kernel
theorem dX6_draw_57 : decode cX6_draw 57 = .ok (.iload_n 2, 1) := by decide +kernel
theorem dX6_draw_58 : decode cX6_draw 58 = .ok (.invokevirtual 180, 3) := by decide +kernel
theorem dX6_draw_61 : decode cX6_draw 61 = .ok (.istore 4, 2) := by decide +kernel
theorem dX6_draw_63 : decode cX6_draw 63 = .ok (.aload_n 0, 1) := by decide +kernel
theorem dX6_draw_64 : decode cX6_draw 64 = .ok (.getfield 10, 3) := by decide +kernel
theorem dX6_draw_67 : decode cX6_draw 67 = .ok (.iload_n 1, 1) := by decide +kernel
theorem dX6_draw_68 : decode cX6_draw 68 = .ok (.iload_n 2, 1) := by decide +kernel
theorem dX6_draw_69 : decode cX6_draw 69 = .ok (.iload_n 3, 1) := by decide +kernel
theorem dX6_draw_70 : decode cX6_draw 70 = .ok (.invokevirtual 176, 3) := by decide +kernel
theorem dX6_draw_73 : decode cX6_draw 73 = .ok (.iload 4, 2) := by decide +kernel
theorem dX6_draw_75 : decode cX6_draw 75 = .ok (.ireturn, 1) := by decide +kernel
theorem dX6_counts_0 : decode cX6_counts 0 = .ok (.aload_n 0, 1) := by decide +kernel
theorem dX6_counts_1 : decode cX6_counts 1 = .ok (.iload_n 1, 1) := by decide +kernel
theorem dX6_counts_2 : decode cX6_counts 2 = .ok (.invokevirtual 63, 3) := by decide +kernel
theorem dX6_counts_5 : decode cX6_counts 5 = .ok (.ifCond .eq 10, 3) := by decide +kernel
theorem dX6_counts_8 : decode cX6_counts 8 = .ok (.iload_n 2, 1) := by decide +kernel
theorem dX6_counts_9 : decode cX6_counts 9 = .ok (.invokestatic 158, 3) := by decide +kernel
theorem dX6_counts_12 : decode cX6_counts 12 = .ok (.ifCond .ne 10, 3) := by decide +kernel
theorem dX6_counts_15 : decode cX6_counts 15 = .ok (.aload_n 0, 1) := by decide +kernel
theorem dX6_counts_16 : decode cX6_counts 16 = .ok (.ldc 44, 2) := by decide +kernel
theorem dX6_counts_18 : decode cX6_counts 18 = .ok (.invokevirtual 45, 3) := by decide +kernel
theorem dX6_counts_21 : decode cX6_counts 21 = .ok (.ireturn, 1) := by decide +kernel
theorem dX6_counts_22 : decode cX6_counts 22 = .ok (.aload_n 0, 1) := by decide +kernel
theorem dX6_counts_23 : decode cX6_counts 23 = .ok (.getfield 10, 3) := by decide +kernel
theorem dX6_counts_26 : decode cX6_counts 26 = .ok (.iload_n 1, 1) := by decide +kernel
theorem dX6_counts_27 : decode cX6_counts 27 = .ok (.iload_n 2, 1) := by decide +kernel
theorem dX6_counts_28 : decode cX6_counts 28 = .ok (.invokevirtual 183, 3) := by decide +kernel
theorem dX6_counts_31 : decode cX6_counts 31 = .ok (.ireturn, 1) := by decide +kernel
theorem dX6_rain_0 : decode cX6_rain 0 = .ok (.iload_n 1, 1) := by decide +kernel
theorem dX6_rain_1 : decode cX6_rain 1 = .ok (.invokestatic 158, 3) := by decide +kernel
theorem dX6_rain_4 : decode cX6_rain 4 = .ok (.ifCond .eq 10, 3) := by decide +kernel
theorem dX6_rain_7 : decode cX6_rain 7 = .ok (.iload_n 2, 1) := by decide +kernel
theorem dX6_rain_8 : decode cX6_rain 8 = .ok (.invokestatic 100, 3) := by decide +kernel
theorem dX6_rain_11 : decode cX6_rain 11 = .ok (.ifCond .ne 10, 3) := by decide +kernel
theorem dX6_rain_14 : decode cX6_rain 14 = .ok (.aload_n 0, 1) := by decide +kernel
theorem dX6_rain_15 : decode cX6_rain 15 = .ok (.ldc 44, 2) := by decide +kernel
theorem dX6_rain_17 : decode cX6_rain 17 = .ok (.invokevirtual 45, 3) := by decide +kernel
theorem dX6_rain_20 : decode cX6_rain 20 = .ok (.ireturn, 1) := by decide +kernel
theorem dX6_rain_21 : decode cX6_rain 21 = .ok (.aload_n 0, 1) := by decide +kernel
theorem dX6_rain_22 : decode cX6_rain 22 = .ok (.getfield 10, 3) := by decide +kernel
theorem dX6_rain_25 : decode cX6_rain 25 = .ok (.getfield 186, 3) := by decide +kernel
theorem dX6_rain_28 : decode cX6_rain 28 = .ok (.iload_n 1, 1) := by decide +kernel
theorem dX6_rain_29 : decode cX6_rain 29 = .ok (.iaload, 1) := by decide +kernel
theorem dX6_rain_30 : decode cX6_rain 30 = .ok (.istore_n 3, 1) := by decide +kernel
theorem dX6_rain_31 : decode cX6_rain 31 = .ok (.aload_n 0, 1) := by decide +kernel
theorem dX6_rain_32 : decode cX6_rain 32 = .ok (.getfield 10, 3) := by decide +kernel
theorem dX6_rain_35 : decode cX6_rain 35 = .ok (.getfield 186, 3) := by decide +kernel
theorem dX6_rain_38 : decode cX6_rain 38 = .ok (.iload_n 1, 1) := by decide +kernel
theorem dX6_rain_39 : decode cX6_rain 39 = .ok (.iload_n 2, 1) := by decide +kernel
theorem dX6_rain_40 : decode cX6_rain 40 = .ok (.iastore, 1) := by decide +kernel
theorem dX6_rain_41 : decode cX6_rain 41 = .ok (.iload_n 3, 1) := by decide +kernel
theorem dX6_rain_42 : decode cX6_rain 42 = .ok (.ireturn, 1) := by decide +kernel
theorem dX6_dry_0 : decode cX6_dry 0 = .ok (.aload_n 0, 1) := by decide +kernel
theorem dX6_dry_1 : decode cX6_dry 1 = .ok (.getfield 10, 3) := by decide +kernel
theorem dX6_dry_4 : decode cX6_dry 4 = .ok (.getfield 189, 3) := by decide +kernel
theorem dX6_dry_7 : decode cX6_dry 7 = .ok (.invokestatic 192, 3) := by decide +kernel
theorem dX6_dry_10 : decode cX6_dry 10 = .ok (.aload_n 0, 1) := by decide +kernel
theorem dX6_dry_11 : decode cX6_dry 11 = .ok (.getfield 10, 3) := by decide +kernel
theorem dX6_dry_14 : decode cX6_dry 14 = .ok (.getfield 186, 3) := by decide +kernel
theorem dX6_dry_17 : decode cX6_dry 17 = .ok (.invokestatic 192, 3) := by decide +kernel
theorem dX6_dry_20 : decode cX6_dry 20 = .ok (.iadd, 1) := by decide +kernel
theorem dX6_dry_21 : decode cX6_dry 21 = .ok (.ireturn, 1) := by decide +kernel
theorem dX6_head_0 : decode cX6_head 0 = .ok (.aload_n 0, 1) := by decide +kernel
theorem dX6_head_1 : decode cX6_head 1 = .ok (.iload_n 1, 1) := by decide +kernel
theorem dX6_head_2 : decode cX6_head 2 = .ok (.invokevirtual 63, 3) := by decide +kernel
theorem dX6_head_5 : decode cX6_head 5 = .ok (.ifCond .eq 10, 3) := by decide +kernel
theorem dX6_head_8 : decode cX6_head 8 = .ok (.iload_n 2, 1) := by decide +kernel
theorem dX6_head_9 : decode cX6_head 9 = .ok (.invokestatic 158, 3) := by decide +kernel
theorem dX6_head_12 : decode cX6_head 12 = .ok (.ifCond .ne 10, 3) := by decide +kernel
theorem dX6_head_15 : decode cX6_head 15 = .ok (.aload_n 0, 1) := by decide +kernel
theorem dX6_head_16 : decode cX6_head 16 = .ok (.ldc 44, 2) := by decide +kernel
theorem dX6_head_18 : decode cX6_head 18 = .ok (.invokevirtual 45, 3) := by decide +kernel
theorem dX6_head_21 : decode cX6_head 21 = .ok (.ireturn, 1) := by decide +kernel
theorem dX6_head_22 : decode cX6_head 22 = .ok (.aload_n 0, 1) := by decide +kernel
theorem dX6_head_23 : decode cX6_head 23 = .ok (.getfield 10, 3) := by decide +kernel
theorem dX6_head_26 : decode cX6_head 26 = .ok (.iload_n 1, 1) := by decide +kernel
theorem dX6_head_27 : decode cX6_head 27 = .ok (.iload_n 2, 1) := by decide +kernel
theorem dX6_head_28 : decode cX6_head 28 = .ok (.invokevirtual 196, 3) := by decide +kernel
theorem dX6_head_31 : decode cX6_head 31 = .ok (.ireturn, 1) := by decide +kernel
theorem dX6_by_0 : decode cX6_by 0 = .ok (.aload_n 0, 1) := by decide +kernel
theorem dX6_by_1 : decode cX6_by 1 = .ok (.iload_n 1, 1) := by decide +kernel
theorem dX6_by_2 : decode cX6_by 2 = .ok (.invokevirtual 63, 3) := by decide +kernel
theorem dX6_by_5 : decode cX6_by 5 = .ok (.ifCond .eq 18, 3) := by decide +kernel
theorem dX6_by_8 : decode cX6_by 8 = .ok (.iload_n 2, 1) := by decide +kernel
theorem dX6_by_9 : decode cX6_by 9 = .ok (.invokestatic 158, 3) := by decide +kernel
theorem dX6_by_12 : decode cX6_by 12 = .ok (.ifCond .eq 11, 3) := by decide +kernel
theorem dX6_by_15 : decode cX6_by 15 = .ok (.aload_n 0, 1) := by decide +kernel
theorem dX6_by_16 : decode cX6_by 16 = .ok (.iload_n 3, 1) := by decide +kernel
theorem dX6_by_17 : decode cX6_by 17 = .ok (.invokevirtual 63, 3) := by decide +kernel
theorem dX6_by_20 : decode cX6_by 20 = .ok (.ifCond .ne 10, 3) := by decide +kernel
theorem dX6_by_23 : decode cX6_by 23 = .ok (.aload_n 0, 1) := by decide +kernel
theorem dX6_by_24 : decode cX6_by 24 = .ok (.ldc 44, 2) := by decide +kernel
theorem dX6_by_26 : decode cX6_by 26 = .ok (.invokevirtual 45, 3) := by decide +kernel
theorem dX6_by_29 : decode cX6_by 29 = .ok (.ireturn, 1) := by decide +kernel
theorem dX6_by_30 : decode cX6_by 30 = .ok (.aload_n 0, 1) := by decide +kernel
theorem dX6_by_31 : decode cX6_by 31 = .ok (.getfield 10, 3) := by decide +kernel
theorem dX6_by_34 : decode cX6_by 34 = .ok (.iload_n 1, 1) := by decide +kernel
theorem dX6_by_35 : decode cX6_by 35 = .ok (.iload_n 2, 1) := by decide +kernel
theorem dX6_by_36 : decode cX6_by 36 = .ok (.iload_n 3, 1) := by decide +kernel
theorem dX6_by_37 : decode cX6_by 37 = .ok (.iconst 0, 1) := by decide +kernel
theorem dX6_by_38 : decode cX6_by 38 = .ok (.invokevirtual 199, 3) := by decide +kernel
theorem dX6_by_41 : decode cX6_by 41 = .ok (.ireturn, 1) := by decide +kernel
theorem dX6_rained_0 : decode cX6_rained 0 = .ok (.aload_n 0, 1) := by decide +kernel
theorem dX6_rained_1 : decode cX6_rained 1 = .ok (.iload_n 1, 1) := by decide +kernel
theorem dX6_rained_2 : decode cX6_rained 2 = .ok (.invokevirtual 63, 3) := by decide +kernel
theorem dX6_rained_5 : decode cX6_rained 5 = .ok (.ifCond .eq 10, 3) := by decide +kernel
theorem dX6_rained_8 : decode cX6_rained 8 = .ok (.iload_n 2, 1) := by decide +kernel
theorem dX6_rained_9 : decode cX6_rained 9 = .ok (.invokestatic 158, 3) := by decide +kernel
theorem dX6_rained_12 : decode cX6_rained 12 = .ok (.ifCond .ne 10, 3) := by decide +kernel
theorem dX6_rained_15 : decode cX6_rained 15 = .ok (.aload_n 0, 1) := by decide +kernel
theorem dX6_rained_16 : decode cX6_rained 16 = .ok (.ldc 44, 2) := by decide +kernel
theorem dX6_rained_18 : decode cX6_rained 18 = .ok (.invokevirtual 45, 3) := by decide +kernel
theorem dX6_rained_21 : decode cX6_rained 21 = .ok (.ireturn, 1) := by decide +kernel
theorem dX6_rained_22 : decode cX6_rained 22 = .ok (.aload_n 0, 1) := by decide +kernel
theorem dX6_rained_23 : decode cX6_rained 23 = .ok (.getfield 10, 3) := by decide +kernel
theorem dX6_rained_26 : decode cX6_rained 26 = .ok (.iload_n 2, 1) := by decide +kernel
theorem dX6_rained_27 : decode cX6_rained 27 = .ok (.invokevirtual 202, 3) := by decide +kernel
theorem dX6_rained_30 : decode cX6_rained 30 = .ok (.ireturn, 1) := by decide +kernel
theorem dX6_most_0 : decode cX6_most 0 = .ok (.aload_n 0, 1) := by decide +kernel
theorem dX6_most_1 : decode cX6_most 1 = .ok (.iload_n 1, 1) := by decide +kernel
theorem dX6_most_2 : decode cX6_most 2 = .ok (.invokevirtual 63, 3) := by decide +kernel
theorem dX6_most_5 : decode cX6_most 5 = .ok (.ifCond .eq 10, 3) := by decide +kernel
theorem dX6_most_8 : decode cX6_most 8 = .ok (.iload_n 2, 1) := by decide +kernel
theorem dX6_most_9 : decode cX6_most 9 = .ok (.invokestatic 158, 3) := by decide +kernel
theorem dX6_most_12 : decode cX6_most 12 = .ok (.ifCond .ne 10, 3) := by decide +kernel
theorem dX6_most_15 : decode cX6_most 15 = .ok (.aload_n 0, 1) := by decide +kernel
theorem dX6_most_16 : decode cX6_most 16 = .ok (.ldc 44, 2) := by decide +kernel
theorem dX6_most_18 : decode cX6_most 18 = .ok (.invokevirtual 45, 3) := by decide +kernel
theorem dX6_most_21 : decode cX6_most 21 = .ok (.ireturn, 1) := by decide +kernel
theorem dX6_most_22 : decode cX6_most 22 = .ok (.iconst 0, 1) := by decide +kernel
theorem dX6_most_23 : decode cX6_most 23 = .ok (.istore_n 3, 1) := by decide +kernel
theorem dX6_most_24 : decode cX6_most 24 = .ok (.ldc 205, 2) := by decide +kernel
theorem dX6_most_26 : decode cX6_most 26 = .ok (.istore 4, 2) := by decide +kernel
theorem dX6_most_28 : decode cX6_most 28 = .ok (.iconst 0, 1) := by decide +kernel
theorem dX6_most_29 : decode cX6_most 29 = .ok (.istore 5, 2) := by decide +kernel
theorem dX6_most_31 : decode cX6_most 31 = .ok (.iload 5, 2) := by decide +kernel
theorem dX6_most_33 : decode cX6_most 33 = .ok (.aload_n 0, 1) := by decide +kernel
theorem dX6_most_34 : decode cX6_most 34 = .ok (.getfield 10, 3) := by decide +kernel
theorem dX6_most_37 : decode cX6_most 37 = .ok (.getfield 49, 3) := by decide +kernel
theorem dX6_most_40 : decode cX6_most 40 = .ok (.getfield 53, 3) := by decide +kernel
theorem dX6_most_43 : decode cX6_most 43 = .ok (.if_icmp .ge 36, 3) := by decide +kernel
theorem dX6_most_46 : decode cX6_most 46 = .ok (.aload_n 0, 1) := by decide +kernel
theorem dX6_most_47 : decode cX6_most 47 = .ok (.getfield 10, 3) := by decide +kernel
theorem dX6_most_50 : decode cX6_most 50 = .ok (.iload_n 1, 1) := by decide +kernel
theorem dX6_most_51 : decode cX6_most 51 = .ok (.iload_n 2, 1) := by decide +kernel
theorem dX6_most_52 : decode cX6_most 52 = .ok (.iload 5, 2) := by decide +kernel
theorem dX6_most_54 : decode cX6_most 54 = .ok (.iconst 0, 1) := by decide +kernel
theorem dX6_most_55 : decode cX6_most 55 = .ok (.invokevirtual 199, 3) := by decide +kernel
theorem dX6_most_58 : decode cX6_most 58 = .ok (.istore 6, 2) := by decide +kernel
theorem dX6_most_60 : decode cX6_most 60 = .ok (.iload 6, 2) := by decide +kernel
theorem dX6_most_62 : decode cX6_most 62 = .ok (.iload_n 3, 1) := by decide +kernel
theorem dX6_most_63 : decode cX6_most 63 = .ok (.if_icmp .le 10, 3) := by decide +kernel
theorem dX6_most_66 : decode cX6_most 66 = .ok (.iload 6, 2) := by decide +kernel
theorem dX6_most_68 : decode cX6_most 68 = .ok (.istore_n 3, 1) := by decide +kernel
theorem dX6_most_69 : decode cX6_most 69 = .ok (.iload 5, 2) := by decide +kernel
theorem dX6_most_71 : decode cX6_most 71 = .ok (.istore 4, 2) := by decide +kernel
theorem dX6_most_73 : decode cX6_most 73 = .ok (.iinc 5 1, 3) := by decide +kernel
theorem dX6_most_76 : decode cX6_most 76 = .ok (.goto (-45), 3) := by decide +kernel
theorem dX6_most_79 : decode cX6_most 79 = .ok (.iload 4, 2) := by decide +kernel
theorem dX6_most_81 : decode cX6_most 81 = .ok (.ldc 205, 2) := by decide +kernel
theorem dX6_most_83 : decode cX6_most 83 = .ok (.if_icmp .ne 12, 3) := by decide +kernel
theorem dX6_most_86 : decode cX6_most 86 = .ok (.aload_n 0, 1) := by decide +kernel
theorem dX6_most_87 : decode cX6_most 87 = .ok (.ldc 205, 2) := by decide +kernel
theorem dX6_most_89 : decode cX6_most 89 = .ok (.invokevirtual 45, 3) := by decide +kernel
theorem dX6_most_92 : decode cX6_most 92 = .ok (.goto 5, 3) := by decide +kernel
theorem dX6_most_95 : decode cX6_most 95 = .ok (.iload 4, 2) := by decide +kernel
theorem dX6_most_97 : decode cX6_most 97 = .ok (.ireturn, 1) := by decide +kernel
theorem dX6_when_0 : decode cX6_when 0 = .ok (.aload_n 0, 1) := by decide +kernel
theorem dX6_when_1 : decode cX6_when 1 = .ok (.iload_n 1, 1) := by decide +kernel
theorem dX6_when_2 : decode cX6_when 2 = .ok (.invokevirtual 63, 3) := by decide +kernel
theorem dX6_when_5 : decode cX6_when 5 = .ok (.ifCond .eq 10, 3) := by decide +kernel
theorem dX6_when_8 : decode cX6_when 8 = .ok (.iload_n 2, 1) := by decide +kernel
theorem dX6_when_9 : decode cX6_when 9 = .ok (.invokestatic 158, 3) := by decide +kernel
theorem dX6_when_12 : decode cX6_when 12 = .ok (.ifCond .ne 10, 3) := by decide +kernel
theorem dX6_when_15 : decode cX6_when 15 = .ok (.aload_n 0, 1) := by decide +kernel
theorem dX6_when_16 : decode cX6_when 16 = .ok (.ldc 44, 2) := by decide +kernel
theorem dX6_when_18 : decode cX6_when 18 = .ok (.invokevirtual 45, 3) := by decide +kernel
theorem dX6_when_21 : decode cX6_when 21 = .ok (.ireturn, 1) := by decide +kernel
theorem dX6_when_22 : decode cX6_when 22 = .ok (.iload_n 2, 1) := by decide +kernel
theorem dX6_when_23 : decode cX6_when 23 = .ok (.istore_n 3, 1) := by decide +kernel
theorem dX6_when_24 : decode cX6_when 24 = .ok (.iload_n 3, 1) := by decide +kernel
theorem dX6_when_25 : decode cX6_when 25 = .ok (.bipush 24, 2) := by decide +kernel
theorem dX6_when_27 : decode cX6_when 27 = .ok (.if_icmp .ge 23, 3) := by decide +kernel
theorem dX6_when_30 : decode cX6_when 30 = .ok (.aload_n 0, 1) := by decide +kernel
theorem dX6_when_31 : decode cX6_when 31 = .ok (.getfield 10, 3) := by decide +kernel
theorem dX6_when_34 : decode cX6_when 34 = .ok (.iload_n 1, 1) := by decide +kernel
theorem dX6_when_35 : decode cX6_when 35 = .ok (.iload_n 3, 1) := by decide +kernel
theorem dX6_when_36 : decode cX6_when 36 = .ok (.invokevirtual 206, 3) := by decide +kernel
theorem dX6_when_39 : decode cX6_when 39 = .ok (.ifCond .ge 5, 3) := by decide +kernel
theorem dX6_when_42 : decode cX6_when 42 = .ok (.iload_n 3, 1) := by decide +kernel
theorem dX6_when_43 : decode cX6_when 43 = .ok (.ireturn, 1) := by decide +kernel
theorem dX6_when_44 : decode cX6_when 44 = .ok (.iinc 3 1, 3) := by decide +kernel
theorem dX6_when_47 : decode cX6_when 47 = .ok (.goto (-23), 3) := by decide +kernel
theorem dX6_when_50 : decode cX6_when 50 = .ok (.aload_n 0, 1) := by decide +kernel
theorem dX6_when_51 : decode cX6_when 51 = .ok (.ldc 205, 2) := by decide +kernel
theorem dX6_when_53 : decode cX6_when 53 = .ok (.invokevirtual 45, 3) := by decide +kernel
theorem dX6_when_56 : decode cX6_when 56 = .ok (.ireturn, 1) := by decide +kernel
theorem dX6_near_0 : decode cX6_near 0 = .ok (.aload_n 0, 1) := by decide +kernel
theorem dX6_near_1 : decode cX6_near 1 = .ok (.iload_n 1, 1) := by decide +kernel
theorem dX6_near_2 : decode cX6_near 2 = .ok (.invokevirtual 63, 3) := by decide +kernel
theorem dX6_near_5 : decode cX6_near 5 = .ok (.ifCond .eq 10, 3) := by decide +kernel
theorem dX6_near_8 : decode cX6_near 8 = .ok (.iload_n 2, 1) := by decide +kernel
theorem dX6_near_9 : decode cX6_near 9 = .ok (.invokestatic 158, 3) := by decide +kernel
theorem dX6_near_12 : decode cX6_near 12 = .ok (.ifCond .ne 10, 3) := by decide +kernel
theorem dX6_near_15 : decode cX6_near 15 = .ok (.aload_n 0, 1) := by decide +kernel
theorem dX6_near_16 : decode cX6_near 16 = .ok (.ldc 44, 2) := by decide +kernel
theorem dX6_near_18 : decode cX6_near 18 = .ok (.invokevirtual 45, 3) := by decide +kernel
theorem dX6_near_21 : decode cX6_near 21 = .ok (.ireturn, 1) := by decide +kernel
theorem dX6_near_22 : decode cX6_near 22 = .ok (.aload_n 0, 1) := by decide +kernel
theorem dX6_near_23 : decode cX6_near 23 = .ok (.getfield 10, 3) := by decide +kernel
theorem dX6_near_26 : decode cX6_near 26 = .ok (.iload_n 1, 1) := by decide +kernel
theorem dX6_near_27 : decode cX6_near 27 = .ok (.iload_n 2, 1) := by decide +kernel
theorem dX6_near_28 : decode cX6_near 28 = .ok (.invokevirtual 206, 3) := by decide +kernel
theorem dX6_near_31 : decode cX6_near 31 = .ok (.istore_n 3, 1) := by decide +kernel
theorem dX6_near_32 : decode cX6_near 32 = .ok (.iload_n 2, 1) := by decide +kernel
theorem dX6_near_33 : decode cX6_near 33 = .ok (.iconst 1, 1) := by decide +kernel
theorem dX6_near_34 : decode cX6_near 34 = .ok (.iadd, 1) := by decide +kernel
theorem dX6_near_35 : decode cX6_near 35 = .ok (.istore 4, 2) := by decide +kernel
theorem dX6_near_37 : decode cX6_near 37 = .ok (.iload 4, 2) := by decide +kernel
theorem dX6_near_39 : decode cX6_near 39 = .ok (.bipush 24, 2) := by decide +kernel
theorem dX6_near_41 : decode cX6_near 41 = .ok (.if_icmp .ge 24, 3) := by decide +kernel
theorem dX6_near_44 : decode cX6_near 44 = .ok (.iload_n 3, 1) := by decide +kernel
theorem dX6_near_45 : decode cX6_near 45 = .ok (.aload_n 0, 1) := by decide +kernel
theorem dX6_near_46 : decode cX6_near 46 = .ok (.getfield 10, 3) := by decide +kernel
theorem dX6_near_49 : decode cX6_near 49 = .ok (.iload_n 1, 1) := by decide +kernel
theorem dX6_near_50 : decode cX6_near 50 = .ok (.iload 4, 2) := by decide +kernel
theorem dX6_near_52 : decode cX6_near 52 = .ok (.invokevirtual 206, 3) := by decide +kernel
theorem dX6_near_55 : decode cX6_near 55 = .ok (.invokestatic 161, 3) := by decide +kernel
theorem dX6_near_58 : decode cX6_near 58 = .ok (.istore_n 3, 1) := by decide +kernel
theorem dX6_near_59 : decode cX6_near 59 = .ok (.iinc 4 1, 3) := by decide +kernel
theorem dX6_near_62 : decode cX6_near 62 = .ok (.goto (-25), 3) := by decide +kernel
theorem dX6_near_65 : decode cX6_near 65 = .ok (.iload_n 3, 1) := by decide +kernel
theorem dX6_near_66 : decode cX6_near 66 = .ok (.ireturn, 1) := by decide +kernel
theorem dX6_low_0 : decode cX6_low 0 = .ok (.iload_n 1, 1) := by decide +kernel
theorem dX6_low_1 : decode cX6_low 1 = .ok (.invokestatic 158, 3) := by decide +kernel
theorem dX6_low_4 : decode cX6_low 4 = .ok (.ifCond .ne 10, 3) := by decide +kernel
theorem dX6_low_7 : decode cX6_low 7 = .ok (.aload_n 0, 1) := by decide +kernel
theorem dX6_low_8 : decode cX6_low 8 = .ok (.ldc 44, 2) := by decide +kernel
theorem dX6_low_10 : decode cX6_low 10 = .ok (.invokevirtual 45, 3) := by decide +kernel
theorem dX6_low_13 : decode cX6_low 13 = .ok (.ireturn, 1) := by decide +kernel
theorem dX6_low_14 : decode cX6_low 14 = .ok (.iconst 0, 1) := by decide +kernel
theorem dX6_low_15 : decode cX6_low 15 = .ok (.istore_n 2, 1) := by decide +kernel
theorem dX6_low_16 : decode cX6_low 16 = .ok (.iconst 0, 1) := by decide +kernel
theorem dX6_low_17 : decode cX6_low 17 = .ok (.istore_n 3, 1) := by decide +kernel
theorem dX6_low_18 : decode cX6_low 18 = .ok (.iload_n 3, 1) := by decide +kernel
theorem dX6_low_19 : decode cX6_low 19 = .ok (.aload_n 0, 1) := by decide +kernel
theorem dX6_low_20 : decode cX6_low 20 = .ok (.getfield 10, 3) := by decide +kernel
theorem dX6_low_23 : decode cX6_low 23 = .ok (.getfield 49, 3) := by decide +kernel
theorem dX6_low_26 : decode cX6_low 26 = .ok (.getfield 53, 3) := by decide +kernel
theorem dX6_low_29 : decode cX6_low 29 = .ok (.if_icmp .ge 24, 3) := by decide +kernel
theorem dX6_low_32 : decode cX6_low 32 = .ok (.aload_n 0, 1) := by decide +kernel
theorem dX6_low_33 : decode cX6_low 33 = .ok (.getfield 10, 3) := by decide +kernel
theorem dX6_low_36 : decode cX6_low 36 = .ok (.iload_n 3, 1) := by decide +kernel
theorem dX6_low_37 : decode cX6_low 37 = .ok (.iload_n 1, 1) := by decide +kernel
theorem dX6_low_38 : decode cX6_low 38 = .ok (.invokevirtual 206, 3) := by decide +kernel
theorem dX6_low_41 : decode cX6_low 41 = .ok (.ifCond .ge 6, 3) := by decide +kernel
theorem dX6_low_44 : decode cX6_low 44 = .ok (.iinc 2 1, 3) := by decide +kernel
theorem dX6_low_47 : decode cX6_low 47 = .ok (.iinc 3 1, 3) := by decide +kernel
theorem dX6_low_50 : decode cX6_low 50 = .ok (.goto (-32), 3) := by decide +kernel
theorem dX6_low_53 : decode cX6_low 53 = .ok (.iload_n 2, 1) := by decide +kernel
theorem dX6_low_54 : decode cX6_low 54 = .ok (.ireturn, 1) := by decide +kernel
theorem dX6_without_0 : decode cX6_without 0 = .ok (.aload_n 0, 1) := by decide +kernel
theorem dX6_without_1 : decode cX6_without 1 = .ok (.iload_n 1, 1) := by decide +kernel
theorem dX6_without_2 : decode cX6_without 2 = .ok (.invokevirtual 63, 3) := by decide +kernel
theorem dX6_without_5 : decode cX6_without 5 = .ok (.ifCond .eq 26, 3) := by decide +kernel
theorem dX6_without_8 : decode cX6_without 8 = .ok (.iload_n 2, 1) := by decide +kernel
theorem dX6_without_9 : decode cX6_without 9 = .ok (.invokestatic 158, 3) := by decide +kernel
theorem dX6_without_12 : decode cX6_without 12 = .ok (.ifCond .eq 19, 3) := by decide +kernel
theorem dX6_without_15 : decode cX6_without 15 = .ok (.aload_n 0, 1) := by decide +kernel
theorem dX6_without_16 : decode cX6_without 16 = .ok (.iload_n 3, 1) := by decide +kernel
theorem dX6_without_17 : decode cX6_without 17 = .ok (.invokevirtual 63, 3) := by decide +kernel
theorem dX6_without_20 : decode cX6_without 20 = .ok (.ifCond .eq 11, 3) := by decide +kernel
theorem dX6_without_23 : decode cX6_without 23 = .ok (.iload 4, 2) := by decide +kernel
theorem dX6_without_25 : decode cX6_without 25 = .ok (.invokestatic 158, 3) := by decide +kernel
theorem dX6_without_28 : decode cX6_without 28 = .ok (.ifCond .ne 10, 3) := by decide +kernel
theorem dX6_without_31 : decode cX6_without 31 = .ok (.aload_n 0, 1) := by decide +kernel
theorem dX6_without_32 : decode cX6_without 32 = .ok (.ldc 44, 2) := by decide +kernel
theorem dX6_without_34 : decode cX6_without 34 = .ok (.invokevirtual 45, 3) := by decide +kernel
theorem dX6_without_37 : decode cX6_without 37 = .ok (.ireturn, 1) := by decide +kernel
theorem dX6_without_38 : decode cX6_without 38 = .ok (.aload_n 0, 1) := by decide +kernel
theorem dX6_without_39 : decode cX6_without 39 = .ok (.getfield 10, 3) := by decide +kernel
theorem dX6_without_42 : decode cX6_without 42 = .ok (.iload_n 1, 1) := by decide +kernel
theorem dX6_without_43 : decode cX6_without 43 = .ok (.iload_n 2, 1) := by decide +kernel
theorem dX6_without_44 : decode cX6_without 44 = .ok (.iload_n 3, 1) := by decide +kernel
theorem dX6_without_45 : decode cX6_without 45 = .ok (.iload 4, 2) := by decide +kernel
theorem dX6_without_47 : decode cX6_without 47 = .ok (.invokevirtual 199, 3) := by decide +kernel
theorem dX6_without_50 : decode cX6_without 50 = .ok (.ireturn, 1) := by decide +kernel
theorem dX6_free_0 : decode cX6_free 0 = .ok (.aload_n 0, 1) := by decide +kernel
theorem dX6_free_1 : decode cX6_free 1 = .ok (.iload_n 1, 1) := by decide +kernel
theorem dX6_free_2 : decode cX6_free 2 = .ok (.invokevirtual 63, 3) := by decide +kernel
theorem dX6_free_5 : decode cX6_free 5 = .ok (.ifCond .eq 10, 3) := by decide +kernel
theorem dX6_free_8 : decode cX6_free 8 = .ok (.iload_n 2, 1) := by decide +kernel
theorem dX6_free_9 : decode cX6_free 9 = .ok (.invokestatic 158, 3) := by decide +kernel
theorem dX6_free_12 : decode cX6_free 12 = .ok (.ifCond .ne 10, 3) := by decide +kernel
theorem dX6_free_15 : decode cX6_free 15 = .ok (.aload_n 0, 1) := by decide +kernel
theorem dX6_free_16 : decode cX6_free 16 = .ok (.ldc 44, 2) := by decide +kernel
theorem dX6_free_18 : decode cX6_free 18 = .ok (.invokevirtual 45, 3) := by decide +kernel
theorem dX6_free_21 : decode cX6_free 21 = .ok (.ireturn, 1) := by decide +kernel
theorem dX6_free_22 : decode cX6_free 22 = .ok (.aload_n 0, 1) := by decide +kernel
theorem dX6_free_23 : decode cX6_free 23 = .ok (.getfield 10, 3) := by decide +kernel
theorem dX6_free_26 : decode cX6_free 26 = .ok (.iload_n 2, 1) := by decide +kernel
theorem dX6_free_27 : decode cX6_free 27 = .ok (.invokevirtual 209, 3) := by decide +kernel
theorem dX6_free_30 : decode cX6_free 30 = .ok (.aload_n 0, 1) := by decide +kernel
theorem dX6_free_31 : decode cX6_free 31 = .ok (.getfield 10, 3) := by decide +kernel
theorem dX6_free_34 : decode cX6_free 34 = .ok (.iload_n 1, 1) := by decide +kernel
theorem dX6_free_35 : decode cX6_free 35 = .ok (.iload_n 2, 1) := by decide +kernel
theorem dX6_free_36 : decode cX6_free 36 = .ok (.invokevirtual 213, 3) := by decide +kernel
theorem dX6_free_39 : decode cX6_free 39 = .ok (.ireturn, 1) := by decide +kernel
theorem dX6_licence_0 : decode cX6_licence 0 = .ok (.aload_n 0, 1) := by decide +kernel
theorem dX6_licence_1 : decode cX6_licence 1 = .ok (.iload_n 1, 1) := by decide +kernel
theorem dX6_licence_2 : decode cX6_licence 2 = .ok (.invokevirtual 63, 3) := by decide +kernel
theorem dX6_licence_5 : decode cX6_licence 5 = .ok (.ifCond .eq 21, 3) := by decide +kernel
theorem dX6_licence_8 : decode cX6_licence 8 = .ok (.iload_n 2, 1) := by decide +kernel
theorem dX6_licence_9 : decode cX6_licence 9 = .ok (.iconst 0, 1) := by decide +kernel
theorem dX6_licence_10 : decode cX6_licence 10 = .ok (.sipush 9999, 3) := by decide +kernel
theorem dX6_licence_13 : decode cX6_licence 13 = .ok (.invokestatic 103, 3) := by decide +kernel
theorem dX6_licence_16 : decode cX6_licence 16 = .ok (.ifCond .eq 10, 3) := by decide +kernel
theorem dX6_licence_19 : decode cX6_licence 19 = .ok (.iload_n 3, 1) := by decide +kernel
theorem dX6_licence_20 : decode cX6_licence 20 = .ok (.invokestatic 100, 3) := by decide +kernel
theorem dX6_licence_23 : decode cX6_licence 23 = .ok (.ifCond .ne 10, 3) := by decide +kernel
theorem dX6_licence_26 : decode cX6_licence 26 = .ok (.aload_n 0, 1) := by decide +kernel
theorem dX6_licence_27 : decode cX6_licence 27 = .ok (.ldc 44, 2) := by decide +kernel
theorem dX6_licence_29 : decode cX6_licence 29 = .ok (.invokevirtual 45, 3) := by decide +kernel
theorem dX6_licence_32 : decode cX6_licence 32 = .ok (.ireturn, 1) := by decide +kernel
theorem dX6_licence_33 : decode cX6_licence 33 = .ok (.aload_n 0, 1) := by decide +kernel
theorem dX6_licence_34 : decode cX6_licence 34 = .ok (.getfield 10, 3) := by decide +kernel
theorem dX6_licence_37 : decode cX6_licence 37 = .ok (.getfield 49, 3) := by decide +kernel
theorem dX6_licence_40 : decode cX6_licence 40 = .ok (.iload_n 1, 1) := by decide +kernel
theorem dX6_licence_41 : decode cX6_licence 41 = .ok (.invokevirtual 216, 3) := by decide +kernel
theorem dX6_licence_44 : decode cX6_licence 44 = .ok (.ifCond .ne 10, 3) := by decide +kernel
theorem dX6_licence_47 : decode cX6_licence 47 = .ok (.aload_n 0, 1) := by decide +kernel
theorem dX6_licence_48 : decode cX6_licence 48 = .ok (.ldc 74, 2) := by decide +kernel
theorem dX6_licence_50 : decode cX6_licence 50 = .ok (.invokevirtual 45, 3) := by decide +kernel
theorem dX6_licence_53 : decode cX6_licence 53 = .ok (.ireturn, 1) := by decide +kernel
theorem dX6_licence_54 : decode cX6_licence 54 = .ok (.aload_n 0, 1) := by decide +kernel
theorem dX6_licence_55 : decode cX6_licence 55 = .ok (.getfield 10, 3) := by decide +kernel
theorem dX6_licence_58 : decode cX6_licence 58 = .ok (.getfield 219, 3) := by decide +kernel
theorem dX6_licence_61 : decode cX6_licence 61 = .ok (.getfield 223, 3) := by decide +kernel
theorem dX6_licence_64 : decode cX6_licence 64 = .ok (.bipush 10, 2) := by decide +kernel
theorem dX6_licence_66 : decode cX6_licence 66 = .ok (.if_icmp .lt 10, 3) := by decide +kernel
theorem dX6_licence_69 : decode cX6_licence 69 = .ok (.aload_n 0, 1) := by decide +kernel
theorem dX6_licence_70 : decode cX6_licence 70 = .ok (.ldc 58, 2) := by decide +kernel
theorem dX6_licence_72 : decode cX6_licence 72 = .ok (.invokevirtual 45, 3) := by decide +kernel
theorem dX6_licence_75 : decode cX6_licence 75 = .ok (.ireturn, 1) := by decide +kernel
theorem dX6_licence_76 : decode cX6_licence 76 = .ok (.aload_n 0, 1) := by decide +kernel
theorem dX6_licence_77 : decode cX6_licence 77 = .ok (.getfield 10, 3) := by decide +kernel
theorem dX6_licence_80 : decode cX6_licence 80 = .ok (.getfield 219, 3) := by decide +kernel
theorem dX6_licence_83 : decode cX6_licence 83 = .ok (.iload_n 1, 1) := by decide +kernel
theorem dX6_licence_84 : decode cX6_licence 84 = .ok (.iload_n 2, 1) := by decide +kernel
theorem dX6_licence_85 : decode cX6_licence 85 = .ok (.iload_n 3, 1) := by decide +kernel
theorem dX6_licence_86 : decode cX6_licence 86 = .ok (.invokevirtual 226, 3) := by decide +kernel
theorem dX6_licence_89 : decode cX6_licence 89 = .ok (.ireturn, 1) := by decide +kernel
theorem dX6_serve_0 : decode cX6_serve 0 = .ok (.iload_n 1, 1) := by decide +kernel
theorem dX6_serve_1 : decode cX6_serve 1 = .ok (.invokestatic 158, 3) := by decide +kernel
theorem dX6_serve_4 : decode cX6_serve 4 = .ok (.ifCond .ne 10, 3) := by decide +kernel
theorem dX6_serve_7 : decode cX6_serve 7 = .ok (.aload_n 0, 1) := by decide +kernel
theorem dX6_serve_8 : decode cX6_serve 8 = .ok (.ldc 44, 2) := by decide +kernel
theorem dX6_serve_10 : decode cX6_serve 10 = .ok (.invokevirtual 45, 3) := by decide +kernel
theorem dX6_serve_13 : decode cX6_serve 13 = .ok (.ireturn, 1) := by decide +kernel
theorem dX6_serve_14 : decode cX6_serve 14 = .ok (.aload_n 0, 1) := by decide +kernel
theorem dX6_serve_15 : decode cX6_serve 15 = .ok (.getfield 10, 3) := by decide +kernel
theorem dX6_serve_18 : decode cX6_serve 18 = .ok (.iload_n 1, 1) := by decide +kernel
theorem dX6_serve_19 : decode cX6_serve 19 = .ok (.invokevirtual 229, 3) := by decide +kernel
theorem dX6_serve_22 : decode cX6_serve 22 = .ok (.aload_n 0, 1) := by decide +kernel
theorem dX6_serve_23 : decode cX6_serve 23 = .ok (.getfield 10, 3) := by decide +kernel
theorem dX6_serve_26 : decode cX6_serve 26 = .ok (.iload_n 1, 1) := by decide +kernel
theorem dX6_serve_27 : decode cX6_serve 27 = .ok (.invokevirtual 209, 3) := by decide +kernel
theorem dX6_serve_30 : decode cX6_serve 30 = .ok (.iconst 0, 1) := by decide +kernel
theorem dX6_serve_31 : decode cX6_serve 31 = .ok (.istore_n 2, 1) := by decide +kernel
theorem dX6_serve_32 : decode cX6_serve 32 = .ok (.iconst 0, 1) := by decide +kernel
theorem dX6_serve_33 : decode cX6_serve 33 = .ok (.istore_n 3, 1) := by decide +kernel
theorem dX6_serve_34 : decode cX6_serve 34 = .ok (.iload_n 3, 1) := by decide +kernel
theorem dX6_serve_35 : decode cX6_serve 35 = .ok (.aload_n 0, 1) := by decide +kernel
theorem dX6_serve_36 : decode cX6_serve 36 = .ok (.getfield 10, 3) := by decide +kernel
theorem dX6_serve_39 : decode cX6_serve 39 = .ok (.getfield 219, 3) := by decide +kernel
theorem dX6_serve_42 : decode cX6_serve 42 = .ok (.getfield 223, 3) := by decide +kernel
theorem dX6_serve_45 : decode cX6_serve 45 = .ok (.if_icmp .ge 64, 3) := by decide +kernel
theorem dX6_serve_48 : decode cX6_serve 48 = .ok (.aload_n 0, 1) := by decide +kernel
theorem dX6_serve_49 : decode cX6_serve 49 = .ok (.getfield 10, 3) := by decide +kernel
theorem dX6_serve_52 : decode cX6_serve 52 = .ok (.getfield 219, 3) := by decide +kernel
theorem dX6_serve_55 : decode cX6_serve 55 = .ok (.invokevirtual 232, 3) := by decide +kernel
theorem dX6_serve_58 : decode cX6_serve 58 = .ok (.istore 4, 2) := by decide +kernel
theorem dX6_serve_60 : decode cX6_serve 60 = .ok (.iload 4, 2) := by decide +kernel
theorem dX6_serve_62 : decode cX6_serve 62 = .ok (.ifCond .lt 41, 3) := by decide +kernel
theorem dX6_serve_65 : decode cX6_serve 65 = .ok (.aload_n 0, 1) := by decide +kernel
theorem dX6_serve_66 : decode cX6_serve 66 = .ok (.getfield 10, 3) := by decide +kernel
theorem dX6_serve_69 : decode cX6_serve 69 = .ok (.aload_n 0, 1) := by decide +kernel
theorem dX6_serve_70 : decode cX6_serve 70 = .ok (.getfield 10, 3) := by decide +kernel
theorem dX6_serve_73 : decode cX6_serve 73 = .ok (.getfield 219, 3) := by decide +kernel
theorem dX6_serve_76 : decode cX6_serve 76 = .ok (.getfield 236, 3) := by decide +kernel
theorem dX6_serve_79 : decode cX6_serve 79 = .ok (.iload 4, 2) := by decide +kernel
theorem dX6_serve_81 : decode cX6_serve 81 = .ok (.iaload, 1) := by decide +kernel
theorem dX6_serve_82 : decode cX6_serve 82 = .ok (.iload_n 1, 1) := by decide +kernel
theorem dX6_serve_83 : decode cX6_serve 83 = .ok (.invokevirtual 213, 3) := by decide +kernel
theorem dX6_serve_86 : decode cX6_serve 86 = .ok (.istore 5, 2) := by decide +kernel
theorem dX6_serve_88 : decode cX6_serve 88 = .ok (.iload_n 2, 1) := by decide +kernel
theorem dX6_serve_89 : decode cX6_serve 89 = .ok (.aload_n 0, 1) := by decide +kernel
theorem dX6_serve_90 : decode cX6_serve 90 = .ok (.getfield 10, 3) := by decide +kernel
theorem dX6_serve_93 : decode cX6_serve 93 = .ok (.iload 4, 2) := by decide +kernel
theorem dX6_serve_95 : decode cX6_serve 95 = .ok (.iload_n 1, 1) := by decide +kernel
theorem dX6_serve_96 : decode cX6_serve 96 = .ok (.iload 5, 2) := by decide +kernel
theorem dX6_serve_98 : decode cX6_serve 98 = .ok (.invokevirtual 238, 3) := by decide +kernel
theorem dX6_serve_101 : decode cX6_serve 101 = .ok (.iadd, 1) := by decide +kernel
theorem dX6_serve_102 : decode cX6_serve 102 = .ok (.istore_n 2, 1) := by decide +kernel
theorem dX6_serve_103 : decode cX6_serve 103 = .ok (.iinc 3 1, 3) := by decide +kernel
theorem dX6_serve_106 : decode cX6_serve 106 = .ok (.goto (-72), 3) := by decide +kernel
theorem dX6_serve_109 : decode cX6_serve 109 = .ok (.iload_n 2, 1) := by decide +kernel
theorem dX6_serve_110 : decode cX6_serve 110 = .ok (.ireturn, 1) := by decide +kernel
theorem dX6_served_0 : decode cX6_served 0 = .ok (.iload_n 1, 1) := by decide +kernel
theorem dX6_served_1 : decode cX6_served 1 = .ok (.iconst 0, 1) := by decide +kernel
theorem dX6_served_2 : decode cX6_served 2 = .ok (.aload_n 0, 1) := by decide +kernel
theorem dX6_served_3 : decode cX6_served 3 = .ok (.getfield 10, 3) := by decide +kernel
theorem dX6_served_6 : decode cX6_served 6 = .ok (.getfield 219, 3) := by decide +kernel
theorem dX6_served_9 : decode cX6_served 9 = .ok (.getfield 223, 3) := by decide +kernel
theorem dX6_served_12 : decode cX6_served 12 = .ok (.iconst 1, 1) := by decide +kernel
theorem dX6_served_13 : decode cX6_served 13 = .ok (.isub, 1) := by decide +kernel
theorem dX6_served_14 : decode cX6_served 14 = .ok (.invokestatic 103, 3) := by decide +kernel
theorem dX6_served_17 : decode cX6_served 17 = .ok (.ifCond .ne 10, 3) := by decide +kernel
theorem dX6_served_20 : decode cX6_served 20 = .ok (.aload_n 0, 1) := by decide +kernel
theorem dX6_served_21 : decode cX6_served 21 = .ok (.ldc 44, 2) := by decide +kernel
theorem dX6_served_23 : decode cX6_served 23 = .ok (.invokevirtual 45, 3) := by decide +kernel
theorem dX6_served_26 : decode cX6_served 26 = .ok (.ireturn, 1) := by decide +kernel
theorem dX6_served_27 : decode cX6_served 27 = .ok (.aload_n 0, 1) := by decide +kernel
theorem dX6_served_28 : decode cX6_served 28 = .ok (.getfield 10, 3) := by decide +kernel
theorem dX6_served_31 : decode cX6_served 31 = .ok (.getfield 219, 3) := by decide +kernel
theorem dX6_served_34 : decode cX6_served 34 = .ok (.getfield 241, 3) := by decide +kernel
theorem dX6_served_37 : decode cX6_served 37 = .ok (.iload_n 1, 1) := by decide +kernel
theorem dX6_served_38 : decode cX6_served 38 = .ok (.iaload, 1) := by decide +kernel
theorem dX6_served_39 : decode cX6_served 39 = .ok (.istore_n 3, 1) := by decide +kernel
theorem dX6_served_40 : decode cX6_served 40 = .ok (.iload_n 3, 1) := by decide +kernel
theorem dX6_served_41 : decode cX6_served 41 = .ok (.iconst (-1), 1) := by decide +kernel
theorem dX6_served_42 : decode cX6_served 42 = .ok (.if_icmp .ne 10, 3) := by decide +kernel
theorem dX6_served_45 : decode cX6_served 45 = .ok (.aload_n 0, 1) := by decide +kernel
theorem dX6_served_46 : decode cX6_served 46 = .ok (.ldc 205, 2) := by decide +kernel
theorem dX6_served_48 : decode cX6_served 48 = .ok (.invokevirtual 45, 3) := by decide +kernel
theorem dX6_served_51 : decode cX6_served 51 = .ok (.ireturn, 1) := by decide +kernel
theorem dX6_served_52 : decode cX6_served 52 = .ok (.iload_n 2, 1) := by decide +kernel
theorem dX6_served_53 : decode cX6_served 53 = .ok (.ifCond .eq 20, 3) := by decide +kernel
theorem dX6_served_56 : decode cX6_served 56 = .ok (.aload_n 0, 1) := by decide +kernel
theorem dX6_served_57 : decode cX6_served 57 = .ok (.getfield 10, 3) := by decide +kernel
theorem dX6_served_60 : decode cX6_served 60 = .ok (.getfield 219, 3) := by decide +kernel
theorem dX6_served_63 : decode cX6_served 63 = .ok (.getfield 244, 3) := by decide +kernel
theorem dX6_served_66 : decode cX6_served 66 = .ok (.iload_n 1, 1) := by decide +kernel
theorem dX6_served_67 : decode cX6_served 67 = .ok (.iaload, 1) := by decide +kernel
theorem dX6_served_68 : decode cX6_served 68 = .ok (.iload_n 3, 1) := by decide +kernel
theorem dX6_served_69 : decode cX6_served 69 = .ok (.isub, 1) := by decide +kernel
theorem dX6_served_70 : decode cX6_served 70 = .ok (.goto 4, 3) := by decide +kernel
theorem dX6_served_73 : decode cX6_served 73 = .ok (.iload_n 3, 1) := by decide +kernel
theorem dX6_served_74 : decode cX6_served 74 = .ok (.ireturn, 1) := by decide +kernel
theorem dX6_hold_0 : decode cX6_hold 0 = .ok (.aload_n 0, 1) := by decide +kernel
theorem dX6_hold_1 : decode cX6_hold 1 = .ok (.iload_n 1, 1) := by decide +kernel
theorem dX6_hold_2 : decode cX6_hold 2 = .ok (.invokevirtual 63, 3) := by decide +kernel
theorem dX6_hold_5 : decode cX6_hold 5 = .ok (.ifCond .eq 17, 3) := by decide +kernel
theorem dX6_hold_8 : decode cX6_hold 8 = .ok (.iload_n 2, 1) := by decide +kernel
theorem dX6_hold_9 : decode cX6_hold 9 = .ok (.invokestatic 158, 3) := by decide +kernel
theorem dX6_hold_12 : decode cX6_hold 12 = .ok (.ifCond .eq 10, 3) := by decide +kernel
theorem dX6_hold_15 : decode cX6_hold 15 = .ok (.iload_n 3, 1) := by decide +kernel
theorem dX6_hold_16 : decode cX6_hold 16 = .ok (.invokestatic 41, 3) := by decide +kernel
theorem dX6_hold_19 : decode cX6_hold 19 = .ok (.ifCond .ne 10, 3) := by decide +kernel
theorem dX6_hold_22 : decode cX6_hold 22 = .ok (.aload_n 0, 1) := by decide +kernel
theorem dX6_hold_23 : decode cX6_hold 23 = .ok (.ldc 44, 2) := by decide +kernel
theorem dX6_hold_25 : decode cX6_hold 25 = .ok (.invokevirtual 45, 3) := by decide +kernel
theorem dX6_hold_28 : decode cX6_hold 28 = .ok (.ireturn, 1) := by decide +kernel
theorem dX6_hold_29 : decode cX6_hold 29 = .ok (.aload_n 0, 1) := by decide +kernel
theorem dX6_hold_30 : decode cX6_hold 30 = .ok (.getfield 10, 3) := by decide +kernel
theorem dX6_hold_33 : decode cX6_hold 33 = .ok (.getfield 49, 3) := by decide +kernel
theorem dX6_hold_36 : decode cX6_hold 36 = .ok (.getfield 75, 3) := by decide +kernel
theorem dX6_hold_39 : decode cX6_hold 39 = .ok (.iload_n 1, 1) := by decide +kernel
theorem dX6_hold_40 : decode cX6_hold 40 = .ok (.iaload, 1) := by decide +kernel
theorem dX6_hold_41 : decode cX6_hold 41 = .ok (.iconst 4, 1) := by decide +kernel
theorem dX6_hold_42 : decode cX6_hold 42 = .ok (.if_icmp .eq 10, 3) := by decide +kernel
theorem dX6_hold_45 : decode cX6_hold 45 = .ok (.aload_n 0, 1) := by decide +kernel
theorem dX6_hold_46 : decode cX6_hold 46 = .ok (.ldc 74, 2) := by decide +kernel
theorem dX6_hold_48 : decode cX6_hold 48 = .ok (.invokevirtual 45, 3) := by decide +kernel
theorem dX6_hold_51 : decode cX6_hold 51 = .ok (.ireturn, 1) := by decide +kernel
theorem dX6_hold_52 : decode cX6_hold 52 = .ok (.aload_n 0, 1) := by decide +kernel
theorem dX6_hold_53 : decode cX6_hold 53 = .ok (.getfield 10, 3) := by decide +kernel
theorem dX6_hold_56 : decode cX6_hold 56 = .ok (.iload_n 1, 1) := by decide +kernel
theorem dX6_hold_57 : decode cX6_hold 57 = .ok (.iload_n 2, 1) := by decide +kernel
theorem dX6_hold_58 : decode cX6_hold 58 = .ok (.iload_n 3, 1) := by decide +kernel
theorem dX6_hold_59 : decode cX6_hold 59 = .ok (.invokevirtual 247, 3) := by decide +kernel
theorem dX6_hold_62 : decode cX6_hold 62 = .ok (.istore 4, 2) := by decide +kernel
theorem dX6_hold_64 : decode cX6_hold 64 = .ok (.iload 4, 2) := by decide +kernel
theorem dX6_hold_66 : decode cX6_hold 66 = .ok (.sipush 1000, 3) := by decide +kernel
theorem dX6_hold_69 : decode cX6_hold 69 = .ok (.if_icmp .le 10, 3) := by decide +kernel
theorem dX6_hold_72 : decode cX6_hold 72 = .ok (.aload_n 0, 1) := by decide +kernel
theorem dX6_hold_73 : decode cX6_hold 73 = .ok (.ldc 205, 2) := by decide +kernel
theorem dX6_hold_75 : decode cX6_hold 75 = .ok (.invokevirtual 45, 3) := by decide +kernel
theorem dX6_hold_78 : decode cX6_hold 78 = .ok (.ireturn, 1) := by decide +kernel
theorem dX6_hold_79 : decode cX6_hold 79 = .ok (.aload_n 0, 1) := by decide +kernel
theorem dX6_hold_80 : decode cX6_hold 80 = .ok (.getfield 10, 3) := by decide +kernel
theorem dX6_hold_83 : decode cX6_hold 83 = .ok (.iload_n 1, 1) := by decide +kernel
theorem dX6_hold_84 : decode cX6_hold 84 = .ok (.iload_n 2, 1) := by decide +kernel
theorem dX6_hold_85 : decode cX6_hold 85 = .ok (.iload 4, 2) := by decide +kernel
theorem dX6_hold_87 : decode cX6_hold 87 = .ok (.invokevirtual 176, 3) := by decide +kernel
theorem dX6_hold_90 : decode cX6_hold 90 = .ok (.iload 4, 2) := by decide +kernel
theorem dX6_hold_92 : decode cX6_hold 92 = .ok (.ireturn, 1) := by decide +kernel
theorem dX6_move_0 : decode cX6_move 0 = .ok (.aload_n 0, 1) := by decide +kernel
theorem dX6_move_1 : decode cX6_move 1 = .ok (.iload_n 1, 1) := by decide +kernel
theorem dX6_move_2 : decode cX6_move 2 = .ok (.invokevirtual 63, 3) := by decide +kernel
theorem dX6_move_5 : decode cX6_move 5 = .ok (.ifCond .eq 23, 3) := by decide +kernel
theorem dX6_move_8 : decode cX6_move 8 = .ok (.aload_n 0, 1) := by decide +kernel
theorem dX6_move_9 : decode cX6_move 9 = .ok (.iload_n 3, 1) := by decide +kernel
theorem dX6_move_10 : decode cX6_move 10 = .ok (.invokevirtual 63, 3) := by decide +kernel
theorem dX6_move_13 : decode cX6_move 13 = .ok (.ifCond .eq 15, 3) := by decide +kernel
theorem dX6_move_16 : decode cX6_move 16 = .ok (.iload_n 1, 1) := by decide +kernel
theorem dX6_move_17 : decode cX6_move 17 = .ok (.iload_n 3, 1) := by decide +kernel
theorem dX6_move_18 : decode cX6_move 18 = .ok (.if_icmp .eq 10, 3) := by decide +kernel
theorem dX6_move_21 : decode cX6_move 21 = .ok (.iload_n 2, 1) := by decide +kernel
theorem dX6_move_22 : decode cX6_move 22 = .ok (.invokestatic 158, 3) := by decide +kernel
theorem dX6_move_25 : decode cX6_move 25 = .ok (.ifCond .ne 10, 3) := by decide +kernel
theorem dX6_move_28 : decode cX6_move 28 = .ok (.aload_n 0, 1) := by decide +kernel
theorem dX6_move_29 : decode cX6_move 29 = .ok (.ldc 44, 2) := by decide +kernel
theorem dX6_move_31 : decode cX6_move 31 = .ok (.invokevirtual 45, 3) := by decide +kernel
theorem dX6_move_34 : decode cX6_move 34 = .ok (.ireturn, 1) := by decide +kernel
theorem dX6_move_35 : decode cX6_move 35 = .ok (.aload_n 0, 1) := by decide +kernel
theorem dX6_move_36 : decode cX6_move 36 = .ok (.getfield 10, 3) := by decide +kernel
theorem dX6_move_39 : decode cX6_move 39 = .ok (.getfield 49, 3) := by decide +kernel
theorem dX6_move_42 : decode cX6_move 42 = .ok (.iload_n 1, 1) := by decide +kernel
theorem dX6_move_43 : decode cX6_move 43 = .ok (.invokevirtual 216, 3) := by decide +kernel
theorem dX6_move_46 : decode cX6_move 46 = .ok (.ifCond .eq 17, 3) := by decide +kernel
theorem dX6_move_49 : decode cX6_move 49 = .ok (.aload_n 0, 1) := by decide +kernel
theorem dX6_move_50 : decode cX6_move 50 = .ok (.getfield 10, 3) := by decide +kernel
theorem dX6_move_53 : decode cX6_move 53 = .ok (.getfield 49, 3) := by decide +kernel
theorem dX6_move_56 : decode cX6_move 56 = .ok (.iload_n 3, 1) := by decide +kernel
theorem dX6_move_57 : decode cX6_move 57 = .ok (.invokevirtual 216, 3) := by decide +kernel
theorem dX6_move_60 : decode cX6_move 60 = .ok (.ifCond .ne 10, 3) := by decide +kernel
theorem dX6_move_63 : decode cX6_move 63 = .ok (.aload_n 0, 1) := by decide +kernel
theorem dX6_move_64 : decode cX6_move 64 = .ok (.ldc 74, 2) := by decide +kernel
theorem dX6_move_66 : decode cX6_move 66 = .ok (.invokevirtual 45, 3) := by decide +kernel
theorem dX6_move_69 : decode cX6_move 69 = .ok (.ireturn, 1) := by decide +kernel
theorem dX6_move_70 : decode cX6_move 70 = .ok (.aload_n 0, 1) := by decide +kernel
theorem dX6_move_71 : decode cX6_move 71 = .ok (.getfield 10, 3) := by decide +kernel
theorem dX6_move_74 : decode cX6_move 74 = .ok (.iload_n 1, 1) := by decide +kernel
theorem dX6_move_75 : decode cX6_move 75 = .ok (.iload_n 2, 1) := by decide +kernel
theorem dX6_move_76 : decode cX6_move 76 = .ok (.iload_n 3, 1) := by decide +kernel
theorem dX6_move_77 : decode cX6_move 77 = .ok (.invokevirtual 250, 3) := by decide +kernel
theorem dX6_move_80 : decode cX6_move 80 = .ok (.istore 4, 2) := by decide +kernel
theorem dX6_move_82 : decode cX6_move 82 = .ok (.aload_n 0, 1) := by decide +kernel
theorem dX6_move_83 : decode cX6_move 83 = .ok (.getfield 10, 3) := by decide +kernel
theorem dX6_move_86 : decode cX6_move 86 = .ok (.iload_n 1, 1) := by decide +kernel
theorem dX6_move_87 : decode cX6_move 87 = .ok (.iload_n 2, 1) := by decide +kernel
theorem dX6_move_88 : decode cX6_move 88 = .ok (.iload 4, 2) := by decide +kernel
theorem dX6_move_90 : decode cX6_move 90 = .ok (.invokevirtual 176, 3) := by decide +kernel
theorem dX6_move_93 : decode cX6_move 93 = .ok (.aload_n 0, 1) := by decide +kernel
theorem dX6_move_94 : decode cX6_move 94 = .ok (.getfield 10, 3) := by decide +kernel
theorem dX6_move_97 : decode cX6_move 97 = .ok (.iload_n 3, 1) := by decide +kernel
theorem dX6_move_98 : decode cX6_move 98 = .ok (.iload_n 2, 1) := by decide +kernel
theorem dX6_move_99 : decode cX6_move 99 = .ok (.iconst 0, 1) := by decide +kernel
theorem dX6_move_100 : decode cX6_move 100 = .ok (.invokevirtual 176, 3) := by decide +kernel
theorem dX6_move_103 : decode cX6_move 103 = .ok (.iload 4, 2) := by decide +kernel
theorem dX6_move_105 : decode cX6_move 105 = .ok (.ireturn, 1) := by decide +kernel
theorem dX6_read_0 : decode cX6_read 0 = .ok (.aload_n 0, 1) := by decide +kernel
theorem dX6_read_1 : decode cX6_read 1 = .ok (.iload_n 1, 1) := by decide +kernel
theorem dX6_read_2 : decode cX6_read 2 = .ok (.invokevirtual 63, 3) := by decide +kernel
theorem dX6_read_5 : decode cX6_read 5 = .ok (.ifCond .eq 21, 3) := by decide +kernel
theorem dX6_read_8 : decode cX6_read 8 = .ok (.iload_n 2, 1) := by decide +kernel
theorem dX6_read_9 : decode cX6_read 9 = .ok (.invokestatic 158, 3) := by decide +kernel
theorem dX6_read_12 : decode cX6_read 12 = .ok (.ifCond .eq 14, 3) := by decide +kernel
theorem dX6_read_15 : decode cX6_read 15 = .ok (.iload_n 3, 1) := by decide +kernel
theorem dX6_read_16 : decode cX6_read 16 = .ok (.ldc 253, 2) := by decide +kernel
theorem dX6_read_18 : decode cX6_read 18 = .ok (.ldc 254, 2) := by decide +kernel
theorem dX6_read_20 : decode cX6_read 20 = .ok (.invokestatic 103, 3) := by decide +kernel
theorem dX6_read_23 : decode cX6_read 23 = .ok (.ifCond .ne 10, 3) := by decide +kernel
theorem dX6_read_26 : decode cX6_read 26 = .ok (.aload_n 0, 1) := by decide +kernel
theorem dX6_read_27 : decode cX6_read 27 = .ok (.ldc 44, 2) := by decide +kernel
theorem dX6_read_29 : decode cX6_read 29 = .ok (.invokevirtual 45, 3) := by decide +kernel
theorem dX6_read_32 : decode cX6_read 32 = .ok (.ireturn, 1) := by decide +kernel
theorem dX6_read_33 : decode cX6_read 33 = .ok (.aload_n 0, 1) := by decide +kernel
theorem dX6_read_34 : decode cX6_read 34 = .ok (.getfield 10, 3) := by decide +kernel
theorem dX6_read_37 : decode cX6_read 37 = .ok (.getfield 255, 3) := by decide +kernel
theorem dX6_read_40 : decode cX6_read 40 = .ok (.iload_n 1, 1) := by decide +kernel
theorem dX6_read_41 : decode cX6_read 41 = .ok (.iload_n 2, 1) := by decide +kernel
theorem dX6_read_42 : decode cX6_read 42 = .ok (.invokevirtual 259, 3) := by decide +kernel
theorem dX6_read_45 : decode cX6_read 45 = .ok (.ifCond .ne 25, 3) := by decide +kernel
theorem dX6_read_48 : decode cX6_read 48 = .ok (.aload_n 0, 1) := by decide +kernel
theorem dX6_read_49 : decode cX6_read 49 = .ok (.getfield 10, 3) := by decide +kernel
theorem dX6_read_52 : decode cX6_read 52 = .ok (.getfield 255, 3) := by decide +kernel
theorem dX6_read_55 : decode cX6_read 55 = .ok (.getfield 264, 3) := by decide +kernel
theorem dX6_read_58 : decode cX6_read 58 = .ok (.bipush 40, 2) := by decide +kernel
theorem dX6_read_60 : decode cX6_read 60 = .ok (.if_icmp .lt 10, 3) := by decide +kernel
theorem dX6_read_63 : decode cX6_read 63 = .ok (.aload_n 0, 1) := by decide +kernel
theorem dX6_read_64 : decode cX6_read 64 = .ok (.ldc 58, 2) := by decide +kernel
theorem dX6_read_66 : decode cX6_read 66 = .ok (.invokevirtual 45, 3) := by decide +kernel
theorem dX6_read_69 : decode cX6_read 69 = .ok (.ireturn, 1) := by decide +kernel
theorem dX6_read_70 : decode cX6_read 70 = .ok (.aload_n 0, 1) := by decide +kernel
theorem dX6_read_71 : decode cX6_read 71 = .ok (.getfield 10, 3) := by decide +kernel
theorem dX6_read_74 : decode cX6_read 74 = .ok (.getfield 255, 3) := by decide +kernel
theorem dX6_read_77 : decode cX6_read 77 = .ok (.iload_n 1, 1) := by decide +kernel
theorem dX6_read_78 : decode cX6_read 78 = .ok (.iload_n 2, 1) := by decide +kernel
theorem dX6_read_79 : decode cX6_read 79 = .ok (.iload_n 3, 1) := by decide +kernel
theorem dX6_read_80 : decode cX6_read 80 = .ok (.invokevirtual 265, 3) := by decide +kernel
theorem dX6_read_83 : decode cX6_read 83 = .ok (.aload_n 0, 1) := by decide +kernel
theorem dX6_read_84 : decode cX6_read 84 = .ok (.getfield 10, 3) := by decide +kernel
theorem dX6_read_87 : decode cX6_read 87 = .ok (.getfield 255, 3) := by decide +kernel
theorem dX6_read_90 : decode cX6_read 90 = .ok (.getfield 264, 3) := by decide +kernel
theorem dX6_read_93 : decode cX6_read 93 = .ok (.ireturn, 1) := by decide +kernel
theorem dX6_differ_0 : decode cX6_differ 0 = .ok (.aload_n 0, 1) := by decide +kernel
theorem dX6_differ_1 : decode cX6_differ 1 = .ok (.iload_n 1, 1) := by decide +kernel
theorem dX6_differ_2 : decode cX6_differ 2 = .ok (.invokevirtual 63, 3) := by decide +kernel
theorem dX6_differ_5 : decode cX6_differ 5 = .ok (.ifCond .eq 10, 3) := by decide +kernel
theorem dX6_differ_8 : decode cX6_differ 8 = .ok (.iload_n 2, 1) := by decide +kernel
theorem dX6_differ_9 : decode cX6_differ 9 = .ok (.invokestatic 158, 3) := by decide +kernel
theorem dX6_differ_12 : decode cX6_differ 12 = .ok (.ifCond .ne 10, 3) := by decide +kernel
theorem dX6_differ_15 : decode cX6_differ 15 = .ok (.aload_n 0, 1) := by decide +kernel
theorem dX6_differ_16 : decode cX6_differ 16 = .ok (.ldc 44, 2) := by decide +kernel
theorem dX6_differ_18 : decode cX6_differ 18 = .ok (.invokevirtual 45, 3) := by decide +kernel
theorem dX6_differ_21 : decode cX6_differ 21 = .ok (.ireturn, 1) := by decide +kernel
theorem dX6_differ_22 : decode cX6_differ 22 = .ok (.aload_n 0, 1) := by decide +kernel
theorem dX6_differ_23 : decode cX6_differ 23 = .ok (.getfield 10, 3) := by decide +kernel
theorem dX6_differ_26 : decode cX6_differ 26 = .ok (.getfield 255, 3) := by decide +kernel
theorem dX6_differ_29 : decode cX6_differ 29 = .ok (.iload_n 1, 1) := by decide +kernel
theorem dX6_differ_30 : decode cX6_differ 30 = .ok (.iload_n 2, 1) := by decide +kernel
theorem dX6_differ_31 : decode cX6_differ 31 = .ok (.invokevirtual 259, 3) := by decide +kernel
theorem dX6_differ_34 : decode cX6_differ 34 = .ok (.ifCond .ne 10, 3) := by decide +kernel
theorem dX6_differ_37 : decode cX6_differ 37 = .ok (.aload_n 0, 1) := by decide +kernel
theorem dX6_differ_38 : decode cX6_differ 38 = .ok (.ldc 205, 2) := by decide +kernel
theorem dX6_differ_40 : decode cX6_differ 40 = .ok (.invokevirtual 45, 3) := by decide +kernel
theorem dX6_differ_43 : decode cX6_differ 43 = .ok (.ireturn, 1) := by decide +kernel
theorem dX6_differ_44 : decode cX6_differ 44 = .ok (.aload_n 0, 1) := by decide +kernel
theorem dX6_differ_45 : decode cX6_differ 45 = .ok (.getfield 10, 3) := by decide +kernel
theorem dX6_differ_48 : decode cX6_differ 48 = .ok (.getfield 255, 3) := by decide +kernel
theorem dX6_differ_51 : decode cX6_differ 51 = .ok (.iload_n 1, 1) := by decide +kernel
theorem dX6_differ_52 : decode cX6_differ 52 = .ok (.iload_n 2, 1) := by decide +kernel
theorem dX6_differ_53 : decode cX6_differ 53 = .ok (.invokevirtual 267, 3) := by decide +kernel
theorem dX6_differ_56 : decode cX6_differ 56 = .ok (.aload_n 0, 1) := by decide +kernel
theorem dX6_differ_57 : decode cX6_differ 57 = .ok (.getfield 10, 3) := by decide +kernel
theorem dX6_differ_60 : decode cX6_differ 60 = .ok (.iload_n 1, 1) := by decide +kernel
theorem dX6_differ_61 : decode cX6_differ 61 = .ok (.iload_n 2, 1) := by decide +kernel
theorem dX6_differ_62 : decode cX6_differ 62 = .ok (.invokevirtual 196, 3) := by decide +kernel
theorem dX6_differ_65 : decode cX6_differ 65 = .ok (.isub, 1) := by decide +kernel
theorem dX6_differ_66 : decode cX6_differ 66 = .ok (.ireturn, 1) := by decide +kernel
theorem dX6_fit_0 : decode cX6_fit 0 = .ok (.iload_n 1, 1) := by decide +kernel
theorem dX6_fit_1 : decode cX6_fit 1 = .ok (.invokestatic 94, 3) := by decide +kernel
theorem dX6_fit_4 : decode cX6_fit 4 = .ok (.ifCond .eq 10, 3) := by decide +kernel
theorem dX6_fit_7 : decode cX6_fit 7 = .ok (.iload_n 2, 1) := by decide +kernel
theorem dX6_fit_8 : decode cX6_fit 8 = .ok (.invokestatic 97, 3) := by decide +kernel
theorem dX6_fit_11 : decode cX6_fit 11 = .ok (.ifCond .ne 10, 3) := by decide +kernel
theorem dX6_fit_14 : decode cX6_fit 14 = .ok (.aload_n 0, 1) := by decide +kernel
theorem dX6_fit_15 : decode cX6_fit 15 = .ok (.ldc 44, 2) := by decide +kernel
theorem dX6_fit_17 : decode cX6_fit 17 = .ok (.invokevirtual 45, 3) := by decide +kernel
theorem dX6_fit_20 : decode cX6_fit 20 = .ok (.ireturn, 1) := by decide +kernel
theorem dX6_fit_21 : decode cX6_fit 21 = .ok (.aload_n 0, 1) := by decide +kernel
theorem dX6_fit_22 : decode cX6_fit 22 = .ok (.getfield 10, 3) := by decide +kernel
theorem dX6_fit_25 : decode cX6_fit 25 = .ok (.getfield 255, 3) := by decide +kernel
theorem dX6_fit_28 : decode cX6_fit 28 = .ok (.getfield 264, 3) := by decide +kernel
theorem dX6_fit_31 : decode cX6_fit 31 = .ok (.ifCond .ne 10, 3) := by decide +kernel
theorem dX6_fit_34 : decode cX6_fit 34 = .ok (.aload_n 0, 1) := by decide +kernel
theorem dX6_fit_35 : decode cX6_fit 35 = .ok (.ldc 205, 2) := by decide +kernel
theorem dX6_fit_37 : decode cX6_fit 37 = .ok (.invokevirtual 45, 3) := by decide +kernel
theorem dX6_fit_40 : decode cX6_fit 40 = .ok (.ireturn, 1) := by decide +kernel
theorem dX6_fit_41 : decode cX6_fit 41 = .ok (.aload_n 0, 1) := by decide +kernel
theorem dX6_fit_42 : decode cX6_fit 42 = .ok (.getfield 10, 3) := by decide +kernel
theorem dX6_fit_45 : decode cX6_fit 45 = .ok (.getfield 107, 3) := by decide +kernel
theorem dX6_fit_48 : decode cX6_fit 48 = .ok (.iload_n 1, 1) := by decide +kernel
theorem dX6_fit_49 : decode cX6_fit 49 = .ok (.iload_n 2, 1) := by decide +kernel
