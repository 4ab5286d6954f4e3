theorem dX12_pulls_37 : decode cX12_pulls 37 = .ok (.iload_n 1, 1) := by decide +kernel
theorem dX12_pulls_38 : decode cX12_pulls 38 = .ok (.bipush 6, 2) := by decide +kernel
theorem dX12_pulls_40 : decode cX12_pulls 40 = .ok (.idiv, 1) := by decide +kernel
theorem dX12_pulls_41 : decode cX12_pulls 41 = .ok (.imul, 1) := by decide +kernel
theorem dX12_pulls_42 : decode cX12_pulls 42 = .ok (.aload_n 0, 1) := by decide +kernel
theorem dX12_pulls_43 : decode cX12_pulls 43 = .ok (.iconst 0, 1) := by decide +kernel
theorem dX12_pulls_44 : decode cX12_pulls 44 = .ok (.invokevirtual 335, 3) := by decide +kernel
theorem dX12_pulls_47 : decode cX12_pulls 47 = .ok (.isub, 1) := by decide +kernel
theorem dX12_pulls_48 : decode cX12_pulls 48 = .ok (.iastore, 1) := by decide +kernel
theorem dX12_pulls_49 : decode cX12_pulls 49 = .ok (.aload_n 0, 1) := by decide +kernel
theorem dX12_pulls_50 : decode cX12_pulls 50 = .ok (.getfield 48, 3) := by decide +kernel
theorem dX12_pulls_53 : decode cX12_pulls 53 = .ok (.iload_n 1, 1) := by decide +kernel
theorem dX12_pulls_54 : decode cX12_pulls 54 = .ok (.iconst 3, 1) := by decide +kernel
theorem dX12_pulls_55 : decode cX12_pulls 55 = .ok (.iload_n 1, 1) := by decide +kernel
theorem dX12_pulls_56 : decode cX12_pulls 56 = .ok (.bipush 6, 2) := by decide +kernel
theorem dX12_pulls_58 : decode cX12_pulls 58 = .ok (.irem, 1) := by decide +kernel
theorem dX12_pulls_59 : decode cX12_pulls 59 = .ok (.imul, 1) := by decide +kernel
theorem dX12_pulls_60 : decode cX12_pulls 60 = .ok (.aload_n 0, 1) := by decide +kernel
theorem dX12_pulls_61 : decode cX12_pulls 61 = .ok (.aload_n 0, 1) := by decide +kernel
theorem dX12_pulls_62 : decode cX12_pulls 62 = .ok (.getfield 307, 3) := by decide +kernel
theorem dX12_pulls_65 : decode cX12_pulls 65 = .ok (.getfield 188, 3) := by decide +kernel
theorem dX12_pulls_68 : decode cX12_pulls 68 = .ok (.iconst 1, 1) := by decide +kernel
theorem dX12_pulls_69 : decode cX12_pulls 69 = .ok (.isub, 1) := by decide +kernel
theorem dX12_pulls_70 : decode cX12_pulls 70 = .ok (.invokevirtual 335, 3) := by decide +kernel
theorem dX12_pulls_73 : decode cX12_pulls 73 = .ok (.isub, 1) := by decide +kernel
theorem dX12_pulls_74 : decode cX12_pulls 74 = .ok (.iastore, 1) := by decide +kernel
theorem dX12_pulls_75 : decode cX12_pulls 75 = .ok (.iinc 1 1, 3) := by decide +kernel
theorem dX12_pulls_78 : decode cX12_pulls 78 = .ok (.goto (-76), 3) := by decide +kernel
theorem dX12_pulls_81 : decode cX12_pulls 81 = .ok (.return_, 1) := by decide +kernel
theorem dX12_parish_0 : decode cX12_parish 0 = .ok (.aload_n 0, 1) := by decide +kernel
theorem dX12_parish_1 : decode cX12_parish 1 = .ok (.iconst 0, 1) := by decide +kernel
theorem dX12_parish_2 : decode cX12_parish 2 = .ok (.putfield 51, 3) := by decide +kernel
theorem dX12_parish_5 : decode cX12_parish 5 = .ok (.aload_n 0, 1) := by decide +kernel
theorem dX12_parish_6 : decode cX12_parish 6 = .ok (.invokevirtual 432, 3) := by decide +kernel
theorem dX12_parish_9 : decode cX12_parish 9 = .ok (.ifCond .ne 9, 3) := by decide +kernel
theorem dX12_parish_12 : decode cX12_parish 12 = .ok (.aload_n 0, 1) := by decide +kernel
theorem dX12_parish_13 : decode cX12_parish 13 = .ok (.iconst 1, 1) := by decide +kernel
theorem dX12_parish_14 : decode cX12_parish 14 = .ok (.invokevirtual 435, 3) := by decide +kernel
theorem dX12_parish_17 : decode cX12_parish 17 = .ok (.ireturn, 1) := by decide +kernel
theorem dX12_parish_18 : decode cX12_parish 18 = .ok (.iload_n 1, 1) := by decide +kernel
theorem dX12_parish_19 : decode cX12_parish 19 = .ok (.iconst 0, 1) := by decide +kernel
theorem dX12_parish_20 : decode cX12_parish 20 = .ok (.iconst 5, 1) := by decide +kernel
theorem dX12_parish_21 : decode cX12_parish 21 = .ok (.invokestatic 126, 3) := by decide +kernel
theorem dX12_parish_24 : decode cX12_parish 24 = .ok (.ifCond .eq 12, 3) := by decide +kernel
theorem dX12_parish_27 : decode cX12_parish 27 = .ok (.iload_n 2, 1) := by decide +kernel
theorem dX12_parish_28 : decode cX12_parish 28 = .ok (.iconst 0, 1) := by decide +kernel
theorem dX12_parish_29 : decode cX12_parish 29 = .ok (.iconst 5, 1) := by decide +kernel
theorem dX12_parish_30 : decode cX12_parish 30 = .ok (.invokestatic 126, 3) := by decide +kernel
theorem dX12_parish_33 : decode cX12_parish 33 = .ok (.ifCond .ne 9, 3) := by decide +kernel
theorem dX12_parish_36 : decode cX12_parish 36 = .ok (.aload_n 0, 1) := by decide +kernel
theorem dX12_parish_37 : decode cX12_parish 37 = .ok (.iconst 2, 1) := by decide +kernel
theorem dX12_parish_38 : decode cX12_parish 38 = .ok (.invokevirtual 435, 3) := by decide +kernel
theorem dX12_parish_41 : decode cX12_parish 41 = .ok (.ireturn, 1) := by decide +kernel
theorem dX12_parish_42 : decode cX12_parish 42 = .ok (.aload_n 0, 1) := by decide +kernel
theorem dX12_parish_43 : decode cX12_parish 43 = .ok (.invokevirtual 438, 3) := by decide +kernel
theorem dX12_parish_46 : decode cX12_parish 46 = .ok (.aload_n 0, 1) := by decide +kernel
theorem dX12_parish_47 : decode cX12_parish 47 = .ok (.iload_n 3, 1) := by decide +kernel
theorem dX12_parish_48 : decode cX12_parish 48 = .ok (.ifCond .eq 17, 3) := by decide +kernel
theorem dX12_parish_51 : decode cX12_parish 51 = .ok (.aload_n 0, 1) := by decide +kernel
theorem dX12_parish_52 : decode cX12_parish 52 = .ok (.getfield 48, 3) := by decide +kernel
theorem dX12_parish_55 : decode cX12_parish 55 = .ok (.bipush 6, 2) := by decide +kernel
theorem dX12_parish_57 : decode cX12_parish 57 = .ok (.iload_n 1, 1) := by decide +kernel
theorem dX12_parish_58 : decode cX12_parish 58 = .ok (.imul, 1) := by decide +kernel
theorem dX12_parish_59 : decode cX12_parish 59 = .ok (.iload_n 2, 1) := by decide +kernel
theorem dX12_parish_60 : decode cX12_parish 60 = .ok (.iadd, 1) := by decide +kernel
theorem dX12_parish_61 : decode cX12_parish 61 = .ok (.iaload, 1) := by decide +kernel
theorem dX12_parish_62 : decode cX12_parish 62 = .ok (.goto 14, 3) := by decide +kernel
theorem dX12_parish_65 : decode cX12_parish 65 = .ok (.aload_n 0, 1) := by decide +kernel
theorem dX12_parish_66 : decode cX12_parish 66 = .ok (.getfield 45, 3) := by decide +kernel
theorem dX12_parish_69 : decode cX12_parish 69 = .ok (.bipush 6, 2) := by decide +kernel
theorem dX12_parish_71 : decode cX12_parish 71 = .ok (.iload_n 1, 1) := by decide +kernel
theorem dX12_parish_72 : decode cX12_parish 72 = .ok (.imul, 1) := by decide +kernel
theorem dX12_parish_73 : decode cX12_parish 73 = .ok (.iload_n 2, 1) := by decide +kernel
theorem dX12_parish_74 : decode cX12_parish 74 = .ok (.iadd, 1) := by decide +kernel
theorem dX12_parish_75 : decode cX12_parish 75 = .ok (.iaload, 1) := by decide +kernel
theorem dX12_parish_76 : decode cX12_parish 76 = .ok (.invokevirtual 61, 3) := by decide +kernel
theorem dX12_parish_79 : decode cX12_parish 79 = .ok (.ireturn, 1) := by decide +kernel
theorem dX12_isRest_0 : decode cX12_isRest 0 = .ok (.iconst 0, 1) := by decide +kernel
theorem dX12_isRest_1 : decode cX12_isRest 1 = .ok (.istore_n 2, 1) := by decide +kernel
theorem dX12_isRest_2 : decode cX12_isRest 2 = .ok (.iload_n 2, 1) := by decide +kernel
theorem dX12_isRest_3 : decode cX12_isRest 3 = .ok (.bipush 6, 2) := by decide +kernel
theorem dX12_isRest_5 : decode cX12_isRest 5 = .ok (.if_icmp .ge 59, 3) := by decide +kernel
theorem dX12_isRest_8 : decode cX12_isRest 8 = .ok (.aload_n 0, 1) := by decide +kernel
theorem dX12_isRest_9 : decode cX12_isRest 9 = .ok (.getfield 45, 3) := by decide +kernel
theorem dX12_isRest_12 : decode cX12_isRest 12 = .ok (.bipush 6, 2) := by decide +kernel
theorem dX12_isRest_14 : decode cX12_isRest 14 = .ok (.iload_n 2, 1) := by decide +kernel
theorem dX12_isRest_15 : decode cX12_isRest 15 = .ok (.imul, 1) := by decide +kernel
theorem dX12_isRest_16 : decode cX12_isRest 16 = .ok (.iload_n 1, 1) := by decide +kernel
theorem dX12_isRest_17 : decode cX12_isRest 17 = .ok (.bipush 6, 2) := by decide +kernel
theorem dX12_isRest_19 : decode cX12_isRest 19 = .ok (.irem, 1) := by decide +kernel
theorem dX12_isRest_20 : decode cX12_isRest 20 = .ok (.iadd, 1) := by decide +kernel
theorem dX12_isRest_21 : decode cX12_isRest 21 = .ok (.iaload, 1) := by decide +kernel
theorem dX12_isRest_22 : decode cX12_isRest 22 = .ok (.aload_n 0, 1) := by decide +kernel
theorem dX12_isRest_23 : decode cX12_isRest 23 = .ok (.getfield 45, 3) := by decide +kernel
theorem dX12_isRest_26 : decode cX12_isRest 26 = .ok (.iload_n 1, 1) := by decide +kernel
theorem dX12_isRest_27 : decode cX12_isRest 27 = .ok (.iaload, 1) := by decide +kernel
theorem dX12_isRest_28 : decode cX12_isRest 28 = .ok (.if_icmp .le 5, 3) := by decide +kernel
theorem dX12_isRest_31 : decode cX12_isRest 31 = .ok (.iconst 0, 1) := by decide +kernel
theorem dX12_isRest_32 : decode cX12_isRest 32 = .ok (.ireturn, 1) := by decide +kernel
theorem dX12_isRest_33 : decode cX12_isRest 33 = .ok (.aload_n 0, 1) := by decide +kernel
theorem dX12_isRest_34 : decode cX12_isRest 34 = .ok (.getfield 48, 3) := by decide +kernel
theorem dX12_isRest_37 : decode cX12_isRest 37 = .ok (.iload_n 1, 1) := by decide +kernel
theorem dX12_isRest_38 : decode cX12_isRest 38 = .ok (.bipush 6, 2) := by decide +kernel
theorem dX12_isRest_40 : decode cX12_isRest 40 = .ok (.idiv, 1) := by decide +kernel
theorem dX12_isRest_41 : decode cX12_isRest 41 = .ok (.bipush 6, 2) := by decide +kernel
theorem dX12_isRest_43 : decode cX12_isRest 43 = .ok (.imul, 1) := by decide +kernel
theorem dX12_isRest_44 : decode cX12_isRest 44 = .ok (.iload_n 2, 1) := by decide +kernel
theorem dX12_isRest_45 : decode cX12_isRest 45 = .ok (.iadd, 1) := by decide +kernel
theorem dX12_isRest_46 : decode cX12_isRest 46 = .ok (.iaload, 1) := by decide +kernel
theorem dX12_isRest_47 : decode cX12_isRest 47 = .ok (.aload_n 0, 1) := by decide +kernel
theorem dX12_isRest_48 : decode cX12_isRest 48 = .ok (.getfield 48, 3) := by decide +kernel
theorem dX12_isRest_51 : decode cX12_isRest 51 = .ok (.iload_n 1, 1) := by decide +kernel
theorem dX12_isRest_52 : decode cX12_isRest 52 = .ok (.iaload, 1) := by decide +kernel
theorem dX12_isRest_53 : decode cX12_isRest 53 = .ok (.if_icmp .le 5, 3) := by decide +kernel
theorem dX12_isRest_56 : decode cX12_isRest 56 = .ok (.iconst 0, 1) := by decide +kernel
theorem dX12_isRest_57 : decode cX12_isRest 57 = .ok (.ireturn, 1) := by decide +kernel
theorem dX12_isRest_58 : decode cX12_isRest 58 = .ok (.iinc 2 1, 3) := by decide +kernel
theorem dX12_isRest_61 : decode cX12_isRest 61 = .ok (.goto (-59), 3) := by decide +kernel
theorem dX12_isRest_64 : decode cX12_isRest 64 = .ok (.iconst 1, 1) := by decide +kernel
theorem dX12_isRest_65 : decode cX12_isRest 65 = .ok (.ireturn, 1) := by decide +kernel
theorem dX12_rests_0 : decode cX12_rests 0 = .ok (.aload_n 0, 1) := by decide +kernel
theorem dX12_rests_1 : decode cX12_rests 1 = .ok (.iconst 0, 1) := by decide +kernel
theorem dX12_rests_2 : decode cX12_rests 2 = .ok (.putfield 51, 3) := by decide +kernel
theorem dX12_rests_5 : decode cX12_rests 5 = .ok (.aload_n 0, 1) := by decide +kernel
theorem dX12_rests_6 : decode cX12_rests 6 = .ok (.invokevirtual 432, 3) := by decide +kernel
theorem dX12_rests_9 : decode cX12_rests 9 = .ok (.ifCond .ne 9, 3) := by decide +kernel
theorem dX12_rests_12 : decode cX12_rests 12 = .ok (.aload_n 0, 1) := by decide +kernel
theorem dX12_rests_13 : decode cX12_rests 13 = .ok (.iconst 1, 1) := by decide +kernel
theorem dX12_rests_14 : decode cX12_rests 14 = .ok (.invokevirtual 57, 3) := by decide +kernel
theorem dX12_rests_17 : decode cX12_rests 17 = .ok (.ireturn, 1) := by decide +kernel
theorem dX12_rests_18 : decode cX12_rests 18 = .ok (.aload_n 0, 1) := by decide +kernel
theorem dX12_rests_19 : decode cX12_rests 19 = .ok (.invokevirtual 438, 3) := by decide +kernel
theorem dX12_rests_22 : decode cX12_rests 22 = .ok (.iconst 0, 1) := by decide +kernel
theorem dX12_rests_23 : decode cX12_rests 23 = .ok (.istore_n 1, 1) := by decide +kernel
theorem dX12_rests_24 : decode cX12_rests 24 = .ok (.iconst 0, 1) := by decide +kernel
theorem dX12_rests_25 : decode cX12_rests 25 = .ok (.istore_n 2, 1) := by decide +kernel
theorem dX12_rests_26 : decode cX12_rests 26 = .ok (.iload_n 2, 1) := by decide +kernel
theorem dX12_rests_27 : decode cX12_rests 27 = .ok (.bipush 36, 2) := by decide +kernel
theorem dX12_rests_29 : decode cX12_rests 29 = .ok (.if_icmp .ge 25, 3) := by decide +kernel
theorem dX12_rests_32 : decode cX12_rests 32 = .ok (.iload_n 1, 1) := by decide +kernel
theorem dX12_rests_33 : decode cX12_rests 33 = .ok (.aload_n 0, 1) := by decide +kernel
theorem dX12_rests_34 : decode cX12_rests 34 = .ok (.iload_n 2, 1) := by decide +kernel
theorem dX12_rests_35 : decode cX12_rests 35 = .ok (.invokevirtual 440, 3) := by decide +kernel
theorem dX12_rests_38 : decode cX12_rests 38 = .ok (.ifCond .eq 7, 3) := by decide +kernel
theorem dX12_rests_41 : decode cX12_rests 41 = .ok (.iconst 1, 1) := by decide +kernel
theorem dX12_rests_42 : decode cX12_rests 42 = .ok (.goto 4, 3) := by decide +kernel
theorem dX12_rests_45 : decode cX12_rests 45 = .ok (.iconst 0, 1) := by decide +kernel
theorem dX12_rests_46 : decode cX12_rests 46 = .ok (.iadd, 1) := by decide +kernel
theorem dX12_rests_47 : decode cX12_rests 47 = .ok (.istore_n 1, 1) := by decide +kernel
theorem dX12_rests_48 : decode cX12_rests 48 = .ok (.iinc 2 1, 3) := by decide +kernel
theorem dX12_rests_51 : decode cX12_rests 51 = .ok (.goto (-25), 3) := by decide +kernel
theorem dX12_rests_54 : decode cX12_rests 54 = .ok (.aload_n 0, 1) := by decide +kernel
theorem dX12_rests_55 : decode cX12_rests 55 = .ok (.iload_n 1, 1) := by decide +kernel
theorem dX12_rests_56 : decode cX12_rests 56 = .ok (.invokevirtual 61, 3) := by decide +kernel
theorem dX12_rests_59 : decode cX12_rests 59 = .ok (.ireturn, 1) := by decide +kernel
theorem dX12_rest_0 : decode cX12_rest 0 = .ok (.aload_n 0, 1) := by decide +kernel
theorem dX12_rest_1 : decode cX12_rest 1 = .ok (.iconst 0, 1) := by decide +kernel
theorem dX12_rest_2 : decode cX12_rest 2 = .ok (.putfield 51, 3) := by decide +kernel
theorem dX12_rest_5 : decode cX12_rest 5 = .ok (.aload_n 0, 1) := by decide +kernel
theorem dX12_rest_6 : decode cX12_rest 6 = .ok (.invokevirtual 432, 3) := by decide +kernel
theorem dX12_rest_9 : decode cX12_rest 9 = .ok (.ifCond .ne 9, 3) := by decide +kernel
theorem dX12_rest_12 : decode cX12_rest 12 = .ok (.aload_n 0, 1) := by decide +kernel
theorem dX12_rest_13 : decode cX12_rest 13 = .ok (.iconst 1, 1) := by decide +kernel
theorem dX12_rest_14 : decode cX12_rest 14 = .ok (.invokevirtual 57, 3) := by decide +kernel
theorem dX12_rest_17 : decode cX12_rest 17 = .ok (.ireturn, 1) := by decide +kernel
theorem dX12_rest_18 : decode cX12_rest 18 = .ok (.aload_n 0, 1) := by decide +kernel
theorem dX12_rest_19 : decode cX12_rest 19 = .ok (.invokevirtual 438, 3) := by decide +kernel
theorem dX12_rest_22 : decode cX12_rest 22 = .ok (.iconst 0, 1) := by decide +kernel
theorem dX12_rest_23 : decode cX12_rest 23 = .ok (.istore_n 1, 1) := by decide +kernel
theorem dX12_rest_24 : decode cX12_rest 24 = .ok (.iload_n 1, 1) := by decide +kernel
theorem dX12_rest_25 : decode cX12_rest 25 = .ok (.bipush 36, 2) := by decide +kernel
theorem dX12_rest_27 : decode cX12_rest 27 = .ok (.if_icmp .ge 34, 3) := by decide +kernel
theorem dX12_rest_30 : decode cX12_rest 30 = .ok (.aload_n 0, 1) := by decide +kernel
theorem dX12_rest_31 : decode cX12_rest 31 = .ok (.iload_n 1, 1) := by decide +kernel
theorem dX12_rest_32 : decode cX12_rest 32 = .ok (.invokevirtual 440, 3) := by decide +kernel
theorem dX12_rest_35 : decode cX12_rest 35 = .ok (.ifCond .eq 20, 3) := by decide +kernel
theorem dX12_rest_38 : decode cX12_rest 38 = .ok (.aload_n 0, 1) := by decide +kernel
theorem dX12_rest_39 : decode cX12_rest 39 = .ok (.bipush 10, 2) := by decide +kernel
theorem dX12_rest_41 : decode cX12_rest 41 = .ok (.iload_n 1, 1) := by decide +kernel
theorem dX12_rest_42 : decode cX12_rest 42 = .ok (.bipush 6, 2) := by decide +kernel
theorem dX12_rest_44 : decode cX12_rest 44 = .ok (.idiv, 1) := by decide +kernel
theorem dX12_rest_45 : decode cX12_rest 45 = .ok (.imul, 1) := by decide +kernel
theorem dX12_rest_46 : decode cX12_rest 46 = .ok (.iload_n 1, 1) := by decide +kernel
theorem dX12_rest_47 : decode cX12_rest 47 = .ok (.bipush 6, 2) := by decide +kernel
theorem dX12_rest_49 : decode cX12_rest 49 = .ok (.irem, 1) := by decide +kernel
theorem dX12_rest_50 : decode cX12_rest 50 = .ok (.iadd, 1) := by decide +kernel
theorem dX12_rest_51 : decode cX12_rest 51 = .ok (.invokevirtual 61, 3) := by decide +kernel
theorem dX12_rest_54 : decode cX12_rest 54 = .ok (.ireturn, 1) := by decide +kernel
theorem dX12_rest_55 : decode cX12_rest 55 = .ok (.iinc 1 1, 3) := by decide +kernel
theorem dX12_rest_58 : decode cX12_rest 58 = .ok (.goto (-34), 3) := by decide +kernel
theorem dX12_rest_61 : decode cX12_rest 61 = .ok (.aload_n 0, 1) := by decide +kernel
theorem dX12_rest_62 : decode cX12_rest 62 = .ok (.bipush (-2), 2) := by decide +kernel
theorem dX12_rest_64 : decode cX12_rest 64 = .ok (.invokevirtual 61, 3) := by decide +kernel
theorem dX12_rest_67 : decode cX12_rest 67 = .ok (.ireturn, 1) := by decide +kernel
theorem dX12_goesBy_0 : decode cX12_goesBy 0 = .ok (.aload_n 1, 1) := by decide +kernel
theorem dX12_goesBy_1 : decode cX12_goesBy 1 = .ok (.bipush 15, 2) := by decide +kernel
theorem dX12_goesBy_3 : decode cX12_goesBy 3 = .ok (.ldc2_w 443, 3) := by decide +kernel
theorem dX12_goesBy_6 : decode cX12_goesBy 6 = .ok (.aload_n 1, 1) := by decide +kernel
theorem dX12_goesBy_7 : decode cX12_goesBy 7 = .ok (.bipush 15, 2) := by decide +kernel
theorem dX12_goesBy_9 : decode cX12_goesBy 9 = .ok (.iaload, 1) := by decide +kernel
theorem dX12_goesBy_10 : decode cX12_goesBy 10 = .ok (.i2l, 1) := by decide +kernel
theorem dX12_goesBy_11 : decode cX12_goesBy 11 = .ok (.lmul, 1) := by decide +kernel
theorem dX12_goesBy_12 : decode cX12_goesBy 12 = .ok (.ldc2_w 445, 3) := by decide +kernel
theorem dX12_goesBy_15 : decode cX12_goesBy 15 = .ok (.ladd, 1) := by decide +kernel
theorem dX12_goesBy_16 : decode cX12_goesBy 16 = .ok (.ldc2_w 447, 3) := by decide +kernel
theorem dX12_goesBy_19 : decode cX12_goesBy 19 = .ok (.lrem, 1) := by decide +kernel
theorem dX12_goesBy_20 : decode cX12_goesBy 20 = .ok (.l2i, 1) := by decide +kernel
theorem dX12_goesBy_21 : decode cX12_goesBy 21 = .ok (.iastore, 1) := by decide +kernel
theorem dX12_goesBy_22 : decode cX12_goesBy 22 = .ok (.aload_n 0, 1) := by decide +kernel
theorem dX12_goesBy_23 : decode cX12_goesBy 23 = .ok (.getfield 307, 3) := by decide +kernel
theorem dX12_goesBy_26 : decode cX12_goesBy 26 = .ok (.getfield 156, 3) := by decide +kernel
theorem dX12_goesBy_29 : decode cX12_goesBy 29 = .ok (.aload_n 1, 1) := by decide +kernel
theorem dX12_goesBy_30 : decode cX12_goesBy 30 = .ok (.bipush 15, 2) := by decide +kernel
theorem dX12_goesBy_32 : decode cX12_goesBy 32 = .ok (.iaload, 1) := by decide +kernel
theorem dX12_goesBy_33 : decode cX12_goesBy 33 = .ok (.bipush 61, 2) := by decide +kernel
theorem dX12_goesBy_35 : decode cX12_goesBy 35 = .ok (.irem, 1) := by decide +kernel
theorem dX12_goesBy_36 : decode cX12_goesBy 36 = .ok (.iadd, 1) := by decide +kernel
theorem dX12_goesBy_37 : decode cX12_goesBy 37 = .ok (.bipush 30, 2) := by decide +kernel
theorem dX12_goesBy_39 : decode cX12_goesBy 39 = .ok (.isub, 1) := by decide +kernel
theorem dX12_goesBy_40 : decode cX12_goesBy 40 = .ok (.istore_n 2, 1) := by decide +kernel
theorem dX12_goesBy_41 : decode cX12_goesBy 41 = .ok (.aload_n 1, 1) := by decide +kernel
theorem dX12_goesBy_42 : decode cX12_goesBy 42 = .ok (.bipush 14, 2) := by decide +kernel
theorem dX12_goesBy_44 : decode cX12_goesBy 44 = .ok (.iload_n 2, 1) := by decide +kernel
theorem dX12_goesBy_45 : decode cX12_goesBy 45 = .ok (.iconst 1, 1) := by decide +kernel
theorem dX12_goesBy_46 : decode cX12_goesBy 46 = .ok (.if_icmp .le 7, 3) := by decide +kernel
theorem dX12_goesBy_49 : decode cX12_goesBy 49 = .ok (.iload_n 2, 1) := by decide +kernel
theorem dX12_goesBy_50 : decode cX12_goesBy 50 = .ok (.goto 4, 3) := by decide +kernel
theorem dX12_goesBy_53 : decode cX12_goesBy 53 = .ok (.iconst 1, 1) := by decide +kernel
theorem dX12_goesBy_54 : decode cX12_goesBy 54 = .ok (.iastore, 1) := by decide +kernel
theorem dX12_goesBy_55 : decode cX12_goesBy 55 = .ok (.aload_n 0, 1) := by decide +kernel
theorem dX12_goesBy_56 : decode cX12_goesBy 56 = .ok (.aload_n 0, 1) := by decide +kernel
theorem dX12_goesBy_57 : decode cX12_goesBy 57 = .ok (.aload_n 1, 1) := by decide +kernel
theorem dX12_goesBy_58 : decode cX12_goesBy 58 = .ok (.iconst 1, 1) := by decide +kernel
theorem dX12_goesBy_59 : decode cX12_goesBy 59 = .ok (.invokevirtual 315, 3) := by decide +kernel
theorem dX12_goesBy_62 : decode cX12_goesBy 62 = .ok (.aload_n 1, 1) := by decide +kernel
theorem dX12_goesBy_63 : decode cX12_goesBy 63 = .ok (.bipush 14, 2) := by decide +kernel
theorem dX12_goesBy_65 : decode cX12_goesBy 65 = .ok (.iaload, 1) := by decide +kernel
theorem dX12_goesBy_66 : decode cX12_goesBy 66 = .ok (.invokevirtual 332, 3) := by decide +kernel
theorem dX12_goesBy_69 : decode cX12_goesBy 69 = .ok (.aload_n 0, 1) := by decide +kernel
theorem dX12_goesBy_70 : decode cX12_goesBy 70 = .ok (.aload_n 1, 1) := by decide +kernel
theorem dX12_goesBy_71 : decode cX12_goesBy 71 = .ok (.aload_n 0, 1) := by decide +kernel
theorem dX12_goesBy_72 : decode cX12_goesBy 72 = .ok (.aload_n 1, 1) := by decide +kernel
theorem dX12_goesBy_73 : decode cX12_goesBy 73 = .ok (.iconst 1, 1) := by decide +kernel
theorem dX12_goesBy_74 : decode cX12_goesBy 74 = .ok (.invokevirtual 315, 3) := by decide +kernel
theorem dX12_goesBy_77 : decode cX12_goesBy 77 = .ok (.invokevirtual 347, 3) := by decide +kernel
theorem dX12_goesBy_80 : decode cX12_goesBy 80 = .ok (.istore_n 3, 1) := by decide +kernel
theorem dX12_goesBy_81 : decode cX12_goesBy 81 = .ok (.iconst 0, 1) := by decide +kernel
theorem dX12_goesBy_82 : decode cX12_goesBy 82 = .ok (.istore 4, 2) := by decide +kernel
theorem dX12_goesBy_84 : decode cX12_goesBy 84 = .ok (.iload 4, 2) := by decide +kernel
theorem dX12_goesBy_86 : decode cX12_goesBy 86 = .ok (.aload_n 0, 1) := by decide +kernel
theorem dX12_goesBy_87 : decode cX12_goesBy 87 = .ok (.getfield 307, 3) := by decide +kernel
theorem dX12_goesBy_90 : decode cX12_goesBy 90 = .ok (.getfield 255, 3) := by decide +kernel
theorem dX12_goesBy_93 : decode cX12_goesBy 93 = .ok (.if_icmp .ge 25, 3) := by decide +kernel
theorem dX12_goesBy_96 : decode cX12_goesBy 96 = .ok (.iload_n 3, 1) := by decide +kernel
theorem dX12_goesBy_97 : decode cX12_goesBy 97 = .ok (.iload 4, 2) := by decide +kernel
theorem dX12_goesBy_99 : decode cX12_goesBy 99 = .ok (.invokestatic 275, 3) := by decide +kernel
theorem dX12_goesBy_102 : decode cX12_goesBy 102 = .ok (.ifCond .eq 10, 3) := by decide +kernel
theorem dX12_goesBy_105 : decode cX12_goesBy 105 = .ok (.aload_n 1, 1) := by decide +kernel
theorem dX12_goesBy_106 : decode cX12_goesBy 106 = .ok (.iconst 0, 1) := by decide +kernel
theorem dX12_goesBy_107 : decode cX12_goesBy 107 = .ok (.iload 4, 2) := by decide +kernel
theorem dX12_goesBy_109 : decode cX12_goesBy 109 = .ok (.iadd, 1) := by decide +kernel
theorem dX12_goesBy_110 : decode cX12_goesBy 110 = .ok (.iconst 2, 1) := by decide +kernel
theorem dX12_goesBy_111 : decode cX12_goesBy 111 = .ok (.iastore, 1) := by decide +kernel
theorem dX12_goesBy_112 : decode cX12_goesBy 112 = .ok (.iinc 4 1, 3) := by decide +kernel
theorem dX12_goesBy_115 : decode cX12_goesBy 115 = .ok (.goto (-31), 3) := by decide +kernel
theorem dX12_goesBy_118 : decode cX12_goesBy 118 = .ok (.aload_n 0, 1) := by decide +kernel
theorem dX12_goesBy_119 : decode cX12_goesBy 119 = .ok (.aload_n 0, 1) := by decide +kernel
theorem dX12_goesBy_120 : decode cX12_goesBy 120 = .ok (.aload_n 1, 1) := by decide +kernel
theorem dX12_goesBy_121 : decode cX12_goesBy 121 = .ok (.iconst 1, 1) := by decide +kernel
theorem dX12_goesBy_122 : decode cX12_goesBy 122 = .ok (.invokevirtual 315, 3) := by decide +kernel
theorem dX12_goesBy_125 : decode cX12_goesBy 125 = .ok (.aload_n 1, 1) := by decide +kernel
theorem dX12_goesBy_126 : decode cX12_goesBy 126 = .ok (.bipush 14, 2) := by decide +kernel
theorem dX12_goesBy_128 : decode cX12_goesBy 128 = .ok (.iaload, 1) := by decide +kernel
theorem dX12_goesBy_129 : decode cX12_goesBy 129 = .ok (.invokevirtual 332, 3) := by decide +kernel
theorem dX12_goesBy_132 : decode cX12_goesBy 132 = .ok (.iconst 0, 1) := by decide +kernel
theorem dX12_goesBy_133 : decode cX12_goesBy 133 = .ok (.istore 4, 2) := by decide +kernel
theorem dX12_goesBy_135 : decode cX12_goesBy 135 = .ok (.iload 4, 2) := by decide +kernel
theorem dX12_goesBy_137 : decode cX12_goesBy 137 = .ok (.aload_n 0, 1) := by decide +kernel
theorem dX12_goesBy_138 : decode cX12_goesBy 138 = .ok (.getfield 307, 3) := by decide +kernel
theorem dX12_goesBy_141 : decode cX12_goesBy 141 = .ok (.getfield 255, 3) := by decide +kernel
theorem dX12_goesBy_144 : decode cX12_goesBy 144 = .ok (.if_icmp .ge 34, 3) := by decide +kernel
theorem dX12_goesBy_147 : decode cX12_goesBy 147 = .ok (.aload_n 1, 1) := by decide +kernel
theorem dX12_goesBy_148 : decode cX12_goesBy 148 = .ok (.bipush 7, 2) := by decide +kernel
theorem dX12_goesBy_150 : decode cX12_goesBy 150 = .ok (.iload 4, 2) := by decide +kernel
theorem dX12_goesBy_152 : decode cX12_goesBy 152 = .ok (.iadd, 1) := by decide +kernel
theorem dX12_goesBy_153 : decode cX12_goesBy 153 = .ok (.dup2, 1) := by decide +kernel
theorem dX12_goesBy_154 : decode cX12_goesBy 154 = .ok (.iaload, 1) := by decide +kernel
theorem dX12_goesBy_155 : decode cX12_goesBy 155 = .ok (.aload_n 1, 1) := by decide +kernel
theorem dX12_goesBy_156 : decode cX12_goesBy 156 = .ok (.iconst 0, 1) := by decide +kernel
theorem dX12_goesBy_157 : decode cX12_goesBy 157 = .ok (.iload 4, 2) := by decide +kernel
theorem dX12_goesBy_159 : decode cX12_goesBy 159 = .ok (.iadd, 1) := by decide +kernel
theorem dX12_goesBy_160 : decode cX12_goesBy 160 = .ok (.iaload, 1) := by decide +kernel
theorem dX12_goesBy_161 : decode cX12_goesBy 161 = .ok (.iconst 1, 1) := by decide +kernel
theorem dX12_goesBy_162 : decode cX12_goesBy 162 = .ok (.if_icmp .ne 7, 3) := by decide +kernel
theorem dX12_goesBy_165 : decode cX12_goesBy 165 = .ok (.iconst 1, 1) := by decide +kernel
theorem dX12_goesBy_166 : decode cX12_goesBy 166 = .ok (.goto 4, 3) := by decide +kernel
theorem dX12_goesBy_169 : decode cX12_goesBy 169 = .ok (.iconst 0, 1) := by decide +kernel
theorem dX12_goesBy_170 : decode cX12_goesBy 170 = .ok (.iadd, 1) := by decide +kernel
theorem dX12_goesBy_171 : decode cX12_goesBy 171 = .ok (.iastore, 1) := by decide +kernel
theorem dX12_goesBy_172 : decode cX12_goesBy 172 = .ok (.iinc 4 1, 3) := by decide +kernel
theorem dX12_goesBy_175 : decode cX12_goesBy 175 = .ok (.goto (-40), 3) := by decide +kernel
theorem dX12_goesBy_178 : decode cX12_goesBy 178 = .ok (.aload_n 0, 1) := by decide +kernel
theorem dX12_goesBy_179 : decode cX12_goesBy 179 = .ok (.invokevirtual 350, 3) := by decide +kernel
theorem dX12_goesBy_182 : decode cX12_goesBy 182 = .ok (.ireturn, 1) := by decide +kernel
theorem dX12_goOnYears_0 : decode cX12_goOnYears 0 = .ok (.iconst 0, 1) := by decide +kernel
theorem dX12_goOnYears_1 : decode cX12_goOnYears 1 = .ok (.istore_n 3, 1) := by decide +kernel
theorem dX12_goOnYears_2 : decode cX12_goOnYears 2 = .ok (.aload_n 0, 1) := by decide +kernel
theorem dX12_goOnYears_3 : decode cX12_goOnYears 3 = .ok (.iconst 0, 1) := by decide +kernel
theorem dX12_goOnYears_4 : decode cX12_goOnYears 4 = .ok (.putfield 449, 3) := by decide +kernel
theorem dX12_goOnYears_7 : decode cX12_goOnYears 7 = .ok (.aload_n 0, 1) := by decide +kernel
theorem dX12_goOnYears_8 : decode cX12_goOnYears 8 = .ok (.invokevirtual 452, 3) := by decide +kernel
theorem dX12_goOnYears_11 : decode cX12_goOnYears 11 = .ok (.aload_n 0, 1) := by decide +kernel
theorem dX12_goOnYears_12 : decode cX12_goOnYears 12 = .ok (.getfield 21, 3) := by decide +kernel
theorem dX12_goOnYears_15 : decode cX12_goOnYears 15 = .ok (.bipush 15, 2) := by decide +kernel
theorem dX12_goOnYears_17 : decode cX12_goOnYears 17 = .ok (.iload_n 1, 1) := by decide +kernel
theorem dX12_goOnYears_18 : decode cX12_goOnYears 18 = .ok (.iastore, 1) := by decide +kernel
theorem dX12_goOnYears_19 : decode cX12_goOnYears 19 = .ok (.iconst 1, 1) := by decide +kernel
theorem dX12_goOnYears_20 : decode cX12_goOnYears 20 = .ok (.istore 4, 2) := by decide +kernel
theorem dX12_goOnYears_22 : decode cX12_goOnYears 22 = .ok (.iload 4, 2) := by decide +kernel
theorem dX12_goOnYears_24 : decode cX12_goOnYears 24 = .ok (.iload_n 2, 1) := by decide +kernel
theorem dX12_goOnYears_25 : decode cX12_goOnYears 25 = .ok (.if_icmp .gt 40, 3) := by decide +kernel
theorem dX12_goOnYears_28 : decode cX12_goOnYears 28 = .ok (.iload_n 3, 1) := by decide +kernel
theorem dX12_goOnYears_29 : decode cX12_goOnYears 29 = .ok (.aload_n 0, 1) := by decide +kernel
theorem dX12_goOnYears_30 : decode cX12_goOnYears 30 = .ok (.aload_n 0, 1) := by decide +kernel
theorem dX12_goOnYears_31 : decode cX12_goOnYears 31 = .ok (.getfield 21, 3) := by decide +kernel
theorem dX12_goOnYears_34 : decode cX12_goOnYears 34 = .ok (.invokevirtual 455, 3) := by decide +kernel
theorem dX12_goOnYears_37 : decode cX12_goOnYears 37 = .ok (.iadd, 1) := by decide +kernel
theorem dX12_goOnYears_38 : decode cX12_goOnYears 38 = .ok (.istore_n 3, 1) := by decide +kernel
theorem dX12_goOnYears_39 : decode cX12_goOnYears 39 = .ok (.aload_n 0, 1) := by decide +kernel
theorem dX12_goOnYears_40 : decode cX12_goOnYears 40 = .ok (.getfield 449, 3) := by decide +kernel
theorem dX12_goOnYears_43 : decode cX12_goOnYears 43 = .ok (.ifCond .ne 16, 3) := by decide +kernel
theorem dX12_goOnYears_46 : decode cX12_goOnYears 46 = .ok (.aload_n 0, 1) := by decide +kernel
theorem dX12_goOnYears_47 : decode cX12_goOnYears 47 = .ok (.invokevirtual 353, 3) := by decide +kernel
theorem dX12_goOnYears_50 : decode cX12_goOnYears 50 = .ok (.ifCond .eq 9, 3) := by decide +kernel
theorem dX12_goOnYears_53 : decode cX12_goOnYears 53 = .ok (.aload_n 0, 1) := by decide +kernel
theorem dX12_goOnYears_54 : decode cX12_goOnYears 54 = .ok (.iload 4, 2) := by decide +kernel
theorem dX12_goOnYears_56 : decode cX12_goOnYears 56 = .ok (.putfield 449, 3) := by decide +kernel
theorem dX12_goOnYears_59 : decode cX12_goOnYears 59 = .ok (.iinc 4 1, 3) := by decide +kernel
theorem dX12_goOnYears_62 : decode cX12_goOnYears 62 = .ok (.goto (-40), 3) := by decide +kernel
theorem dX12_goOnYears_65 : decode cX12_goOnYears 65 = .ok (.iload_n 3, 1) := by decide +kernel
theorem dX12_goOnYears_66 : decode cX12_goOnYears 66 = .ok (.ireturn, 1) := by decide +kernel
theorem dX12_refusesYears_0 : decode cX12_refusesYears 0 = .ok (.aload_n 0, 1) := by decide +kernel
theorem dX12_refusesYears_1 : decode cX12_refusesYears 1 = .ok (.getfield 307, 3) := by decide +kernel
theorem dX12_refusesYears_4 : decode cX12_refusesYears 4 = .ok (.ifnonnull 7, 3) := by decide +kernel
theorem dX12_refusesYears_7 : decode cX12_refusesYears 7 = .ok (.iconst 1, 1) := by decide +kernel
theorem dX12_refusesYears_8 : decode cX12_refusesYears 8 = .ok (.goto 29, 3) := by decide +kernel
theorem dX12_refusesYears_11 : decode cX12_refusesYears 11 = .ok (.iload_n 1, 1) := by decide +kernel
theorem dX12_refusesYears_12 : decode cX12_refusesYears 12 = .ok (.iconst 0, 1) := by decide +kernel
theorem dX12_refusesYears_13 : decode cX12_refusesYears 13 = .ok (.ldc_w 459, 3) := by decide +kernel
theorem dX12_refusesYears_16 : decode cX12_refusesYears 16 = .ok (.invokestatic 126, 3) := by decide +kernel
theorem dX12_refusesYears_19 : decode cX12_refusesYears 19 = .ok (.ifCond .eq 17, 3) := by decide +kernel
theorem dX12_refusesYears_22 : decode cX12_refusesYears 22 = .ok (.iload_n 2, 1) := by decide +kernel
theorem dX12_refusesYears_23 : decode cX12_refusesYears 23 = .ok (.iconst 0, 1) := by decide +kernel
theorem dX12_refusesYears_24 : decode cX12_refusesYears 24 = .ok (.bipush 60, 2) := by decide +kernel
theorem dX12_refusesYears_26 : decode cX12_refusesYears 26 = .ok (.invokestatic 126, 3) := by decide +kernel
theorem dX12_refusesYears_29 : decode cX12_refusesYears 29 = .ok (.ifCond .eq 7, 3) := by decide +kernel
theorem dX12_refusesYears_32 : decode cX12_refusesYears 32 = .ok (.iconst 0, 1) := by decide +kernel
theorem dX12_refusesYears_33 : decode cX12_refusesYears 33 = .ok (.goto 4, 3) := by decide +kernel
theorem dX12_refusesYears_36 : decode cX12_refusesYears 36 = .ok (.iconst 2, 1) := by decide +kernel
theorem dX12_refusesYears_37 : decode cX12_refusesYears 37 = .ok (.ireturn, 1) := by decide +kernel
theorem dX12_century_0 : decode cX12_century 0 = .ok (.aload_n 0, 1) := by decide +kernel
theorem dX12_century_1 : decode cX12_century 1 = .ok (.iconst 0, 1) := by decide +kernel
theorem dX12_century_2 : decode cX12_century 2 = .ok (.putfield 51, 3) := by decide +kernel
theorem dX12_century_5 : decode cX12_century 5 = .ok (.aload_n 0, 1) := by decide +kernel
theorem dX12_century_6 : decode cX12_century 6 = .ok (.iload_n 1, 1) := by decide +kernel
theorem dX12_century_7 : decode cX12_century 7 = .ok (.iload_n 2, 1) := by decide +kernel
theorem dX12_century_8 : decode cX12_century 8 = .ok (.invokevirtual 460, 3) := by decide +kernel
theorem dX12_century_11 : decode cX12_century 11 = .ok (.istore_n 3, 1) := by decide +kernel
theorem dX12_century_12 : decode cX12_century 12 = .ok (.iload_n 3, 1) := by decide +kernel
theorem dX12_century_13 : decode cX12_century 13 = .ok (.ifCond .le 11, 3) := by decide +kernel
theorem dX12_century_16 : decode cX12_century 16 = .ok (.aload_n 0, 1) := by decide +kernel
theorem dX12_century_17 : decode cX12_century 17 = .ok (.iload_n 3, 1) := by decide +kernel
theorem dX12_century_18 : decode cX12_century 18 = .ok (.invokevirtual 57, 3) := by decide +kernel
theorem dX12_century_21 : decode cX12_century 21 = .ok (.goto 13, 3) := by decide +kernel
theorem dX12_century_24 : decode cX12_century 24 = .ok (.aload_n 0, 1) := by decide +kernel
theorem dX12_century_25 : decode cX12_century 25 = .ok (.aload_n 0, 1) := by decide +kernel
theorem dX12_century_26 : decode cX12_century 26 = .ok (.iload_n 1, 1) := by decide +kernel
theorem dX12_century_27 : decode cX12_century 27 = .ok (.iload_n 2, 1) := by decide +kernel
theorem dX12_century_28 : decode cX12_century 28 = .ok (.invokevirtual 463, 3) := by decide +kernel
theorem dX12_century_31 : decode cX12_century 31 = .ok (.invokevirtual 61, 3) := by decide +kernel
theorem dX12_century_34 : decode cX12_century 34 = .ok (.ireturn, 1) := by decide +kernel
theorem dX12_burstBy_0 : decode cX12_burstBy 0 = .ok (.aload_n 0, 1) := by decide +kernel
theorem dX12_burstBy_1 : decode cX12_burstBy 1 = .ok (.iconst 0, 1) := by decide +kernel
theorem dX12_burstBy_2 : decode cX12_burstBy 2 = .ok (.putfield 51, 3) := by decide +kernel
theorem dX12_burstBy_5 : decode cX12_burstBy 5 = .ok (.aload_n 0, 1) := by decide +kernel
theorem dX12_burstBy_6 : decode cX12_burstBy 6 = .ok (.iload_n 1, 1) := by decide +kernel
theorem dX12_burstBy_7 : decode cX12_burstBy 7 = .ok (.iload_n 2, 1) := by decide +kernel
theorem dX12_burstBy_8 : decode cX12_burstBy 8 = .ok (.invokevirtual 460, 3) := by decide +kernel
theorem dX12_burstBy_11 : decode cX12_burstBy 11 = .ok (.istore_n 3, 1) := by decide +kernel
theorem dX12_burstBy_12 : decode cX12_burstBy 12 = .ok (.iload_n 3, 1) := by decide +kernel
theorem dX12_burstBy_13 : decode cX12_burstBy 13 = .ok (.ifCond .le 9, 3) := by decide +kernel
theorem dX12_burstBy_16 : decode cX12_burstBy 16 = .ok (.aload_n 0, 1) := by decide +kernel
theorem dX12_burstBy_17 : decode cX12_burstBy 17 = .ok (.iload_n 3, 1) := by decide +kernel
theorem dX12_burstBy_18 : decode cX12_burstBy 18 = .ok (.invokevirtual 57, 3) := by decide +kernel
theorem dX12_burstBy_21 : decode cX12_burstBy 21 = .ok (.ireturn, 1) := by decide +kernel
theorem dX12_burstBy_22 : decode cX12_burstBy 22 = .ok (.aload_n 0, 1) := by decide +kernel
theorem dX12_burstBy_23 : decode cX12_burstBy 23 = .ok (.iload_n 1, 1) := by decide +kernel
theorem dX12_burstBy_24 : decode cX12_burstBy 24 = .ok (.iload_n 2, 1) := by decide +kernel
theorem dX12_burstBy_25 : decode cX12_burstBy 25 = .ok (.invokevirtual 463, 3) := by decide +kernel
theorem dX12_burstBy_28 : decode cX12_burstBy 28 = .ok (.pop, 1) := by decide +kernel
theorem dX12_burstBy_29 : decode cX12_burstBy 29 = .ok (.aload_n 0, 1) := by decide +kernel
theorem dX12_burstBy_30 : decode cX12_burstBy 30 = .ok (.aload_n 0, 1) := by decide +kernel
theorem dX12_burstBy_31 : decode cX12_burstBy 31 = .ok (.aload_n 0, 1) := by decide +kernel
theorem dX12_burstBy_32 : decode cX12_burstBy 32 = .ok (.getfield 21, 3) := by decide +kernel
theorem dX12_burstBy_35 : decode cX12_burstBy 35 = .ok (.iconst 2, 1) := by decide +kernel
theorem dX12_burstBy_36 : decode cX12_burstBy 36 = .ok (.invokevirtual 315, 3) := by decide +kernel
theorem dX12_burstBy_39 : decode cX12_burstBy 39 = .ok (.invokevirtual 61, 3) := by decide +kernel
theorem dX12_burstBy_42 : decode cX12_burstBy 42 = .ok (.ireturn, 1) := by decide +kernel
theorem dX12_firstFlood_0 : decode cX12_firstFlood 0 = .ok (.aload_n 0, 1) := by decide +kernel
theorem dX12_firstFlood_1 : decode cX12_firstFlood 1 = .ok (.iconst 0, 1) := by decide +kernel
theorem dX12_firstFlood_2 : decode cX12_firstFlood 2 = .ok (.putfield 51, 3) := by decide +kernel
theorem dX12_firstFlood_5 : decode cX12_firstFlood 5 = .ok (.aload_n 0, 1) := by decide +kernel
theorem dX12_firstFlood_6 : decode cX12_firstFlood 6 = .ok (.iload_n 1, 1) := by decide +kernel
theorem dX12_firstFlood_7 : decode cX12_firstFlood 7 = .ok (.iload_n 2, 1) := by decide +kernel
theorem dX12_firstFlood_8 : decode cX12_firstFlood 8 = .ok (.invokevirtual 460, 3) := by decide +kernel
theorem dX12_firstFlood_11 : decode cX12_firstFlood 11 = .ok (.istore_n 3, 1) := by decide +kernel
theorem dX12_firstFlood_12 : decode cX12_firstFlood 12 = .ok (.iload_n 3, 1) := by decide +kernel
theorem dX12_firstFlood_13 : decode cX12_firstFlood 13 = .ok (.ifCond .le 9, 3) := by decide +kernel
theorem dX12_firstFlood_16 : decode cX12_firstFlood 16 = .ok (.aload_n 0, 1) := by decide +kernel
theorem dX12_firstFlood_17 : decode cX12_firstFlood 17 = .ok (.iload_n 3, 1) := by decide +kernel
theorem dX12_firstFlood_18 : decode cX12_firstFlood 18 = .ok (.invokevirtual 57, 3) := by decide +kernel
theorem dX12_firstFlood_21 : decode cX12_firstFlood 21 = .ok (.ireturn, 1) := by decide +kernel
theorem dX12_firstFlood_22 : decode cX12_firstFlood 22 = .ok (.aload_n 0, 1) := by decide +kernel
theorem dX12_firstFlood_23 : decode cX12_firstFlood 23 = .ok (.iload_n 1, 1) := by decide +kernel
theorem dX12_firstFlood_24 : decode cX12_firstFlood 24 = .ok (.iload_n 2, 1) := by decide +kernel
theorem dX12_firstFlood_25 : decode cX12_firstFlood 25 = .ok (.invokevirtual 463, 3) := by decide +kernel
theorem dX12_firstFlood_28 : decode cX12_firstFlood 28 = .ok (.pop, 1) := by decide +kernel
theorem dX12_firstFlood_29 : decode cX12_firstFlood 29 = .ok (.aload_n 0, 1) := by decide +kernel
theorem dX12_firstFlood_30 : decode cX12_firstFlood 30 = .ok (.aload_n 0, 1) := by decide +kernel
theorem dX12_firstFlood_31 : decode cX12_firstFlood 31 = .ok (.getfield 449, 3) := by decide +kernel
theorem dX12_firstFlood_34 : decode cX12_firstFlood 34 = .ok (.invokevirtual 61, 3) := by decide +kernel
theorem dX12_firstFlood_37 : decode cX12_firstFlood 37 = .ok (.ireturn, 1) := by decide +kernel
theorem dX12_yearOf_0 : decode cX12_yearOf 0 = .ok (.aload_n 0, 1) := by decide +kernel
theorem dX12_yearOf_1 : decode cX12_yearOf 1 = .ok (.iconst 0, 1) := by decide +kernel
theorem dX12_yearOf_2 : decode cX12_yearOf 2 = .ok (.putfield 51, 3) := by decide +kernel
theorem dX12_yearOf_5 : decode cX12_yearOf 5 = .ok (.aload_n 0, 1) := by decide +kernel
theorem dX12_yearOf_6 : decode cX12_yearOf 6 = .ok (.iload_n 1, 1) := by decide +kernel
theorem dX12_yearOf_7 : decode cX12_yearOf 7 = .ok (.invokevirtual 344, 3) := by decide +kernel
theorem dX12_yearOf_10 : decode cX12_yearOf 10 = .ok (.ifCond .ne 9, 3) := by decide +kernel
theorem dX12_yearOf_13 : decode cX12_yearOf 13 = .ok (.aload_n 0, 1) := by decide +kernel
theorem dX12_yearOf_14 : decode cX12_yearOf 14 = .ok (.iconst 1, 1) := by decide +kernel
theorem dX12_yearOf_15 : decode cX12_yearOf 15 = .ok (.invokevirtual 57, 3) := by decide +kernel
theorem dX12_yearOf_18 : decode cX12_yearOf 18 = .ok (.ireturn, 1) := by decide +kernel
theorem dX12_yearOf_19 : decode cX12_yearOf 19 = .ok (.iload_n 2, 1) := by decide +kernel
theorem dX12_yearOf_20 : decode cX12_yearOf 20 = .ok (.iconst 0, 1) := by decide +kernel
theorem dX12_yearOf_21 : decode cX12_yearOf 21 = .ok (.ldc_w 459, 3) := by decide +kernel
theorem dX12_yearOf_24 : decode cX12_yearOf 24 = .ok (.invokestatic 126, 3) := by decide +kernel
theorem dX12_yearOf_27 : decode cX12_yearOf 27 = .ok (.ifCond .ne 9, 3) := by decide +kernel
theorem dX12_yearOf_30 : decode cX12_yearOf 30 = .ok (.aload_n 0, 1) := by decide +kernel
theorem dX12_yearOf_31 : decode cX12_yearOf 31 = .ok (.iconst 2, 1) := by decide +kernel
theorem dX12_yearOf_32 : decode cX12_yearOf 32 = .ok (.invokevirtual 57, 3) := by decide +kernel
theorem dX12_yearOf_35 : decode cX12_yearOf 35 = .ok (.ireturn, 1) := by decide +kernel
theorem dX12_yearOf_36 : decode cX12_yearOf 36 = .ok (.aload_n 0, 1) := by decide +kernel
theorem dX12_yearOf_37 : decode cX12_yearOf 37 = .ok (.getfield 17, 3) := by decide +kernel
theorem dX12_yearOf_40 : decode cX12_yearOf 40 = .ok (.iconst 0, 1) := by decide +kernel
theorem dX12_yearOf_41 : decode cX12_yearOf 41 = .ok (.iload_n 1, 1) := by decide +kernel
theorem dX12_yearOf_42 : decode cX12_yearOf 42 = .ok (.iadd, 1) := by decide +kernel
theorem dX12_yearOf_43 : decode cX12_yearOf 43 = .ok (.iaload, 1) := by decide +kernel
theorem dX12_yearOf_44 : decode cX12_yearOf 44 = .ok (.iconst 1, 1) := by decide +kernel
theorem dX12_yearOf_45 : decode cX12_yearOf 45 = .ok (.if_icmp .eq 9, 3) := by decide +kernel
theorem dX12_yearOf_48 : decode cX12_yearOf 48 = .ok (.aload_n 0, 1) := by decide +kernel
theorem dX12_yearOf_49 : decode cX12_yearOf 49 = .ok (.iconst 5, 1) := by decide +kernel
theorem dX12_yearOf_50 : decode cX12_yearOf 50 = .ok (.invokevirtual 57, 3) := by decide +kernel
theorem dX12_yearOf_53 : decode cX12_yearOf 53 = .ok (.ireturn, 1) := by decide +kernel
theorem dX12_yearOf_54 : decode cX12_yearOf 54 = .ok (.aload_n 0, 1) := by decide +kernel
theorem dX12_yearOf_55 : decode cX12_yearOf 55 = .ok (.invokevirtual 452, 3) := by decide +kernel
theorem dX12_yearOf_58 : decode cX12_yearOf 58 = .ok (.aload_n 0, 1) := by decide +kernel
theorem dX12_yearOf_59 : decode cX12_yearOf 59 = .ok (.getfield 21, 3) := by decide +kernel
theorem dX12_yearOf_62 : decode cX12_yearOf 62 = .ok (.bipush 15, 2) := by decide +kernel
theorem dX12_yearOf_64 : decode cX12_yearOf 64 = .ok (.iload_n 2, 1) := by decide +kernel
theorem dX12_yearOf_65 : decode cX12_yearOf 65 = .ok (.iastore, 1) := by decide +kernel
theorem dX12_yearOf_66 : decode cX12_yearOf 66 = .ok (.iconst 1, 1) := by decide +kernel
theorem dX12_yearOf_67 : decode cX12_yearOf 67 = .ok (.istore_n 3, 1) := by decide +kernel
theorem dX12_yearOf_68 : decode cX12_yearOf 68 = .ok (.iload_n 3, 1) := by decide +kernel
theorem dX12_yearOf_69 : decode cX12_yearOf 69 = .ok (.bipush 60, 2) := by decide +kernel
theorem dX12_yearOf_71 : decode cX12_yearOf 71 = .ok (.if_icmp .gt 36, 3) := by decide +kernel
theorem dX12_yearOf_74 : decode cX12_yearOf 74 = .ok (.aload_n 0, 1) := by decide +kernel
theorem dX12_yearOf_75 : decode cX12_yearOf 75 = .ok (.aload_n 0, 1) := by decide +kernel
theorem dX12_yearOf_76 : decode cX12_yearOf 76 = .ok (.getfield 21, 3) := by decide +kernel
theorem dX12_yearOf_79 : decode cX12_yearOf 79 = .ok (.invokevirtual 455, 3) := by decide +kernel
theorem dX12_yearOf_82 : decode cX12_yearOf 82 = .ok (.pop, 1) := by decide +kernel
theorem dX12_yearOf_83 : decode cX12_yearOf 83 = .ok (.aload_n 0, 1) := by decide +kernel
theorem dX12_yearOf_84 : decode cX12_yearOf 84 = .ok (.getfield 21, 3) := by decide +kernel
theorem dX12_yearOf_87 : decode cX12_yearOf 87 = .ok (.iconst 0, 1) := by decide +kernel
theorem dX12_yearOf_88 : decode cX12_yearOf 88 = .ok (.iload_n 1, 1) := by decide +kernel
theorem dX12_yearOf_89 : decode cX12_yearOf 89 = .ok (.iadd, 1) := by decide +kernel
theorem dX12_yearOf_90 : decode cX12_yearOf 90 = .ok (.iaload, 1) := by decide +kernel
theorem dX12_yearOf_91 : decode cX12_yearOf 91 = .ok (.iconst 2, 1) := by decide +kernel
theorem dX12_yearOf_92 : decode cX12_yearOf 92 = .ok (.if_icmp .ne 9, 3) := by decide +kernel
theorem dX12_yearOf_95 : decode cX12_yearOf 95 = .ok (.aload_n 0, 1) := by decide +kernel
theorem dX12_yearOf_96 : decode cX12_yearOf 96 = .ok (.iload_n 3, 1) := by decide +kernel
theorem dX12_yearOf_97 : decode cX12_yearOf 97 = .ok (.invokevirtual 61, 3) := by decide +kernel
theorem dX12_yearOf_100 : decode cX12_yearOf 100 = .ok (.ireturn, 1) := by decide +kernel
theorem dX12_yearOf_101 : decode cX12_yearOf 101 = .ok (.iinc 3 1, 3) := by decide +kernel
theorem dX12_yearOf_104 : decode cX12_yearOf 104 = .ok (.goto (-36), 3) := by decide +kernel
theorem dX12_yearOf_107 : decode cX12_yearOf 107 = .ok (.aload_n 0, 1) := by decide +kernel
theorem dX12_yearOf_108 : decode cX12_yearOf 108 = .ok (.iconst 0, 1) := by decide +kernel
theorem dX12_yearOf_109 : decode cX12_yearOf 109 = .ok (.invokevirtual 61, 3) := by decide +kernel
theorem dX12_yearOf_112 : decode cX12_yearOf 112 = .ok (.ireturn, 1) := by decide +kernel
theorem dX12_remembers_0 : decode cX12_remembers 0 = .ok (.aload_n 0, 1) := by decide +kernel
theorem dX12_remembers_1 : decode cX12_remembers 1 = .ok (.getfield 309, 3) := by decide +kernel
theorem dX12_remembers_4 : decode cX12_remembers 4 = .ok (.bipush 16, 2) := by decide +kernel
theorem dX12_remembers_6 : decode cX12_remembers 6 = .ok (.if_icmp .ne 43, 3) := by decide +kernel
theorem dX12_remembers_9 : decode cX12_remembers 9 = .ok (.iconst 0, 1) := by decide +kernel
theorem dX12_remembers_10 : decode cX12_remembers 10 = .ok (.istore_n 1, 1) := by decide +kernel
theorem dX12_remembers_11 : decode cX12_remembers 11 = .ok (.iload_n 1, 1) := by decide +kernel
theorem dX12_remembers_12 : decode cX12_remembers 12 = .ok (.sipush 240, 3) := by decide +kernel
theorem dX12_remembers_15 : decode cX12_remembers 15 = .ok (.if_icmp .ge 24, 3) := by decide +kernel
theorem dX12_remembers_18 : decode cX12_remembers 18 = .ok (.aload_n 0, 1) := by decide +kernel
theorem dX12_remembers_19 : decode cX12_remembers 19 = .ok (.getfield 24, 3) := by decide +kernel
theorem dX12_remembers_22 : decode cX12_remembers 22 = .ok (.iload_n 1, 1) := by decide +kernel
theorem dX12_remembers_23 : decode cX12_remembers 23 = .ok (.aload_n 0, 1) := by decide +kernel
theorem dX12_remembers_24 : decode cX12_remembers 24 = .ok (.getfield 24, 3) := by decide +kernel
theorem dX12_remembers_27 : decode cX12_remembers 27 = .ok (.iload_n 1, 1) := by decide +kernel
theorem dX12_remembers_28 : decode cX12_remembers 28 = .ok (.bipush 16, 2) := by decide +kernel
theorem dX12_remembers_30 : decode cX12_remembers 30 = .ok (.iadd, 1) := by decide +kernel
theorem dX12_remembers_31 : decode cX12_remembers 31 = .ok (.iaload, 1) := by decide +kernel
theorem dX12_remembers_32 : decode cX12_remembers 32 = .ok (.iastore, 1) := by decide +kernel
theorem dX12_remembers_33 : decode cX12_remembers 33 = .ok (.iinc 1 1, 3) := by decide +kernel
theorem dX12_remembers_36 : decode cX12_remembers 36 = .ok (.goto (-25), 3) := by decide +kernel
theorem dX12_remembers_39 : decode cX12_remembers 39 = .ok (.aload_n 0, 1) := by decide +kernel
theorem dX12_remembers_40 : decode cX12_remembers 40 = .ok (.dup, 1) := by decide +kernel
theorem dX12_remembers_41 : decode cX12_remembers 41 = .ok (.getfield 309, 3) := by decide +kernel
theorem dX12_remembers_44 : decode cX12_remembers 44 = .ok (.iconst 1, 1) := by decide +kernel
theorem dX12_remembers_45 : decode cX12_remembers 45 = .ok (.isub, 1) := by decide +kernel
theorem dX12_remembers_46 : decode cX12_remembers 46 = .ok (.putfield 309, 3) := by decide +kernel
theorem dX12_remembers_49 : decode cX12_remembers 49 = .ok (.iconst 0, 1) := by decide +kernel
theorem dX12_remembers_50 : decode cX12_remembers 50 = .ok (.istore_n 1, 1) := by decide +kernel
theorem dX12_remembers_51 : decode cX12_remembers 51 = .ok (.iload_n 1, 1) := by decide +kernel
theorem dX12_remembers_52 : decode cX12_remembers 52 = .ok (.bipush 16, 2) := by decide +kernel
theorem dX12_remembers_54 : decode cX12_remembers 54 = .ok (.if_icmp .ge 29, 3) := by decide +kernel
theorem dX12_remembers_57 : decode cX12_remembers 57 = .ok (.aload_n 0, 1) := by decide +kernel
theorem dX12_remembers_58 : decode cX12_remembers 58 = .ok (.getfield 24, 3) := by decide +kernel
theorem dX12_remembers_61 : decode cX12_remembers 61 = .ok (.bipush 16, 2) := by decide +kernel
theorem dX12_remembers_63 : decode cX12_remembers 63 = .ok (.aload_n 0, 1) := by decide +kernel
theorem dX12_remembers_64 : decode cX12_remembers 64 = .ok (.getfield 309, 3) := by decide +kernel
theorem dX12_remembers_67 : decode cX12_remembers 67 = .ok (.imul, 1) := by decide +kernel
theorem dX12_remembers_68 : decode cX12_remembers 68 = .ok (.iload_n 1, 1) := by decide +kernel
theorem dX12_remembers_69 : decode cX12_remembers 69 = .ok (.iadd, 1) := by decide +kernel
theorem dX12_remembers_70 : decode cX12_remembers 70 = .ok (.aload_n 0, 1) := by decide +kernel
theorem dX12_remembers_71 : decode cX12_remembers 71 = .ok (.getfield 17, 3) := by decide +kernel
theorem dX12_remembers_74 : decode cX12_remembers 74 = .ok (.iload_n 1, 1) := by decide +kernel
theorem dX12_remembers_75 : decode cX12_remembers 75 = .ok (.iaload, 1) := by decide +kernel
theorem dX12_remembers_76 : decode cX12_remembers 76 = .ok (.iastore, 1) := by decide +kernel
theorem dX12_remembers_77 : decode cX12_remembers 77 = .ok (.iinc 1 1, 3) := by decide +kernel
theorem dX12_remembers_80 : decode cX12_remembers 80 = .ok (.goto (-29), 3) := by decide +kernel
theorem dX12_remembers_83 : decode cX12_remembers 83 = .ok (.aload_n 0, 1) := by decide +kernel
theorem dX12_remembers_84 : decode cX12_remembers 84 = .ok (.dup, 1) := by decide +kernel
theorem dX12_remembers_85 : decode cX12_remembers 85 = .ok (.getfield 309, 3) := by decide +kernel
theorem dX12_remembers_88 : decode cX12_remembers 88 = .ok (.iconst 1, 1) := by decide +kernel
theorem dX12_remembers_89 : decode cX12_remembers 89 = .ok (.iadd, 1) := by decide +kernel
theorem dX12_remembers_90 : decode cX12_remembers 90 = .ok (.putfield 309, 3) := by decide +kernel
theorem dX12_remembers_93 : decode cX12_remembers 93 = .ok (.return_, 1) := by decide +kernel
theorem dX12_changesTo_0 : decode cX12_changesTo 0 = .ok (.aload_n 0, 1) := by decide +kernel
theorem dX12_changesTo_1 : decode cX12_changesTo 1 = .ok (.invokevirtual 466, 3) := by decide +kernel
theorem dX12_changesTo_4 : decode cX12_changesTo 4 = .ok (.aload_n 0, 1) := by decide +kernel
theorem dX12_changesTo_5 : decode cX12_changesTo 5 = .ok (.getfield 17, 3) := by decide +kernel
theorem dX12_changesTo_8 : decode cX12_changesTo 8 = .ok (.iconst 0, 1) := by decide +kernel
theorem dX12_changesTo_9 : decode cX12_changesTo 9 = .ok (.iload_n 1, 1) := by decide +kernel
theorem dX12_changesTo_10 : decode cX12_changesTo 10 = .ok (.iadd, 1) := by decide +kernel
theorem dX12_changesTo_11 : decode cX12_changesTo 11 = .ok (.iload_n 2, 1) := by decide +kernel
theorem dX12_changesTo_12 : decode cX12_changesTo 12 = .ok (.iastore, 1) := by decide +kernel
theorem dX12_changesTo_13 : decode cX12_changesTo 13 = .ok (.aload_n 0, 1) := by decide +kernel
theorem dX12_changesTo_14 : decode cX12_changesTo 14 = .ok (.invokevirtual 341, 3) := by decide +kernel
theorem dX12_changesTo_17 : decode cX12_changesTo 17 = .ok (.aload_n 0, 1) := by decide +kernel
theorem dX12_changesTo_18 : decode cX12_changesTo 18 = .ok (.aload_n 0, 1) := by decide +kernel
theorem dX12_changesTo_19 : decode cX12_changesTo 19 = .ok (.getfield 30, 3) := by decide +kernel
theorem dX12_changesTo_22 : decode cX12_changesTo 22 = .ok (.aload_n 0, 1) := by decide +kernel
theorem dX12_changesTo_23 : decode cX12_changesTo 23 = .ok (.getfield 307, 3) := by decide +kernel
theorem dX12_changesTo_26 : decode cX12_changesTo 26 = .ok (.getfield 267, 3) := by decide +kernel
theorem dX12_changesTo_29 : decode cX12_changesTo 29 = .ok (.iload_n 1, 1) := by decide +kernel
theorem dX12_changesTo_30 : decode cX12_changesTo 30 = .ok (.iaload, 1) := by decide +kernel
theorem dX12_changesTo_31 : decode cX12_changesTo 31 = .ok (.iaload, 1) := by decide +kernel
theorem dX12_changesTo_32 : decode cX12_changesTo 32 = .ok (.invokevirtual 61, 3) := by decide +kernel
theorem dX12_changesTo_35 : decode cX12_changesTo 35 = .ok (.ireturn, 1) := by decide +kernel
theorem dX12_lace_0 : decode cX12_lace 0 = .ok (.aload_n 0, 1) := by decide +kernel
theorem dX12_lace_1 : decode cX12_lace 1 = .ok (.iconst 0, 1) := by decide +kernel
theorem dX12_lace_2 : decode cX12_lace 2 = .ok (.putfield 51, 3) := by decide +kernel
theorem dX12_lace_5 : decode cX12_lace 5 = .ok (.aload_n 0, 1) := by decide +kernel
theorem dX12_lace_6 : decode cX12_lace 6 = .ok (.iload_n 1, 1) := by decide +kernel
theorem dX12_lace_7 : decode cX12_lace 7 = .ok (.invokevirtual 344, 3) := by decide +kernel
theorem dX12_lace_10 : decode cX12_lace 10 = .ok (.ifCond .ne 9, 3) := by decide +kernel
theorem dX12_lace_13 : decode cX12_lace 13 = .ok (.aload_n 0, 1) := by decide +kernel
theorem dX12_lace_14 : decode cX12_lace 14 = .ok (.iconst 1, 1) := by decide +kernel
theorem dX12_lace_15 : decode cX12_lace 15 = .ok (.invokevirtual 57, 3) := by decide +kernel
theorem dX12_lace_18 : decode cX12_lace 18 = .ok (.ireturn, 1) := by decide +kernel
theorem dX12_lace_19 : decode cX12_lace 19 = .ok (.aload_n 0, 1) := by decide +kernel
theorem dX12_lace_20 : decode cX12_lace 20 = .ok (.getfield 17, 3) := by decide +kernel
theorem dX12_lace_23 : decode cX12_lace 23 = .ok (.iconst 0, 1) := by decide +kernel
theorem dX12_lace_24 : decode cX12_lace 24 = .ok (.iload_n 1, 1) := by decide +kernel
theorem dX12_lace_25 : decode cX12_lace 25 = .ok (.iadd, 1) := by decide +kernel
theorem dX12_lace_26 : decode cX12_lace 26 = .ok (.iaload, 1) := by decide +kernel
theorem dX12_lace_27 : decode cX12_lace 27 = .ok (.ifCond .ne 12, 3) := by decide +kernel
theorem dX12_lace_30 : decode cX12_lace 30 = .ok (.aload_n 0, 1) := by decide +kernel
theorem dX12_lace_31 : decode cX12_lace 31 = .ok (.iload_n 1, 1) := by decide +kernel
theorem dX12_lace_32 : decode cX12_lace 32 = .ok (.iconst 1, 1) := by decide +kernel
theorem dX12_lace_33 : decode cX12_lace 33 = .ok (.invokevirtual 469, 3) := by decide +kernel
theorem dX12_lace_36 : decode cX12_lace 36 = .ok (.goto 8, 3) := by decide +kernel
theorem dX12_lace_39 : decode cX12_lace 39 = .ok (.aload_n 0, 1) := by decide +kernel
theorem dX12_lace_40 : decode cX12_lace 40 = .ok (.iconst 5, 1) := by decide +kernel
theorem dX12_lace_41 : decode cX12_lace 41 = .ok (.invokevirtual 57, 3) := by decide +kernel
theorem dX12_lace_44 : decode cX12_lace 44 = .ok (.ireturn, 1) := by decide +kernel
theorem dX12_ease_0 : decode cX12_ease 0 = .ok (.aload_n 0, 1) := by decide +kernel
theorem dX12_ease_1 : decode cX12_ease 1 = .ok (.iconst 0, 1) := by decide +kernel
theorem dX12_ease_2 : decode cX12_ease 2 = .ok (.putfield 51, 3) := by decide +kernel
theorem dX12_ease_5 : decode cX12_ease 5 = .ok (.aload_n 0, 1) := by decide +kernel
theorem dX12_ease_6 : decode cX12_ease 6 = .ok (.iload_n 1, 1) := by decide +kernel
theorem dX12_ease_7 : decode cX12_ease 7 = .ok (.invokevirtual 344, 3) := by decide +kernel
theorem dX12_ease_10 : decode cX12_ease 10 = .ok (.ifCond .ne 9, 3) := by decide +kernel
theorem dX12_ease_13 : decode cX12_ease 13 = .ok (.aload_n 0, 1) := by decide +kernel
theorem dX12_ease_14 : decode cX12_ease 14 = .ok (.iconst 1, 1) := by decide +kernel
theorem dX12_ease_15 : decode cX12_ease 15 = .ok (.invokevirtual 57, 3) := by decide +kernel
theorem dX12_ease_18 : decode cX12_ease 18 = .ok (.ireturn, 1) := by decide +kernel
theorem dX12_ease_19 : decode cX12_ease 19 = .ok (.aload_n 0, 1) := by decide +kernel
theorem dX12_ease_20 : decode cX12_ease 20 = .ok (.getfield 17, 3) := by decide +kernel
theorem dX12_ease_23 : decode cX12_ease 23 = .ok (.iconst 0, 1) := by decide +kernel
theorem dX12_ease_24 : decode cX12_ease 24 = .ok (.iload_n 1, 1) := by decide +kernel
theorem dX12_ease_25 : decode cX12_ease 25 = .ok (.iadd, 1) := by decide +kernel
theorem dX12_ease_26 : decode cX12_ease 26 = .ok (.iaload, 1) := by decide +kernel
theorem dX12_ease_27 : decode cX12_ease 27 = .ok (.iconst 1, 1) := by decide +kernel
theorem dX12_ease_28 : decode cX12_ease 28 = .ok (.if_icmp .ne 12, 3) := by decide +kernel
theorem dX12_ease_31 : decode cX12_ease 31 = .ok (.aload_n 0, 1) := by decide +kernel
theorem dX12_ease_32 : decode cX12_ease 32 = .ok (.iload_n 1, 1) := by decide +kernel
theorem dX12_ease_33 : decode cX12_ease 33 = .ok (.iconst 0, 1) := by decide +kernel
theorem dX12_ease_34 : decode cX12_ease 34 = .ok (.invokevirtual 469, 3) := by decide +kernel
theorem dX12_ease_37 : decode cX12_ease 37 = .ok (.goto 8, 3) := by decide +kernel
theorem dX12_ease_40 : decode cX12_ease 40 = .ok (.aload_n 0, 1) := by decide +kernel
theorem dX12_ease_41 : decode cX12_ease 41 = .ok (.iconst 5, 1) := by decide +kernel
theorem dX12_ease_42 : decode cX12_ease 42 = .ok (.invokevirtual 57, 3) := by decide +kernel
theorem dX12_ease_45 : decode cX12_ease 45 = .ok (.ireturn, 1) := by decide +kernel
theorem dX12_mend_0 : decode cX12_mend 0 = .ok (.aload_n 0, 1) := by decide +kernel
theorem dX12_mend_1 : decode cX12_mend 1 = .ok (.iconst 0, 1) := by decide +kernel
theorem dX12_mend_2 : decode cX12_mend 2 = .ok (.putfield 51, 3) := by decide +kernel
theorem dX12_mend_5 : decode cX12_mend 5 = .ok (.aload_n 0, 1) := by decide +kernel
theorem dX12_mend_6 : decode cX12_mend 6 = .ok (.iload_n 1, 1) := by decide +kernel
theorem dX12_mend_7 : decode cX12_mend 7 = .ok (.invokevirtual 344, 3) := by decide +kernel
theorem dX12_mend_10 : decode cX12_mend 10 = .ok (.ifCond .ne 9, 3) := by decide +kernel
theorem dX12_mend_13 : decode cX12_mend 13 = .ok (.aload_n 0, 1) := by decide +kernel
theorem dX12_mend_14 : decode cX12_mend 14 = .ok (.iconst 1, 1) := by decide +kernel
theorem dX12_mend_15 : decode cX12_mend 15 = .ok (.invokevirtual 472, 3) := by decide +kernel
theorem dX12_mend_18 : decode cX12_mend 18 = .ok (.ireturn, 1) := by decide +kernel
theorem dX12_mend_19 : decode cX12_mend 19 = .ok (.aload_n 0, 1) := by decide +kernel
theorem dX12_mend_20 : decode cX12_mend 20 = .ok (.getfield 17, 3) := by decide +kernel
theorem dX12_mend_23 : decode cX12_mend 23 = .ok (.iconst 0, 1) := by decide +kernel
theorem dX12_mend_24 : decode cX12_mend 24 = .ok (.iload_n 1, 1) := by decide +kernel
theorem dX12_mend_25 : decode cX12_mend 25 = .ok (.iadd, 1) := by decide +kernel
theorem dX12_mend_26 : decode cX12_mend 26 = .ok (.iaload, 1) := by decide +kernel
theorem dX12_mend_27 : decode cX12_mend 27 = .ok (.iconst 2, 1) := by decide +kernel
theorem dX12_mend_28 : decode cX12_mend 28 = .ok (.if_icmp .eq 10, 3) := by decide +kernel
theorem dX12_mend_31 : decode cX12_mend 31 = .ok (.aload_n 0, 1) := by decide +kernel
theorem dX12_mend_32 : decode cX12_mend 32 = .ok (.bipush 6, 2) := by decide +kernel
theorem dX12_mend_34 : decode cX12_mend 34 = .ok (.invokevirtual 472, 3) := by decide +kernel
theorem dX12_mend_37 : decode cX12_mend 37 = .ok (.ireturn, 1) := by decide +kernel
theorem dX12_mend_38 : decode cX12_mend 38 = .ok (.aload_n 0, 1) := by decide +kernel
theorem dX12_mend_39 : decode cX12_mend 39 = .ok (.invokevirtual 466, 3) := by decide +kernel
theorem dX12_mend_42 : decode cX12_mend 42 = .ok (.aload_n 0, 1) := by decide +kernel
theorem dX12_mend_43 : decode cX12_mend 43 = .ok (.getfield 17, 3) := by decide +kernel
theorem dX12_mend_46 : decode cX12_mend 46 = .ok (.iconst 0, 1) := by decide +kernel
theorem dX12_mend_47 : decode cX12_mend 47 = .ok (.iload_n 1, 1) := by decide +kernel
theorem dX12_mend_48 : decode cX12_mend 48 = .ok (.iadd, 1) := by decide +kernel
theorem dX12_mend_49 : decode cX12_mend 49 = .ok (.iconst 0, 1) := by decide +kernel
theorem dX12_mend_50 : decode cX12_mend 50 = .ok (.iastore, 1) := by decide +kernel
theorem dX12_mend_51 : decode cX12_mend 51 = .ok (.aload_n 0, 1) := by decide +kernel
theorem dX12_mend_52 : decode cX12_mend 52 = .ok (.getfield 17, 3) := by decide +kernel
theorem dX12_mend_55 : decode cX12_mend 55 = .ok (.bipush 7, 2) := by decide +kernel
theorem dX12_mend_57 : decode cX12_mend 57 = .ok (.iload_n 1, 1) := by decide +kernel
theorem dX12_mend_58 : decode cX12_mend 58 = .ok (.iadd, 1) := by decide +kernel
theorem dX12_mend_59 : decode cX12_mend 59 = .ok (.iconst 0, 1) := by decide +kernel
theorem dX12_mend_60 : decode cX12_mend 60 = .ok (.iastore, 1) := by decide +kernel
theorem dX12_mend_61 : decode cX12_mend 61 = .ok (.aload_n 0, 1) := by decide +kernel
theorem dX12_mend_62 : decode cX12_mend 62 = .ok (.invokevirtual 475, 3) := by decide +kernel
theorem dX12_mend_65 : decode cX12_mend 65 = .ok (.ireturn, 1) := by decide +kernel
theorem dX12_rain_0 : decode cX12_rain 0 = .ok (.aload_n 0, 1) := by decide +kernel
theorem dX12_rain_1 : decode cX12_rain 1 = .ok (.iconst 0, 1) := by decide +kernel
theorem dX12_rain_2 : decode cX12_rain 2 = .ok (.putfield 51, 3) := by decide +kernel
theorem dX12_rain_5 : decode cX12_rain 5 = .ok (.aload_n 0, 1) := by decide +kernel
theorem dX12_rain_6 : decode cX12_rain 6 = .ok (.getfield 307, 3) := by decide +kernel
theorem dX12_rain_9 : decode cX12_rain 9 = .ok (.ifnonnull 9, 3) := by decide +kernel
theorem dX12_rain_12 : decode cX12_rain 12 = .ok (.aload_n 0, 1) := by decide +kernel
theorem dX12_rain_13 : decode cX12_rain 13 = .ok (.iconst 1, 1) := by decide +kernel
theorem dX12_rain_14 : decode cX12_rain 14 = .ok (.invokevirtual 472, 3) := by decide +kernel
theorem dX12_rain_17 : decode cX12_rain 17 = .ok (.ireturn, 1) := by decide +kernel
theorem dX12_rain_18 : decode cX12_rain 18 = .ok (.iload_n 1, 1) := by decide +kernel
theorem dX12_rain_19 : decode cX12_rain 19 = .ok (.iconst 1, 1) := by decide +kernel
theorem dX12_rain_20 : decode cX12_rain 20 = .ok (.sipush 999, 3) := by decide +kernel
theorem dX12_rain_23 : decode cX12_rain 23 = .ok (.invokestatic 126, 3) := by decide +kernel
theorem dX12_rain_26 : decode cX12_rain 26 = .ok (.ifCond .ne 9, 3) := by decide +kernel
theorem dX12_rain_29 : decode cX12_rain 29 = .ok (.aload_n 0, 1) := by decide +kernel
theorem dX12_rain_30 : decode cX12_rain 30 = .ok (.iconst 2, 1) := by decide +kernel
theorem dX12_rain_31 : decode cX12_rain 31 = .ok (.invokevirtual 472, 3) := by decide +kernel
theorem dX12_rain_34 : decode cX12_rain 34 = .ok (.ireturn, 1) := by decide +kernel
theorem dX12_rain_35 : decode cX12_rain 35 = .ok (.aload_n 0, 1) := by decide +kernel
theorem dX12_rain_36 : decode cX12_rain 36 = .ok (.invokevirtual 466, 3) := by decide +kernel
theorem dX12_rain_39 : decode cX12_rain 39 = .ok (.aload_n 0, 1) := by decide +kernel
theorem dX12_rain_40 : decode cX12_rain 40 = .ok (.getfield 17, 3) := by decide +kernel
theorem dX12_rain_43 : decode cX12_rain 43 = .ok (.bipush 14, 2) := by decide +kernel
theorem dX12_rain_45 : decode cX12_rain 45 = .ok (.iload_n 1, 1) := by decide +kernel
theorem dX12_rain_46 : decode cX12_rain 46 = .ok (.iastore, 1) := by decide +kernel
theorem dX12_rain_47 : decode cX12_rain 47 = .ok (.aload_n 0, 1) := by decide +kernel
theorem dX12_rain_48 : decode cX12_rain 48 = .ok (.invokevirtual 475, 3) := by decide +kernel
theorem dX12_rain_51 : decode cX12_rain 51 = .ok (.ireturn, 1) := by decide +kernel
theorem dX12_year_0 : decode cX12_year 0 = .ok (.aload_n 0, 1) := by decide +kernel
theorem dX12_year_1 : decode cX12_year 1 = .ok (.iconst 0, 1) := by decide +kernel
theorem dX12_year_2 : decode cX12_year 2 = .ok (.putfield 51, 3) := by decide +kernel
theorem dX12_year_5 : decode cX12_year 5 = .ok (.aload_n 0, 1) := by decide +kernel
theorem dX12_year_6 : decode cX12_year 6 = .ok (.getfield 307, 3) := by decide +kernel
theorem dX12_year_9 : decode cX12_year 9 = .ok (.ifnonnull 9, 3) := by decide +kernel
theorem dX12_year_12 : decode cX12_year 12 = .ok (.aload_n 0, 1) := by decide +kernel
theorem dX12_year_13 : decode cX12_year 13 = .ok (.iconst 1, 1) := by decide +kernel
theorem dX12_year_14 : decode cX12_year 14 = .ok (.invokevirtual 57, 3) := by decide +kernel
theorem dX12_year_17 : decode cX12_year 17 = .ok (.ireturn, 1) := by decide +kernel
theorem dX12_year_18 : decode cX12_year 18 = .ok (.aload_n 0, 1) := by decide +kernel
theorem dX12_year_19 : decode cX12_year 19 = .ok (.invokevirtual 466, 3) := by decide +kernel
theorem dX12_year_22 : decode cX12_year 22 = .ok (.aload_n 0, 1) := by decide +kernel
theorem dX12_year_23 : decode cX12_year 23 = .ok (.aload_n 0, 1) := by decide +kernel
theorem dX12_year_24 : decode cX12_year 24 = .ok (.aload_n 0, 1) := by decide +kernel
theorem dX12_year_25 : decode cX12_year 25 = .ok (.getfield 17, 3) := by decide +kernel
theorem dX12_year_28 : decode cX12_year 28 = .ok (.invokevirtual 455, 3) := by decide +kernel
theorem dX12_year_31 : decode cX12_year 31 = .ok (.invokevirtual 61, 3) := by decide +kernel
theorem dX12_year_34 : decode cX12_year 34 = .ok (.ireturn, 1) := by decide +kernel
theorem dX12_seed_0 : decode cX12_seed 0 = .ok (.aload_n 0, 1) := by decide +kernel
theorem dX12_seed_1 : decode cX12_seed 1 = .ok (.iconst 0, 1) := by decide +kernel
theorem dX12_seed_2 : decode cX12_seed 2 = .ok (.putfield 51, 3) := by decide +kernel
theorem dX12_seed_5 : decode cX12_seed 5 = .ok (.aload_n 0, 1) := by decide +kernel
theorem dX12_seed_6 : decode cX12_seed 6 = .ok (.getfield 307, 3) := by decide +kernel
theorem dX12_seed_9 : decode cX12_seed 9 = .ok (.ifnonnull 9, 3) := by decide +kernel
theorem dX12_seed_12 : decode cX12_seed 12 = .ok (.aload_n 0, 1) := by decide +kernel
theorem dX12_seed_13 : decode cX12_seed 13 = .ok (.iconst 1, 1) := by decide +kernel
theorem dX12_seed_14 : decode cX12_seed 14 = .ok (.invokevirtual 472, 3) := by decide +kernel
theorem dX12_seed_17 : decode cX12_seed 17 = .ok (.ireturn, 1) := by decide +kernel
theorem dX12_seed_18 : decode cX12_seed 18 = .ok (.iload_n 1, 1) := by decide +kernel
theorem dX12_seed_19 : decode cX12_seed 19 = .ok (.iconst 0, 1) := by decide +kernel
theorem dX12_seed_20 : decode cX12_seed 20 = .ok (.ldc_w 459, 3) := by decide +kernel
theorem dX12_seed_23 : decode cX12_seed 23 = .ok (.invokestatic 126, 3) := by decide +kernel
theorem dX12_seed_26 : decode cX12_seed 26 = .ok (.ifCond .ne 9, 3) := by decide +kernel
theorem dX12_seed_29 : decode cX12_seed 29 = .ok (.aload_n 0, 1) := by decide +kernel
theorem dX12_seed_30 : decode cX12_seed 30 = .ok (.iconst 2, 1) := by decide +kernel
theorem dX12_seed_31 : decode cX12_seed 31 = .ok (.invokevirtual 472, 3) := by decide +kernel
theorem dX12_seed_34 : decode cX12_seed 34 = .ok (.ireturn, 1) := by decide +kernel
theorem dX12_seed_35 : decode cX12_seed 35 = .ok (.aload_n 0, 1) := by decide +kernel
theorem dX12_seed_36 : decode cX12_seed 36 = .ok (.getfield 17, 3) := by decide +kernel
theorem dX12_seed_39 : decode cX12_seed 39 = .ok (.bipush 15, 2) := by decide +kernel
theorem dX12_seed_41 : decode cX12_seed 41 = .ok (.iload_n 1, 1) := by decide +kernel
theorem dX12_seed_42 : decode cX12_seed 42 = .ok (.iastore, 1) := by decide +kernel
theorem dX12_seed_43 : decode cX12_seed 43 = .ok (.aload_n 0, 1) := by decide +kernel
theorem dX12_seed_44 : decode cX12_seed 44 = .ok (.invokevirtual 475, 3) := by decide +kernel
theorem dX12_seed_47 : decode cX12_seed 47 = .ok (.ireturn, 1) := by decide +kernel
theorem dX12_undo_0 : decode cX12_undo 0 = .ok (.aload_n 0, 1) := by decide +kernel
theorem dX12_undo_1 : decode cX12_undo 1 = .ok (.iconst 0, 1) := by decide +kernel
theorem dX12_undo_2 : decode cX12_undo 2 = .ok (.putfield 51, 3) := by decide +kernel
theorem dX12_undo_5 : decode cX12_undo 5 = .ok (.aload_n 0, 1) := by decide +kernel
theorem dX12_undo_6 : decode cX12_undo 6 = .ok (.getfield 307, 3) := by decide +kernel
theorem dX12_undo_9 : decode cX12_undo 9 = .ok (.ifnull 10, 3) := by decide +kernel
theorem dX12_undo_12 : decode cX12_undo 12 = .ok (.aload_n 0, 1) := by decide +kernel
theorem dX12_undo_13 : decode cX12_undo 13 = .ok (.getfield 309, 3) := by decide +kernel
theorem dX12_undo_16 : decode cX12_undo 16 = .ok (.ifCond .ne 10, 3) := by decide +kernel
theorem dX12_undo_19 : decode cX12_undo 19 = .ok (.aload_n 0, 1) := by decide +kernel
theorem dX12_undo_20 : decode cX12_undo 20 = .ok (.bipush 6, 2) := by decide +kernel
theorem dX12_undo_22 : decode cX12_undo 22 = .ok (.invokevirtual 472, 3) := by decide +kernel
theorem dX12_undo_25 : decode cX12_undo 25 = .ok (.ireturn, 1) := by decide +kernel
theorem dX12_undo_26 : decode cX12_undo 26 = .ok (.aload_n 0, 1) := by decide +kernel
theorem dX12_undo_27 : decode cX12_undo 27 = .ok (.dup, 1) := by decide +kernel
theorem dX12_undo_28 : decode cX12_undo 28 = .ok (.getfield 309, 3) := by decide +kernel
theorem dX12_undo_31 : decode cX12_undo 31 = .ok (.iconst 1, 1) := by decide +kernel
theorem dX12_undo_32 : decode cX12_undo 32 = .ok (.isub, 1) := by decide +kernel
theorem dX12_undo_33 : decode cX12_undo 33 = .ok (.putfield 309, 3) := by decide +kernel
theorem dX12_undo_36 : decode cX12_undo 36 = .ok (.iconst 0, 1) := by decide +kernel
theorem dX12_undo_37 : decode cX12_undo 37 = .ok (.istore_n 1, 1) := by decide +kernel
theorem dX12_undo_38 : decode cX12_undo 38 = .ok (.iload_n 1, 1) := by decide +kernel
theorem dX12_undo_39 : decode cX12_undo 39 = .ok (.bipush 16, 2) := by decide +kernel
theorem dX12_undo_41 : decode cX12_undo 41 = .ok (.if_icmp .ge 29, 3) := by decide +kernel
theorem dX12_undo_44 : decode cX12_undo 44 = .ok (.aload_n 0, 1) := by decide +kernel
theorem dX12_undo_45 : decode cX12_undo 45 = .ok (.getfield 17, 3) := by decide +kernel
theorem dX12_undo_48 : decode cX12_undo 48 = .ok (.iload_n 1, 1) := by decide +kernel
theorem dX12_undo_49 : decode cX12_undo 49 = .ok (.aload_n 0, 1) := by decide +kernel
theorem dX12_undo_50 : decode cX12_undo 50 = .ok (.getfield 24, 3) := by decide +kernel
theorem dX12_undo_53 : decode cX12_undo 53 = .ok (.bipush 16, 2) := by decide +kernel
theorem dX12_undo_55 : decode cX12_undo 55 = .ok (.aload_n 0, 1) := by decide +kernel
theorem dX12_undo_56 : decode cX12_undo 56 = .ok (.getfield 309, 3) := by decide +kernel
theorem dX12_undo_59 : decode cX12_undo 59 = .ok (.imul, 1) := by decide +kernel
theorem dX12_undo_60 : decode cX12_undo 60 = .ok (.iload_n 1, 1) := by decide +kernel
theorem dX12_undo_61 : decode cX12_undo 61 = .ok (.iadd, 1) := by decide +kernel
theorem dX12_undo_62 : decode cX12_undo 62 = .ok (.iaload, 1) := by decide +kernel
theorem dX12_undo_63 : decode cX12_undo 63 = .ok (.iastore, 1) := by decide +kernel
theorem dX12_undo_64 : decode cX12_undo 64 = .ok (.iinc 1 1, 3) := by decide +kernel
theorem dX12_undo_67 : decode cX12_undo 67 = .ok (.goto (-29), 3) := by decide +kernel
theorem dX12_undo_70 : decode cX12_undo 70 = .ok (.aload_n 0, 1) := by decide +kernel
theorem dX12_undo_71 : decode cX12_undo 71 = .ok (.invokevirtual 475, 3) := by decide +kernel
theorem dX12_undo_74 : decode cX12_undo 74 = .ok (.ireturn, 1) := by decide +kernel
theorem dX12_mark_0 : decode cX12_mark 0 = .ok (.aload_n 0, 1) := by decide +kernel
theorem dX12_mark_1 : decode cX12_mark 1 = .ok (.iconst 0, 1) := by decide +kernel
theorem dX12_mark_2 : decode cX12_mark 2 = .ok (.putfield 51, 3) := by decide +kernel
theorem dX12_mark_5 : decode cX12_mark 5 = .ok (.aload_n 0, 1) := by decide +kernel
theorem dX12_mark_6 : decode cX12_mark 6 = .ok (.getfield 307, 3) := by decide +kernel
theorem dX12_mark_9 : decode cX12_mark 9 = .ok (.ifnonnull 9, 3) := by decide +kernel
theorem dX12_mark_12 : decode cX12_mark 12 = .ok (.aload_n 0, 1) := by decide +kernel
theorem dX12_mark_13 : decode cX12_mark 13 = .ok (.iconst 1, 1) := by decide +kernel
theorem dX12_mark_14 : decode cX12_mark 14 = .ok (.invokevirtual 57, 3) := by decide +kernel
theorem dX12_mark_17 : decode cX12_mark 17 = .ok (.ireturn, 1) := by decide +kernel
theorem dX12_mark_18 : decode cX12_mark 18 = .ok (.aload_n 0, 1) := by decide +kernel
theorem dX12_mark_19 : decode cX12_mark 19 = .ok (.getfield 312, 3) := by decide +kernel
theorem dX12_mark_22 : decode cX12_mark 22 = .ok (.iconst 3, 1) := by decide +kernel
theorem dX12_mark_23 : decode cX12_mark 23 = .ok (.if_icmp .ne 9, 3) := by decide +kernel
theorem dX12_mark_26 : decode cX12_mark 26 = .ok (.aload_n 0, 1) := by decide +kernel
theorem dX12_mark_27 : decode cX12_mark 27 = .ok (.iconst 3, 1) := by decide +kernel
theorem dX12_mark_28 : decode cX12_mark 28 = .ok (.invokevirtual 57, 3) := by decide +kernel
theorem dX12_mark_31 : decode cX12_mark 31 = .ok (.ireturn, 1) := by decide +kernel
theorem dX12_mark_32 : decode cX12_mark 32 = .ok (.iconst 0, 1) := by decide +kernel
theorem dX12_mark_33 : decode cX12_mark 33 = .ok (.istore_n 1, 1) := by decide +kernel
theorem dX12_mark_34 : decode cX12_mark 34 = .ok (.iload_n 1, 1) := by decide +kernel
theorem dX12_mark_35 : decode cX12_mark 35 = .ok (.bipush 16, 2) := by decide +kernel
theorem dX12_mark_37 : decode cX12_mark 37 = .ok (.if_icmp .ge 29, 3) := by decide +kernel
theorem dX12_mark_40 : decode cX12_mark 40 = .ok (.aload_n 0, 1) := by decide +kernel
theorem dX12_mark_41 : decode cX12_mark 41 = .ok (.getfield 27, 3) := by decide +kernel
theorem dX12_mark_44 : decode cX12_mark 44 = .ok (.bipush 16, 2) := by decide +kernel
theorem dX12_mark_46 : decode cX12_mark 46 = .ok (.aload_n 0, 1) := by decide +kernel
theorem dX12_mark_47 : decode cX12_mark 47 = .ok (.getfield 312, 3) := by decide +kernel
theorem dX12_mark_50 : decode cX12_mark 50 = .ok (.imul, 1) := by decide +kernel
theorem dX12_mark_51 : decode cX12_mark 51 = .ok (.iload_n 1, 1) := by decide +kernel
theorem dX12_mark_52 : decode cX12_mark 52 = .ok (.iadd, 1) := by decide +kernel
theorem dX12_mark_53 : decode cX12_mark 53 = .ok (.aload_n 0, 1) := by decide +kernel
theorem dX12_mark_54 : decode cX12_mark 54 = .ok (.getfield 17, 3) := by decide +kernel
theorem dX12_mark_57 : decode cX12_mark 57 = .ok (.iload_n 1, 1) := by decide +kernel
theorem dX12_mark_58 : decode cX12_mark 58 = .ok (.iaload, 1) := by decide +kernel
theorem dX12_mark_59 : decode cX12_mark 59 = .ok (.iastore, 1) := by decide +kernel
theorem dX12_mark_60 : decode cX12_mark 60 = .ok (.iinc 1 1, 3) := by decide +kernel
theorem dX12_mark_63 : decode cX12_mark 63 = .ok (.goto (-29), 3) := by decide +kernel
theorem dX12_mark_66 : decode cX12_mark 66 = .ok (.aload_n 0, 1) := by decide +kernel
theorem dX12_mark_67 : decode cX12_mark 67 = .ok (.dup, 1) := by decide +kernel
theorem dX12_mark_68 : decode cX12_mark 68 = .ok (.getfield 312, 3) := by decide +kernel
theorem dX12_mark_71 : decode cX12_mark 71 = .ok (.iconst 1, 1) := by decide +kernel
theorem dX12_mark_72 : decode cX12_mark 72 = .ok (.iadd, 1) := by decide +kernel
theorem dX12_mark_73 : decode cX12_mark 73 = .ok (.putfield 312, 3) := by decide +kernel
theorem dX12_mark_76 : decode cX12_mark 76 = .ok (.aload_n 0, 1) := by decide +kernel
theorem dX12_mark_77 : decode cX12_mark 77 = .ok (.aload_n 0, 1) := by decide +kernel
theorem dX12_mark_78 : decode cX12_mark 78 = .ok (.getfield 312, 3) := by decide +kernel
theorem dX12_mark_81 : decode cX12_mark 81 = .ok (.iconst 1, 1) := by decide +kernel
theorem dX12_mark_82 : decode cX12_mark 82 = .ok (.isub, 1) := by decide +kernel
theorem dX12_mark_83 : decode cX12_mark 83 = .ok (.invokevirtual 61, 3) := by decide +kernel
theorem dX12_mark_86 : decode cX12_mark 86 = .ok (.ireturn, 1) := by decide +kernel
theorem dX12_back_0 : decode cX12_back 0 = .ok (.aload_n 0, 1) := by decide +kernel
theorem dX12_back_1 : decode cX12_back 1 = .ok (.iconst 0, 1) := by decide +kernel
theorem dX12_back_2 : decode cX12_back 2 = .ok (.putfield 51, 3) := by decide +kernel
theorem dX12_back_5 : decode cX12_back 5 = .ok (.aload_n 0, 1) := by decide +kernel
theorem dX12_back_6 : decode cX12_back 6 = .ok (.getfield 307, 3) := by decide +kernel
theorem dX12_back_9 : decode cX12_back 9 = .ok (.ifnull 15, 3) := by decide +kernel
theorem dX12_back_12 : decode cX12_back 12 = .ok (.iload_n 1, 1) := by decide +kernel
theorem dX12_back_13 : decode cX12_back 13 = .ok (.ifCond .lt 11, 3) := by decide +kernel
theorem dX12_back_16 : decode cX12_back 16 = .ok (.iload_n 1, 1) := by decide +kernel
theorem dX12_back_17 : decode cX12_back 17 = .ok (.aload_n 0, 1) := by decide +kernel
theorem dX12_back_18 : decode cX12_back 18 = .ok (.getfield 312, 3) := by decide +kernel
theorem dX12_back_21 : decode cX12_back 21 = .ok (.if_icmp .lt 9, 3) := by decide +kernel
theorem dX12_back_24 : decode cX12_back 24 = .ok (.aload_n 0, 1) := by decide +kernel
theorem dX12_back_25 : decode cX12_back 25 = .ok (.iconst 1, 1) := by decide +kernel
theorem dX12_back_26 : decode cX12_back 26 = .ok (.invokevirtual 472, 3) := by decide +kernel
theorem dX12_back_29 : decode cX12_back 29 = .ok (.ireturn, 1) := by decide +kernel
theorem dX12_back_30 : decode cX12_back 30 = .ok (.iconst 0, 1) := by decide +kernel
theorem dX12_back_31 : decode cX12_back 31 = .ok (.istore_n 2, 1) := by decide +kernel
theorem dX12_back_32 : decode cX12_back 32 = .ok (.iload_n 2, 1) := by decide +kernel
theorem dX12_back_33 : decode cX12_back 33 = .ok (.bipush 16, 2) := by decide +kernel
theorem dX12_back_35 : decode cX12_back 35 = .ok (.if_icmp .ge 26, 3) := by decide +kernel
theorem dX12_back_38 : decode cX12_back 38 = .ok (.aload_n 0, 1) := by decide +kernel
theorem dX12_back_39 : decode cX12_back 39 = .ok (.getfield 17, 3) := by decide +kernel
theorem dX12_back_42 : decode cX12_back 42 = .ok (.iload_n 2, 1) := by decide +kernel
theorem dX12_back_43 : decode cX12_back 43 = .ok (.aload_n 0, 1) := by decide +kernel
theorem dX12_back_44 : decode cX12_back 44 = .ok (.getfield 27, 3) := by decide +kernel
theorem dX12_back_47 : decode cX12_back 47 = .ok (.bipush 16, 2) := by decide +kernel
theorem dX12_back_49 : decode cX12_back 49 = .ok (.iload_n 1, 1) := by decide +kernel
theorem dX12_back_50 : decode cX12_back 50 = .ok (.imul, 1) := by decide +kernel
theorem dX12_back_51 : decode cX12_back 51 = .ok (.iload_n 2, 1) := by decide +kernel
theorem dX12_back_52 : decode cX12_back 52 = .ok (.iadd, 1) := by decide +kernel
theorem dX12_back_53 : decode cX12_back 53 = .ok (.iaload, 1) := by decide +kernel
theorem dX12_back_54 : decode cX12_back 54 = .ok (.iastore, 1) := by decide +kernel
theorem dX12_back_55 : decode cX12_back 55 = .ok (.iinc 2 1, 3) := by decide +kernel
theorem dX12_back_58 : decode cX12_back 58 = .ok (.goto (-26), 3) := by decide +kernel
theorem dX12_back_61 : decode cX12_back 61 = .ok (.aload_n 0, 1) := by decide +kernel
theorem dX12_back_62 : decode cX12_back 62 = .ok (.iconst 0, 1) := by decide +kernel
theorem dX12_back_63 : decode cX12_back 63 = .ok (.putfield 309, 3) := by decide +kernel
theorem dX12_back_66 : decode cX12_back 66 = .ok (.aload_n 0, 1) := by decide +kernel
theorem dX12_back_67 : decode cX12_back 67 = .ok (.invokevirtual 475, 3) := by decide +kernel
theorem dX12_back_70 : decode cX12_back 70 = .ok (.ireturn, 1) := by decide +kernel
theorem dX12_led_0 : decode cX12_led 0 = .ok (.aload_n 0, 1) := by decide +kernel
theorem dX12_led_1 : decode cX12_led 1 = .ok (.iconst 0, 1) := by decide +kernel
theorem dX12_led_2 : decode cX12_led 2 = .ok (.putfield 51, 3) := by decide +kernel
theorem dX12_led_5 : decode cX12_led 5 = .ok (.iconst 0, 1) := by decide +kernel
theorem dX12_led_6 : decode cX12_led 6 = .ok (.istore_n 2, 1) := by decide +kernel
theorem dX12_led_7 : decode cX12_led 7 = .ok (.iconst 0, 1) := by decide +kernel
theorem dX12_led_8 : decode cX12_led 8 = .ok (.istore_n 3, 1) := by decide +kernel
theorem dX12_led_9 : decode cX12_led 9 = .ok (.aload_n 0, 1) := by decide +kernel
theorem dX12_led_10 : decode cX12_led 10 = .ok (.getfield 307, 3) := by decide +kernel
theorem dX12_led_13 : decode cX12_led 13 = .ok (.ifnull 45, 3) := by decide +kernel
theorem dX12_led_16 : decode cX12_led 16 = .ok (.iload_n 3, 1) := by decide +kernel
theorem dX12_led_17 : decode cX12_led 17 = .ok (.aload_n 0, 1) := by decide +kernel
theorem dX12_led_18 : decode cX12_led 18 = .ok (.getfield 307, 3) := by decide +kernel
theorem dX12_led_21 : decode cX12_led 21 = .ok (.getfield 255, 3) := by decide +kernel
theorem dX12_led_24 : decode cX12_led 24 = .ok (.if_icmp .ge 34, 3) := by decide +kernel
theorem dX12_led_27 : decode cX12_led 27 = .ok (.aload_n 0, 1) := by decide +kernel
theorem dX12_led_28 : decode cX12_led 28 = .ok (.getfield 17, 3) := by decide +kernel
theorem dX12_led_31 : decode cX12_led 31 = .ok (.iconst 0, 1) := by decide +kernel
theorem dX12_led_32 : decode cX12_led 32 = .ok (.iload_n 3, 1) := by decide +kernel
theorem dX12_led_33 : decode cX12_led 33 = .ok (.iadd, 1) := by decide +kernel
theorem dX12_led_34 : decode cX12_led 34 = .ok (.iaload, 1) := by decide +kernel
theorem dX12_led_35 : decode cX12_led 35 = .ok (.iconst 1, 1) := by decide +kernel
theorem dX12_led_36 : decode cX12_led 36 = .ok (.if_icmp .eq 6, 3) := by decide +kernel
theorem dX12_led_39 : decode cX12_led 39 = .ok (.goto 13, 3) := by decide +kernel
theorem dX12_led_42 : decode cX12_led 42 = .ok (.iload_n 2, 1) := by decide +kernel
theorem dX12_led_43 : decode cX12_led 43 = .ok (.iload_n 1, 1) := by decide +kernel
theorem dX12_led_44 : decode cX12_led 44 = .ok (.if_icmp .ne 5, 3) := by decide +kernel
theorem dX12_led_47 : decode cX12_led 47 = .ok (.iload_n 3, 1) := by decide +kernel
theorem dX12_led_48 : decode cX12_led 48 = .ok (.ireturn, 1) := by decide +kernel
theorem dX12_led_49 : decode cX12_led 49 = .ok (.iinc 2 1, 3) := by decide +kernel
theorem dX12_led_52 : decode cX12_led 52 = .ok (.iinc 3 1, 3) := by decide +kernel
theorem dX12_led_55 : decode cX12_led 55 = .ok (.goto (-46), 3) := by decide +kernel
theorem dX12_led_58 : decode cX12_led 58 = .ok (.aload_n 0, 1) := by decide +kernel
theorem dX12_led_59 : decode cX12_led 59 = .ok (.iconst 1, 1) := by decide +kernel
theorem dX12_led_60 : decode cX12_led 60 = .ok (.putfield 51, 3) := by decide +kernel
theorem dX12_led_63 : decode cX12_led 63 = .ok (.iconst 0, 1) := by decide +kernel
theorem dX12_led_64 : decode cX12_led 64 = .ok (.ireturn, 1) := by decide +kernel
theorem dX12_size_0 : decode cX12_size 0 = .ok (.aload_n 0, 1) := by decide +kernel
theorem dX12_size_1 : decode cX12_size 1 = .ok (.iconst 0, 1) := by decide +kernel
theorem dX12_size_2 : decode cX12_size 2 = .ok (.putfield 51, 3) := by decide +kernel
theorem dX12_size_5 : decode cX12_size 5 = .ok (.iload_n 1, 1) := by decide +kernel
theorem dX12_size_6 : decode cX12_size 6 = .ok (.bipush 11, 2) := by decide +kernel
theorem dX12_size_8 : decode cX12_size 8 = .ok (.if_icmp .ne 8, 3) := by decide +kernel
theorem dX12_size_11 : decode cX12_size 11 = .ok (.aload_n 0, 1) := by decide +kernel
theorem dX12_size_12 : decode cX12_size 12 = .ok (.getfield 300, 3) := by decide +kernel
theorem dX12_size_15 : decode cX12_size 15 = .ok (.ireturn, 1) := by decide +kernel
theorem dX12_size_16 : decode cX12_size 16 = .ok (.iload_n 1, 1) := by decide +kernel
theorem dX12_size_17 : decode cX12_size 17 = .ok (.iconst 0, 1) := by decide +kernel
theorem dX12_size_18 : decode cX12_size 18 = .ok (.bipush 10, 2) := by decide +kernel
theorem dX12_size_20 : decode cX12_size 20 = .ok (.invokestatic 126, 3) := by decide +kernel
theorem dX12_size_23 : decode cX12_size 23 = .ok (.ifCond .ne 5, 3) := by decide +kernel
theorem dX12_size_26 : decode cX12_size 26 = .ok (.iconst (-1), 1) := by decide +kernel
theorem dX12_size_27 : decode cX12_size 27 = .ok (.ireturn, 1) := by decide +kernel
theorem dX12_size_28 : decode cX12_size 28 = .ok (.aload_n 0, 1) := by decide +kernel
theorem dX12_size_29 : decode cX12_size 29 = .ok (.getfield 307, 3) := by decide +kernel
theorem dX12_size_32 : decode cX12_size 32 = .ok (.ifnonnull 5, 3) := by decide +kernel
theorem dX12_size_35 : decode cX12_size 35 = .ok (.iconst 0, 1) := by decide +kernel
theorem dX12_size_36 : decode cX12_size 36 = .ok (.ireturn, 1) := by decide +kernel
theorem dX12_size_37 : decode cX12_size 37 = .ok (.iload_n 1, 1) := by decide +kernel
theorem dX12_size_38 : decode cX12_size 38 = .ok (.tableswitch 131 0 9 #[54, 62, 70, 78, 86, 94, 102, 110, 118, 126], 54) := by decide +kernel
theorem dX12_size_92 : decode cX12_size 92 = .ok (.aload_n 0, 1) := by decide +kernel
theorem dX12_size_93 : decode cX12_size 93 = .ok (.getfield 307, 3) := by decide +kernel
theorem dX12_size_96 : decode cX12_size 96 = .ok (.getfield 156, 3) := by decide +kernel
theorem dX12_size_99 : decode cX12_size 99 = .ok (.ireturn, 1) := by decide +kernel
theorem dX12_size_100 : decode cX12_size 100 = .ok (.aload_n 0, 1) := by decide +kernel
theorem dX12_size_101 : decode cX12_size 101 = .ok (.getfield 307, 3) := by decide +kernel
theorem dX12_size_104 : decode cX12_size 104 = .ok (.getfield 218, 3) := by decide +kernel
theorem dX12_size_107 : decode cX12_size 107 = .ok (.ireturn, 1) := by decide +kernel
theorem dX12_size_108 : decode cX12_size 108 = .ok (.aload_n 0, 1) := by decide +kernel
theorem dX12_size_109 : decode cX12_size 109 = .ok (.getfield 307, 3) := by decide +kernel
theorem dX12_size_112 : decode cX12_size 112 = .ok (.getfield 188, 3) := by decide +kernel
theorem dX12_size_115 : decode cX12_size 115 = .ok (.ireturn, 1) := by decide +kernel
theorem dX12_size_116 : decode cX12_size 116 = .ok (.aload_n 0, 1) := by decide +kernel
theorem dX12_size_117 : decode cX12_size 117 = .ok (.getfield 307, 3) := by decide +kernel
theorem dX12_size_120 : decode cX12_size 120 = .ok (.getfield 255, 3) := by decide +kernel
theorem dX12_size_123 : decode cX12_size 123 = .ok (.ireturn, 1) := by decide +kernel
theorem dX12_size_124 : decode cX12_size 124 = .ok (.aload_n 0, 1) := by decide +kernel
theorem dX12_size_125 : decode cX12_size 125 = .ok (.getfield 307, 3) := by decide +kernel
theorem dX12_size_128 : decode cX12_size 128 = .ok (.getfield 279, 3) := by decide +kernel
theorem dX12_size_131 : decode cX12_size 131 = .ok (.ireturn, 1) := by decide +kernel
theorem dX12_size_132 : decode cX12_size 132 = .ok (.aload_n 0, 1) := by decide +kernel
theorem dX12_size_133 : decode cX12_size 133 = .ok (.getfield 307, 3) := by decide +kernel
theorem dX12_size_136 : decode cX12_size 136 = .ok (.getfield 286, 3) := by decide +kernel
theorem dX12_size_139 : decode cX12_size 139 = .ok (.ireturn, 1) := by decide +kernel
theorem dX12_size_140 : decode cX12_size 140 = .ok (.aload_n 0, 1) := by decide +kernel
theorem dX12_size_141 : decode cX12_size 141 = .ok (.getfield 307, 3) := by decide +kernel
theorem dX12_size_144 : decode cX12_size 144 = .ok (.getfield 297, 3) := by decide +kernel
theorem dX12_size_147 : decode cX12_size 147 = .ok (.ireturn, 1) := by decide +kernel
theorem dX12_size_148 : decode cX12_size 148 = .ok (.aload_n 0, 1) := by decide +kernel
theorem dX12_size_149 : decode cX12_size 149 = .ok (.getfield 17, 3) := by decide +kernel
theorem dX12_size_152 : decode cX12_size 152 = .ok (.bipush 14, 2) := by decide +kernel
theorem dX12_size_154 : decode cX12_size 154 = .ok (.iaload, 1) := by decide +kernel
theorem dX12_size_155 : decode cX12_size 155 = .ok (.ireturn, 1) := by decide +kernel
theorem dX12_size_156 : decode cX12_size 156 = .ok (.aload_n 0, 1) := by decide +kernel
theorem dX12_size_157 : decode cX12_size 157 = .ok (.getfield 17, 3) := by decide +kernel
theorem dX12_size_160 : decode cX12_size 160 = .ok (.bipush 15, 2) := by decide +kernel
theorem dX12_size_162 : decode cX12_size 162 = .ok (.iaload, 1) := by decide +kernel
theorem dX12_size_163 : decode cX12_size 163 = .ok (.ireturn, 1) := by decide +kernel
theorem dX12_size_164 : decode cX12_size 164 = .ok (.aload_n 0, 1) := by decide +kernel
theorem dX12_size_165 : decode cX12_size 165 = .ok (.getfield 309, 3) := by decide +kernel
theorem dX12_size_168 : decode cX12_size 168 = .ok (.ireturn, 1) := by decide +kernel
theorem dX12_size_169 : decode cX12_size 169 = .ok (.aload_n 0, 1) := by decide +kernel
theorem dX12_size_170 : decode cX12_size 170 = .ok (.getfield 312, 3) := by decide +kernel
theorem dX12_size_173 : decode cX12_size 173 = .ok (.ireturn, 1) := by decide +kernel
theorem dX12_trouble_0 : decode cX12_trouble 0 = .ok (.aload_n 0, 1) := by decide +kernel
theorem dX12_trouble_1 : decode cX12_trouble 1 = .ok (.iconst 0, 1) := by decide +kernel
theorem dX12_trouble_2 : decode cX12_trouble 2 = .ok (.putfield 51, 3) := by decide +kernel
theorem dX12_trouble_5 : decode cX12_trouble 5 = .ok (.aload_n 0, 1) := by decide +kernel
theorem dX12_trouble_6 : decode cX12_trouble 6 = .ok (.getfield 54, 3) := by decide +kernel
theorem dX12_trouble_9 : decode cX12_trouble 9 = .ok (.ireturn, 1) := by decide +kernel
theorem dJ6_bitCount_0f7a4_0 : decode cJ6_bitCount_0f7a4 0 = .ok (.iload_n 0, 1) := by decide +kernel
theorem dJ6_bitCount_0f7a4_1 : decode cJ6_bitCount_0f7a4 1 = .ok (.iload_n 0, 1) := by decide +kernel
theorem dJ6_bitCount_0f7a4_2 : decode cJ6_bitCount_0f7a4 2 = .ok (.iconst 1, 1) := by decide +kernel
theorem dJ6_bitCount_0f7a4_3 : decode cJ6_bitCount_0f7a4 3 = .ok (.iushr, 1) := by decide +kernel
theorem dJ6_bitCount_0f7a4_4 : decode cJ6_bitCount_0f7a4 4 = .ok (.ldc_w 265, 3) := by decide +kernel
theorem dJ6_bitCount_0f7a4_7 : decode cJ6_bitCount_0f7a4 7 = .ok (.iand, 1) := by decide +kernel
theorem dJ6_bitCount_0f7a4_8 : decode cJ6_bitCount_0f7a4 8 = .ok (.isub, 1) := by decide +kernel
theorem dJ6_bitCount_0f7a4_9 : decode cJ6_bitCount_0f7a4 9 = .ok (.istore_n 0, 1) := by decide +kernel
theorem dJ6_bitCount_0f7a4_10 : decode cJ6_bitCount_0f7a4 10 = .ok (.iload_n 0, 1) := by decide +kernel
theorem dJ6_bitCount_0f7a4_11 : decode cJ6_bitCount_0f7a4 11 = .ok (.ldc_w 266, 3) := by decide +kernel
theorem dJ6_bitCount_0f7a4_14 : decode cJ6_bitCount_0f7a4 14 = .ok (.iand, 1) := by decide +kernel
theorem dJ6_bitCount_0f7a4_15 : decode cJ6_bitCount_0f7a4 15 = .ok (.iload_n 0, 1) := by decide +kernel
theorem dJ6_bitCount_0f7a4_16 : decode cJ6_bitCount_0f7a4 16 = .ok (.iconst 2, 1) := by decide +kernel
theorem dJ6_bitCount_0f7a4_17 : decode cJ6_bitCount_0f7a4 17 = .ok (.iushr, 1) := by decide +kernel
theorem dJ6_bitCount_0f7a4_18 : decode cJ6_bitCount_0f7a4 18 = .ok (.ldc_w 266, 3) := by decide +kernel
theorem dJ6_bitCount_0f7a4_21 : decode cJ6_bitCount_0f7a4 21 = .ok (.iand, 1) := by decide +kernel
theorem dJ6_bitCount_0f7a4_22 : decode cJ6_bitCount_0f7a4 22 = .ok (.iadd, 1) := by decide +kernel
theorem dJ6_bitCount_0f7a4_23 : decode cJ6_bitCount_0f7a4 23 = .ok (.istore_n 0, 1) := by decide +kernel
theorem dJ6_bitCount_0f7a4_24 : decode cJ6_bitCount_0f7a4 24 = .ok (.iload_n 0, 1) := by decide +kernel
theorem dJ6_bitCount_0f7a4_25 : decode cJ6_bitCount_0f7a4 25 = .ok (.iload_n 0, 1) := by decide +kernel
theorem dJ6_bitCount_0f7a4_26 : decode cJ6_bitCount_0f7a4 26 = .ok (.iconst 4, 1) := by decide +kernel
theorem dJ6_bitCount_0f7a4_27 : decode cJ6_bitCount_0f7a4 27 = .ok (.iushr, 1) := by decide +kernel
theorem dJ6_bitCount_0f7a4_28 : decode cJ6_bitCount_0f7a4 28 = .ok (.iadd, 1) := by decide +kernel
theorem dJ6_bitCount_0f7a4_29 : decode cJ6_bitCount_0f7a4 29 = .ok (.ldc_w 267, 3) := by decide +kernel
theorem dJ6_bitCount_0f7a4_32 : decode cJ6_bitCount_0f7a4 32 = .ok (.iand, 1) := by decide +kernel
theorem dJ6_bitCount_0f7a4_33 : decode cJ6_bitCount_0f7a4 33 = .ok (.istore_n 0, 1) := by decide +kernel
theorem dJ6_bitCount_0f7a4_34 : decode cJ6_bitCount_0f7a4 34 = .ok (.iload_n 0, 1) := by decide +kernel
theorem dJ6_bitCount_0f7a4_35 : decode cJ6_bitCount_0f7a4 35 = .ok (.iload_n 0, 1) := by decide +kernel
theorem dJ6_bitCount_0f7a4_36 : decode cJ6_bitCount_0f7a4 36 = .ok (.bipush 8, 2) := by decide +kernel
theorem dJ6_bitCount_0f7a4_38 : decode cJ6_bitCount_0f7a4 38 = .ok (.iushr, 1) := by decide +kernel
theorem dJ6_bitCount_0f7a4_39 : decode cJ6_bitCount_0f7a4 39 = .ok (.iadd, 1) := by decide +kernel
theorem dJ6_bitCount_0f7a4_40 : decode cJ6_bitCount_0f7a4 40 = .ok (.istore_n 0, 1) := by decide +kernel
theorem dJ6_bitCount_0f7a4_41 : decode cJ6_bitCount_0f7a4 41 = .ok (.iload_n 0, 1) := by decide +kernel
theorem dJ6_bitCount_0f7a4_42 : decode cJ6_bitCount_0f7a4 42 = .ok (.iload_n 0, 1) := by decide +kernel
theorem dJ6_bitCount_0f7a4_43 : decode cJ6_bitCount_0f7a4 43 = .ok (.bipush 16, 2) := by decide +kernel
theorem dJ6_bitCount_0f7a4_45 : decode cJ6_bitCount_0f7a4 45 = .ok (.iushr, 1) := by decide +kernel
theorem dJ6_bitCount_0f7a4_46 : decode cJ6_bitCount_0f7a4 46 = .ok (.iadd, 1) := by decide +kernel
theorem dJ6_bitCount_0f7a4_47 : decode cJ6_bitCount_0f7a4 47 = .ok (.istore_n 0, 1) := by decide +kernel
theorem dJ6_bitCount_0f7a4_48 : decode cJ6_bitCount_0f7a4 48 = .ok (.iload_n 0, 1) := by decide +kernel
theorem dJ6_bitCount_0f7a4_49 : decode cJ6_bitCount_0f7a4 49 = .ok (.bipush 63, 2) := by decide +kernel
theorem dJ6_bitCount_0f7a4_51 : decode cJ6_bitCount_0f7a4 51 = .ok (.iand, 1) := by decide +kernel
theorem dJ6_bitCount_0f7a4_52 : decode cJ6_bitCount_0f7a4 52 = .ok (.ireturn, 1) := by decide +kernel
theorem dJ9_max_7cf53_0 : decode cJ9_max_7cf53 0 = .ok (.iload_n 0, 1) := by decide +kernel
theorem dJ9_max_7cf53_1 : decode cJ9_max_7cf53 1 = .ok (.iload_n 1, 1) := by decide +kernel
theorem dJ9_max_7cf53_2 : decode cJ9_max_7cf53 2 = .ok (.if_icmp .lt 7, 3) := by decide +kernel
theorem dJ9_max_7cf53_5 : decode cJ9_max_7cf53 5 = .ok (.iload_n 0, 1) := by decide +kernel
theorem dJ9_max_7cf53_6 : decode cJ9_max_7cf53 6 = .ok (.goto 4, 3) := by decide +kernel
theorem dJ9_max_7cf53_9 : decode cJ9_max_7cf53 9 = .ok (.iload_n 1, 1) := by decide +kernel
theorem dJ9_max_7cf53_10 : decode cJ9_max_7cf53 10 = .ok (.ireturn, 1) := by decide +kernel
theorem dJ9_min_7cf53_0 : decode cJ9_min_7cf53 0 = .ok (.iload_n 0, 1) := by decide +kernel
theorem dJ9_min_7cf53_1 : decode cJ9_min_7cf53 1 = .ok (.iload_n 1, 1) := by decide +kernel
theorem dJ9_min_7cf53_2 : decode cJ9_min_7cf53 2 = .ok (.if_icmp .gt 7, 3) := by decide +kernel
theorem dJ9_min_7cf53_5 : decode cJ9_min_7cf53 5 = .ok (.iload_n 0, 1) := by decide +kernel
theorem dJ9_min_7cf53_6 : decode cJ9_min_7cf53 6 = .ok (.goto 4, 3) := by decide +kernel
theorem dJ9_min_7cf53_9 : decode cJ9_min_7cf53 9 = .ok (.iload_n 1, 1) := by decide +kernel
theorem dJ9_min_7cf53_10 : decode cJ9_min_7cf53 10 = .ok (.ireturn, 1) := by decide +kernel
theorem dJ0_length_8abf5_0 : decode cJ0_length_8abf5 0 = .ok (.aload_n 0, 1) := by decide +kernel
theorem dJ0_length_8abf5_1 : decode cJ0_length_8abf5 1 = .ok (.getfield 9, 3) := by decide +kernel
theorem dJ0_length_8abf5_4 : decode cJ0_length_8abf5 4 = .ok (.arraylength, 1) := by decide +kernel
theorem dJ0_length_8abf5_5 : decode cJ0_length_8abf5 5 = .ok (.aload_n 0, 1) := by decide +kernel
theorem dJ0_length_8abf5_6 : decode cJ0_length_8abf5 6 = .ok (.invokevirtual 335, 3) := by decide +kernel
theorem dJ0_length_8abf5_9 : decode cJ0_length_8abf5 9 = .ok (.ishr, 1) := by decide +kernel
theorem dJ0_length_8abf5_10 : decode cJ0_length_8abf5 10 = .ok (.ireturn, 1) := by decide +kernel
theorem dJ0_charAt_5068e_0 : decode cJ0_charAt_5068e 0 = .ok (.aload_n 0, 1) := by decide +kernel
theorem dJ0_charAt_5068e_1 : decode cJ0_charAt_5068e 1 = .ok (.invokevirtual 492, 3) := by decide +kernel
theorem dJ0_charAt_5068e_4 : decode cJ0_charAt_5068e 4 = .ok (.ifCond .eq 12, 3) := by decide +kernel
theorem dJ0_charAt_5068e_7 : decode cJ0_charAt_5068e 7 = .ok (.aload_n 0, 1) := by decide +kernel
theorem dJ0_charAt_5068e_8 : decode cJ0_charAt_5068e 8 = .ok (.getfield 9, 3) := by decide +kernel
theorem dJ0_charAt_5068e_11 : decode cJ0_charAt_5068e 11 = .ok (.iload_n 1, 1) := by decide +kernel
theorem dJ0_charAt_5068e_12 : decode cJ0_charAt_5068e 12 = .ok (.invokestatic 495, 3) := by decide +kernel
theorem dJ0_charAt_5068e_15 : decode cJ0_charAt_5068e 15 = .ok (.ireturn, 1) := by decide +kernel
theorem dJ0_charAt_5068e_16 : decode cJ0_charAt_5068e 16 = .ok (.aload_n 0, 1) := by decide +kernel
theorem dJ0_charAt_5068e_17 : decode cJ0_charAt_5068e 17 = .ok (.getfield 9, 3) := by decide +kernel
theorem dJ0_charAt_5068e_20 : decode cJ0_charAt_5068e 20 = .ok (.iload_n 1, 1) := by decide +kernel
theorem dJ0_charAt_5068e_21 : decode cJ0_charAt_5068e 21 = .ok (.invokestatic 498, 3) := by decide +kernel
theorem dJ0_charAt_5068e_24 : decode cJ0_charAt_5068e 24 = .ok (.ireturn, 1) := by decide +kernel
theorem dJ0_coder_7d493_0 : decode cJ0_coder_7d493 0 = .ok (.getstatic 38, 3) := by decide +kernel
theorem dJ0_coder_7d493_3 : decode cJ0_coder_7d493 3 = .ok (.ifCond .eq 10, 3) := by decide +kernel
theorem dJ0_coder_7d493_6 : decode cJ0_coder_7d493 6 = .ok (.aload_n 0, 1) := by decide +kernel
theorem dJ0_coder_7d493_7 : decode cJ0_coder_7d493 7 = .ok (.getfield 15, 3) := by decide +kernel
theorem dJ0_coder_7d493_10 : decode cJ0_coder_7d493 10 = .ok (.goto 4, 3) := by decide +kernel
theorem dJ0_coder_7d493_13 : decode cJ0_coder_7d493 13 = .ok (.iconst 1, 1) := by decide +kernel
theorem dJ0_coder_7d493_14 : decode cJ0_coder_7d493 14 = .ok (.ireturn, 1) := by decide +kernel
theorem dJ0_isLatin1_aae02_0 : decode cJ0_isLatin1_aae02 0 = .ok (.getstatic 38, 3) := by decide +kernel
theorem dJ0_isLatin1_aae02_3 : decode cJ0_isLatin1_aae02 3 = .ok (.ifCond .eq 14, 3) := by decide +kernel
theorem dJ0_isLatin1_aae02_6 : decode cJ0_isLatin1_aae02 6 = .ok (.aload_n 0, 1) := by decide +kernel
theorem dJ0_isLatin1_aae02_7 : decode cJ0_isLatin1_aae02 7 = .ok (.getfield 15, 3) := by decide +kernel
theorem dJ0_isLatin1_aae02_10 : decode cJ0_isLatin1_aae02 10 = .ok (.ifCond .ne 7, 3) := by decide +kernel
theorem dJ0_isLatin1_aae02_13 : decode cJ0_isLatin1_aae02 13 = .ok (.iconst 1, 1) := by decide +kernel
theorem dJ0_isLatin1_aae02_14 : decode cJ0_isLatin1_aae02 14 = .ok (.goto 4, 3) := by decide +kernel
theorem dJ0_isLatin1_aae02_17 : decode cJ0_isLatin1_aae02 17 = .ok (.iconst 0, 1) := by decide +kernel
theorem dJ0_isLatin1_aae02_18 : decode cJ0_isLatin1_aae02 18 = .ok (.ireturn, 1) := by decide +kernel
theorem dJ0_checkIndex_df160_0 : decode cJ0_checkIndex_df160 0 = .ok (.iload_n 0, 1) := by decide +kernel
theorem dJ0_checkIndex_df160_1 : decode cJ0_checkIndex_df160 1 = .ok (.iload_n 1, 1) := by decide +kernel
theorem dJ0_checkIndex_df160_2 : decode cJ0_checkIndex_df160 2 = .ok (.getstatic 1053, 3) := by decide +kernel
theorem dJ0_checkIndex_df160_5 : decode cJ0_checkIndex_df160 5 = .ok (.invokestatic 1059, 3) := by decide +kernel
theorem dJ0_checkIndex_df160_8 : decode cJ0_checkIndex_df160 8 = .ok (.pop, 1) := by decide +kernel
theorem dJ0_checkIndex_df160_9 : decode cJ0_checkIndex_df160 9 = .ok (.return_, 1) := by decide +kernel
theorem dJ1_charAt_3b067_0 : decode cJ1_charAt_3b067 0 = .ok (.iload_n 1, 1) := by decide +kernel
theorem dJ1_charAt_3b067_1 : decode cJ1_charAt_3b067 1 = .ok (.aload_n 0, 1) := by decide +kernel
theorem dJ1_charAt_3b067_2 : decode cJ1_charAt_3b067 2 = .ok (.arraylength, 1) := by decide +kernel
theorem dJ1_charAt_3b067_3 : decode cJ1_charAt_3b067 3 = .ok (.invokestatic 9, 3) := by decide +kernel
theorem dJ1_charAt_3b067_6 : decode cJ1_charAt_3b067 6 = .ok (.aload_n 0, 1) := by decide +kernel
theorem dJ1_charAt_3b067_7 : decode cJ1_charAt_3b067 7 = .ok (.iload_n 1, 1) := by decide +kernel
theorem dJ1_charAt_3b067_8 : decode cJ1_charAt_3b067 8 = .ok (.baload, 1) := by decide +kernel
theorem dJ1_charAt_3b067_9 : decode cJ1_charAt_3b067 9 = .ok (.sipush 255, 3) := by decide +kernel
theorem dJ1_charAt_3b067_12 : decode cJ1_charAt_3b067 12 = .ok (.iand, 1) := by decide +kernel
theorem dJ1_charAt_3b067_13 : decode cJ1_charAt_3b067 13 = .ok (.i2c, 1) := by decide +kernel
theorem dJ1_charAt_3b067_14 : decode cJ1_charAt_3b067 14 = .ok (.ireturn, 1) := by decide +kernel
theorem dJ2_getChar_3b067_0 : decode cJ2_getChar_3b067 0 = .ok (.getstatic 44, 3) := by decide +kernel
theorem dJ2_getChar_3b067_3 : decode cJ2_getChar_3b067 3 = .ok (.ifCond .ne 25, 3) := by decide +kernel
theorem dJ2_getChar_3b067_6 : decode cJ2_getChar_3b067 6 = .ok (.iload_n 1, 1) := by decide +kernel
theorem dJ2_getChar_3b067_7 : decode cJ2_getChar_3b067 7 = .ok (.ifCond .lt 11, 3) := by decide +kernel
theorem dJ2_getChar_3b067_10 : decode cJ2_getChar_3b067 10 = .ok (.iload_n 1, 1) := by decide +kernel
theorem dJ2_getChar_3b067_11 : decode cJ2_getChar_3b067 11 = .ok (.aload_n 0, 1) := by decide +kernel
theorem dJ2_getChar_3b067_12 : decode cJ2_getChar_3b067 12 = .ok (.invokestatic 48, 3) := by decide +kernel
theorem dJ2_getChar_3b067_15 : decode cJ2_getChar_3b067 15 = .ok (.if_icmp .lt 13, 3) := by decide +kernel
theorem dJ2_getChar_3b067_18 : decode cJ2_getChar_3b067 18 = .ok (.new 52, 3) := by decide +kernel
theorem dJ2_getChar_3b067_21 : decode cJ2_getChar_3b067 21 = .ok (.dup, 1) := by decide +kernel
theorem dJ2_getChar_3b067_22 : decode cJ2_getChar_3b067 22 = .ok (.ldc 54, 2) := by decide +kernel
theorem dJ2_getChar_3b067_24 : decode cJ2_getChar_3b067 24 = .ok (.invokespecial 56, 3) := by decide +kernel
theorem dJ2_getChar_3b067_27 : decode cJ2_getChar_3b067 27 = .ok (.athrow, 1) := by decide +kernel
theorem dJ2_getChar_3b067_28 : decode cJ2_getChar_3b067 28 = .ok (.iload_n 1, 1) := by decide +kernel
theorem dJ2_getChar_3b067_29 : decode cJ2_getChar_3b067 29 = .ok (.iconst 1, 1) := by decide +kernel
theorem dJ2_getChar_3b067_30 : decode cJ2_getChar_3b067 30 = .ok (.ishl, 1) := by decide +kernel
theorem dJ2_getChar_3b067_31 : decode cJ2_getChar_3b067 31 = .ok (.istore_n 1, 1) := by decide +kernel
theorem dJ2_getChar_3b067_32 : decode cJ2_getChar_3b067 32 = .ok (.aload_n 0, 1) := by decide +kernel
theorem dJ2_getChar_3b067_33 : decode cJ2_getChar_3b067 33 = .ok (.iload_n 1, 1) := by decide +kernel
theorem dJ2_getChar_3b067_34 : decode cJ2_getChar_3b067 34 = .ok (.iinc 1 1, 3) := by decide +kernel
theorem dJ2_getChar_3b067_37 : decode cJ2_getChar_3b067 37 = .ok (.baload, 1) := by decide +kernel
theorem dJ2_getChar_3b067_38 : decode cJ2_getChar_3b067 38 = .ok (.sipush 255, 3) := by decide +kernel
theorem dJ2_getChar_3b067_41 : decode cJ2_getChar_3b067 41 = .ok (.iand, 1) := by decide +kernel
theorem dJ2_getChar_3b067_42 : decode cJ2_getChar_3b067 42 = .ok (.getstatic 59, 3) := by decide +kernel
theorem dJ2_getChar_3b067_45 : decode cJ2_getChar_3b067 45 = .ok (.ishl, 1) := by decide +kernel
theorem dJ2_getChar_3b067_46 : decode cJ2_getChar_3b067 46 = .ok (.aload_n 0, 1) := by decide +kernel
theorem dJ2_getChar_3b067_47 : decode cJ2_getChar_3b067 47 = .ok (.iload_n 1, 1) := by decide +kernel
theorem dJ2_getChar_3b067_48 : decode cJ2_getChar_3b067 48 = .ok (.baload, 1) := by decide +kernel
theorem dJ2_getChar_3b067_49 : decode cJ2_getChar_3b067 49 = .ok (.sipush 255, 3) := by decide +kernel
theorem dJ2_getChar_3b067_52 : decode cJ2_getChar_3b067 52 = .ok (.iand, 1) := by decide +kernel
theorem dJ2_getChar_3b067_53 : decode cJ2_getChar_3b067 53 = .ok (.getstatic 63, 3) := by decide +kernel
theorem dJ2_getChar_3b067_56 : decode cJ2_getChar_3b067 56 = .ok (.ishl, 1) := by decide +kernel
theorem dJ2_getChar_3b067_57 : decode cJ2_getChar_3b067 57 = .ok (.ior, 1) := by decide +kernel
theorem dJ2_getChar_3b067_58 : decode cJ2_getChar_3b067 58 = .ok (.i2c, 1) := by decide +kernel
theorem dJ2_getChar_3b067_59 : decode cJ2_getChar_3b067 59 = .ok (.ireturn, 1) := by decide +kernel
theorem dJ2_length_9d52b_0 : decode cJ2_length_9d52b 0 = .ok (.aload_n 0, 1) := by decide +kernel
theorem dJ2_length_9d52b_1 : decode cJ2_length_9d52b 1 = .ok (.arraylength, 1) := by decide +kernel
theorem dJ2_length_9d52b_2 : decode cJ2_length_9d52b 2 = .ok (.iconst 1, 1) := by decide +kernel
theorem dJ2_length_9d52b_3 : decode cJ2_length_9d52b 3 = .ok (.ishr, 1) := by decide +kernel
theorem dJ2_length_9d52b_4 : decode cJ2_length_9d52b 4 = .ok (.ireturn, 1) := by decide +kernel
theorem dJ2_charAt_3b067_0 : decode cJ2_charAt_3b067 0 = .ok (.iload_n 1, 1) := by decide +kernel
theorem dJ2_charAt_3b067_1 : decode cJ2_charAt_3b067 1 = .ok (.aload_n 0, 1) := by decide +kernel
theorem dJ2_charAt_3b067_2 : decode cJ2_charAt_3b067 2 = .ok (.invokestatic 67, 3) := by decide +kernel
theorem dJ2_charAt_3b067_5 : decode cJ2_charAt_3b067 5 = .ok (.aload_n 0, 1) := by decide +kernel
theorem dJ2_charAt_3b067_6 : decode cJ2_charAt_3b067 6 = .ok (.iload_n 1, 1) := by decide +kernel
theorem dJ2_charAt_3b067_7 : decode cJ2_charAt_3b067 7 = .ok (.invokestatic 71, 3) := by decide +kernel
theorem dJ2_charAt_3b067_10 : decode cJ2_charAt_3b067 10 = .ok (.ireturn, 1) := by decide +kernel
theorem dJ2_checkIndex_2214a_0 : decode cJ2_checkIndex_2214a 0 = .ok (.iload_n 0, 1) := by decide +kernel
theorem dJ2_checkIndex_2214a_1 : decode cJ2_checkIndex_2214a 1 = .ok (.aload_n 1, 1) := by decide +kernel
theorem dJ2_checkIndex_2214a_2 : decode cJ2_checkIndex_2214a 2 = .ok (.invokestatic 48, 3) := by decide +kernel
theorem dJ2_checkIndex_2214a_5 : decode cJ2_checkIndex_2214a 5 = .ok (.invokestatic 414, 3) := by decide +kernel
theorem dJ2_checkIndex_2214a_8 : decode cJ2_checkIndex_2214a 8 = .ok (.return_, 1) := by decide +kernel
theorem dJ3_checkIndex_8e157_0 : decode cJ3_checkIndex_8e157 0 = .ok (.iload_n 0, 1) := by decide +kernel
theorem dJ3_checkIndex_8e157_1 : decode cJ3_checkIndex_8e157 1 = .ok (.ifCond .lt 8, 3) := by decide +kernel
theorem dJ3_checkIndex_8e157_4 : decode cJ3_checkIndex_8e157 4 = .ok (.iload_n 0, 1) := by decide +kernel
theorem dJ3_checkIndex_8e157_5 : decode cJ3_checkIndex_8e157 5 = .ok (.iload_n 1, 1) := by decide +kernel
theorem dJ3_checkIndex_8e157_6 : decode cJ3_checkIndex_8e157 6 = .ok (.if_icmp .lt 10, 3) := by decide +kernel
theorem dJ3_checkIndex_8e157_9 : decode cJ3_checkIndex_8e157 9 = .ok (.aload_n 2, 1) := by decide +kernel
theorem dJ3_checkIndex_8e157_10 : decode cJ3_checkIndex_8e157 10 = .ok (.iload_n 0, 1) := by decide +kernel
theorem dJ3_checkIndex_8e157_11 : decode cJ3_checkIndex_8e157 11 = .ok (.iload_n 1, 1) := by decide +kernel
theorem dJ3_checkIndex_8e157_12 : decode cJ3_checkIndex_8e157 12 = .ok (.invokestatic 95, 3) := by decide +kernel
theorem dJ3_checkIndex_8e157_15 : decode cJ3_checkIndex_8e157 15 = .ok (.athrow, 1) := by decide +kernel
theorem dJ3_checkIndex_8e157_16 : decode cJ3_checkIndex_8e157 16 = .ok (.iload_n 0, 1) := by decide +kernel
theorem dJ3_checkIndex_8e157_17 : decode cJ3_checkIndex_8e157 17 = .ok (.ireturn, 1) := by decide +kernel
theorem dL_led_0 : decode cL_led 0 = .ok (.aload_n 2, 1) := by decide +kernel
theorem dL_led_1 : decode cL_led 1 = .ok (.iconst 0, 1) := by decide +kernel
theorem dL_led_2 : decode cL_led 2 = .ok (.aload_n 0, 1) := by decide +kernel
theorem dL_led_3 : decode cL_led 3 = .ok (.iload_n 1, 1) := by decide +kernel
theorem dL_led_4 : decode cL_led 4 = .ok (.invokevirtual 7, 3) := by decide +kernel
theorem dL_led_7 : decode cL_led 7 = .ok (.i2l, 1) := by decide +kernel
theorem dL_led_8 : decode cL_led 8 = .ok (.lastore, 1) := by decide +kernel
theorem dL_led_9 : decode cL_led 9 = .ok (.goto 6, 3) := by decide +kernel
theorem dL_led_12 : decode cL_led 12 = .ok (.astore_n 3, 1) := by decide +kernel
theorem dL_led_13 : decode cL_led 13 = .ok (.iconst 1, 1) := by decide +kernel
theorem dL_led_14 : decode cL_led 14 = .ok (.ireturn, 1) := by decide +kernel
theorem dL_led_15 : decode cL_led 15 = .ok (.iconst 0, 1) := by decide +kernel
theorem dL_led_16 : decode cL_led 16 = .ok (.ireturn, 1) := by decide +kernel
theorem dL_law_0 : decode cL_law 0 = .ok (.new 8, 3) := by decide +kernel
theorem dL_law_3 : decode cL_law 3 = .ok (.dup, 1) := by decide +kernel
theorem dL_law_4 : decode cL_law 4 = .ok (.invokespecial 15, 3) := by decide +kernel
theorem dL_law_7 : decode cL_law 7 = .ok (.astore_n 1, 1) := by decide +kernel
theorem dL_law_8 : decode cL_law 8 = .ok (.new 16, 3) := by decide +kernel
theorem dL_law_11 : decode cL_law 11 = .ok (.dup, 1) := by decide +kernel
theorem dL_law_12 : decode cL_law 12 = .ok (.invokespecial 18, 3) := by decide +kernel
theorem dL_law_15 : decode cL_law 15 = .ok (.astore_n 2, 1) := by decide +kernel
theorem dL_law_16 : decode cL_law 16 = .ok (.iconst 1, 1) := by decide +kernel
theorem dL_law_17 : decode cL_law 17 = .ok (.newarray .long, 2) := by decide +kernel
theorem dL_law_19 : decode cL_law 19 = .ok (.astore_n 3, 1) := by decide +kernel
theorem dL_law_20 : decode cL_law 20 = .ok (.iconst 0, 1) := by decide +kernel
theorem dL_law_21 : decode cL_law 21 = .ok (.istore 4, 2) := by decide +kernel
theorem dL_law_23 : decode cL_law 23 = .ok (.iload 4, 2) := by decide +kernel
theorem dL_law_25 : decode cL_law 25 = .ok (.aload_n 0, 1) := by decide +kernel
theorem dL_law_26 : decode cL_law 26 = .ok (.arraylength, 1) := by decide +kernel
theorem dL_law_27 : decode cL_law 27 = .ok (.bipush 6, 2) := by decide +kernel
theorem dL_law_29 : decode cL_law 29 = .ok (.isub, 1) := by decide +kernel
theorem dL_law_30 : decode cL_law 30 = .ok (.if_icmp .gt 1511, 3) := by decide +kernel
theorem dL_law_33 : decode cL_law 33 = .ok (.aload_n 0, 1) := by decide +kernel
theorem dL_law_34 : decode cL_law 34 = .ok (.iload 4, 2) := by decide +kernel
theorem dL_law_36 : decode cL_law 36 = .ok (.iaload, 1) := by decide +kernel
theorem dL_law_37 : decode cL_law 37 = .ok (.bipush 63, 2) := by decide +kernel
theorem dL_law_39 : decode cL_law 39 = .ok (.iand, 1) := by decide +kernel
theorem dL_law_40 : decode cL_law 40 = .ok (.tableswitch 1495 0 55 #[240, 313, 338, 351, 364, 401, 438, 451, 464, 477, 490, 503, 516, 529, 566, 591, 616, 641, 666, 679, 692, 705, 718, 731, 744, 757, 782, 807, 832, 845, 870, 895, 908, 921, 934, 947, 960, 973, 1038, 1051, 1064, 1101, 1138, 1175, 1212, 1237, 1262, 1287, 1312, 1325, 1350, 1363, 1376, 1401, 1457, 1482], 240) := by decide +kernel
theorem dL_law_280 : decode cL_law 280 = .ok (.aload_n 1, 1) := by decide +kernel
theorem dL_law_281 : decode cL_law 281 = .ok (.aload_n 0, 1) := by decide +kernel
theorem dL_law_282 : decode cL_law 282 = .ok (.iload 4, 2) := by decide +kernel
theorem dL_law_284 : decode cL_law 284 = .ok (.iconst 1, 1) := by decide +kernel
theorem dL_law_285 : decode cL_law 285 = .ok (.iadd, 1) := by decide +kernel
theorem dL_law_286 : decode cL_law 286 = .ok (.iaload, 1) := by decide +kernel
theorem dL_law_287 : decode cL_law 287 = .ok (.aload_n 0, 1) := by decide +kernel
theorem dL_law_288 : decode cL_law 288 = .ok (.iload 4, 2) := by decide +kernel
theorem dL_law_290 : decode cL_law 290 = .ok (.iconst 2, 1) := by decide +kernel
theorem dL_law_291 : decode cL_law 291 = .ok (.iadd, 1) := by decide +kernel
theorem dL_law_292 : decode cL_law 292 = .ok (.iaload, 1) := by decide +kernel
theorem dL_law_293 : decode cL_law 293 = .ok (.aload_n 0, 1) := by decide +kernel
theorem dL_law_294 : decode cL_law 294 = .ok (.iload 4, 2) := by decide +kernel
theorem dL_law_296 : decode cL_law 296 = .ok (.iconst 3, 1) := by decide +kernel
theorem dL_law_297 : decode cL_law 297 = .ok (.iadd, 1) := by decide +kernel
theorem dL_law_298 : decode cL_law 298 = .ok (.iaload, 1) := by decide +kernel
theorem dL_law_299 : decode cL_law 299 = .ok (.aload_n 0, 1) := by decide +kernel
theorem dL_law_300 : decode cL_law 300 = .ok (.iload 4, 2) := by decide +kernel
theorem dL_law_302 : decode cL_law 302 = .ok (.iconst 4, 1) := by decide +kernel
theorem dL_law_303 : decode cL_law 303 = .ok (.iadd, 1) := by decide +kernel
theorem dL_law_304 : decode cL_law 304 = .ok (.iaload, 1) := by decide +kernel
theorem dL_law_305 : decode cL_law 305 = .ok (.aload_n 0, 1) := by decide +kernel
theorem dL_law_306 : decode cL_law 306 = .ok (.iload 4, 2) := by decide +kernel
theorem dL_law_308 : decode cL_law 308 = .ok (.iconst 5, 1) := by decide +kernel
theorem dL_law_309 : decode cL_law 309 = .ok (.iadd, 1) := by decide +kernel
theorem dL_law_310 : decode cL_law 310 = .ok (.iaload, 1) := by decide +kernel
theorem dL_law_311 : decode cL_law 311 = .ok (.invokevirtual 19, 3) := by decide +kernel
theorem dL_law_314 : decode cL_law 314 = .ok (.aload_n 2, 1) := by decide +kernel
theorem dL_law_315 : decode cL_law 315 = .ok (.aload_n 0, 1) := by decide +kernel
theorem dL_law_316 : decode cL_law 316 = .ok (.iload 4, 2) := by decide +kernel
theorem dL_law_318 : decode cL_law 318 = .ok (.iconst 1, 1) := by decide +kernel
theorem dL_law_319 : decode cL_law 319 = .ok (.iadd, 1) := by decide +kernel
theorem dL_law_320 : decode cL_law 320 = .ok (.iaload, 1) := by decide +kernel
theorem dL_law_321 : decode cL_law 321 = .ok (.aload_n 0, 1) := by decide +kernel
theorem dL_law_322 : decode cL_law 322 = .ok (.iload 4, 2) := by decide +kernel
theorem dL_law_324 : decode cL_law 324 = .ok (.iconst 2, 1) := by decide +kernel
theorem dL_law_325 : decode cL_law 325 = .ok (.iadd, 1) := by decide +kernel
theorem dL_law_326 : decode cL_law 326 = .ok (.iaload, 1) := by decide +kernel
theorem dL_law_327 : decode cL_law 327 = .ok (.aload_n 0, 1) := by decide +kernel
theorem dL_law_328 : decode cL_law 328 = .ok (.iload 4, 2) := by decide +kernel
theorem dL_law_330 : decode cL_law 330 = .ok (.iconst 3, 1) := by decide +kernel
theorem dL_law_331 : decode cL_law 331 = .ok (.iadd, 1) := by decide +kernel
theorem dL_law_332 : decode cL_law 332 = .ok (.iaload, 1) := by decide +kernel
theorem dL_law_333 : decode cL_law 333 = .ok (.aload_n 0, 1) := by decide +kernel
theorem dL_law_334 : decode cL_law 334 = .ok (.iload 4, 2) := by decide +kernel
theorem dL_law_336 : decode cL_law 336 = .ok (.iconst 4, 1) := by decide +kernel
theorem dL_law_337 : decode cL_law 337 = .ok (.iadd, 1) := by decide +kernel
theorem dL_law_338 : decode cL_law 338 = .ok (.iaload, 1) := by decide +kernel
theorem dL_law_339 : decode cL_law 339 = .ok (.aload_n 0, 1) := by decide +kernel
theorem dL_law_340 : decode cL_law 340 = .ok (.iload 4, 2) := by decide +kernel
theorem dL_law_342 : decode cL_law 342 = .ok (.iconst 5, 1) := by decide +kernel
theorem dL_law_343 : decode cL_law 343 = .ok (.iadd, 1) := by decide +kernel
theorem dL_law_344 : decode cL_law 344 = .ok (.iaload, 1) := by decide +kernel
theorem dL_law_345 : decode cL_law 345 = .ok (.invokevirtual 23, 3) := by decide +kernel
theorem dL_law_348 : decode cL_law 348 = .ok (.if_icmp .eq 1187, 3) := by decide +kernel
theorem dL_law_351 : decode cL_law 351 = .ok (.iconst 0, 1) := by decide +kernel
theorem dL_law_352 : decode cL_law 352 = .ok (.ireturn, 1) := by decide +kernel
theorem dL_law_353 : decode cL_law 353 = .ok (.aload_n 1, 1) := by decide +kernel
theorem dL_law_354 : decode cL_law 354 = .ok (.aload_n 0, 1) := by decide +kernel
theorem dL_law_355 : decode cL_law 355 = .ok (.iload 4, 2) := by decide +kernel
theorem dL_law_357 : decode cL_law 357 = .ok (.iconst 1, 1) := by decide +kernel
theorem dL_law_358 : decode cL_law 358 = .ok (.iadd, 1) := by decide +kernel
theorem dL_law_359 : decode cL_law 359 = .ok (.iaload, 1) := by decide +kernel
theorem dL_law_360 : decode cL_law 360 = .ok (.invokevirtual 24, 3) := by decide +kernel
theorem dL_law_363 : decode cL_law 363 = .ok (.aload_n 2, 1) := by decide +kernel
theorem dL_law_364 : decode cL_law 364 = .ok (.aload_n 0, 1) := by decide +kernel
theorem dL_law_365 : decode cL_law 365 = .ok (.iload 4, 2) := by decide +kernel
theorem dL_law_367 : decode cL_law 367 = .ok (.iconst 1, 1) := by decide +kernel
theorem dL_law_368 : decode cL_law 368 = .ok (.iadd, 1) := by decide +kernel
theorem dL_law_369 : decode cL_law 369 = .ok (.iaload, 1) := by decide +kernel
theorem dL_law_370 : decode cL_law 370 = .ok (.invokevirtual 27, 3) := by decide +kernel
theorem dL_law_373 : decode cL_law 373 = .ok (.if_icmp .eq 1162, 3) := by decide +kernel
theorem dL_law_376 : decode cL_law 376 = .ok (.iconst 0, 1) := by decide +kernel
theorem dL_law_377 : decode cL_law 377 = .ok (.ireturn, 1) := by decide +kernel
theorem dL_law_378 : decode cL_law 378 = .ok (.aload_n 1, 1) := by decide +kernel
theorem dL_law_379 : decode cL_law 379 = .ok (.invokevirtual 28, 3) := by decide +kernel
theorem dL_law_382 : decode cL_law 382 = .ok (.aload_n 2, 1) := by decide +kernel
theorem dL_law_383 : decode cL_law 383 = .ok (.invokevirtual 32, 3) := by decide +kernel
theorem dL_law_386 : decode cL_law 386 = .ok (.if_icmp .eq 1149, 3) := by decide +kernel
theorem dL_law_389 : decode cL_law 389 = .ok (.iconst 0, 1) := by decide +kernel
theorem dL_law_390 : decode cL_law 390 = .ok (.ireturn, 1) := by decide +kernel
theorem dL_law_391 : decode cL_law 391 = .ok (.aload_n 1, 1) := by decide +kernel
theorem dL_law_392 : decode cL_law 392 = .ok (.invokevirtual 33, 3) := by decide +kernel
theorem dL_law_395 : decode cL_law 395 = .ok (.aload_n 2, 1) := by decide +kernel
theorem dL_law_396 : decode cL_law 396 = .ok (.invokevirtual 36, 3) := by decide +kernel
theorem dL_law_399 : decode cL_law 399 = .ok (.if_icmp .eq 1136, 3) := by decide +kernel
theorem dL_law_402 : decode cL_law 402 = .ok (.iconst 0, 1) := by decide +kernel
theorem dL_law_403 : decode cL_law 403 = .ok (.ireturn, 1) := by decide +kernel
theorem dL_law_404 : decode cL_law 404 = .ok (.aload_n 1, 1) := by decide +kernel
theorem dL_law_405 : decode cL_law 405 = .ok (.aload_n 0, 1) := by decide +kernel
theorem dL_law_406 : decode cL_law 406 = .ok (.iload 4, 2) := by decide +kernel
theorem dL_law_408 : decode cL_law 408 = .ok (.iconst 1, 1) := by decide +kernel
theorem dL_law_409 : decode cL_law 409 = .ok (.iadd, 1) := by decide +kernel
theorem dL_law_410 : decode cL_law 410 = .ok (.iaload, 1) := by decide +kernel
theorem dL_law_411 : decode cL_law 411 = .ok (.aload_n 0, 1) := by decide +kernel
theorem dL_law_412 : decode cL_law 412 = .ok (.iload 4, 2) := by decide +kernel
theorem dL_law_414 : decode cL_law 414 = .ok (.iconst 2, 1) := by decide +kernel
theorem dL_law_415 : decode cL_law 415 = .ok (.iadd, 1) := by decide +kernel
theorem dL_law_416 : decode cL_law 416 = .ok (.iaload, 1) := by decide +kernel
theorem dL_law_417 : decode cL_law 417 = .ok (.invokevirtual 37, 3) := by decide +kernel
theorem dL_law_420 : decode cL_law 420 = .ok (.aload_n 2, 1) := by decide +kernel
theorem dL_law_421 : decode cL_law 421 = .ok (.aload_n 0, 1) := by decide +kernel
theorem dL_law_422 : decode cL_law 422 = .ok (.iload 4, 2) := by decide +kernel
theorem dL_law_424 : decode cL_law 424 = .ok (.iconst 1, 1) := by decide +kernel
theorem dL_law_425 : decode cL_law 425 = .ok (.iadd, 1) := by decide +kernel
theorem dL_law_426 : decode cL_law 426 = .ok (.iaload, 1) := by decide +kernel
theorem dL_law_427 : decode cL_law 427 = .ok (.aload_n 0, 1) := by decide +kernel
theorem dL_law_428 : decode cL_law 428 = .ok (.iload 4, 2) := by decide +kernel
theorem dL_law_430 : decode cL_law 430 = .ok (.iconst 2, 1) := by decide +kernel
theorem dL_law_431 : decode cL_law 431 = .ok (.iadd, 1) := by decide +kernel
theorem dL_law_432 : decode cL_law 432 = .ok (.iaload, 1) := by decide +kernel
theorem dL_law_433 : decode cL_law 433 = .ok (.invokevirtual 41, 3) := by decide +kernel
theorem dL_law_436 : decode cL_law 436 = .ok (.if_icmp .eq 1099, 3) := by decide +kernel
theorem dL_law_439 : decode cL_law 439 = .ok (.iconst 0, 1) := by decide +kernel
theorem dL_law_440 : decode cL_law 440 = .ok (.ireturn, 1) := by decide +kernel
theorem dL_law_441 : decode cL_law 441 = .ok (.aload_n 1, 1) := by decide +kernel
theorem dL_law_442 : decode cL_law 442 = .ok (.aload_n 0, 1) := by decide +kernel
theorem dL_law_443 : decode cL_law 443 = .ok (.iload 4, 2) := by decide +kernel
theorem dL_law_445 : decode cL_law 445 = .ok (.iconst 1, 1) := by decide +kernel
theorem dL_law_446 : decode cL_law 446 = .ok (.iadd, 1) := by decide +kernel
theorem dL_law_447 : decode cL_law 447 = .ok (.iaload, 1) := by decide +kernel
theorem dL_law_448 : decode cL_law 448 = .ok (.aload_n 0, 1) := by decide +kernel
theorem dL_law_449 : decode cL_law 449 = .ok (.iload 4, 2) := by decide +kernel
theorem dL_law_451 : decode cL_law 451 = .ok (.iconst 2, 1) := by decide +kernel
theorem dL_law_452 : decode cL_law 452 = .ok (.iadd, 1) := by decide +kernel
theorem dL_law_453 : decode cL_law 453 = .ok (.iaload, 1) := by decide +kernel
theorem dL_law_454 : decode cL_law 454 = .ok (.invokevirtual 42, 3) := by decide +kernel
theorem dL_law_457 : decode cL_law 457 = .ok (.aload_n 2, 1) := by decide +kernel
theorem dL_law_458 : decode cL_law 458 = .ok (.aload_n 0, 1) := by decide +kernel
theorem dL_law_459 : decode cL_law 459 = .ok (.iload 4, 2) := by decide +kernel
theorem dL_law_461 : decode cL_law 461 = .ok (.iconst 1, 1) := by decide +kernel
theorem dL_law_462 : decode cL_law 462 = .ok (.iadd, 1) := by decide +kernel
theorem dL_law_463 : decode cL_law 463 = .ok (.iaload, 1) := by decide +kernel
theorem dL_law_464 : decode cL_law 464 = .ok (.aload_n 0, 1) := by decide +kernel
theorem dL_law_465 : decode cL_law 465 = .ok (.iload 4, 2) := by decide +kernel
theorem dL_law_467 : decode cL_law 467 = .ok (.iconst 2, 1) := by decide +kernel
theorem dL_law_468 : decode cL_law 468 = .ok (.iadd, 1) := by decide +kernel
theorem dL_law_469 : decode cL_law 469 = .ok (.iaload, 1) := by decide +kernel
theorem dL_law_470 : decode cL_law 470 = .ok (.invokevirtual 45, 3) := by decide +kernel
theorem dL_law_473 : decode cL_law 473 = .ok (.if_icmp .eq 1062, 3) := by decide +kernel
theorem dL_law_476 : decode cL_law 476 = .ok (.iconst 0, 1) := by decide +kernel
theorem dL_law_477 : decode cL_law 477 = .ok (.ireturn, 1) := by decide +kernel
theorem dL_law_478 : decode cL_law 478 = .ok (.aload_n 1, 1) := by decide +kernel
theorem dL_law_479 : decode cL_law 479 = .ok (.invokevirtual 46, 3) := by decide +kernel
theorem dL_law_482 : decode cL_law 482 = .ok (.aload_n 2, 1) := by decide +kernel
theorem dL_law_483 : decode cL_law 483 = .ok (.invokevirtual 49, 3) := by decide +kernel
theorem dL_law_486 : decode cL_law 486 = .ok (.if_icmp .eq 1049, 3) := by decide +kernel
theorem dL_law_489 : decode cL_law 489 = .ok (.iconst 0, 1) := by decide +kernel
theorem dL_law_490 : decode cL_law 490 = .ok (.ireturn, 1) := by decide +kernel
theorem dL_law_491 : decode cL_law 491 = .ok (.aload_n 1, 1) := by decide +kernel
theorem dL_law_492 : decode cL_law 492 = .ok (.invokevirtual 50, 3) := by decide +kernel
theorem dL_law_495 : decode cL_law 495 = .ok (.aload_n 2, 1) := by decide +kernel
theorem dL_law_496 : decode cL_law 496 = .ok (.invokevirtual 53, 3) := by decide +kernel
theorem dL_law_499 : decode cL_law 499 = .ok (.if_icmp .eq 1036, 3) := by decide +kernel
theorem dL_law_502 : decode cL_law 502 = .ok (.iconst 0, 1) := by decide +kernel
theorem dL_law_503 : decode cL_law 503 = .ok (.ireturn, 1) := by decide +kernel
theorem dL_law_504 : decode cL_law 504 = .ok (.aload_n 1, 1) := by decide +kernel
theorem dL_law_505 : decode cL_law 505 = .ok (.invokevirtual 54, 3) := by decide +kernel
theorem dL_law_508 : decode cL_law 508 = .ok (.aload_n 2, 1) := by decide +kernel
theorem dL_law_509 : decode cL_law 509 = .ok (.invokevirtual 57, 3) := by decide +kernel
theorem dL_law_512 : decode cL_law 512 = .ok (.if_icmp .eq 1023, 3) := by decide +kernel
theorem dL_law_515 : decode cL_law 515 = .ok (.iconst 0, 1) := by decide +kernel
theorem dL_law_516 : decode cL_law 516 = .ok (.ireturn, 1) := by decide +kernel
theorem dL_law_517 : decode cL_law 517 = .ok (.aload_n 1, 1) := by decide +kernel
theorem dL_law_518 : decode cL_law 518 = .ok (.invokevirtual 58, 3) := by decide +kernel
theorem dL_law_521 : decode cL_law 521 = .ok (.aload_n 2, 1) := by decide +kernel
theorem dL_law_522 : decode cL_law 522 = .ok (.invokevirtual 61, 3) := by decide +kernel
theorem dL_law_525 : decode cL_law 525 = .ok (.if_icmp .eq 1010, 3) := by decide +kernel
theorem dL_law_528 : decode cL_law 528 = .ok (.iconst 0, 1) := by decide +kernel
theorem dL_law_529 : decode cL_law 529 = .ok (.ireturn, 1) := by decide +kernel
theorem dL_law_530 : decode cL_law 530 = .ok (.aload_n 1, 1) := by decide +kernel
theorem dL_law_531 : decode cL_law 531 = .ok (.invokevirtual 62, 3) := by decide +kernel
theorem dL_law_534 : decode cL_law 534 = .ok (.aload_n 2, 1) := by decide +kernel
theorem dL_law_535 : decode cL_law 535 = .ok (.invokevirtual 65, 3) := by decide +kernel
theorem dL_law_538 : decode cL_law 538 = .ok (.if_icmp .eq 997, 3) := by decide +kernel
theorem dL_law_541 : decode cL_law 541 = .ok (.iconst 0, 1) := by decide +kernel
theorem dL_law_542 : decode cL_law 542 = .ok (.ireturn, 1) := by decide +kernel
theorem dL_law_543 : decode cL_law 543 = .ok (.aload_n 1, 1) := by decide +kernel
theorem dL_law_544 : decode cL_law 544 = .ok (.invokevirtual 66, 3) := by decide +kernel
theorem dL_law_547 : decode cL_law 547 = .ok (.aload_n 2, 1) := by decide +kernel
theorem dL_law_548 : decode cL_law 548 = .ok (.invokevirtual 69, 3) := by decide +kernel
theorem dL_law_551 : decode cL_law 551 = .ok (.if_icmp .eq 984, 3) := by decide +kernel
theorem dL_law_554 : decode cL_law 554 = .ok (.iconst 0, 1) := by decide +kernel
theorem dL_law_555 : decode cL_law 555 = .ok (.ireturn, 1) := by decide +kernel
theorem dL_law_556 : decode cL_law 556 = .ok (.aload_n 1, 1) := by decide +kernel
theorem dL_law_557 : decode cL_law 557 = .ok (.invokevirtual 70, 3) := by decide +kernel
theorem dL_law_560 : decode cL_law 560 = .ok (.aload_n 2, 1) := by decide +kernel
theorem dL_law_561 : decode cL_law 561 = .ok (.invokevirtual 73, 3) := by decide +kernel
theorem dL_law_564 : decode cL_law 564 = .ok (.if_icmp .eq 971, 3) := by decide +kernel
theorem dL_law_567 : decode cL_law 567 = .ok (.iconst 0, 1) := by decide +kernel
theorem dL_law_568 : decode cL_law 568 = .ok (.ireturn, 1) := by decide +kernel
theorem dL_law_569 : decode cL_law 569 = .ok (.aload_n 1, 1) := by decide +kernel
theorem dL_law_570 : decode cL_law 570 = .ok (.aload_n 0, 1) := by decide +kernel
theorem dL_law_571 : decode cL_law 571 = .ok (.iload 4, 2) := by decide +kernel
theorem dL_law_573 : decode cL_law 573 = .ok (.iconst 1, 1) := by decide +kernel
theorem dL_law_574 : decode cL_law 574 = .ok (.iadd, 1) := by decide +kernel
theorem dL_law_575 : decode cL_law 575 = .ok (.iaload, 1) := by decide +kernel
theorem dL_law_576 : decode cL_law 576 = .ok (.aload_n 0, 1) := by decide +kernel
theorem dL_law_577 : decode cL_law 577 = .ok (.iload 4, 2) := by decide +kernel
theorem dL_law_579 : decode cL_law 579 = .ok (.iconst 2, 1) := by decide +kernel
theorem dL_law_580 : decode cL_law 580 = .ok (.iadd, 1) := by decide +kernel
theorem dL_law_581 : decode cL_law 581 = .ok (.iaload, 1) := by decide +kernel
theorem dL_law_582 : decode cL_law 582 = .ok (.invokevirtual 74, 3) := by decide +kernel
theorem dL_law_585 : decode cL_law 585 = .ok (.aload_n 2, 1) := by decide +kernel
theorem dL_law_586 : decode cL_law 586 = .ok (.aload_n 0, 1) := by decide +kernel
theorem dL_law_587 : decode cL_law 587 = .ok (.iload 4, 2) := by decide +kernel
theorem dL_law_589 : decode cL_law 589 = .ok (.iconst 1, 1) := by decide +kernel
theorem dL_law_590 : decode cL_law 590 = .ok (.iadd, 1) := by decide +kernel
theorem dL_law_591 : decode cL_law 591 = .ok (.iaload, 1) := by decide +kernel
theorem dL_law_592 : decode cL_law 592 = .ok (.aload_n 0, 1) := by decide +kernel
theorem dL_law_593 : decode cL_law 593 = .ok (.iload 4, 2) := by decide +kernel
theorem dL_law_595 : decode cL_law 595 = .ok (.iconst 2, 1) := by decide +kernel
theorem dL_law_596 : decode cL_law 596 = .ok (.iadd, 1) := by decide +kernel
theorem dL_law_597 : decode cL_law 597 = .ok (.iaload, 1) := by decide +kernel
theorem dL_law_598 : decode cL_law 598 = .ok (.invokevirtual 77, 3) := by decide +kernel
theorem dL_law_601 : decode cL_law 601 = .ok (.if_icmp .eq 934, 3) := by decide +kernel
theorem dL_law_604 : decode cL_law 604 = .ok (.iconst 0, 1) := by decide +kernel
theorem dL_law_605 : decode cL_law 605 = .ok (.ireturn, 1) := by decide +kernel
theorem dL_law_606 : decode cL_law 606 = .ok (.aload_n 1, 1) := by decide +kernel
theorem dL_law_607 : decode cL_law 607 = .ok (.aload_n 0, 1) := by decide +kernel
theorem dL_law_608 : decode cL_law 608 = .ok (.iload 4, 2) := by decide +kernel
theorem dL_law_610 : decode cL_law 610 = .ok (.iconst 1, 1) := by decide +kernel
theorem dL_law_611 : decode cL_law 611 = .ok (.iadd, 1) := by decide +kernel
theorem dL_law_612 : decode cL_law 612 = .ok (.iaload, 1) := by decide +kernel
theorem dL_law_613 : decode cL_law 613 = .ok (.invokevirtual 78, 3) := by decide +kernel
theorem dL_law_616 : decode cL_law 616 = .ok (.aload_n 2, 1) := by decide +kernel
theorem dL_law_617 : decode cL_law 617 = .ok (.aload_n 0, 1) := by decide +kernel
theorem dL_law_618 : decode cL_law 618 = .ok (.iload 4, 2) := by decide +kernel
theorem dL_law_620 : decode cL_law 620 = .ok (.iconst 1, 1) := by decide +kernel
theorem dL_law_621 : decode cL_law 621 = .ok (.iadd, 1) := by decide +kernel
theorem dL_law_622 : decode cL_law 622 = .ok (.iaload, 1) := by decide +kernel
theorem dL_law_623 : decode cL_law 623 = .ok (.invokevirtual 81, 3) := by decide +kernel
theorem dL_law_626 : decode cL_law 626 = .ok (.if_icmp .eq 909, 3) := by decide +kernel
theorem dL_law_629 : decode cL_law 629 = .ok (.iconst 0, 1) := by decide +kernel
theorem dL_law_630 : decode cL_law 630 = .ok (.ireturn, 1) := by decide +kernel
theorem dL_law_631 : decode cL_law 631 = .ok (.aload_n 1, 1) := by decide +kernel
theorem dL_law_632 : decode cL_law 632 = .ok (.aload_n 0, 1) := by decide +kernel
theorem dL_law_633 : decode cL_law 633 = .ok (.iload 4, 2) := by decide +kernel
theorem dL_law_635 : decode cL_law 635 = .ok (.iconst 1, 1) := by decide +kernel
theorem dL_law_636 : decode cL_law 636 = .ok (.iadd, 1) := by decide +kernel
theorem dL_law_637 : decode cL_law 637 = .ok (.iaload, 1) := by decide +kernel
theorem dL_law_638 : decode cL_law 638 = .ok (.invokevirtual 82, 3) := by decide +kernel
theorem dL_law_641 : decode cL_law 641 = .ok (.aload_n 2, 1) := by decide +kernel
theorem dL_law_642 : decode cL_law 642 = .ok (.aload_n 0, 1) := by decide +kernel
theorem dL_law_643 : decode cL_law 643 = .ok (.iload 4, 2) := by decide +kernel
theorem dL_law_645 : decode cL_law 645 = .ok (.iconst 1, 1) := by decide +kernel
theorem dL_law_646 : decode cL_law 646 = .ok (.iadd, 1) := by decide +kernel
theorem dL_law_647 : decode cL_law 647 = .ok (.iaload, 1) := by decide +kernel
theorem dL_law_648 : decode cL_law 648 = .ok (.invokevirtual 85, 3) := by decide +kernel
theorem dL_law_651 : decode cL_law 651 = .ok (.if_icmp .eq 884, 3) := by decide +kernel
theorem dL_law_654 : decode cL_law 654 = .ok (.iconst 0, 1) := by decide +kernel
theorem dL_law_655 : decode cL_law 655 = .ok (.ireturn, 1) := by decide +kernel
theorem dL_law_656 : decode cL_law 656 = .ok (.aload_n 1, 1) := by decide +kernel
theorem dL_law_657 : decode cL_law 657 = .ok (.aload_n 0, 1) := by decide +kernel
theorem dL_law_658 : decode cL_law 658 = .ok (.iload 4, 2) := by decide +kernel
theorem dL_law_660 : decode cL_law 660 = .ok (.iconst 1, 1) := by decide +kernel
theorem dL_law_661 : decode cL_law 661 = .ok (.iadd, 1) := by decide +kernel
theorem dL_law_662 : decode cL_law 662 = .ok (.iaload, 1) := by decide +kernel
theorem dL_law_663 : decode cL_law 663 = .ok (.invokevirtual 86, 3) := by decide +kernel
theorem dL_law_666 : decode cL_law 666 = .ok (.aload_n 2, 1) := by decide +kernel
theorem dL_law_667 : decode cL_law 667 = .ok (.aload_n 0, 1) := by decide +kernel
theorem dL_law_668 : decode cL_law 668 = .ok (.iload 4, 2) := by decide +kernel
theorem dL_law_670 : decode cL_law 670 = .ok (.iconst 1, 1) := by decide +kernel
theorem dL_law_671 : decode cL_law 671 = .ok (.iadd, 1) := by decide +kernel
theorem dL_law_672 : decode cL_law 672 = .ok (.iaload, 1) := by decide +kernel
theorem dL_law_673 : decode cL_law 673 = .ok (.invokevirtual 89, 3) := by decide +kernel
theorem dL_law_676 : decode cL_law 676 = .ok (.if_icmp .eq 859, 3) := by decide +kernel
theorem dL_law_679 : decode cL_law 679 = .ok (.iconst 0, 1) := by decide +kernel
theorem dL_law_680 : decode cL_law 680 = .ok (.ireturn, 1) := by decide +kernel
theorem dL_law_681 : decode cL_law 681 = .ok (.aload_n 1, 1) := by decide +kernel
theorem dL_law_682 : decode cL_law 682 = .ok (.aload_n 0, 1) := by decide +kernel
theorem dL_law_683 : decode cL_law 683 = .ok (.iload 4, 2) := by decide +kernel
theorem dL_law_685 : decode cL_law 685 = .ok (.iconst 1, 1) := by decide +kernel
theorem dL_law_686 : decode cL_law 686 = .ok (.iadd, 1) := by decide +kernel
theorem dL_law_687 : decode cL_law 687 = .ok (.iaload, 1) := by decide +kernel
theorem dL_law_688 : decode cL_law 688 = .ok (.invokevirtual 90, 3) := by decide +kernel
theorem dL_law_691 : decode cL_law 691 = .ok (.aload_n 2, 1) := by decide +kernel
theorem dL_law_692 : decode cL_law 692 = .ok (.aload_n 0, 1) := by decide +kernel
theorem dL_law_693 : decode cL_law 693 = .ok (.iload 4, 2) := by decide +kernel
theorem dL_law_695 : decode cL_law 695 = .ok (.iconst 1, 1) := by decide +kernel
theorem dL_law_696 : decode cL_law 696 = .ok (.iadd, 1) := by decide +kernel
theorem dL_law_697 : decode cL_law 697 = .ok (.iaload, 1) := by decide +kernel
theorem dL_law_698 : decode cL_law 698 = .ok (.invokevirtual 93, 3) := by decide +kernel
theorem dL_law_701 : decode cL_law 701 = .ok (.if_icmp .eq 834, 3) := by decide +kernel
theorem dL_law_704 : decode cL_law 704 = .ok (.iconst 0, 1) := by decide +kernel
theorem dL_law_705 : decode cL_law 705 = .ok (.ireturn, 1) := by decide +kernel
theorem dL_law_706 : decode cL_law 706 = .ok (.aload_n 1, 1) := by decide +kernel
theorem dL_law_707 : decode cL_law 707 = .ok (.invokevirtual 94, 3) := by decide +kernel
theorem dL_law_710 : decode cL_law 710 = .ok (.aload_n 2, 1) := by decide +kernel
theorem dL_law_711 : decode cL_law 711 = .ok (.invokevirtual 97, 3) := by decide +kernel
theorem dL_law_714 : decode cL_law 714 = .ok (.if_icmp .eq 821, 3) := by decide +kernel
theorem dL_law_717 : decode cL_law 717 = .ok (.iconst 0, 1) := by decide +kernel
theorem dL_law_718 : decode cL_law 718 = .ok (.ireturn, 1) := by decide +kernel
theorem dL_law_719 : decode cL_law 719 = .ok (.aload_n 1, 1) := by decide +kernel
theorem dL_law_720 : decode cL_law 720 = .ok (.invokevirtual 98, 3) := by decide +kernel
theorem dL_law_723 : decode cL_law 723 = .ok (.aload_n 2, 1) := by decide +kernel
theorem dL_law_724 : decode cL_law 724 = .ok (.invokevirtual 101, 3) := by decide +kernel
theorem dL_law_727 : decode cL_law 727 = .ok (.if_icmp .eq 808, 3) := by decide +kernel
theorem dL_law_730 : decode cL_law 730 = .ok (.iconst 0, 1) := by decide +kernel
theorem dL_law_731 : decode cL_law 731 = .ok (.ireturn, 1) := by decide +kernel
theorem dL_law_732 : decode cL_law 732 = .ok (.aload_n 1, 1) := by decide +kernel
theorem dL_law_733 : decode cL_law 733 = .ok (.invokevirtual 102, 3) := by decide +kernel
theorem dL_law_736 : decode cL_law 736 = .ok (.aload_n 2, 1) := by decide +kernel
theorem dL_law_737 : decode cL_law 737 = .ok (.invokevirtual 105, 3) := by decide +kernel
theorem dL_law_740 : decode cL_law 740 = .ok (.if_icmp .eq 795, 3) := by decide +kernel
theorem dL_law_743 : decode cL_law 743 = .ok (.iconst 0, 1) := by decide +kernel
theorem dL_law_744 : decode cL_law 744 = .ok (.ireturn, 1) := by decide +kernel
theorem dL_law_745 : decode cL_law 745 = .ok (.aload_n 1, 1) := by decide +kernel
theorem dL_law_746 : decode cL_law 746 = .ok (.invokevirtual 106, 3) := by decide +kernel
theorem dL_law_749 : decode cL_law 749 = .ok (.aload_n 2, 1) := by decide +kernel
theorem dL_law_750 : decode cL_law 750 = .ok (.invokevirtual 109, 3) := by decide +kernel
theorem dL_law_753 : decode cL_law 753 = .ok (.if_icmp .eq 782, 3) := by decide +kernel
theorem dL_law_756 : decode cL_law 756 = .ok (.iconst 0, 1) := by decide +kernel
theorem dL_law_757 : decode cL_law 757 = .ok (.ireturn, 1) := by decide +kernel
theorem dL_law_758 : decode cL_law 758 = .ok (.aload_n 1, 1) := by decide +kernel
theorem dL_law_759 : decode cL_law 759 = .ok (.invokevirtual 110, 3) := by decide +kernel
theorem dL_law_762 : decode cL_law 762 = .ok (.aload_n 2, 1) := by decide +kernel
theorem dL_law_763 : decode cL_law 763 = .ok (.invokevirtual 113, 3) := by decide +kernel
theorem dL_law_766 : decode cL_law 766 = .ok (.if_icmp .eq 769, 3) := by decide +kernel
theorem dL_law_769 : decode cL_law 769 = .ok (.iconst 0, 1) := by decide +kernel
theorem dL_law_770 : decode cL_law 770 = .ok (.ireturn, 1) := by decide +kernel
theorem dL_law_771 : decode cL_law 771 = .ok (.aload_n 1, 1) := by decide +kernel
theorem dL_law_772 : decode cL_law 772 = .ok (.invokevirtual 114, 3) := by decide +kernel
theorem dL_law_775 : decode cL_law 775 = .ok (.aload_n 2, 1) := by decide +kernel
theorem dL_law_776 : decode cL_law 776 = .ok (.invokevirtual 117, 3) := by decide +kernel
theorem dL_law_779 : decode cL_law 779 = .ok (.if_icmp .eq 756, 3) := by decide +kernel
theorem dL_law_782 : decode cL_law 782 = .ok (.iconst 0, 1) := by decide +kernel
theorem dL_law_783 : decode cL_law 783 = .ok (.ireturn, 1) := by decide +kernel
theorem dL_law_784 : decode cL_law 784 = .ok (.aload_n 1, 1) := by decide +kernel
theorem dL_law_785 : decode cL_law 785 = .ok (.invokevirtual 118, 3) := by decide +kernel
theorem dL_law_788 : decode cL_law 788 = .ok (.aload_n 2, 1) := by decide +kernel
theorem dL_law_789 : decode cL_law 789 = .ok (.invokevirtual 121, 3) := by decide +kernel
theorem dL_law_792 : decode cL_law 792 = .ok (.if_icmp .eq 743, 3) := by decide +kernel
theorem dL_law_795 : decode cL_law 795 = .ok (.iconst 0, 1) := by decide +kernel
theorem dL_law_796 : decode cL_law 796 = .ok (.ireturn, 1) := by decide +kernel
theorem dL_law_797 : decode cL_law 797 = .ok (.aload_n 1, 1) := by decide +kernel
theorem dL_law_798 : decode cL_law 798 = .ok (.aload_n 0, 1) := by decide +kernel
theorem dL_law_799 : decode cL_law 799 = .ok (.iload 4, 2) := by decide +kernel
theorem dL_law_801 : decode cL_law 801 = .ok (.iconst 1, 1) := by decide +kernel
theorem dL_law_802 : decode cL_law 802 = .ok (.iadd, 1) := by decide +kernel
theorem dL_law_803 : decode cL_law 803 = .ok (.iaload, 1) := by decide +kernel
theorem dL_law_804 : decode cL_law 804 = .ok (.invokevirtual 122, 3) := by decide +kernel
theorem dL_law_807 : decode cL_law 807 = .ok (.aload_n 2, 1) := by decide +kernel
theorem dL_law_808 : decode cL_law 808 = .ok (.aload_n 0, 1) := by decide +kernel
theorem dL_law_809 : decode cL_law 809 = .ok (.iload 4, 2) := by decide +kernel
theorem dL_law_811 : decode cL_law 811 = .ok (.iconst 1, 1) := by decide +kernel
theorem dL_law_812 : decode cL_law 812 = .ok (.iadd, 1) := by decide +kernel
theorem dL_law_813 : decode cL_law 813 = .ok (.iaload, 1) := by decide +kernel
theorem dL_law_814 : decode cL_law 814 = .ok (.invokevirtual 125, 3) := by decide +kernel
theorem dL_law_817 : decode cL_law 817 = .ok (.if_icmp .eq 718, 3) := by decide +kernel
theorem dL_law_820 : decode cL_law 820 = .ok (.iconst 0, 1) := by decide +kernel
theorem dL_law_821 : decode cL_law 821 = .ok (.ireturn, 1) := by decide +kernel
theorem dL_law_822 : decode cL_law 822 = .ok (.aload_n 1, 1) := by decide +kernel
theorem dL_law_823 : decode cL_law 823 = .ok (.aload_n 0, 1) := by decide +kernel
theorem dL_law_824 : decode cL_law 824 = .ok (.iload 4, 2) := by decide +kernel
theorem dL_law_826 : decode cL_law 826 = .ok (.iconst 1, 1) := by decide +kernel
theorem dL_law_827 : decode cL_law 827 = .ok (.iadd, 1) := by decide +kernel
theorem dL_law_828 : decode cL_law 828 = .ok (.iaload, 1) := by decide +kernel
theorem dL_law_829 : decode cL_law 829 = .ok (.invokevirtual 126, 3) := by decide +kernel
theorem dL_law_832 : decode cL_law 832 = .ok (.aload_n 2, 1) := by decide +kernel
theorem dL_law_833 : decode cL_law 833 = .ok (.aload_n 0, 1) := by decide +kernel
theorem dL_law_834 : decode cL_law 834 = .ok (.iload 4, 2) := by decide +kernel
theorem dL_law_836 : decode cL_law 836 = .ok (.iconst 1, 1) := by decide +kernel
theorem dL_law_837 : decode cL_law 837 = .ok (.iadd, 1) := by decide +kernel
theorem dL_law_838 : decode cL_law 838 = .ok (.iaload, 1) := by decide +kernel
theorem dL_law_839 : decode cL_law 839 = .ok (.invokevirtual 129, 3) := by decide +kernel
theorem dL_law_842 : decode cL_law 842 = .ok (.if_icmp .eq 693, 3) := by decide +kernel
theorem dL_law_845 : decode cL_law 845 = .ok (.iconst 0, 1) := by decide +kernel
theorem dL_law_846 : decode cL_law 846 = .ok (.ireturn, 1) := by decide +kernel
theorem dL_law_847 : decode cL_law 847 = .ok (.aload_n 1, 1) := by decide +kernel
theorem dL_law_848 : decode cL_law 848 = .ok (.aload_n 0, 1) := by decide +kernel
theorem dL_law_849 : decode cL_law 849 = .ok (.iload 4, 2) := by decide +kernel
theorem dL_law_851 : decode cL_law 851 = .ok (.iconst 1, 1) := by decide +kernel
theorem dL_law_852 : decode cL_law 852 = .ok (.iadd, 1) := by decide +kernel
theorem dL_law_853 : decode cL_law 853 = .ok (.iaload, 1) := by decide +kernel
theorem dL_law_854 : decode cL_law 854 = .ok (.invokevirtual 130, 3) := by decide +kernel
theorem dL_law_857 : decode cL_law 857 = .ok (.aload_n 2, 1) := by decide +kernel
theorem dL_law_858 : decode cL_law 858 = .ok (.aload_n 0, 1) := by decide +kernel
theorem dL_law_859 : decode cL_law 859 = .ok (.iload 4, 2) := by decide +kernel
theorem dL_law_861 : decode cL_law 861 = .ok (.iconst 1, 1) := by decide +kernel
theorem dL_law_862 : decode cL_law 862 = .ok (.iadd, 1) := by decide +kernel
theorem dL_law_863 : decode cL_law 863 = .ok (.iaload, 1) := by decide +kernel
theorem dL_law_864 : decode cL_law 864 = .ok (.invokevirtual 133, 3) := by decide +kernel
theorem dL_law_867 : decode cL_law 867 = .ok (.if_icmp .eq 668, 3) := by decide +kernel
theorem dL_law_870 : decode cL_law 870 = .ok (.iconst 0, 1) := by decide +kernel
theorem dL_law_871 : decode cL_law 871 = .ok (.ireturn, 1) := by decide +kernel
theorem dL_law_872 : decode cL_law 872 = .ok (.aload_n 1, 1) := by decide +kernel
theorem dL_law_873 : decode cL_law 873 = .ok (.invokevirtual 134, 3) := by decide +kernel
theorem dL_law_876 : decode cL_law 876 = .ok (.aload_n 2, 1) := by decide +kernel
theorem dL_law_877 : decode cL_law 877 = .ok (.invokevirtual 137, 3) := by decide +kernel
theorem dL_law_880 : decode cL_law 880 = .ok (.if_icmp .eq 655, 3) := by decide +kernel
theorem dL_law_883 : decode cL_law 883 = .ok (.iconst 0, 1) := by decide +kernel
theorem dL_law_884 : decode cL_law 884 = .ok (.ireturn, 1) := by decide +kernel
theorem dL_law_885 : decode cL_law 885 = .ok (.aload_n 1, 1) := by decide +kernel
theorem dL_law_886 : decode cL_law 886 = .ok (.aload_n 0, 1) := by decide +kernel
theorem dL_law_887 : decode cL_law 887 = .ok (.iload 4, 2) := by decide +kernel
theorem dL_law_889 : decode cL_law 889 = .ok (.iconst 1, 1) := by decide +kernel
theorem dL_law_890 : decode cL_law 890 = .ok (.iadd, 1) := by decide +kernel
theorem dL_law_891 : decode cL_law 891 = .ok (.iaload, 1) := by decide +kernel
theorem dL_law_892 : decode cL_law 892 = .ok (.invokevirtual 138, 3) := by decide +kernel
theorem dL_law_895 : decode cL_law 895 = .ok (.aload_n 2, 1) := by decide +kernel
theorem dL_law_896 : decode cL_law 896 = .ok (.aload_n 0, 1) := by decide +kernel
theorem dL_law_897 : decode cL_law 897 = .ok (.iload 4, 2) := by decide +kernel
theorem dL_law_899 : decode cL_law 899 = .ok (.iconst 1, 1) := by decide +kernel
theorem dL_law_900 : decode cL_law 900 = .ok (.iadd, 1) := by decide +kernel
theorem dL_law_901 : decode cL_law 901 = .ok (.iaload, 1) := by decide +kernel
theorem dL_law_902 : decode cL_law 902 = .ok (.invokevirtual 141, 3) := by decide +kernel
theorem dL_law_905 : decode cL_law 905 = .ok (.if_icmp .eq 630, 3) := by decide +kernel
theorem dL_law_908 : decode cL_law 908 = .ok (.iconst 0, 1) := by decide +kernel
theorem dL_law_909 : decode cL_law 909 = .ok (.ireturn, 1) := by decide +kernel
theorem dL_law_910 : decode cL_law 910 = .ok (.aload_n 1, 1) := by decide +kernel
theorem dL_law_911 : decode cL_law 911 = .ok (.aload_n 0, 1) := by decide +kernel
theorem dL_law_912 : decode cL_law 912 = .ok (.iload 4, 2) := by decide +kernel
theorem dL_law_914 : decode cL_law 914 = .ok (.iconst 1, 1) := by decide +kernel
theorem dL_law_915 : decode cL_law 915 = .ok (.iadd, 1) := by decide +kernel
theorem dL_law_916 : decode cL_law 916 = .ok (.iaload, 1) := by decide +kernel
theorem dL_law_917 : decode cL_law 917 = .ok (.invokevirtual 142, 3) := by decide +kernel
theorem dL_law_920 : decode cL_law 920 = .ok (.aload_n 2, 1) := by decide +kernel
theorem dL_law_921 : decode cL_law 921 = .ok (.aload_n 0, 1) := by decide +kernel
theorem dL_law_922 : decode cL_law 922 = .ok (.iload 4, 2) := by decide +kernel
theorem dL_law_924 : decode cL_law 924 = .ok (.iconst 1, 1) := by decide +kernel
theorem dL_law_925 : decode cL_law 925 = .ok (.iadd, 1) := by decide +kernel
theorem dL_law_926 : decode cL_law 926 = .ok (.iaload, 1) := by decide +kernel
theorem dL_law_927 : decode cL_law 927 = .ok (.invokevirtual 145, 3) := by decide +kernel
theorem dL_law_930 : decode cL_law 930 = .ok (.if_icmp .eq 605, 3) := by decide +kernel
theorem dL_law_933 : decode cL_law 933 = .ok (.iconst 0, 1) := by decide +kernel
theorem dL_law_934 : decode cL_law 934 = .ok (.ireturn, 1) := by decide +kernel
theorem dL_law_935 : decode cL_law 935 = .ok (.aload_n 1, 1) := by decide +kernel
theorem dL_law_936 : decode cL_law 936 = .ok (.invokevirtual 146, 3) := by decide +kernel
theorem dL_law_939 : decode cL_law 939 = .ok (.aload_n 2, 1) := by decide +kernel
theorem dL_law_940 : decode cL_law 940 = .ok (.invokevirtual 149, 3) := by decide +kernel
theorem dL_law_943 : decode cL_law 943 = .ok (.if_icmp .eq 592, 3) := by decide +kernel
theorem dL_law_946 : decode cL_law 946 = .ok (.iconst 0, 1) := by decide +kernel
theorem dL_law_947 : decode cL_law 947 = .ok (.ireturn, 1) := by decide +kernel
theorem dL_law_948 : decode cL_law 948 = .ok (.aload_n 1, 1) := by decide +kernel
theorem dL_law_949 : decode cL_law 949 = .ok (.invokevirtual 150, 3) := by decide +kernel
theorem dL_law_952 : decode cL_law 952 = .ok (.aload_n 2, 1) := by decide +kernel
theorem dL_law_953 : decode cL_law 953 = .ok (.invokevirtual 153, 3) := by decide +kernel
theorem dL_law_956 : decode cL_law 956 = .ok (.if_icmp .eq 579, 3) := by decide +kernel
theorem dL_law_959 : decode cL_law 959 = .ok (.iconst 0, 1) := by decide +kernel
theorem dL_law_960 : decode cL_law 960 = .ok (.ireturn, 1) := by decide +kernel
theorem dL_law_961 : decode cL_law 961 = .ok (.aload_n 1, 1) := by decide +kernel
theorem dL_law_962 : decode cL_law 962 = .ok (.invokevirtual 154, 3) := by decide +kernel
theorem dL_law_965 : decode cL_law 965 = .ok (.aload_n 2, 1) := by decide +kernel
theorem dL_law_966 : decode cL_law 966 = .ok (.invokevirtual 157, 3) := by decide +kernel
theorem dL_law_969 : decode cL_law 969 = .ok (.if_icmp .eq 566, 3) := by decide +kernel
theorem dL_law_972 : decode cL_law 972 = .ok (.iconst 0, 1) := by decide +kernel
theorem dL_law_973 : decode cL_law 973 = .ok (.ireturn, 1) := by decide +kernel
theorem dL_law_974 : decode cL_law 974 = .ok (.aload_n 1, 1) := by decide +kernel
theorem dL_law_975 : decode cL_law 975 = .ok (.invokevirtual 158, 3) := by decide +kernel
theorem dL_law_978 : decode cL_law 978 = .ok (.aload_n 2, 1) := by decide +kernel
theorem dL_law_979 : decode cL_law 979 = .ok (.invokevirtual 161, 3) := by decide +kernel
theorem dL_law_982 : decode cL_law 982 = .ok (.if_icmp .eq 553, 3) := by decide +kernel
theorem dL_law_985 : decode cL_law 985 = .ok (.iconst 0, 1) := by decide +kernel
theorem dL_law_986 : decode cL_law 986 = .ok (.ireturn, 1) := by decide +kernel
theorem dL_law_987 : decode cL_law 987 = .ok (.aload_n 1, 1) := by decide +kernel
theorem dL_law_988 : decode cL_law 988 = .ok (.invokevirtual 162, 3) := by decide +kernel
theorem dL_law_991 : decode cL_law 991 = .ok (.aload_n 2, 1) := by decide +kernel
theorem dL_law_992 : decode cL_law 992 = .ok (.invokevirtual 165, 3) := by decide +kernel
theorem dL_law_995 : decode cL_law 995 = .ok (.if_icmp .eq 540, 3) := by decide +kernel
theorem dL_law_998 : decode cL_law 998 = .ok (.iconst 0, 1) := by decide +kernel
theorem dL_law_999 : decode cL_law 999 = .ok (.ireturn, 1) := by decide +kernel
theorem dL_law_1000 : decode cL_law 1000 = .ok (.aload_n 1, 1) := by decide +kernel
theorem dL_law_1001 : decode cL_law 1001 = .ok (.invokevirtual 166, 3) := by decide +kernel
theorem dL_law_1004 : decode cL_law 1004 = .ok (.aload_n 2, 1) := by decide +kernel
theorem dL_law_1005 : decode cL_law 1005 = .ok (.invokevirtual 169, 3) := by decide +kernel
theorem dL_law_1008 : decode cL_law 1008 = .ok (.if_icmp .eq 527, 3) := by decide +kernel
theorem dL_law_1011 : decode cL_law 1011 = .ok (.iconst 0, 1) := by decide +kernel
theorem dL_law_1012 : decode cL_law 1012 = .ok (.ireturn, 1) := by decide +kernel
theorem dL_law_1013 : decode cL_law 1013 = .ok (.aload_n 1, 1) := by decide +kernel
theorem dL_law_1014 : decode cL_law 1014 = .ok (.aload_n 0, 1) := by decide +kernel
theorem dL_law_1015 : decode cL_law 1015 = .ok (.iload 4, 2) := by decide +kernel
theorem dL_law_1017 : decode cL_law 1017 = .ok (.iconst 1, 1) := by decide +kernel
theorem dL_law_1018 : decode cL_law 1018 = .ok (.iadd, 1) := by decide +kernel
theorem dL_law_1019 : decode cL_law 1019 = .ok (.iaload, 1) := by decide +kernel
theorem dL_law_1020 : decode cL_law 1020 = .ok (.aload_n 0, 1) := by decide +kernel
theorem dL_law_1021 : decode cL_law 1021 = .ok (.iload 4, 2) := by decide +kernel
theorem dL_law_1023 : decode cL_law 1023 = .ok (.iconst 2, 1) := by decide +kernel
theorem dL_law_1024 : decode cL_law 1024 = .ok (.iadd, 1) := by decide +kernel
theorem dL_law_1025 : decode cL_law 1025 = .ok (.iaload, 1) := by decide +kernel
theorem dL_law_1026 : decode cL_law 1026 = .ok (.aload_n 0, 1) := by decide +kernel
theorem dL_law_1027 : decode cL_law 1027 = .ok (.iload 4, 2) := by decide +kernel
theorem dL_law_1029 : decode cL_law 1029 = .ok (.iconst 3, 1) := by decide +kernel
theorem dL_law_1030 : decode cL_law 1030 = .ok (.iadd, 1) := by decide +kernel
theorem dL_law_1031 : decode cL_law 1031 = .ok (.iaload, 1) := by decide +kernel
theorem dL_law_1032 : decode cL_law 1032 = .ok (.ifCond .eq 7, 3) := by decide +kernel
theorem dL_law_1035 : decode cL_law 1035 = .ok (.iconst 1, 1) := by decide +kernel
theorem dL_law_1036 : decode cL_law 1036 = .ok (.goto 4, 3) := by decide +kernel
theorem dL_law_1039 : decode cL_law 1039 = .ok (.iconst 0, 1) := by decide +kernel
theorem dL_law_1040 : decode cL_law 1040 = .ok (.invokevirtual 170, 3) := by decide +kernel
theorem dL_law_1043 : decode cL_law 1043 = .ok (.aload_n 2, 1) := by decide +kernel
theorem dL_law_1044 : decode cL_law 1044 = .ok (.aload_n 0, 1) := by decide +kernel
theorem dL_law_1045 : decode cL_law 1045 = .ok (.iload 4, 2) := by decide +kernel
theorem dL_law_1047 : decode cL_law 1047 = .ok (.iconst 1, 1) := by decide +kernel
theorem dL_law_1048 : decode cL_law 1048 = .ok (.iadd, 1) := by decide +kernel
theorem dL_law_1049 : decode cL_law 1049 = .ok (.iaload, 1) := by decide +kernel
theorem dL_law_1050 : decode cL_law 1050 = .ok (.aload_n 0, 1) := by decide +kernel
theorem dL_law_1051 : decode cL_law 1051 = .ok (.iload 4, 2) := by decide +kernel
theorem dL_law_1053 : decode cL_law 1053 = .ok (.iconst 2, 1) := by decide +kernel
theorem dL_law_1054 : decode cL_law 1054 = .ok (.iadd, 1) := by decide +kernel
theorem dL_law_1055 : decode cL_law 1055 = .ok (.iaload, 1) := by decide +kernel
theorem dL_law_1056 : decode cL_law 1056 = .ok (.aload_n 0, 1) := by decide +kernel
theorem dL_law_1057 : decode cL_law 1057 = .ok (.iload 4, 2) := by decide +kernel
theorem dL_law_1059 : decode cL_law 1059 = .ok (.iconst 3, 1) := by decide +kernel
theorem dL_law_1060 : decode cL_law 1060 = .ok (.iadd, 1) := by decide +kernel
theorem dL_law_1061 : decode cL_law 1061 = .ok (.iaload, 1) := by decide +kernel
theorem dL_law_1062 : decode cL_law 1062 = .ok (.ifCond .eq 7, 3) := by decide +kernel
theorem dL_law_1065 : decode cL_law 1065 = .ok (.iconst 1, 1) := by decide +kernel
theorem dL_law_1066 : decode cL_law 1066 = .ok (.goto 4, 3) := by decide +kernel
theorem dL_law_1069 : decode cL_law 1069 = .ok (.iconst 0, 1) := by decide +kernel
theorem dL_law_1070 : decode cL_law 1070 = .ok (.invokevirtual 174, 3) := by decide +kernel
theorem dL_law_1073 : decode cL_law 1073 = .ok (.if_icmp .eq 462, 3) := by decide +kernel
theorem dL_law_1076 : decode cL_law 1076 = .ok (.iconst 0, 1) := by decide +kernel
theorem dL_law_1077 : decode cL_law 1077 = .ok (.ireturn, 1) := by decide +kernel
theorem dL_law_1078 : decode cL_law 1078 = .ok (.aload_n 1, 1) := by decide +kernel
theorem dL_law_1079 : decode cL_law 1079 = .ok (.invokevirtual 175, 3) := by decide +kernel
theorem dL_law_1082 : decode cL_law 1082 = .ok (.aload_n 2, 1) := by decide +kernel
theorem dL_law_1083 : decode cL_law 1083 = .ok (.invokevirtual 178, 3) := by decide +kernel
theorem dL_law_1086 : decode cL_law 1086 = .ok (.if_icmp .eq 449, 3) := by decide +kernel
theorem dL_law_1089 : decode cL_law 1089 = .ok (.iconst 0, 1) := by decide +kernel
theorem dL_law_1090 : decode cL_law 1090 = .ok (.ireturn, 1) := by decide +kernel
theorem dL_law_1091 : decode cL_law 1091 = .ok (.aload_n 1, 1) := by decide +kernel
theorem dL_law_1092 : decode cL_law 1092 = .ok (.invokevirtual 179, 3) := by decide +kernel
theorem dL_law_1095 : decode cL_law 1095 = .ok (.aload_n 2, 1) := by decide +kernel
theorem dL_law_1096 : decode cL_law 1096 = .ok (.invokevirtual 182, 3) := by decide +kernel
theorem dL_law_1099 : decode cL_law 1099 = .ok (.if_icmp .eq 436, 3) := by decide +kernel
theorem dL_law_1102 : decode cL_law 1102 = .ok (.iconst 0, 1) := by decide +kernel
theorem dL_law_1103 : decode cL_law 1103 = .ok (.ireturn, 1) := by decide +kernel
theorem dL_law_1104 : decode cL_law 1104 = .ok (.aload_n 1, 1) := by decide +kernel
theorem dL_law_1105 : decode cL_law 1105 = .ok (.aload_n 0, 1) := by decide +kernel
theorem dL_law_1106 : decode cL_law 1106 = .ok (.iload 4, 2) := by decide +kernel
theorem dL_law_1108 : decode cL_law 1108 = .ok (.iconst 1, 1) := by decide +kernel
theorem dL_law_1109 : decode cL_law 1109 = .ok (.iadd, 1) := by decide +kernel
theorem dL_law_1110 : decode cL_law 1110 = .ok (.iaload, 1) := by decide +kernel
theorem dL_law_1111 : decode cL_law 1111 = .ok (.aload_n 0, 1) := by decide +kernel
theorem dL_law_1112 : decode cL_law 1112 = .ok (.iload 4, 2) := by decide +kernel
theorem dL_law_1114 : decode cL_law 1114 = .ok (.iconst 2, 1) := by decide +kernel
theorem dL_law_1115 : decode cL_law 1115 = .ok (.iadd, 1) := by decide +kernel
theorem dL_law_1116 : decode cL_law 1116 = .ok (.iaload, 1) := by decide +kernel
theorem dL_law_1117 : decode cL_law 1117 = .ok (.invokevirtual 183, 3) := by decide +kernel
theorem dL_law_1120 : decode cL_law 1120 = .ok (.aload_n 2, 1) := by decide +kernel
theorem dL_law_1121 : decode cL_law 1121 = .ok (.aload_n 0, 1) := by decide +kernel
theorem dL_law_1122 : decode cL_law 1122 = .ok (.iload 4, 2) := by decide +kernel
theorem dL_law_1124 : decode cL_law 1124 = .ok (.iconst 1, 1) := by decide +kernel
theorem dL_law_1125 : decode cL_law 1125 = .ok (.iadd, 1) := by decide +kernel
theorem dL_law_1126 : decode cL_law 1126 = .ok (.iaload, 1) := by decide +kernel
theorem dL_law_1127 : decode cL_law 1127 = .ok (.aload_n 0, 1) := by decide +kernel
theorem dL_law_1128 : decode cL_law 1128 = .ok (.iload 4, 2) := by decide +kernel
theorem dL_law_1130 : decode cL_law 1130 = .ok (.iconst 2, 1) := by decide +kernel
theorem dL_law_1131 : decode cL_law 1131 = .ok (.iadd, 1) := by decide +kernel
theorem dL_law_1132 : decode cL_law 1132 = .ok (.iaload, 1) := by decide +kernel
theorem dL_law_1133 : decode cL_law 1133 = .ok (.invokevirtual 186, 3) := by decide +kernel
theorem dL_law_1136 : decode cL_law 1136 = .ok (.if_icmp .eq 399, 3) := by decide +kernel
theorem dL_law_1139 : decode cL_law 1139 = .ok (.iconst 0, 1) := by decide +kernel
theorem dL_law_1140 : decode cL_law 1140 = .ok (.ireturn, 1) := by decide +kernel
theorem dL_law_1141 : decode cL_law 1141 = .ok (.aload_n 1, 1) := by decide +kernel
theorem dL_law_1142 : decode cL_law 1142 = .ok (.aload_n 0, 1) := by decide +kernel
theorem dL_law_1143 : decode cL_law 1143 = .ok (.iload 4, 2) := by decide +kernel
theorem dL_law_1145 : decode cL_law 1145 = .ok (.iconst 1, 1) := by decide +kernel
theorem dL_law_1146 : decode cL_law 1146 = .ok (.iadd, 1) := by decide +kernel
theorem dL_law_1147 : decode cL_law 1147 = .ok (.iaload, 1) := by decide +kernel
theorem dL_law_1148 : decode cL_law 1148 = .ok (.aload_n 0, 1) := by decide +kernel
theorem dL_law_1149 : decode cL_law 1149 = .ok (.iload 4, 2) := by decide +kernel
theorem dL_law_1151 : decode cL_law 1151 = .ok (.iconst 2, 1) := by decide +kernel
theorem dL_law_1152 : decode cL_law 1152 = .ok (.iadd, 1) := by decide +kernel
theorem dL_law_1153 : decode cL_law 1153 = .ok (.iaload, 1) := by decide +kernel
theorem dL_law_1154 : decode cL_law 1154 = .ok (.invokevirtual 187, 3) := by decide +kernel
theorem dL_law_1157 : decode cL_law 1157 = .ok (.aload_n 2, 1) := by decide +kernel
theorem dL_law_1158 : decode cL_law 1158 = .ok (.aload_n 0, 1) := by decide +kernel
theorem dL_law_1159 : decode cL_law 1159 = .ok (.iload 4, 2) := by decide +kernel
theorem dL_law_1161 : decode cL_law 1161 = .ok (.iconst 1, 1) := by decide +kernel
theorem dL_law_1162 : decode cL_law 1162 = .ok (.iadd, 1) := by decide +kernel
theorem dL_law_1163 : decode cL_law 1163 = .ok (.iaload, 1) := by decide +kernel
theorem dL_law_1164 : decode cL_law 1164 = .ok (.aload_n 0, 1) := by decide +kernel
theorem dL_law_1165 : decode cL_law 1165 = .ok (.iload 4, 2) := by decide +kernel
theorem dL_law_1167 : decode cL_law 1167 = .ok (.iconst 2, 1) := by decide +kernel
theorem dL_law_1168 : decode cL_law 1168 = .ok (.iadd, 1) := by decide +kernel
theorem dL_law_1169 : decode cL_law 1169 = .ok (.iaload, 1) := by decide +kernel
theorem dL_law_1170 : decode cL_law 1170 = .ok (.invokevirtual 190, 3) := by decide +kernel
theorem dL_law_1173 : decode cL_law 1173 = .ok (.if_icmp .eq 362, 3) := by decide +kernel
theorem dL_law_1176 : decode cL_law 1176 = .ok (.iconst 0, 1) := by decide +kernel
theorem dL_law_1177 : decode cL_law 1177 = .ok (.ireturn, 1) := by decide +kernel
theorem dL_law_1178 : decode cL_law 1178 = .ok (.aload_n 1, 1) := by decide +kernel
theorem dL_law_1179 : decode cL_law 1179 = .ok (.aload_n 0, 1) := by decide +kernel
theorem dL_law_1180 : decode cL_law 1180 = .ok (.iload 4, 2) := by decide +kernel
theorem dL_law_1182 : decode cL_law 1182 = .ok (.iconst 1, 1) := by decide +kernel
theorem dL_law_1183 : decode cL_law 1183 = .ok (.iadd, 1) := by decide +kernel
theorem dL_law_1184 : decode cL_law 1184 = .ok (.iaload, 1) := by decide +kernel
theorem dL_law_1185 : decode cL_law 1185 = .ok (.aload_n 0, 1) := by decide +kernel
theorem dL_law_1186 : decode cL_law 1186 = .ok (.iload 4, 2) := by decide +kernel
theorem dL_law_1188 : decode cL_law 1188 = .ok (.iconst 2, 1) := by decide +kernel
theorem dL_law_1189 : decode cL_law 1189 = .ok (.iadd, 1) := by decide +kernel
theorem dL_law_1190 : decode cL_law 1190 = .ok (.iaload, 1) := by decide +kernel
theorem dL_law_1191 : decode cL_law 1191 = .ok (.invokevirtual 191, 3) := by decide +kernel
theorem dL_law_1194 : decode cL_law 1194 = .ok (.aload_n 2, 1) := by decide +kernel
theorem dL_law_1195 : decode cL_law 1195 = .ok (.aload_n 0, 1) := by decide +kernel
theorem dL_law_1196 : decode cL_law 1196 = .ok (.iload 4, 2) := by decide +kernel
theorem dL_law_1198 : decode cL_law 1198 = .ok (.iconst 1, 1) := by decide +kernel
theorem dL_law_1199 : decode cL_law 1199 = .ok (.iadd, 1) := by decide +kernel
theorem dL_law_1200 : decode cL_law 1200 = .ok (.iaload, 1) := by decide +kernel
theorem dL_law_1201 : decode cL_law 1201 = .ok (.aload_n 0, 1) := by decide +kernel
theorem dL_law_1202 : decode cL_law 1202 = .ok (.iload 4, 2) := by decide +kernel
theorem dL_law_1204 : decode cL_law 1204 = .ok (.iconst 2, 1) := by decide +kernel
theorem dL_law_1205 : decode cL_law 1205 = .ok (.iadd, 1) := by decide +kernel
theorem dL_law_1206 : decode cL_law 1206 = .ok (.iaload, 1) := by decide +kernel
theorem dL_law_1207 : decode cL_law 1207 = .ok (.invokevirtual 194, 3) := by decide +kernel
theorem dL_law_1210 : decode cL_law 1210 = .ok (.if_icmp .eq 325, 3) := by decide +kernel
theorem dL_law_1213 : decode cL_law 1213 = .ok (.iconst 0, 1) := by decide +kernel
theorem dL_law_1214 : decode cL_law 1214 = .ok (.ireturn, 1) := by decide +kernel
theorem dL_law_1215 : decode cL_law 1215 = .ok (.aload_n 1, 1) := by decide +kernel
theorem dL_law_1216 : decode cL_law 1216 = .ok (.aload_n 0, 1) := by decide +kernel
theorem dL_law_1217 : decode cL_law 1217 = .ok (.iload 4, 2) := by decide +kernel
theorem dL_law_1219 : decode cL_law 1219 = .ok (.iconst 1, 1) := by decide +kernel
theorem dL_law_1220 : decode cL_law 1220 = .ok (.iadd, 1) := by decide +kernel
theorem dL_law_1221 : decode cL_law 1221 = .ok (.iaload, 1) := by decide +kernel
theorem dL_law_1222 : decode cL_law 1222 = .ok (.aload_n 0, 1) := by decide +kernel
theorem dL_law_1223 : decode cL_law 1223 = .ok (.iload 4, 2) := by decide +kernel
theorem dL_law_1225 : decode cL_law 1225 = .ok (.iconst 2, 1) := by decide +kernel
theorem dL_law_1226 : decode cL_law 1226 = .ok (.iadd, 1) := by decide +kernel
theorem dL_law_1227 : decode cL_law 1227 = .ok (.iaload, 1) := by decide +kernel
theorem dL_law_1228 : decode cL_law 1228 = .ok (.invokevirtual 195, 3) := by decide +kernel
theorem dL_law_1231 : decode cL_law 1231 = .ok (.aload_n 2, 1) := by decide +kernel
theorem dL_law_1232 : decode cL_law 1232 = .ok (.aload_n 0, 1) := by decide +kernel
theorem dL_law_1233 : decode cL_law 1233 = .ok (.iload 4, 2) := by decide +kernel
theorem dL_law_1235 : decode cL_law 1235 = .ok (.iconst 1, 1) := by decide +kernel
theorem dL_law_1236 : decode cL_law 1236 = .ok (.iadd, 1) := by decide +kernel
theorem dL_law_1237 : decode cL_law 1237 = .ok (.iaload, 1) := by decide +kernel
theorem dL_law_1238 : decode cL_law 1238 = .ok (.aload_n 0, 1) := by decide +kernel
theorem dL_law_1239 : decode cL_law 1239 = .ok (.iload 4, 2) := by decide +kernel
theorem dL_law_1241 : decode cL_law 1241 = .ok (.iconst 2, 1) := by decide +kernel
theorem dL_law_1242 : decode cL_law 1242 = .ok (.iadd, 1) := by decide +kernel
theorem dL_law_1243 : decode cL_law 1243 = .ok (.iaload, 1) := by decide +kernel
theorem dL_law_1244 : decode cL_law 1244 = .ok (.invokevirtual 198, 3) := by decide +kernel
theorem dL_law_1247 : decode cL_law 1247 = .ok (.if_icmp .eq 288, 3) := by decide +kernel
theorem dL_law_1250 : decode cL_law 1250 = .ok (.iconst 0, 1) := by decide +kernel
theorem dL_law_1251 : decode cL_law 1251 = .ok (.ireturn, 1) := by decide +kernel
theorem dL_law_1252 : decode cL_law 1252 = .ok (.aload_n 1, 1) := by decide +kernel
theorem dL_law_1253 : decode cL_law 1253 = .ok (.aload_n 0, 1) := by decide +kernel
theorem dL_law_1254 : decode cL_law 1254 = .ok (.iload 4, 2) := by decide +kernel
theorem dL_law_1256 : decode cL_law 1256 = .ok (.iconst 1, 1) := by decide +kernel
theorem dL_law_1257 : decode cL_law 1257 = .ok (.iadd, 1) := by decide +kernel
theorem dL_law_1258 : decode cL_law 1258 = .ok (.iaload, 1) := by decide +kernel
theorem dL_law_1259 : decode cL_law 1259 = .ok (.invokevirtual 199, 3) := by decide +kernel
theorem dL_law_1262 : decode cL_law 1262 = .ok (.aload_n 2, 1) := by decide +kernel
theorem dL_law_1263 : decode cL_law 1263 = .ok (.aload_n 0, 1) := by decide +kernel
theorem dL_law_1264 : decode cL_law 1264 = .ok (.iload 4, 2) := by decide +kernel
theorem dL_law_1266 : decode cL_law 1266 = .ok (.iconst 1, 1) := by decide +kernel
theorem dL_law_1267 : decode cL_law 1267 = .ok (.iadd, 1) := by decide +kernel
theorem dL_law_1268 : decode cL_law 1268 = .ok (.iaload, 1) := by decide +kernel
theorem dL_law_1269 : decode cL_law 1269 = .ok (.invokevirtual 202, 3) := by decide +kernel
theorem dL_law_1272 : decode cL_law 1272 = .ok (.if_icmp .eq 263, 3) := by decide +kernel
theorem dL_law_1275 : decode cL_law 1275 = .ok (.iconst 0, 1) := by decide +kernel
theorem dL_law_1276 : decode cL_law 1276 = .ok (.ireturn, 1) := by decide +kernel
theorem dL_law_1277 : decode cL_law 1277 = .ok (.aload_n 1, 1) := by decide +kernel
theorem dL_law_1278 : decode cL_law 1278 = .ok (.aload_n 0, 1) := by decide +kernel
theorem dL_law_1279 : decode cL_law 1279 = .ok (.iload 4, 2) := by decide +kernel
theorem dL_law_1281 : decode cL_law 1281 = .ok (.iconst 1, 1) := by decide +kernel
theorem dL_law_1282 : decode cL_law 1282 = .ok (.iadd, 1) := by decide +kernel
theorem dL_law_1283 : decode cL_law 1283 = .ok (.iaload, 1) := by decide +kernel
theorem dL_law_1284 : decode cL_law 1284 = .ok (.invokevirtual 203, 3) := by decide +kernel
theorem dL_law_1287 : decode cL_law 1287 = .ok (.aload_n 2, 1) := by decide +kernel
theorem dL_law_1288 : decode cL_law 1288 = .ok (.aload_n 0, 1) := by decide +kernel
theorem dL_law_1289 : decode cL_law 1289 = .ok (.iload 4, 2) := by decide +kernel
theorem dL_law_1291 : decode cL_law 1291 = .ok (.iconst 1, 1) := by decide +kernel
theorem dL_law_1292 : decode cL_law 1292 = .ok (.iadd, 1) := by decide +kernel
theorem dL_law_1293 : decode cL_law 1293 = .ok (.iaload, 1) := by decide +kernel
theorem dL_law_1294 : decode cL_law 1294 = .ok (.invokevirtual 206, 3) := by decide +kernel
theorem dL_law_1297 : decode cL_law 1297 = .ok (.if_icmp .eq 238, 3) := by decide +kernel
theorem dL_law_1300 : decode cL_law 1300 = .ok (.iconst 0, 1) := by decide +kernel
theorem dL_law_1301 : decode cL_law 1301 = .ok (.ireturn, 1) := by decide +kernel
theorem dL_law_1302 : decode cL_law 1302 = .ok (.aload_n 1, 1) := by decide +kernel
theorem dL_law_1303 : decode cL_law 1303 = .ok (.aload_n 0, 1) := by decide +kernel
theorem dL_law_1304 : decode cL_law 1304 = .ok (.iload 4, 2) := by decide +kernel
theorem dL_law_1306 : decode cL_law 1306 = .ok (.iconst 1, 1) := by decide +kernel
theorem dL_law_1307 : decode cL_law 1307 = .ok (.iadd, 1) := by decide +kernel
theorem dL_law_1308 : decode cL_law 1308 = .ok (.iaload, 1) := by decide +kernel
theorem dL_law_1309 : decode cL_law 1309 = .ok (.invokevirtual 207, 3) := by decide +kernel
theorem dL_law_1312 : decode cL_law 1312 = .ok (.aload_n 2, 1) := by decide +kernel
theorem dL_law_1313 : decode cL_law 1313 = .ok (.aload_n 0, 1) := by decide +kernel
theorem dL_law_1314 : decode cL_law 1314 = .ok (.iload 4, 2) := by decide +kernel
theorem dL_law_1316 : decode cL_law 1316 = .ok (.iconst 1, 1) := by decide +kernel
theorem dL_law_1317 : decode cL_law 1317 = .ok (.iadd, 1) := by decide +kernel
theorem dL_law_1318 : decode cL_law 1318 = .ok (.iaload, 1) := by decide +kernel
theorem dL_law_1319 : decode cL_law 1319 = .ok (.invokevirtual 211, 3) := by decide +kernel
theorem dL_law_1322 : decode cL_law 1322 = .ok (.if_icmp .eq 213, 3) := by decide +kernel
theorem dL_law_1325 : decode cL_law 1325 = .ok (.iconst 0, 1) := by decide +kernel
theorem dL_law_1326 : decode cL_law 1326 = .ok (.ireturn, 1) := by decide +kernel
theorem dL_law_1327 : decode cL_law 1327 = .ok (.aload_n 1, 1) := by decide +kernel
theorem dL_law_1328 : decode cL_law 1328 = .ok (.aload_n 0, 1) := by decide +kernel
theorem dL_law_1329 : decode cL_law 1329 = .ok (.iload 4, 2) := by decide +kernel
theorem dL_law_1331 : decode cL_law 1331 = .ok (.iconst 1, 1) := by decide +kernel
theorem dL_law_1332 : decode cL_law 1332 = .ok (.iadd, 1) := by decide +kernel
theorem dL_law_1333 : decode cL_law 1333 = .ok (.iaload, 1) := by decide +kernel
theorem dL_law_1334 : decode cL_law 1334 = .ok (.invokevirtual 212, 3) := by decide +kernel
theorem dL_law_1337 : decode cL_law 1337 = .ok (.aload_n 2, 1) := by decide +kernel
theorem dL_law_1338 : decode cL_law 1338 = .ok (.aload_n 0, 1) := by decide +kernel
theorem dL_law_1339 : decode cL_law 1339 = .ok (.iload 4, 2) := by decide +kernel
theorem dL_law_1341 : decode cL_law 1341 = .ok (.iconst 1, 1) := by decide +kernel
theorem dL_law_1342 : decode cL_law 1342 = .ok (.iadd, 1) := by decide +kernel
theorem dL_law_1343 : decode cL_law 1343 = .ok (.iaload, 1) := by decide +kernel
theorem dL_law_1344 : decode cL_law 1344 = .ok (.invokevirtual 215, 3) := by decide +kernel
theorem dL_law_1347 : decode cL_law 1347 = .ok (.if_icmp .eq 188, 3) := by decide +kernel
theorem dL_law_1350 : decode cL_law 1350 = .ok (.iconst 0, 1) := by decide +kernel
theorem dL_law_1351 : decode cL_law 1351 = .ok (.ireturn, 1) := by decide +kernel
theorem dL_law_1352 : decode cL_law 1352 = .ok (.aload_n 1, 1) := by decide +kernel
theorem dL_law_1353 : decode cL_law 1353 = .ok (.invokevirtual 216, 3) := by decide +kernel
theorem dL_law_1356 : decode cL_law 1356 = .ok (.aload_n 2, 1) := by decide +kernel
theorem dL_law_1357 : decode cL_law 1357 = .ok (.invokevirtual 219, 3) := by decide +kernel
theorem dL_law_1360 : decode cL_law 1360 = .ok (.if_icmp .eq 175, 3) := by decide +kernel
theorem dL_law_1363 : decode cL_law 1363 = .ok (.iconst 0, 1) := by decide +kernel
theorem dL_law_1364 : decode cL_law 1364 = .ok (.ireturn, 1) := by decide +kernel
theorem dL_law_1365 : decode cL_law 1365 = .ok (.aload_n 1, 1) := by decide +kernel
theorem dL_law_1366 : decode cL_law 1366 = .ok (.aload_n 0, 1) := by decide +kernel
theorem dL_law_1367 : decode cL_law 1367 = .ok (.iload 4, 2) := by decide +kernel
theorem dL_law_1369 : decode cL_law 1369 = .ok (.iconst 1, 1) := by decide +kernel
theorem dL_law_1370 : decode cL_law 1370 = .ok (.iadd, 1) := by decide +kernel
theorem dL_law_1371 : decode cL_law 1371 = .ok (.iaload, 1) := by decide +kernel
theorem dL_law_1372 : decode cL_law 1372 = .ok (.invokevirtual 220, 3) := by decide +kernel
theorem dL_law_1375 : decode cL_law 1375 = .ok (.aload_n 2, 1) := by decide +kernel
theorem dL_law_1376 : decode cL_law 1376 = .ok (.aload_n 0, 1) := by decide +kernel
theorem dL_law_1377 : decode cL_law 1377 = .ok (.iload 4, 2) := by decide +kernel
theorem dL_law_1379 : decode cL_law 1379 = .ok (.iconst 1, 1) := by decide +kernel
theorem dL_law_1380 : decode cL_law 1380 = .ok (.iadd, 1) := by decide +kernel
theorem dL_law_1381 : decode cL_law 1381 = .ok (.iaload, 1) := by decide +kernel
theorem dL_law_1382 : decode cL_law 1382 = .ok (.invokevirtual 223, 3) := by decide +kernel
theorem dL_law_1385 : decode cL_law 1385 = .ok (.if_icmp .eq 150, 3) := by decide +kernel
theorem dL_law_1388 : decode cL_law 1388 = .ok (.iconst 0, 1) := by decide +kernel
theorem dL_law_1389 : decode cL_law 1389 = .ok (.ireturn, 1) := by decide +kernel
theorem dL_law_1390 : decode cL_law 1390 = .ok (.aload_n 1, 1) := by decide +kernel
theorem dL_law_1391 : decode cL_law 1391 = .ok (.invokevirtual 224, 3) := by decide +kernel
theorem dL_law_1394 : decode cL_law 1394 = .ok (.aload_n 2, 1) := by decide +kernel
theorem dL_law_1395 : decode cL_law 1395 = .ok (.invokevirtual 228, 3) := by decide +kernel
theorem dL_law_1398 : decode cL_law 1398 = .ok (.if_icmp .eq 137, 3) := by decide +kernel
theorem dL_law_1401 : decode cL_law 1401 = .ok (.iconst 0, 1) := by decide +kernel
theorem dL_law_1402 : decode cL_law 1402 = .ok (.ireturn, 1) := by decide +kernel
theorem dL_law_1403 : decode cL_law 1403 = .ok (.aload_n 1, 1) := by decide +kernel
theorem dL_law_1404 : decode cL_law 1404 = .ok (.invokevirtual 229, 3) := by decide +kernel
theorem dL_law_1407 : decode cL_law 1407 = .ok (.aload_n 2, 1) := by decide +kernel
theorem dL_law_1408 : decode cL_law 1408 = .ok (.invokevirtual 232, 3) := by decide +kernel
theorem dL_law_1411 : decode cL_law 1411 = .ok (.if_icmp .eq 124, 3) := by decide +kernel
theorem dL_law_1414 : decode cL_law 1414 = .ok (.iconst 0, 1) := by decide +kernel
theorem dL_law_1415 : decode cL_law 1415 = .ok (.ireturn, 1) := by decide +kernel
theorem dL_law_1416 : decode cL_law 1416 = .ok (.aload_n 1, 1) := by decide +kernel
theorem dL_law_1417 : decode cL_law 1417 = .ok (.aload_n 0, 1) := by decide +kernel
theorem dL_law_1418 : decode cL_law 1418 = .ok (.iload 4, 2) := by decide +kernel
theorem dL_law_1420 : decode cL_law 1420 = .ok (.iconst 1, 1) := by decide +kernel
theorem dL_law_1421 : decode cL_law 1421 = .ok (.iadd, 1) := by decide +kernel
theorem dL_law_1422 : decode cL_law 1422 = .ok (.iaload, 1) := by decide +kernel
theorem dL_law_1423 : decode cL_law 1423 = .ok (.invokevirtual 233, 3) := by decide +kernel
theorem dL_law_1426 : decode cL_law 1426 = .ok (.aload_n 2, 1) := by decide +kernel
theorem dL_law_1427 : decode cL_law 1427 = .ok (.aload_n 0, 1) := by decide +kernel
theorem dL_law_1428 : decode cL_law 1428 = .ok (.iload 4, 2) := by decide +kernel
theorem dL_law_1430 : decode cL_law 1430 = .ok (.iconst 1, 1) := by decide +kernel
theorem dL_law_1431 : decode cL_law 1431 = .ok (.iadd, 1) := by decide +kernel
theorem dL_law_1432 : decode cL_law 1432 = .ok (.iaload, 1) := by decide +kernel
theorem dL_law_1433 : decode cL_law 1433 = .ok (.invokevirtual 236, 3) := by decide +kernel
theorem dL_law_1436 : decode cL_law 1436 = .ok (.if_icmp .eq 99, 3) := by decide +kernel
theorem dL_law_1439 : decode cL_law 1439 = .ok (.iconst 0, 1) := by decide +kernel
theorem dL_law_1440 : decode cL_law 1440 = .ok (.ireturn, 1) := by decide +kernel
theorem dL_law_1441 : decode cL_law 1441 = .ok (.aload_n 1, 1) := by decide +kernel
theorem dL_law_1442 : decode cL_law 1442 = .ok (.aload_n 0, 1) := by decide +kernel
theorem dL_law_1443 : decode cL_law 1443 = .ok (.iload 4, 2) := by decide +kernel
theorem dL_law_1445 : decode cL_law 1445 = .ok (.iconst 1, 1) := by decide +kernel
theorem dL_law_1446 : decode cL_law 1446 = .ok (.iadd, 1) := by decide +kernel
theorem dL_law_1447 : decode cL_law 1447 = .ok (.iaload, 1) := by decide +kernel
theorem dL_law_1448 : decode cL_law 1448 = .ok (.aload_n 3, 1) := by decide +kernel
theorem dL_law_1449 : decode cL_law 1449 = .ok (.invokestatic 237, 3) := by decide +kernel
theorem dL_law_1452 : decode cL_law 1452 = .ok (.istore 5, 2) := by decide +kernel
theorem dL_law_1454 : decode cL_law 1454 = .ok (.aload_n 2, 1) := by decide +kernel
theorem dL_law_1455 : decode cL_law 1455 = .ok (.aload_n 0, 1) := by decide +kernel
theorem dL_law_1456 : decode cL_law 1456 = .ok (.iload 4, 2) := by decide +kernel
theorem dL_law_1458 : decode cL_law 1458 = .ok (.iconst 1, 1) := by decide +kernel
theorem dL_law_1459 : decode cL_law 1459 = .ok (.iadd, 1) := by decide +kernel
theorem dL_law_1460 : decode cL_law 1460 = .ok (.iaload, 1) := by decide +kernel
theorem dL_law_1461 : decode cL_law 1461 = .ok (.invokevirtual 242, 3) := by decide +kernel
theorem dL_law_1464 : decode cL_law 1464 = .ok (.istore 6, 2) := by decide +kernel
theorem dL_law_1466 : decode cL_law 1466 = .ok (.aload_n 2, 1) := by decide +kernel
theorem dL_law_1467 : decode cL_law 1467 = .ok (.invokevirtual 243, 3) := by decide +kernel
theorem dL_law_1470 : decode cL_law 1470 = .ok (.iload 5, 2) := by decide +kernel
theorem dL_law_1472 : decode cL_law 1472 = .ok (.if_icmp .eq 5, 3) := by decide +kernel
theorem dL_law_1475 : decode cL_law 1475 = .ok (.iconst 0, 1) := by decide +kernel
theorem dL_law_1476 : decode cL_law 1476 = .ok (.ireturn, 1) := by decide +kernel
theorem dL_law_1477 : decode cL_law 1477 = .ok (.iload 5, 2) := by decide +kernel
theorem dL_law_1479 : decode cL_law 1479 = .ok (.ifCond .ne 15, 3) := by decide +kernel
theorem dL_law_1482 : decode cL_law 1482 = .ok (.aload_n 3, 1) := by decide +kernel
theorem dL_law_1483 : decode cL_law 1483 = .ok (.iconst 0, 1) := by decide +kernel
theorem dL_law_1484 : decode cL_law 1484 = .ok (.laload, 1) := by decide +kernel
theorem dL_law_1485 : decode cL_law 1485 = .ok (.iload 6, 2) := by decide +kernel
theorem dL_law_1487 : decode cL_law 1487 = .ok (.i2l, 1) := by decide +kernel
theorem dL_law_1488 : decode cL_law 1488 = .ok (.lcmp, 1) := by decide +kernel
theorem dL_law_1489 : decode cL_law 1489 = .ok (.ifCond .eq 5, 3) := by decide +kernel
theorem dL_law_1492 : decode cL_law 1492 = .ok (.iconst 0, 1) := by decide +kernel
theorem dL_law_1493 : decode cL_law 1493 = .ok (.ireturn, 1) := by decide +kernel
theorem dL_law_1494 : decode cL_law 1494 = .ok (.goto 41, 3) := by decide +kernel
theorem dL_law_1497 : decode cL_law 1497 = .ok (.aload_n 1, 1) := by decide +kernel
theorem dL_law_1498 : decode cL_law 1498 = .ok (.aload_n 0, 1) := by decide +kernel
theorem dL_law_1499 : decode cL_law 1499 = .ok (.iload 4, 2) := by decide +kernel
theorem dL_law_1501 : decode cL_law 1501 = .ok (.iconst 1, 1) := by decide +kernel
theorem dL_law_1502 : decode cL_law 1502 = .ok (.iadd, 1) := by decide +kernel
theorem dL_law_1503 : decode cL_law 1503 = .ok (.iaload, 1) := by decide +kernel
theorem dL_law_1504 : decode cL_law 1504 = .ok (.invokevirtual 246, 3) := by decide +kernel
theorem dL_law_1507 : decode cL_law 1507 = .ok (.aload_n 2, 1) := by decide +kernel
theorem dL_law_1508 : decode cL_law 1508 = .ok (.aload_n 0, 1) := by decide +kernel
theorem dL_law_1509 : decode cL_law 1509 = .ok (.iload 4, 2) := by decide +kernel
theorem dL_law_1511 : decode cL_law 1511 = .ok (.iconst 1, 1) := by decide +kernel
theorem dL_law_1512 : decode cL_law 1512 = .ok (.iadd, 1) := by decide +kernel
theorem dL_law_1513 : decode cL_law 1513 = .ok (.iaload, 1) := by decide +kernel
theorem dL_law_1514 : decode cL_law 1514 = .ok (.invokevirtual 249, 3) := by decide +kernel
theorem dL_law_1517 : decode cL_law 1517 = .ok (.if_icmp .eq 18, 3) := by decide +kernel
theorem dL_law_1520 : decode cL_law 1520 = .ok (.iconst 0, 1) := by decide +kernel
theorem dL_law_1521 : decode cL_law 1521 = .ok (.ireturn, 1) := by decide +kernel
theorem dL_law_1522 : decode cL_law 1522 = .ok (.aload_n 1, 1) := by decide +kernel
theorem dL_law_1523 : decode cL_law 1523 = .ok (.invokevirtual 250, 3) := by decide +kernel
theorem dL_law_1526 : decode cL_law 1526 = .ok (.aload_n 2, 1) := by decide +kernel
theorem dL_law_1527 : decode cL_law 1527 = .ok (.invokevirtual 253, 3) := by decide +kernel
theorem dL_law_1530 : decode cL_law 1530 = .ok (.if_icmp .eq 5, 3) := by decide +kernel
theorem dL_law_1533 : decode cL_law 1533 = .ok (.iconst 0, 1) := by decide +kernel
theorem dL_law_1534 : decode cL_law 1534 = .ok (.ireturn, 1) := by decide +kernel
theorem dL_law_1535 : decode cL_law 1535 = .ok (.iinc 4 6, 3) := by decide +kernel
theorem dL_law_1538 : decode cL_law 1538 = .ok (.goto (-1515), 3) := by decide +kernel
theorem dL_law_1541 : decode cL_law 1541 = .ok (.iconst 1, 1) := by decide +kernel
theorem dL_law_1542 : decode cL_law 1542 = .ok (.ireturn, 1) := by decide +kernel
