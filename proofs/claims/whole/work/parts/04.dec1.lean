theorem dX9_farthest_10 : decode cX9_farthest 10 = .ok (.getfield 24, 3) := by decide +kernel
theorem dX9_farthest_13 : decode cX9_farthest 13 = .ok (.invokevirtual 27, 3) := by decide +kernel
theorem dX9_farthest_16 : decode cX9_farthest 16 = .ok (.bipush (-2), 2) := by decide +kernel
theorem dX9_farthest_18 : decode cX9_farthest 18 = .ok (.istore_n 3, 1) := by decide +kernel
theorem dX9_farthest_19 : decode cX9_farthest 19 = .ok (.iconst (-1), 1) := by decide +kernel
theorem dX9_farthest_20 : decode cX9_farthest 20 = .ok (.istore 4, 2) := by decide +kernel
theorem dX9_farthest_22 : decode cX9_farthest 22 = .ok (.iconst 0, 1) := by decide +kernel
theorem dX9_farthest_23 : decode cX9_farthest 23 = .ok (.istore 5, 2) := by decide +kernel
theorem dX9_farthest_25 : decode cX9_farthest 25 = .ok (.iload 5, 2) := by decide +kernel
theorem dX9_farthest_27 : decode cX9_farthest 27 = .ok (.aload_n 1, 1) := by decide +kernel
theorem dX9_farthest_28 : decode cX9_farthest 28 = .ok (.getfield 53, 3) := by decide +kernel
theorem dX9_farthest_31 : decode cX9_farthest 31 = .ok (.if_icmp .ge 35, 3) := by decide +kernel
theorem dX9_farthest_34 : decode cX9_farthest 34 = .ok (.aload_n 0, 1) := by decide +kernel
theorem dX9_farthest_35 : decode cX9_farthest 35 = .ok (.aload_n 1, 1) := by decide +kernel
theorem dX9_farthest_36 : decode cX9_farthest 36 = .ok (.iload 5, 2) := by decide +kernel
theorem dX9_farthest_38 : decode cX9_farthest 38 = .ok (.invokevirtual 31, 3) := by decide +kernel
theorem dX9_farthest_41 : decode cX9_farthest 41 = .ok (.invokestatic 56, 3) := by decide +kernel
theorem dX9_farthest_44 : decode cX9_farthest 44 = .ok (.istore 6, 2) := by decide +kernel
theorem dX9_farthest_46 : decode cX9_farthest 46 = .ok (.iload 6, 2) := by decide +kernel
theorem dX9_farthest_48 : decode cX9_farthest 48 = .ok (.iload 4, 2) := by decide +kernel
theorem dX9_farthest_50 : decode cX9_farthest 50 = .ok (.if_icmp .le 10, 3) := by decide +kernel
theorem dX9_farthest_53 : decode cX9_farthest 53 = .ok (.iload 6, 2) := by decide +kernel
theorem dX9_farthest_55 : decode cX9_farthest 55 = .ok (.istore 4, 2) := by decide +kernel
theorem dX9_farthest_57 : decode cX9_farthest 57 = .ok (.iload 5, 2) := by decide +kernel
theorem dX9_farthest_59 : decode cX9_farthest 59 = .ok (.istore_n 3, 1) := by decide +kernel
theorem dX9_farthest_60 : decode cX9_farthest 60 = .ok (.iinc 5 1, 3) := by decide +kernel
theorem dX9_farthest_63 : decode cX9_farthest 63 = .ok (.goto (-38), 3) := by decide +kernel
theorem dX9_farthest_66 : decode cX9_farthest 66 = .ok (.iload_n 3, 1) := by decide +kernel
theorem dX9_farthest_67 : decode cX9_farthest 67 = .ok (.ireturn, 1) := by decide +kernel
theorem dX9_easedFor_0 : decode cX9_easedFor 0 = .ok (.iconst 1, 1) := by decide +kernel
theorem dX9_easedFor_1 : decode cX9_easedFor 1 = .ok (.aload_n 1, 1) := by decide +kernel
theorem dX9_easedFor_2 : decode cX9_easedFor 2 = .ok (.getfield 35, 3) := by decide +kernel
theorem dX9_easedFor_5 : decode cX9_easedFor 5 = .ok (.ishl, 1) := by decide +kernel
theorem dX9_easedFor_6 : decode cX9_easedFor 6 = .ok (.iconst 1, 1) := by decide +kernel
theorem dX9_easedFor_7 : decode cX9_easedFor 7 = .ok (.isub, 1) := by decide +kernel
theorem dX9_easedFor_8 : decode cX9_easedFor 8 = .ok (.istore 4, 2) := by decide +kernel
theorem dX9_easedFor_10 : decode cX9_easedFor 10 = .ok (.bipush (-2), 2) := by decide +kernel
theorem dX9_easedFor_12 : decode cX9_easedFor 12 = .ok (.istore 5, 2) := by decide +kernel
theorem dX9_easedFor_14 : decode cX9_easedFor 14 = .ok (.iconst 0, 1) := by decide +kernel
theorem dX9_easedFor_15 : decode cX9_easedFor 15 = .ok (.istore 6, 2) := by decide +kernel
theorem dX9_easedFor_17 : decode cX9_easedFor 17 = .ok (.iload 6, 2) := by decide +kernel
theorem dX9_easedFor_19 : decode cX9_easedFor 19 = .ok (.iconst 1, 1) := by decide +kernel
theorem dX9_easedFor_20 : decode cX9_easedFor 20 = .ok (.aload_n 1, 1) := by decide +kernel
theorem dX9_easedFor_21 : decode cX9_easedFor 21 = .ok (.getfield 62, 3) := by decide +kernel
theorem dX9_easedFor_24 : decode cX9_easedFor 24 = .ok (.ishl, 1) := by decide +kernel
theorem dX9_easedFor_25 : decode cX9_easedFor 25 = .ok (.if_icmp .ge 67, 3) := by decide +kernel
theorem dX9_easedFor_28 : decode cX9_easedFor 28 = .ok (.iload 6, 2) := by decide +kernel
theorem dX9_easedFor_30 : decode cX9_easedFor 30 = .ok (.aload_n 2, 1) := by decide +kernel
theorem dX9_easedFor_31 : decode cX9_easedFor 31 = .ok (.getfield 18, 3) := by decide +kernel
theorem dX9_easedFor_34 : decode cX9_easedFor 34 = .ok (.iconst (-1), 1) := by decide +kernel
theorem dX9_easedFor_35 : decode cX9_easedFor 35 = .ok (.ixor, 1) := by decide +kernel
theorem dX9_easedFor_36 : decode cX9_easedFor 36 = .ok (.iand, 1) := by decide +kernel
theorem dX9_easedFor_37 : decode cX9_easedFor 37 = .ok (.ifCond .ne 49, 3) := by decide +kernel
theorem dX9_easedFor_40 : decode cX9_easedFor 40 = .ok (.iload 6, 2) := by decide +kernel
theorem dX9_easedFor_42 : decode cX9_easedFor 42 = .ok (.iload 5, 2) := by decide +kernel
theorem dX9_easedFor_44 : decode cX9_easedFor 44 = .ok (.invokestatic 65, 3) := by decide +kernel
theorem dX9_easedFor_47 : decode cX9_easedFor 47 = .ok (.ifCond .eq 39, 3) := by decide +kernel
theorem dX9_easedFor_50 : decode cX9_easedFor 50 = .ok (.aload_n 0, 1) := by decide +kernel
theorem dX9_easedFor_51 : decode cX9_easedFor 51 = .ok (.getfield 12, 3) := by decide +kernel
theorem dX9_easedFor_54 : decode cX9_easedFor 54 = .ok (.aload_n 1, 1) := by decide +kernel
theorem dX9_easedFor_55 : decode cX9_easedFor 55 = .ok (.aload_n 2, 1) := by decide +kernel
theorem dX9_easedFor_56 : decode cX9_easedFor 56 = .ok (.getfield 18, 3) := by decide +kernel
theorem dX9_easedFor_59 : decode cX9_easedFor 59 = .ok (.iload 6, 2) := by decide +kernel
theorem dX9_easedFor_61 : decode cX9_easedFor 61 = .ok (.iconst (-1), 1) := by decide +kernel
theorem dX9_easedFor_62 : decode cX9_easedFor 62 = .ok (.ixor, 1) := by decide +kernel
theorem dX9_easedFor_63 : decode cX9_easedFor 63 = .ok (.iand, 1) := by decide +kernel
theorem dX9_easedFor_64 : decode cX9_easedFor 64 = .ok (.aload_n 2, 1) := by decide +kernel
theorem dX9_easedFor_65 : decode cX9_easedFor 65 = .ok (.getfield 24, 3) := by decide +kernel
theorem dX9_easedFor_68 : decode cX9_easedFor 68 = .ok (.invokevirtual 27, 3) := by decide +kernel
theorem dX9_easedFor_71 : decode cX9_easedFor 71 = .ok (.aload_n 0, 1) := by decide +kernel
theorem dX9_easedFor_72 : decode cX9_easedFor 72 = .ok (.aload_n 1, 1) := by decide +kernel
theorem dX9_easedFor_73 : decode cX9_easedFor 73 = .ok (.iload_n 3, 1) := by decide +kernel
theorem dX9_easedFor_74 : decode cX9_easedFor 74 = .ok (.invokevirtual 31, 3) := by decide +kernel
theorem dX9_easedFor_77 : decode cX9_easedFor 77 = .ok (.iload 4, 2) := by decide +kernel
theorem dX9_easedFor_79 : decode cX9_easedFor 79 = .ok (.if_icmp .ne 7, 3) := by decide +kernel
theorem dX9_easedFor_82 : decode cX9_easedFor 82 = .ok (.iload 6, 2) := by decide +kernel
theorem dX9_easedFor_84 : decode cX9_easedFor 84 = .ok (.istore 5, 2) := by decide +kernel
theorem dX9_easedFor_86 : decode cX9_easedFor 86 = .ok (.iinc 6 1, 3) := by decide +kernel
theorem dX9_easedFor_89 : decode cX9_easedFor 89 = .ok (.goto (-72), 3) := by decide +kernel
theorem dX9_easedFor_92 : decode cX9_easedFor 92 = .ok (.iload 5, 2) := by decide +kernel
theorem dX9_easedFor_94 : decode cX9_easedFor 94 = .ok (.ireturn, 1) := by decide +kernel
theorem dX9_fewestHands_0 : decode cX9_fewestHands 0 = .ok (.bipush (-2), 2) := by decide +kernel
theorem dX9_fewestHands_2 : decode cX9_fewestHands 2 = .ok (.istore_n 3, 1) := by decide +kernel
theorem dX9_fewestHands_3 : decode cX9_fewestHands 3 = .ok (.iconst 0, 1) := by decide +kernel
theorem dX9_fewestHands_4 : decode cX9_fewestHands 4 = .ok (.istore 4, 2) := by decide +kernel
theorem dX9_fewestHands_6 : decode cX9_fewestHands 6 = .ok (.iload 4, 2) := by decide +kernel
theorem dX9_fewestHands_8 : decode cX9_fewestHands 8 = .ok (.iconst 1, 1) := by decide +kernel
theorem dX9_fewestHands_9 : decode cX9_fewestHands 9 = .ok (.aload_n 1, 1) := by decide +kernel
theorem dX9_fewestHands_10 : decode cX9_fewestHands 10 = .ok (.getfield 69, 3) := by decide +kernel
theorem dX9_fewestHands_13 : decode cX9_fewestHands 13 = .ok (.ishl, 1) := by decide +kernel
theorem dX9_fewestHands_14 : decode cX9_fewestHands 14 = .ok (.if_icmp .ge 31, 3) := by decide +kernel
theorem dX9_fewestHands_17 : decode cX9_fewestHands 17 = .ok (.iload 4, 2) := by decide +kernel
theorem dX9_fewestHands_19 : decode cX9_fewestHands 19 = .ok (.iload_n 3, 1) := by decide +kernel
theorem dX9_fewestHands_20 : decode cX9_fewestHands 20 = .ok (.invokestatic 65, 3) := by decide +kernel
theorem dX9_fewestHands_23 : decode cX9_fewestHands 23 = .ok (.ifCond .eq 16, 3) := by decide +kernel
theorem dX9_fewestHands_26 : decode cX9_fewestHands 26 = .ok (.aload_n 1, 1) := by decide +kernel
theorem dX9_fewestHands_27 : decode cX9_fewestHands 27 = .ok (.iload 4, 2) := by decide +kernel
theorem dX9_fewestHands_29 : decode cX9_fewestHands 29 = .ok (.invokestatic 72, 3) := by decide +kernel
theorem dX9_fewestHands_32 : decode cX9_fewestHands 32 = .ok (.iload_n 2, 1) := by decide +kernel
theorem dX9_fewestHands_33 : decode cX9_fewestHands 33 = .ok (.if_icmp .lt 6, 3) := by decide +kernel
theorem dX9_fewestHands_36 : decode cX9_fewestHands 36 = .ok (.iload 4, 2) := by decide +kernel
theorem dX9_fewestHands_38 : decode cX9_fewestHands 38 = .ok (.istore_n 3, 1) := by decide +kernel
theorem dX9_fewestHands_39 : decode cX9_fewestHands 39 = .ok (.iinc 4 1, 3) := by decide +kernel
theorem dX9_fewestHands_42 : decode cX9_fewestHands 42 = .ok (.goto (-36), 3) := by decide +kernel
theorem dX9_fewestHands_45 : decode cX9_fewestHands 45 = .ok (.iload_n 3, 1) := by decide +kernel
theorem dX9_fewestHands_46 : decode cX9_fewestHands 46 = .ok (.ireturn, 1) := by decide +kernel
theorem dX9_isFewer_0 : decode cX9_isFewer 0 = .ok (.iload_n 1, 1) := by decide +kernel
theorem dX9_isFewer_1 : decode cX9_isFewer 1 = .ok (.bipush (-2), 2) := by decide +kernel
theorem dX9_isFewer_3 : decode cX9_isFewer 3 = .ok (.if_icmp .eq 14, 3) := by decide +kernel
theorem dX9_isFewer_6 : decode cX9_isFewer 6 = .ok (.iload_n 0, 1) := by decide +kernel
theorem dX9_isFewer_7 : decode cX9_isFewer 7 = .ok (.invokestatic 56, 3) := by decide +kernel
theorem dX9_isFewer_10 : decode cX9_isFewer 10 = .ok (.iload_n 1, 1) := by decide +kernel
theorem dX9_isFewer_11 : decode cX9_isFewer 11 = .ok (.invokestatic 56, 3) := by decide +kernel
theorem dX9_isFewer_14 : decode cX9_isFewer 14 = .ok (.if_icmp .ge 7, 3) := by decide +kernel
theorem dX9_isFewer_17 : decode cX9_isFewer 17 = .ok (.iconst 1, 1) := by decide +kernel
theorem dX9_isFewer_18 : decode cX9_isFewer 18 = .ok (.goto 4, 3) := by decide +kernel
theorem dX9_isFewer_21 : decode cX9_isFewer 21 = .ok (.iconst 0, 1) := by decide +kernel
theorem dX9_isFewer_22 : decode cX9_isFewer 22 = .ok (.ireturn, 1) := by decide +kernel
theorem dX9_strength_0 : decode cX9_strength 0 = .ok (.iconst 0, 1) := by decide +kernel
theorem dX9_strength_1 : decode cX9_strength 1 = .ok (.istore_n 2, 1) := by decide +kernel
theorem dX9_strength_2 : decode cX9_strength 2 = .ok (.iconst 0, 1) := by decide +kernel
theorem dX9_strength_3 : decode cX9_strength 3 = .ok (.istore_n 3, 1) := by decide +kernel
theorem dX9_strength_4 : decode cX9_strength 4 = .ok (.iload_n 3, 1) := by decide +kernel
theorem dX9_strength_5 : decode cX9_strength 5 = .ok (.aload_n 0, 1) := by decide +kernel
theorem dX9_strength_6 : decode cX9_strength 6 = .ok (.getfield 69, 3) := by decide +kernel
theorem dX9_strength_9 : decode cX9_strength 9 = .ok (.if_icmp .ge 26, 3) := by decide +kernel
theorem dX9_strength_12 : decode cX9_strength 12 = .ok (.iload_n 1, 1) := by decide +kernel
theorem dX9_strength_13 : decode cX9_strength 13 = .ok (.iload_n 3, 1) := by decide +kernel
theorem dX9_strength_14 : decode cX9_strength 14 = .ok (.invokestatic 75, 3) := by decide +kernel
theorem dX9_strength_17 : decode cX9_strength 17 = .ok (.ifCond .eq 12, 3) := by decide +kernel
theorem dX9_strength_20 : decode cX9_strength 20 = .ok (.iload_n 2, 1) := by decide +kernel
theorem dX9_strength_21 : decode cX9_strength 21 = .ok (.aload_n 0, 1) := by decide +kernel
theorem dX9_strength_22 : decode cX9_strength 22 = .ok (.getfield 78, 3) := by decide +kernel
theorem dX9_strength_25 : decode cX9_strength 25 = .ok (.iload_n 3, 1) := by decide +kernel
theorem dX9_strength_26 : decode cX9_strength 26 = .ok (.iaload, 1) := by decide +kernel
theorem dX9_strength_27 : decode cX9_strength 27 = .ok (.iadd, 1) := by decide +kernel
theorem dX9_strength_28 : decode cX9_strength 28 = .ok (.istore_n 2, 1) := by decide +kernel
theorem dX9_strength_29 : decode cX9_strength 29 = .ok (.iinc 3 1, 3) := by decide +kernel
theorem dX9_strength_32 : decode cX9_strength 32 = .ok (.goto (-28), 3) := by decide +kernel
theorem dX9_strength_35 : decode cX9_strength 35 = .ok (.iload_n 2, 1) := by decide +kernel
theorem dX9_strength_36 : decode cX9_strength 36 = .ok (.ireturn, 1) := by decide +kernel
theorem dX10_init_0 : decode cX10_init 0 = .ok (.aload_n 0, 1) := by decide +kernel
theorem dX10_init_1 : decode cX10_init 1 = .ok (.invokespecial 3, 3) := by decide +kernel
theorem dX10_init_4 : decode cX10_init 4 = .ok (.aload_n 0, 1) := by decide +kernel
theorem dX10_init_5 : decode cX10_init 5 = .ok (.new 9, 3) := by decide +kernel
theorem dX10_init_8 : decode cX10_init 8 = .ok (.dup, 1) := by decide +kernel
theorem dX10_init_9 : decode cX10_init 9 = .ok (.invokespecial 11, 3) := by decide +kernel
theorem dX10_init_12 : decode cX10_init 12 = .ok (.putfield 12, 3) := by decide +kernel
theorem dX10_init_15 : decode cX10_init 15 = .ok (.aload_n 0, 1) := by decide +kernel
theorem dX10_init_16 : decode cX10_init 16 = .ok (.new 16, 3) := by decide +kernel
theorem dX10_init_19 : decode cX10_init 19 = .ok (.dup, 1) := by decide +kernel
theorem dX10_init_20 : decode cX10_init 20 = .ok (.invokespecial 18, 3) := by decide +kernel
theorem dX10_init_23 : decode cX10_init 23 = .ok (.putfield 19, 3) := by decide +kernel
theorem dX10_init_26 : decode cX10_init 26 = .ok (.aload_n 0, 1) := by decide +kernel
theorem dX10_init_27 : decode cX10_init 27 = .ok (.new 23, 3) := by decide +kernel
theorem dX10_init_30 : decode cX10_init 30 = .ok (.dup, 1) := by decide +kernel
theorem dX10_init_31 : decode cX10_init 31 = .ok (.invokespecial 25, 3) := by decide +kernel
theorem dX10_init_34 : decode cX10_init 34 = .ok (.putfield 26, 3) := by decide +kernel
theorem dX10_init_37 : decode cX10_init 37 = .ok (.aload_n 0, 1) := by decide +kernel
theorem dX10_init_38 : decode cX10_init 38 = .ok (.new 30, 3) := by decide +kernel
theorem dX10_init_41 : decode cX10_init 41 = .ok (.dup, 1) := by decide +kernel
theorem dX10_init_42 : decode cX10_init 42 = .ok (.invokespecial 32, 3) := by decide +kernel
theorem dX10_init_45 : decode cX10_init 45 = .ok (.putfield 33, 3) := by decide +kernel
theorem dX10_init_48 : decode cX10_init 48 = .ok (.aload_n 0, 1) := by decide +kernel
theorem dX10_init_49 : decode cX10_init 49 = .ok (.new 37, 3) := by decide +kernel
theorem dX10_init_52 : decode cX10_init 52 = .ok (.dup, 1) := by decide +kernel
theorem dX10_init_53 : decode cX10_init 53 = .ok (.invokespecial 39, 3) := by decide +kernel
theorem dX10_init_56 : decode cX10_init 56 = .ok (.putfield 40, 3) := by decide +kernel
theorem dX10_init_59 : decode cX10_init 59 = .ok (.aload_n 0, 1) := by decide +kernel
theorem dX10_init_60 : decode cX10_init 60 = .ok (.new 44, 3) := by decide +kernel
theorem dX10_init_63 : decode cX10_init 63 = .ok (.dup, 1) := by decide +kernel
theorem dX10_init_64 : decode cX10_init 64 = .ok (.invokespecial 46, 3) := by decide +kernel
theorem dX10_init_67 : decode cX10_init 67 = .ok (.putfield 47, 3) := by decide +kernel
theorem dX10_init_70 : decode cX10_init 70 = .ok (.aload_n 0, 1) := by decide +kernel
theorem dX10_init_71 : decode cX10_init 71 = .ok (.new 51, 3) := by decide +kernel
theorem dX10_init_74 : decode cX10_init 74 = .ok (.dup, 1) := by decide +kernel
theorem dX10_init_75 : decode cX10_init 75 = .ok (.invokespecial 53, 3) := by decide +kernel
theorem dX10_init_78 : decode cX10_init 78 = .ok (.putfield 54, 3) := by decide +kernel
theorem dX10_init_81 : decode cX10_init 81 = .ok (.aload_n 0, 1) := by decide +kernel
theorem dX10_init_82 : decode cX10_init 82 = .ok (.new 58, 3) := by decide +kernel
theorem dX10_init_85 : decode cX10_init 85 = .ok (.dup, 1) := by decide +kernel
theorem dX10_init_86 : decode cX10_init 86 = .ok (.invokespecial 60, 3) := by decide +kernel
theorem dX10_init_89 : decode cX10_init 89 = .ok (.putfield 61, 3) := by decide +kernel
theorem dX10_init_92 : decode cX10_init 92 = .ok (.aload_n 0, 1) := by decide +kernel
theorem dX10_init_93 : decode cX10_init 93 = .ok (.new 65, 3) := by decide +kernel
theorem dX10_init_96 : decode cX10_init 96 = .ok (.dup, 1) := by decide +kernel
theorem dX10_init_97 : decode cX10_init 97 = .ok (.invokespecial 67, 3) := by decide +kernel
theorem dX10_init_100 : decode cX10_init 100 = .ok (.putfield 68, 3) := by decide +kernel
theorem dX10_init_103 : decode cX10_init 103 = .ok (.aload_n 0, 1) := by decide +kernel
theorem dX10_init_104 : decode cX10_init 104 = .ok (.new 72, 3) := by decide +kernel
theorem dX10_init_107 : decode cX10_init 107 = .ok (.dup, 1) := by decide +kernel
theorem dX10_init_108 : decode cX10_init 108 = .ok (.invokespecial 74, 3) := by decide +kernel
theorem dX10_init_111 : decode cX10_init 111 = .ok (.putfield 75, 3) := by decide +kernel
theorem dX10_init_114 : decode cX10_init 114 = .ok (.aload_n 0, 1) := by decide +kernel
theorem dX10_init_115 : decode cX10_init 115 = .ok (.iconst 0, 1) := by decide +kernel
theorem dX10_init_116 : decode cX10_init 116 = .ok (.putfield 79, 3) := by decide +kernel
theorem dX10_init_119 : decode cX10_init 119 = .ok (.return_, 1) := by decide +kernel
theorem dX10_feed_0 : decode cX10_feed 0 = .ok (.aload_n 0, 1) := by decide +kernel
theorem dX10_feed_1 : decode cX10_feed 1 = .ok (.getfield 12, 3) := by decide +kernel
theorem dX10_feed_4 : decode cX10_feed 4 = .ok (.getfield 83, 3) := by decide +kernel
theorem dX10_feed_7 : decode cX10_feed 7 = .ok (.bipush 20, 2) := by decide +kernel
theorem dX10_feed_9 : decode cX10_feed 9 = .ok (.iadd, 1) := by decide +kernel
theorem dX10_feed_10 : decode cX10_feed 10 = .ok (.sipush 900, 3) := by decide +kernel
theorem dX10_feed_13 : decode cX10_feed 13 = .ok (.if_icmp .le 5, 3) := by decide +kernel
theorem dX10_feed_16 : decode cX10_feed 16 = .ok (.iconst (-1), 1) := by decide +kernel
theorem dX10_feed_17 : decode cX10_feed 17 = .ok (.ireturn, 1) := by decide +kernel
theorem dX10_feed_18 : decode cX10_feed 18 = .ok (.aload_n 0, 1) := by decide +kernel
theorem dX10_feed_19 : decode cX10_feed 19 = .ok (.getfield 12, 3) := by decide +kernel
theorem dX10_feed_22 : decode cX10_feed 22 = .ok (.iload_n 1, 1) := by decide +kernel
theorem dX10_feed_23 : decode cX10_feed 23 = .ok (.invokevirtual 86, 3) := by decide +kernel
theorem dX10_feed_26 : decode cX10_feed 26 = .ok (.aload_n 0, 1) := by decide +kernel
theorem dX10_feed_27 : decode cX10_feed 27 = .ok (.getfield 12, 3) := by decide +kernel
theorem dX10_feed_30 : decode cX10_feed 30 = .ok (.iload_n 2, 1) := by decide +kernel
theorem dX10_feed_31 : decode cX10_feed 31 = .ok (.invokevirtual 86, 3) := by decide +kernel
theorem dX10_feed_34 : decode cX10_feed 34 = .ok (.aload_n 0, 1) := by decide +kernel
theorem dX10_feed_35 : decode cX10_feed 35 = .ok (.getfield 12, 3) := by decide +kernel
theorem dX10_feed_38 : decode cX10_feed 38 = .ok (.iload_n 3, 1) := by decide +kernel
theorem dX10_feed_39 : decode cX10_feed 39 = .ok (.invokevirtual 86, 3) := by decide +kernel
theorem dX10_feed_42 : decode cX10_feed 42 = .ok (.aload_n 0, 1) := by decide +kernel
theorem dX10_feed_43 : decode cX10_feed 43 = .ok (.getfield 12, 3) := by decide +kernel
theorem dX10_feed_46 : decode cX10_feed 46 = .ok (.iload 4, 2) := by decide +kernel
theorem dX10_feed_48 : decode cX10_feed 48 = .ok (.invokevirtual 86, 3) := by decide +kernel
theorem dX10_feed_51 : decode cX10_feed 51 = .ok (.aload_n 0, 1) := by decide +kernel
theorem dX10_feed_52 : decode cX10_feed 52 = .ok (.getfield 12, 3) := by decide +kernel
theorem dX10_feed_55 : decode cX10_feed 55 = .ok (.iload 5, 2) := by decide +kernel
theorem dX10_feed_57 : decode cX10_feed 57 = .ok (.invokevirtual 86, 3) := by decide +kernel
theorem dX10_feed_60 : decode cX10_feed 60 = .ok (.aload_n 0, 1) := by decide +kernel
theorem dX10_feed_61 : decode cX10_feed 61 = .ok (.getfield 12, 3) := by decide +kernel
theorem dX10_feed_64 : decode cX10_feed 64 = .ok (.getfield 83, 3) := by decide +kernel
theorem dX10_feed_67 : decode cX10_feed 67 = .ok (.ireturn, 1) := by decide +kernel
theorem dX10_river_0 : decode cX10_river 0 = .ok (.iload_n 1, 1) := by decide +kernel
theorem dX10_river_1 : decode cX10_river 1 = .ok (.ifCond .lt 14, 3) := by decide +kernel
theorem dX10_river_4 : decode cX10_river 4 = .ok (.iload_n 1, 1) := by decide +kernel
theorem dX10_river_5 : decode cX10_river 5 = .ok (.aload_n 0, 1) := by decide +kernel
theorem dX10_river_6 : decode cX10_river 6 = .ok (.getfield 12, 3) := by decide +kernel
theorem dX10_river_9 : decode cX10_river 9 = .ok (.getfield 83, 3) := by decide +kernel
theorem dX10_river_12 : decode cX10_river 12 = .ok (.if_icmp .le 9, 3) := by decide +kernel
theorem dX10_river_15 : decode cX10_river 15 = .ok (.aload_n 0, 1) := by decide +kernel
theorem dX10_river_16 : decode cX10_river 16 = .ok (.iconst 2, 1) := by decide +kernel
theorem dX10_river_17 : decode cX10_river 17 = .ok (.invokevirtual 90, 3) := by decide +kernel
theorem dX10_river_20 : decode cX10_river 20 = .ok (.ireturn, 1) := by decide +kernel
theorem dX10_river_21 : decode cX10_river 21 = .ok (.aload_n 0, 1) := by decide +kernel
theorem dX10_river_22 : decode cX10_river 22 = .ok (.getfield 12, 3) := by decide +kernel
theorem dX10_river_25 : decode cX10_river 25 = .ok (.iload_n 1, 1) := by decide +kernel
theorem dX10_river_26 : decode cX10_river 26 = .ok (.invokevirtual 94, 3) := by decide +kernel
theorem dX10_river_29 : decode cX10_river 29 = .ok (.ifCond .ne 9, 3) := by decide +kernel
theorem dX10_river_32 : decode cX10_river 32 = .ok (.aload_n 0, 1) := by decide +kernel
theorem dX10_river_33 : decode cX10_river 33 = .ok (.iconst 4, 1) := by decide +kernel
theorem dX10_river_34 : decode cX10_river 34 = .ok (.invokevirtual 90, 3) := by decide +kernel
theorem dX10_river_37 : decode cX10_river 37 = .ok (.ireturn, 1) := by decide +kernel
theorem dX10_river_38 : decode cX10_river 38 = .ok (.aload_n 0, 1) := by decide +kernel
theorem dX10_river_39 : decode cX10_river 39 = .ok (.aload_n 0, 1) := by decide +kernel
theorem dX10_river_40 : decode cX10_river 40 = .ok (.getfield 12, 3) := by decide +kernel
theorem dX10_river_43 : decode cX10_river 43 = .ok (.aload_n 0, 1) := by decide +kernel
theorem dX10_river_44 : decode cX10_river 44 = .ok (.getfield 75, 3) := by decide +kernel
theorem dX10_river_47 : decode cX10_river 47 = .ok (.invokevirtual 98, 3) := by decide +kernel
theorem dX10_river_50 : decode cX10_river 50 = .ok (.putfield 75, 3) := by decide +kernel
theorem dX10_river_53 : decode cX10_river 53 = .ok (.aload_n 0, 1) := by decide +kernel
theorem dX10_river_54 : decode cX10_river 54 = .ok (.getfield 19, 3) := by decide +kernel
theorem dX10_river_57 : decode cX10_river 57 = .ok (.aload_n 0, 1) := by decide +kernel
theorem dX10_river_58 : decode cX10_river 58 = .ok (.getfield 75, 3) := by decide +kernel
theorem dX10_river_61 : decode cX10_river 61 = .ok (.invokevirtual 102, 3) := by decide +kernel
theorem dX10_river_64 : decode cX10_river 64 = .ok (.aload_n 0, 1) := by decide +kernel
theorem dX10_river_65 : decode cX10_river 65 = .ok (.getfield 26, 3) := by decide +kernel
theorem dX10_river_68 : decode cX10_river 68 = .ok (.invokevirtual 106, 3) := by decide +kernel
theorem dX10_river_71 : decode cX10_river 71 = .ok (.aload_n 0, 1) := by decide +kernel
theorem dX10_river_72 : decode cX10_river 72 = .ok (.aload_n 0, 1) := by decide +kernel
theorem dX10_river_73 : decode cX10_river 73 = .ok (.getfield 75, 3) := by decide +kernel
theorem dX10_river_76 : decode cX10_river 76 = .ok (.getfield 109, 3) := by decide +kernel
theorem dX10_river_79 : decode cX10_river 79 = .ok (.invokevirtual 112, 3) := by decide +kernel
theorem dX10_river_82 : decode cX10_river 82 = .ok (.ireturn, 1) := by decide +kernel
theorem dX10_fault_0 : decode cX10_fault 0 = .ok (.aload_n 0, 1) := by decide +kernel
theorem dX10_fault_1 : decode cX10_fault 1 = .ok (.getfield 12, 3) := by decide +kernel
theorem dX10_fault_4 : decode cX10_fault 4 = .ok (.getfield 115, 3) := by decide +kernel
theorem dX10_fault_7 : decode cX10_fault 7 = .ok (.ireturn, 1) := by decide +kernel
theorem dX10_where_0 : decode cX10_where 0 = .ok (.aload_n 0, 1) := by decide +kernel
theorem dX10_where_1 : decode cX10_where 1 = .ok (.getfield 79, 3) := by decide +kernel
theorem dX10_where_4 : decode cX10_where 4 = .ok (.iconst 4, 1) := by decide +kernel
theorem dX10_where_5 : decode cX10_where 5 = .ok (.if_icmp .ne 13, 3) := by decide +kernel
theorem dX10_where_8 : decode cX10_where 8 = .ok (.aload_n 0, 1) := by decide +kernel
theorem dX10_where_9 : decode cX10_where 9 = .ok (.getfield 12, 3) := by decide +kernel
theorem dX10_where_12 : decode cX10_where 12 = .ok (.getfield 118, 3) := by decide +kernel
theorem dX10_where_15 : decode cX10_where 15 = .ok (.goto 4, 3) := by decide +kernel
theorem dX10_where_18 : decode cX10_where 18 = .ok (.iconst (-1), 1) := by decide +kernel
theorem dX10_where_19 : decode cX10_where 19 = .ok (.ireturn, 1) := by decide +kernel
theorem dX10_reach_0 : decode cX10_reach 0 = .ok (.aload_n 0, 1) := by decide +kernel
theorem dX10_reach_1 : decode cX10_reach 1 = .ok (.iload_n 1, 1) := by decide +kernel
theorem dX10_reach_2 : decode cX10_reach 2 = .ok (.invokevirtual 121, 3) := by decide +kernel
theorem dX10_reach_5 : decode cX10_reach 5 = .ok (.ifCond .eq 13, 3) := by decide +kernel
theorem dX10_reach_8 : decode cX10_reach 8 = .ok (.iload_n 2, 1) := by decide +kernel
theorem dX10_reach_9 : decode cX10_reach 9 = .ok (.ifCond .lt 9, 3) := by decide +kernel
theorem dX10_reach_12 : decode cX10_reach 12 = .ok (.iload_n 2, 1) := by decide +kernel
theorem dX10_reach_13 : decode cX10_reach 13 = .ok (.bipush 7, 2) := by decide +kernel
theorem dX10_reach_15 : decode cX10_reach 15 = .ok (.if_icmp .le 9, 3) := by decide +kernel
theorem dX10_reach_18 : decode cX10_reach 18 = .ok (.aload_n 0, 1) := by decide +kernel
theorem dX10_reach_19 : decode cX10_reach 19 = .ok (.iconst 1, 1) := by decide +kernel
theorem dX10_reach_20 : decode cX10_reach 20 = .ok (.invokevirtual 90, 3) := by decide +kernel
theorem dX10_reach_23 : decode cX10_reach 23 = .ok (.ireturn, 1) := by decide +kernel
theorem dX10_reach_24 : decode cX10_reach 24 = .ok (.aload_n 0, 1) := by decide +kernel
theorem dX10_reach_25 : decode cX10_reach 25 = .ok (.invokevirtual 124, 3) := by decide +kernel
theorem dX10_reach_28 : decode cX10_reach 28 = .ok (.aload_n 0, 1) := by decide +kernel
theorem dX10_reach_29 : decode cX10_reach 29 = .ok (.aload_n 0, 1) := by decide +kernel
theorem dX10_reach_30 : decode cX10_reach 30 = .ok (.iload_n 1, 1) := by decide +kernel
theorem dX10_reach_31 : decode cX10_reach 31 = .ok (.iload_n 2, 1) := by decide +kernel
theorem dX10_reach_32 : decode cX10_reach 32 = .ok (.invokevirtual 127, 3) := by decide +kernel
theorem dX10_reach_35 : decode cX10_reach 35 = .ok (.invokevirtual 112, 3) := by decide +kernel
theorem dX10_reach_38 : decode cX10_reach 38 = .ok (.ireturn, 1) := by decide +kernel
theorem dX10_rope_0 : decode cX10_rope 0 = .ok (.aload_n 0, 1) := by decide +kernel
theorem dX10_rope_1 : decode cX10_rope 1 = .ok (.iload_n 1, 1) := by decide +kernel
theorem dX10_rope_2 : decode cX10_rope 2 = .ok (.invokevirtual 131, 3) := by decide +kernel
theorem dX10_rope_5 : decode cX10_rope 5 = .ok (.ifCond .eq 12, 3) := by decide +kernel
theorem dX10_rope_8 : decode cX10_rope 8 = .ok (.iload_n 2, 1) := by decide +kernel
theorem dX10_rope_9 : decode cX10_rope 9 = .ok (.ifCond .lt 8, 3) := by decide +kernel
theorem dX10_rope_12 : decode cX10_rope 12 = .ok (.iload_n 2, 1) := by decide +kernel
theorem dX10_rope_13 : decode cX10_rope 13 = .ok (.iconst 5, 1) := by decide +kernel
theorem dX10_rope_14 : decode cX10_rope 14 = .ok (.if_icmp .le 9, 3) := by decide +kernel
theorem dX10_rope_17 : decode cX10_rope 17 = .ok (.aload_n 0, 1) := by decide +kernel
theorem dX10_rope_18 : decode cX10_rope 18 = .ok (.iconst 1, 1) := by decide +kernel
theorem dX10_rope_19 : decode cX10_rope 19 = .ok (.invokevirtual 90, 3) := by decide +kernel
theorem dX10_rope_22 : decode cX10_rope 22 = .ok (.ireturn, 1) := by decide +kernel
theorem dX10_rope_23 : decode cX10_rope 23 = .ok (.aload_n 0, 1) := by decide +kernel
theorem dX10_rope_24 : decode cX10_rope 24 = .ok (.invokevirtual 124, 3) := by decide +kernel
theorem dX10_rope_27 : decode cX10_rope 27 = .ok (.aload_n 0, 1) := by decide +kernel
theorem dX10_rope_28 : decode cX10_rope 28 = .ok (.aload_n 0, 1) := by decide +kernel
theorem dX10_rope_29 : decode cX10_rope 29 = .ok (.iload_n 1, 1) := by decide +kernel
theorem dX10_rope_30 : decode cX10_rope 30 = .ok (.iload_n 2, 1) := by decide +kernel
theorem dX10_rope_31 : decode cX10_rope 31 = .ok (.invokevirtual 134, 3) := by decide +kernel
theorem dX10_rope_34 : decode cX10_rope 34 = .ok (.invokevirtual 112, 3) := by decide +kernel
theorem dX10_rope_37 : decode cX10_rope 37 = .ok (.ireturn, 1) := by decide +kernel
theorem dX10_below_0 : decode cX10_below 0 = .ok (.aload_n 0, 1) := by decide +kernel
theorem dX10_below_1 : decode cX10_below 1 = .ok (.invokevirtual 137, 3) := by decide +kernel
theorem dX10_below_4 : decode cX10_below 4 = .ok (.ifCond .eq 9, 3) := by decide +kernel
theorem dX10_below_7 : decode cX10_below 7 = .ok (.aload_n 0, 1) := by decide +kernel
theorem dX10_below_8 : decode cX10_below 8 = .ok (.iconst 1, 1) := by decide +kernel
theorem dX10_below_9 : decode cX10_below 9 = .ok (.invokevirtual 90, 3) := by decide +kernel
theorem dX10_below_12 : decode cX10_below 12 = .ok (.ireturn, 1) := by decide +kernel
theorem dX10_below_13 : decode cX10_below 13 = .ok (.aload_n 0, 1) := by decide +kernel
theorem dX10_below_14 : decode cX10_below 14 = .ok (.invokevirtual 124, 3) := by decide +kernel
theorem dX10_below_17 : decode cX10_below 17 = .ok (.aload_n 0, 1) := by decide +kernel
theorem dX10_below_18 : decode cX10_below 18 = .ok (.aload_n 0, 1) := by decide +kernel
theorem dX10_below_19 : decode cX10_below 19 = .ok (.getfield 33, 3) := by decide +kernel
theorem dX10_below_22 : decode cX10_below 22 = .ok (.getfield 141, 3) := by decide +kernel
theorem dX10_below_25 : decode cX10_below 25 = .ok (.invokevirtual 112, 3) := by decide +kernel
theorem dX10_below_28 : decode cX10_below 28 = .ok (.ireturn, 1) := by decide +kernel
theorem dX10_harm_0 : decode cX10_harm 0 = .ok (.aload_n 0, 1) := by decide +kernel
theorem dX10_harm_1 : decode cX10_harm 1 = .ok (.invokevirtual 137, 3) := by decide +kernel
theorem dX10_harm_4 : decode cX10_harm 4 = .ok (.ifCond .eq 9, 3) := by decide +kernel
theorem dX10_harm_7 : decode cX10_harm 7 = .ok (.aload_n 0, 1) := by decide +kernel
theorem dX10_harm_8 : decode cX10_harm 8 = .ok (.iconst 1, 1) := by decide +kernel
theorem dX10_harm_9 : decode cX10_harm 9 = .ok (.invokevirtual 90, 3) := by decide +kernel
theorem dX10_harm_12 : decode cX10_harm 12 = .ok (.ireturn, 1) := by decide +kernel
theorem dX10_harm_13 : decode cX10_harm 13 = .ok (.aload_n 0, 1) := by decide +kernel
theorem dX10_harm_14 : decode cX10_harm 14 = .ok (.invokevirtual 124, 3) := by decide +kernel
theorem dX10_harm_17 : decode cX10_harm 17 = .ok (.aload_n 0, 1) := by decide +kernel
theorem dX10_harm_18 : decode cX10_harm 18 = .ok (.aload_n 0, 1) := by decide +kernel
theorem dX10_harm_19 : decode cX10_harm 19 = .ok (.getfield 33, 3) := by decide +kernel
theorem dX10_harm_22 : decode cX10_harm 22 = .ok (.getfield 144, 3) := by decide +kernel
theorem dX10_harm_25 : decode cX10_harm 25 = .ok (.invokevirtual 112, 3) := by decide +kernel
theorem dX10_harm_28 : decode cX10_harm 28 = .ok (.ireturn, 1) := by decide +kernel
theorem dX10_spills_0 : decode cX10_spills 0 = .ok (.aload_n 0, 1) := by decide +kernel
theorem dX10_spills_1 : decode cX10_spills 1 = .ok (.invokevirtual 137, 3) := by decide +kernel
theorem dX10_spills_4 : decode cX10_spills 4 = .ok (.ifCond .eq 9, 3) := by decide +kernel
theorem dX10_spills_7 : decode cX10_spills 7 = .ok (.aload_n 0, 1) := by decide +kernel
theorem dX10_spills_8 : decode cX10_spills 8 = .ok (.iconst 1, 1) := by decide +kernel
theorem dX10_spills_9 : decode cX10_spills 9 = .ok (.invokevirtual 90, 3) := by decide +kernel
theorem dX10_spills_12 : decode cX10_spills 12 = .ok (.ireturn, 1) := by decide +kernel
theorem dX10_spills_13 : decode cX10_spills 13 = .ok (.aload_n 0, 1) := by decide +kernel
theorem dX10_spills_14 : decode cX10_spills 14 = .ok (.invokevirtual 124, 3) := by decide +kernel
theorem dX10_spills_17 : decode cX10_spills 17 = .ok (.aload_n 0, 1) := by decide +kernel
theorem dX10_spills_18 : decode cX10_spills 18 = .ok (.aload_n 0, 1) := by decide +kernel
theorem dX10_spills_19 : decode cX10_spills 19 = .ok (.getfield 33, 3) := by decide +kernel
theorem dX10_spills_22 : decode cX10_spills 22 = .ok (.getfield 147, 3) := by decide +kernel
theorem dX10_spills_25 : decode cX10_spills 25 = .ok (.invokevirtual 112, 3) := by decide +kernel
theorem dX10_spills_28 : decode cX10_spills 28 = .ok (.ireturn, 1) := by decide +kernel
theorem dX10_outOfLaw_0 : decode cX10_outOfLaw 0 = .ok (.aload_n 0, 1) := by decide +kernel
theorem dX10_outOfLaw_1 : decode cX10_outOfLaw 1 = .ok (.invokevirtual 137, 3) := by decide +kernel
theorem dX10_outOfLaw_4 : decode cX10_outOfLaw 4 = .ok (.ifCond .eq 9, 3) := by decide +kernel
theorem dX10_outOfLaw_7 : decode cX10_outOfLaw 7 = .ok (.aload_n 0, 1) := by decide +kernel
theorem dX10_outOfLaw_8 : decode cX10_outOfLaw 8 = .ok (.iconst 1, 1) := by decide +kernel
theorem dX10_outOfLaw_9 : decode cX10_outOfLaw 9 = .ok (.invokevirtual 90, 3) := by decide +kernel
theorem dX10_outOfLaw_12 : decode cX10_outOfLaw 12 = .ok (.ireturn, 1) := by decide +kernel
theorem dX10_outOfLaw_13 : decode cX10_outOfLaw 13 = .ok (.aload_n 0, 1) := by decide +kernel
theorem dX10_outOfLaw_14 : decode cX10_outOfLaw 14 = .ok (.invokevirtual 124, 3) := by decide +kernel
theorem dX10_outOfLaw_17 : decode cX10_outOfLaw 17 = .ok (.aload_n 0, 1) := by decide +kernel
theorem dX10_outOfLaw_18 : decode cX10_outOfLaw 18 = .ok (.aload_n 0, 1) := by decide +kernel
theorem dX10_outOfLaw_19 : decode cX10_outOfLaw 19 = .ok (.getfield 33, 3) := by decide +kernel
theorem dX10_outOfLaw_22 : decode cX10_outOfLaw 22 = .ok (.aload_n 0, 1) := by decide +kernel
theorem dX10_outOfLaw_23 : decode cX10_outOfLaw 23 = .ok (.getfield 75, 3) := by decide +kernel
theorem dX10_outOfLaw_26 : decode cX10_outOfLaw 26 = .ok (.invokevirtual 150, 3) := by decide +kernel
theorem dX10_outOfLaw_29 : decode cX10_outOfLaw 29 = .ok (.invokevirtual 112, 3) := by decide +kernel
theorem dX10_outOfLaw_32 : decode cX10_outOfLaw 32 = .ok (.ireturn, 1) := by decide +kernel
theorem dX10_narrowest_0 : decode cX10_narrowest 0 = .ok (.aload_n 0, 1) := by decide +kernel
theorem dX10_narrowest_1 : decode cX10_narrowest 1 = .ok (.invokevirtual 137, 3) := by decide +kernel
theorem dX10_narrowest_4 : decode cX10_narrowest 4 = .ok (.ifCond .eq 9, 3) := by decide +kernel
theorem dX10_narrowest_7 : decode cX10_narrowest 7 = .ok (.aload_n 0, 1) := by decide +kernel
theorem dX10_narrowest_8 : decode cX10_narrowest 8 = .ok (.iconst 1, 1) := by decide +kernel
theorem dX10_narrowest_9 : decode cX10_narrowest 9 = .ok (.invokevirtual 90, 3) := by decide +kernel
theorem dX10_narrowest_12 : decode cX10_narrowest 12 = .ok (.ireturn, 1) := by decide +kernel
theorem dX10_narrowest_13 : decode cX10_narrowest 13 = .ok (.aload_n 0, 1) := by decide +kernel
theorem dX10_narrowest_14 : decode cX10_narrowest 14 = .ok (.invokevirtual 124, 3) := by decide +kernel
theorem dX10_narrowest_17 : decode cX10_narrowest 17 = .ok (.iconst 0, 1) := by decide +kernel
theorem dX10_narrowest_18 : decode cX10_narrowest 18 = .ok (.istore_n 1, 1) := by decide +kernel
theorem dX10_narrowest_19 : decode cX10_narrowest 19 = .ok (.iconst 1, 1) := by decide +kernel
theorem dX10_narrowest_20 : decode cX10_narrowest 20 = .ok (.istore_n 2, 1) := by decide +kernel
theorem dX10_narrowest_21 : decode cX10_narrowest 21 = .ok (.iload_n 2, 1) := by decide +kernel
theorem dX10_narrowest_22 : decode cX10_narrowest 22 = .ok (.aload_n 0, 1) := by decide +kernel
theorem dX10_narrowest_23 : decode cX10_narrowest 23 = .ok (.getfield 75, 3) := by decide +kernel
theorem dX10_narrowest_26 : decode cX10_narrowest 26 = .ok (.getfield 109, 3) := by decide +kernel
theorem dX10_narrowest_29 : decode cX10_narrowest 29 = .ok (.if_icmp .ge 32, 3) := by decide +kernel
theorem dX10_narrowest_32 : decode cX10_narrowest 32 = .ok (.aload_n 0, 1) := by decide +kernel
theorem dX10_narrowest_33 : decode cX10_narrowest 33 = .ok (.getfield 33, 3) := by decide +kernel
theorem dX10_narrowest_36 : decode cX10_narrowest 36 = .ok (.getfield 154, 3) := by decide +kernel
theorem dX10_narrowest_39 : decode cX10_narrowest 39 = .ok (.iload_n 2, 1) := by decide +kernel
theorem dX10_narrowest_40 : decode cX10_narrowest 40 = .ok (.iaload, 1) := by decide +kernel
theorem dX10_narrowest_41 : decode cX10_narrowest 41 = .ok (.aload_n 0, 1) := by decide +kernel
theorem dX10_narrowest_42 : decode cX10_narrowest 42 = .ok (.getfield 33, 3) := by decide +kernel
theorem dX10_narrowest_45 : decode cX10_narrowest 45 = .ok (.getfield 154, 3) := by decide +kernel
theorem dX10_narrowest_48 : decode cX10_narrowest 48 = .ok (.iload_n 1, 1) := by decide +kernel
theorem dX10_narrowest_49 : decode cX10_narrowest 49 = .ok (.iaload, 1) := by decide +kernel
theorem dX10_narrowest_50 : decode cX10_narrowest 50 = .ok (.if_icmp .ge 5, 3) := by decide +kernel
theorem dX10_narrowest_53 : decode cX10_narrowest 53 = .ok (.iload_n 2, 1) := by decide +kernel
theorem dX10_narrowest_54 : decode cX10_narrowest 54 = .ok (.istore_n 1, 1) := by decide +kernel
theorem dX10_narrowest_55 : decode cX10_narrowest 55 = .ok (.iinc 2 1, 3) := by decide +kernel
theorem dX10_narrowest_58 : decode cX10_narrowest 58 = .ok (.goto (-37), 3) := by decide +kernel
theorem dX10_narrowest_61 : decode cX10_narrowest 61 = .ok (.aload_n 0, 1) := by decide +kernel
theorem dX10_narrowest_62 : decode cX10_narrowest 62 = .ok (.iload_n 1, 1) := by decide +kernel
theorem dX10_narrowest_63 : decode cX10_narrowest 63 = .ok (.invokevirtual 112, 3) := by decide +kernel
theorem dX10_narrowest_66 : decode cX10_narrowest 66 = .ok (.ireturn, 1) := by decide +kernel
theorem dX10_worn_0 : decode cX10_worn 0 = .ok (.aload_n 0, 1) := by decide +kernel
theorem dX10_worn_1 : decode cX10_worn 1 = .ok (.invokevirtual 137, 3) := by decide +kernel
theorem dX10_worn_4 : decode cX10_worn 4 = .ok (.ifCond .eq 9, 3) := by decide +kernel
theorem dX10_worn_7 : decode cX10_worn 7 = .ok (.aload_n 0, 1) := by decide +kernel
theorem dX10_worn_8 : decode cX10_worn 8 = .ok (.iconst 1, 1) := by decide +kernel
theorem dX10_worn_9 : decode cX10_worn 9 = .ok (.invokevirtual 90, 3) := by decide +kernel
theorem dX10_worn_12 : decode cX10_worn 12 = .ok (.ireturn, 1) := by decide +kernel
theorem dX10_worn_13 : decode cX10_worn 13 = .ok (.aload_n 0, 1) := by decide +kernel
theorem dX10_worn_14 : decode cX10_worn 14 = .ok (.invokevirtual 124, 3) := by decide +kernel
theorem dX10_worn_17 : decode cX10_worn 17 = .ok (.bipush (-2), 2) := by decide +kernel
theorem dX10_worn_19 : decode cX10_worn 19 = .ok (.istore_n 1, 1) := by decide +kernel
theorem dX10_worn_20 : decode cX10_worn 20 = .ok (.iconst 0, 1) := by decide +kernel
theorem dX10_worn_21 : decode cX10_worn 21 = .ok (.istore_n 2, 1) := by decide +kernel
theorem dX10_worn_22 : decode cX10_worn 22 = .ok (.iload_n 2, 1) := by decide +kernel
theorem dX10_worn_23 : decode cX10_worn 23 = .ok (.aload_n 0, 1) := by decide +kernel
theorem dX10_worn_24 : decode cX10_worn 24 = .ok (.getfield 75, 3) := by decide +kernel
theorem dX10_worn_27 : decode cX10_worn 27 = .ok (.getfield 158, 3) := by decide +kernel
theorem dX10_worn_30 : decode cX10_worn 30 = .ok (.if_icmp .ge 66, 3) := by decide +kernel
theorem dX10_worn_33 : decode cX10_worn 33 = .ok (.aload_n 0, 1) := by decide +kernel
theorem dX10_worn_34 : decode cX10_worn 34 = .ok (.getfield 19, 3) := by decide +kernel
theorem dX10_worn_37 : decode cX10_worn 37 = .ok (.getfield 161, 3) := by decide +kernel
theorem dX10_worn_40 : decode cX10_worn 40 = .ok (.iload_n 2, 1) := by decide +kernel
theorem dX10_worn_41 : decode cX10_worn 41 = .ok (.invokestatic 164, 3) := by decide +kernel
theorem dX10_worn_44 : decode cX10_worn 44 = .ok (.ifCond .eq 46, 3) := by decide +kernel
theorem dX10_worn_47 : decode cX10_worn 47 = .ok (.iload_n 1, 1) := by decide +kernel
theorem dX10_worn_48 : decode cX10_worn 48 = .ok (.bipush (-2), 2) := by decide +kernel
theorem dX10_worn_50 : decode cX10_worn 50 = .ok (.if_icmp .eq 38, 3) := by decide +kernel
theorem dX10_worn_53 : decode cX10_worn 53 = .ok (.aload_n 0, 1) := by decide +kernel
theorem dX10_worn_54 : decode cX10_worn 54 = .ok (.getfield 33, 3) := by decide +kernel
theorem dX10_worn_57 : decode cX10_worn 57 = .ok (.aload_n 0, 1) := by decide +kernel
theorem dX10_worn_58 : decode cX10_worn 58 = .ok (.getfield 75, 3) := by decide +kernel
theorem dX10_worn_61 : decode cX10_worn 61 = .ok (.aload_n 0, 1) := by decide +kernel
theorem dX10_worn_62 : decode cX10_worn 62 = .ok (.getfield 19, 3) := by decide +kernel
theorem dX10_worn_65 : decode cX10_worn 65 = .ok (.iload_n 2, 1) := by decide +kernel
theorem dX10_worn_66 : decode cX10_worn 66 = .ok (.invokevirtual 168, 3) := by decide +kernel
theorem dX10_worn_69 : decode cX10_worn 69 = .ok (.aload_n 0, 1) := by decide +kernel
theorem dX10_worn_70 : decode cX10_worn 70 = .ok (.getfield 33, 3) := by decide +kernel
theorem dX10_worn_73 : decode cX10_worn 73 = .ok (.aload_n 0, 1) := by decide +kernel
theorem dX10_worn_74 : decode cX10_worn 74 = .ok (.getfield 75, 3) := by decide +kernel
theorem dX10_worn_77 : decode cX10_worn 77 = .ok (.aload_n 0, 1) := by decide +kernel
theorem dX10_worn_78 : decode cX10_worn 78 = .ok (.getfield 19, 3) := by decide +kernel
theorem dX10_worn_81 : decode cX10_worn 81 = .ok (.iload_n 1, 1) := by decide +kernel
theorem dX10_worn_82 : decode cX10_worn 82 = .ok (.invokevirtual 168, 3) := by decide +kernel
theorem dX10_worn_85 : decode cX10_worn 85 = .ok (.if_icmp .ge 5, 3) := by decide +kernel
theorem dX10_worn_88 : decode cX10_worn 88 = .ok (.iload_n 2, 1) := by decide +kernel
theorem dX10_worn_89 : decode cX10_worn 89 = .ok (.istore_n 1, 1) := by decide +kernel
theorem dX10_worn_90 : decode cX10_worn 90 = .ok (.iinc 2 1, 3) := by decide +kernel
theorem dX10_worn_93 : decode cX10_worn 93 = .ok (.goto (-71), 3) := by decide +kernel
theorem dX10_worn_96 : decode cX10_worn 96 = .ok (.aload_n 0, 1) := by decide +kernel
theorem dX10_worn_97 : decode cX10_worn 97 = .ok (.iload_n 1, 1) := by decide +kernel
theorem dX10_worn_98 : decode cX10_worn 98 = .ok (.invokevirtual 112, 3) := by decide +kernel
theorem dX10_worn_101 : decode cX10_worn 101 = .ok (.ireturn, 1) := by decide +kernel
theorem dX10_spilt_0 : decode cX10_spilt 0 = .ok (.aload_n 0, 1) := by decide +kernel
theorem dX10_spilt_1 : decode cX10_spilt 1 = .ok (.invokevirtual 137, 3) := by decide +kernel
theorem dX10_spilt_4 : decode cX10_spilt 4 = .ok (.ifCond .eq 9, 3) := by decide +kernel
theorem dX10_spilt_7 : decode cX10_spilt 7 = .ok (.aload_n 0, 1) := by decide +kernel
theorem dX10_spilt_8 : decode cX10_spilt 8 = .ok (.iconst 1, 1) := by decide +kernel
theorem dX10_spilt_9 : decode cX10_spilt 9 = .ok (.invokevirtual 90, 3) := by decide +kernel
theorem dX10_spilt_12 : decode cX10_spilt 12 = .ok (.ireturn, 1) := by decide +kernel
theorem dX10_spilt_13 : decode cX10_spilt 13 = .ok (.aload_n 0, 1) := by decide +kernel
theorem dX10_spilt_14 : decode cX10_spilt 14 = .ok (.invokevirtual 124, 3) := by decide +kernel
theorem dX10_spilt_17 : decode cX10_spilt 17 = .ok (.aload_n 0, 1) := by decide +kernel
theorem dX10_spilt_18 : decode cX10_spilt 18 = .ok (.aload_n 0, 1) := by decide +kernel
theorem dX10_spilt_19 : decode cX10_spilt 19 = .ok (.getfield 19, 3) := by decide +kernel
theorem dX10_spilt_22 : decode cX10_spilt 22 = .ok (.getfield 172, 3) := by decide +kernel
theorem dX10_spilt_25 : decode cX10_spilt 25 = .ok (.aload_n 0, 1) := by decide +kernel
theorem dX10_spilt_26 : decode cX10_spilt 26 = .ok (.getfield 33, 3) := by decide +kernel
theorem dX10_spilt_29 : decode cX10_spilt 29 = .ok (.getfield 141, 3) := by decide +kernel
theorem dX10_spilt_32 : decode cX10_spilt 32 = .ok (.isub, 1) := by decide +kernel
theorem dX10_spilt_33 : decode cX10_spilt 33 = .ok (.invokevirtual 112, 3) := by decide +kernel
theorem dX10_spilt_36 : decode cX10_spilt 36 = .ok (.ireturn, 1) := by decide +kernel
theorem dX10_depthBy_0 : decode cX10_depthBy 0 = .ok (.aload_n 0, 1) := by decide +kernel
theorem dX10_depthBy_1 : decode cX10_depthBy 1 = .ok (.iload_n 1, 1) := by decide +kernel
theorem dX10_depthBy_2 : decode cX10_depthBy 2 = .ok (.invokevirtual 121, 3) := by decide +kernel
theorem dX10_depthBy_5 : decode cX10_depthBy 5 = .ok (.ifCond .ne 9, 3) := by decide +kernel
theorem dX10_depthBy_8 : decode cX10_depthBy 8 = .ok (.aload_n 0, 1) := by decide +kernel
theorem dX10_depthBy_9 : decode cX10_depthBy 9 = .ok (.iconst 1, 1) := by decide +kernel
theorem dX10_depthBy_10 : decode cX10_depthBy 10 = .ok (.invokevirtual 90, 3) := by decide +kernel
theorem dX10_depthBy_13 : decode cX10_depthBy 13 = .ok (.ireturn, 1) := by decide +kernel
theorem dX10_depthBy_14 : decode cX10_depthBy 14 = .ok (.iload_n 2, 1) := by decide +kernel
theorem dX10_depthBy_15 : decode cX10_depthBy 15 = .ok (.invokestatic 175, 3) := by decide +kernel
theorem dX10_depthBy_18 : decode cX10_depthBy 18 = .ok (.ifCond .ne 9, 3) := by decide +kernel
theorem dX10_depthBy_21 : decode cX10_depthBy 21 = .ok (.aload_n 0, 1) := by decide +kernel
theorem dX10_depthBy_22 : decode cX10_depthBy 22 = .ok (.iconst 2, 1) := by decide +kernel
theorem dX10_depthBy_23 : decode cX10_depthBy 23 = .ok (.invokevirtual 90, 3) := by decide +kernel
theorem dX10_depthBy_26 : decode cX10_depthBy 26 = .ok (.ireturn, 1) := by decide +kernel
theorem dX10_depthBy_27 : decode cX10_depthBy 27 = .ok (.aload_n 0, 1) := by decide +kernel
theorem dX10_depthBy_28 : decode cX10_depthBy 28 = .ok (.iload_n 2, 1) := by decide +kernel
theorem dX10_depthBy_29 : decode cX10_depthBy 29 = .ok (.invokevirtual 178, 3) := by decide +kernel
theorem dX10_depthBy_32 : decode cX10_depthBy 32 = .ok (.aload_n 0, 1) := by decide +kernel
theorem dX10_depthBy_33 : decode cX10_depthBy 33 = .ok (.aload_n 0, 1) := by decide +kernel
theorem dX10_depthBy_34 : decode cX10_depthBy 34 = .ok (.getfield 33, 3) := by decide +kernel
theorem dX10_depthBy_37 : decode cX10_depthBy 37 = .ok (.getfield 181, 3) := by decide +kernel
theorem dX10_depthBy_40 : decode cX10_depthBy 40 = .ok (.iload_n 1, 1) := by decide +kernel
theorem dX10_depthBy_41 : decode cX10_depthBy 41 = .ok (.iaload, 1) := by decide +kernel
theorem dX10_depthBy_42 : decode cX10_depthBy 42 = .ok (.invokevirtual 112, 3) := by decide +kernel
theorem dX10_depthBy_45 : decode cX10_depthBy 45 = .ok (.ireturn, 1) := by decide +kernel
theorem dX10_harmBy_0 : decode cX10_harmBy 0 = .ok (.aload_n 0, 1) := by decide +kernel
theorem dX10_harmBy_1 : decode cX10_harmBy 1 = .ok (.invokevirtual 137, 3) := by decide +kernel
theorem dX10_harmBy_4 : decode cX10_harmBy 4 = .ok (.ifCond .eq 9, 3) := by decide +kernel
theorem dX10_harmBy_7 : decode cX10_harmBy 7 = .ok (.aload_n 0, 1) := by decide +kernel
theorem dX10_harmBy_8 : decode cX10_harmBy 8 = .ok (.iconst 1, 1) := by decide +kernel
theorem dX10_harmBy_9 : decode cX10_harmBy 9 = .ok (.invokevirtual 90, 3) := by decide +kernel
theorem dX10_harmBy_12 : decode cX10_harmBy 12 = .ok (.ireturn, 1) := by decide +kernel
theorem dX10_harmBy_13 : decode cX10_harmBy 13 = .ok (.iload_n 1, 1) := by decide +kernel
theorem dX10_harmBy_14 : decode cX10_harmBy 14 = .ok (.invokestatic 175, 3) := by decide +kernel
theorem dX10_harmBy_17 : decode cX10_harmBy 17 = .ok (.ifCond .ne 9, 3) := by decide +kernel
theorem dX10_harmBy_20 : decode cX10_harmBy 20 = .ok (.aload_n 0, 1) := by decide +kernel
theorem dX10_harmBy_21 : decode cX10_harmBy 21 = .ok (.iconst 2, 1) := by decide +kernel
theorem dX10_harmBy_22 : decode cX10_harmBy 22 = .ok (.invokevirtual 90, 3) := by decide +kernel
theorem dX10_harmBy_25 : decode cX10_harmBy 25 = .ok (.ireturn, 1) := by decide +kernel
theorem dX10_harmBy_26 : decode cX10_harmBy 26 = .ok (.aload_n 0, 1) := by decide +kernel
theorem dX10_harmBy_27 : decode cX10_harmBy 27 = .ok (.iload_n 1, 1) := by decide +kernel
theorem dX10_harmBy_28 : decode cX10_harmBy 28 = .ok (.invokevirtual 178, 3) := by decide +kernel
theorem dX10_harmBy_31 : decode cX10_harmBy 31 = .ok (.aload_n 0, 1) := by decide +kernel
theorem dX10_harmBy_32 : decode cX10_harmBy 32 = .ok (.aload_n 0, 1) := by decide +kernel
theorem dX10_harmBy_33 : decode cX10_harmBy 33 = .ok (.getfield 33, 3) := by decide +kernel
theorem dX10_harmBy_36 : decode cX10_harmBy 36 = .ok (.getfield 144, 3) := by decide +kernel
theorem dX10_harmBy_39 : decode cX10_harmBy 39 = .ok (.invokevirtual 112, 3) := by decide +kernel
theorem dX10_harmBy_42 : decode cX10_harmBy 42 = .ok (.ireturn, 1) := by decide +kernel
theorem dX10_bursts_0 : decode cX10_bursts 0 = .ok (.aload_n 0, 1) := by decide +kernel
theorem dX10_bursts_1 : decode cX10_bursts 1 = .ok (.invokevirtual 137, 3) := by decide +kernel
theorem dX10_bursts_4 : decode cX10_bursts 4 = .ok (.ifCond .eq 9, 3) := by decide +kernel
theorem dX10_bursts_7 : decode cX10_bursts 7 = .ok (.aload_n 0, 1) := by decide +kernel
theorem dX10_bursts_8 : decode cX10_bursts 8 = .ok (.iconst 1, 1) := by decide +kernel
theorem dX10_bursts_9 : decode cX10_bursts 9 = .ok (.invokevirtual 90, 3) := by decide +kernel
theorem dX10_bursts_12 : decode cX10_bursts 12 = .ok (.ireturn, 1) := by decide +kernel
theorem dX10_bursts_13 : decode cX10_bursts 13 = .ok (.iload_n 1, 1) := by decide +kernel
theorem dX10_bursts_14 : decode cX10_bursts 14 = .ok (.invokestatic 175, 3) := by decide +kernel
theorem dX10_bursts_17 : decode cX10_bursts 17 = .ok (.ifCond .ne 9, 3) := by decide +kernel
theorem dX10_bursts_20 : decode cX10_bursts 20 = .ok (.aload_n 0, 1) := by decide +kernel
theorem dX10_bursts_21 : decode cX10_bursts 21 = .ok (.iconst 2, 1) := by decide +kernel
theorem dX10_bursts_22 : decode cX10_bursts 22 = .ok (.invokevirtual 90, 3) := by decide +kernel
theorem dX10_bursts_25 : decode cX10_bursts 25 = .ok (.ireturn, 1) := by decide +kernel
theorem dX10_bursts_26 : decode cX10_bursts 26 = .ok (.aload_n 0, 1) := by decide +kernel
theorem dX10_bursts_27 : decode cX10_bursts 27 = .ok (.iload_n 1, 1) := by decide +kernel
theorem dX10_bursts_28 : decode cX10_bursts 28 = .ok (.invokevirtual 178, 3) := by decide +kernel
theorem dX10_bursts_31 : decode cX10_bursts 31 = .ok (.aload_n 0, 1) := by decide +kernel
theorem dX10_bursts_32 : decode cX10_bursts 32 = .ok (.aload_n 0, 1) := by decide +kernel
theorem dX10_bursts_33 : decode cX10_bursts 33 = .ok (.getfield 33, 3) := by decide +kernel
theorem dX10_bursts_36 : decode cX10_bursts 36 = .ok (.aload_n 0, 1) := by decide +kernel
theorem dX10_bursts_37 : decode cX10_bursts 37 = .ok (.getfield 75, 3) := by decide +kernel
theorem dX10_bursts_40 : decode cX10_bursts 40 = .ok (.aload_n 0, 1) := by decide +kernel
theorem dX10_bursts_41 : decode cX10_bursts 41 = .ok (.getfield 19, 3) := by decide +kernel
theorem dX10_bursts_44 : decode cX10_bursts 44 = .ok (.aload_n 0, 1) := by decide +kernel
theorem dX10_bursts_45 : decode cX10_bursts 45 = .ok (.getfield 19, 3) := by decide +kernel
theorem dX10_bursts_48 : decode cX10_bursts 48 = .ok (.getfield 161, 3) := by decide +kernel
theorem dX10_bursts_51 : decode cX10_bursts 51 = .ok (.invokevirtual 184, 3) := by decide +kernel
theorem dX10_bursts_54 : decode cX10_bursts 54 = .ok (.invokevirtual 112, 3) := by decide +kernel
theorem dX10_bursts_57 : decode cX10_bursts 57 = .ok (.ireturn, 1) := by decide +kernel
theorem dX10_burstsAt_0 : decode cX10_burstsAt 0 = .ok (.aload_n 0, 1) := by decide +kernel
theorem dX10_burstsAt_1 : decode cX10_burstsAt 1 = .ok (.iload_n 1, 1) := by decide +kernel
theorem dX10_burstsAt_2 : decode cX10_burstsAt 2 = .ok (.invokevirtual 131, 3) := by decide +kernel
theorem dX10_burstsAt_5 : decode cX10_burstsAt 5 = .ok (.ifCond .ne 9, 3) := by decide +kernel
theorem dX10_burstsAt_8 : decode cX10_burstsAt 8 = .ok (.aload_n 0, 1) := by decide +kernel
theorem dX10_burstsAt_9 : decode cX10_burstsAt 9 = .ok (.iconst 1, 1) := by decide +kernel
theorem dX10_burstsAt_10 : decode cX10_burstsAt 10 = .ok (.invokevirtual 90, 3) := by decide +kernel
theorem dX10_burstsAt_13 : decode cX10_burstsAt 13 = .ok (.ireturn, 1) := by decide +kernel
theorem dX10_burstsAt_14 : decode cX10_burstsAt 14 = .ok (.aload_n 0, 1) := by decide +kernel
theorem dX10_burstsAt_15 : decode cX10_burstsAt 15 = .ok (.getfield 19, 3) := by decide +kernel
theorem dX10_burstsAt_18 : decode cX10_burstsAt 18 = .ok (.getfield 161, 3) := by decide +kernel
theorem dX10_burstsAt_21 : decode cX10_burstsAt 21 = .ok (.iload_n 1, 1) := by decide +kernel
theorem dX10_burstsAt_22 : decode cX10_burstsAt 22 = .ok (.invokestatic 164, 3) := by decide +kernel
theorem dX10_burstsAt_25 : decode cX10_burstsAt 25 = .ok (.ifCond .ne 9, 3) := by decide +kernel
theorem dX10_burstsAt_28 : decode cX10_burstsAt 28 = .ok (.aload_n 0, 1) := by decide +kernel
theorem dX10_burstsAt_29 : decode cX10_burstsAt 29 = .ok (.iconst 5, 1) := by decide +kernel
theorem dX10_burstsAt_30 : decode cX10_burstsAt 30 = .ok (.invokevirtual 90, 3) := by decide +kernel
theorem dX10_burstsAt_33 : decode cX10_burstsAt 33 = .ok (.ireturn, 1) := by decide +kernel
theorem dX10_burstsAt_34 : decode cX10_burstsAt 34 = .ok (.aload_n 0, 1) := by decide +kernel
theorem dX10_burstsAt_35 : decode cX10_burstsAt 35 = .ok (.getfield 33, 3) := by decide +kernel
theorem dX10_burstsAt_38 : decode cX10_burstsAt 38 = .ok (.aload_n 0, 1) := by decide +kernel
theorem dX10_burstsAt_39 : decode cX10_burstsAt 39 = .ok (.getfield 75, 3) := by decide +kernel
theorem dX10_burstsAt_42 : decode cX10_burstsAt 42 = .ok (.aload_n 0, 1) := by decide +kernel
theorem dX10_burstsAt_43 : decode cX10_burstsAt 43 = .ok (.getfield 19, 3) := by decide +kernel
theorem dX10_burstsAt_46 : decode cX10_burstsAt 46 = .ok (.getfield 161, 3) := by decide +kernel
theorem dX10_burstsAt_49 : decode cX10_burstsAt 49 = .ok (.invokevirtual 187, 3) := by decide +kernel
theorem dX10_burstsAt_52 : decode cX10_burstsAt 52 = .ok (.aload_n 0, 1) := by decide +kernel
theorem dX10_burstsAt_53 : decode cX10_burstsAt 53 = .ok (.aload_n 0, 1) := by decide +kernel
theorem dX10_burstsAt_54 : decode cX10_burstsAt 54 = .ok (.getfield 33, 3) := by decide +kernel
theorem dX10_burstsAt_57 : decode cX10_burstsAt 57 = .ok (.aload_n 0, 1) := by decide +kernel
theorem dX10_burstsAt_58 : decode cX10_burstsAt 58 = .ok (.getfield 75, 3) := by decide +kernel
theorem dX10_burstsAt_61 : decode cX10_burstsAt 61 = .ok (.aload_n 0, 1) := by decide +kernel
theorem dX10_burstsAt_62 : decode cX10_burstsAt 62 = .ok (.getfield 75, 3) := by decide +kernel
theorem dX10_burstsAt_65 : decode cX10_burstsAt 65 = .ok (.getfield 191, 3) := by decide +kernel
theorem dX10_burstsAt_68 : decode cX10_burstsAt 68 = .ok (.iload_n 1, 1) := by decide +kernel
theorem dX10_burstsAt_69 : decode cX10_burstsAt 69 = .ok (.iaload, 1) := by decide +kernel
theorem dX10_burstsAt_70 : decode cX10_burstsAt 70 = .ok (.aload_n 0, 1) := by decide +kernel
theorem dX10_burstsAt_71 : decode cX10_burstsAt 71 = .ok (.getfield 75, 3) := by decide +kernel
theorem dX10_burstsAt_74 : decode cX10_burstsAt 74 = .ok (.getfield 194, 3) := by decide +kernel
theorem dX10_burstsAt_77 : decode cX10_burstsAt 77 = .ok (.iload_n 1, 1) := by decide +kernel
theorem dX10_burstsAt_78 : decode cX10_burstsAt 78 = .ok (.iaload, 1) := by decide +kernel
theorem dX10_burstsAt_79 : decode cX10_burstsAt 79 = .ok (.aload_n 0, 1) := by decide +kernel
theorem dX10_burstsAt_80 : decode cX10_burstsAt 80 = .ok (.getfield 19, 3) := by decide +kernel
theorem dX10_burstsAt_83 : decode cX10_burstsAt 83 = .ok (.getfield 197, 3) := by decide +kernel
theorem dX10_burstsAt_86 : decode cX10_burstsAt 86 = .ok (.iload_n 1, 1) := by decide +kernel
theorem dX10_burstsAt_87 : decode cX10_burstsAt 87 = .ok (.iaload, 1) := by decide +kernel
theorem dX10_burstsAt_88 : decode cX10_burstsAt 88 = .ok (.isub, 1) := by decide +kernel
theorem dX10_burstsAt_89 : decode cX10_burstsAt 89 = .ok (.invokevirtual 200, 3) := by decide +kernel
theorem dX10_burstsAt_92 : decode cX10_burstsAt 92 = .ok (.invokevirtual 112, 3) := by decide +kernel
theorem dX10_burstsAt_95 : decode cX10_burstsAt 95 = .ok (.ireturn, 1) := by decide +kernel
theorem dX10_spillsAt_0 : decode cX10_spillsAt 0 = .ok (.aload_n 0, 1) := by decide +kernel
theorem dX10_spillsAt_1 : decode cX10_spillsAt 1 = .ok (.iload_n 1, 1) := by decide +kernel
theorem dX10_spillsAt_2 : decode cX10_spillsAt 2 = .ok (.invokevirtual 121, 3) := by decide +kernel
theorem dX10_spillsAt_5 : decode cX10_spillsAt 5 = .ok (.ifCond .ne 9, 3) := by decide +kernel
theorem dX10_spillsAt_8 : decode cX10_spillsAt 8 = .ok (.aload_n 0, 1) := by decide +kernel
theorem dX10_spillsAt_9 : decode cX10_spillsAt 9 = .ok (.iconst 1, 1) := by decide +kernel
theorem dX10_spillsAt_10 : decode cX10_spillsAt 10 = .ok (.invokevirtual 90, 3) := by decide +kernel
theorem dX10_spillsAt_13 : decode cX10_spillsAt 13 = .ok (.ireturn, 1) := by decide +kernel
theorem dX10_spillsAt_14 : decode cX10_spillsAt 14 = .ok (.aload_n 0, 1) := by decide +kernel
theorem dX10_spillsAt_15 : decode cX10_spillsAt 15 = .ok (.getfield 33, 3) := by decide +kernel
theorem dX10_spillsAt_18 : decode cX10_spillsAt 18 = .ok (.aload_n 0, 1) := by decide +kernel
theorem dX10_spillsAt_19 : decode cX10_spillsAt 19 = .ok (.getfield 75, 3) := by decide +kernel
theorem dX10_spillsAt_22 : decode cX10_spillsAt 22 = .ok (.aload_n 0, 1) := by decide +kernel
theorem dX10_spillsAt_23 : decode cX10_spillsAt 23 = .ok (.getfield 19, 3) := by decide +kernel
theorem dX10_spillsAt_26 : decode cX10_spillsAt 26 = .ok (.getfield 161, 3) := by decide +kernel
theorem dX10_spillsAt_29 : decode cX10_spillsAt 29 = .ok (.invokevirtual 187, 3) := by decide +kernel
theorem dX10_spillsAt_32 : decode cX10_spillsAt 32 = .ok (.aload_n 0, 1) := by decide +kernel
theorem dX10_spillsAt_33 : decode cX10_spillsAt 33 = .ok (.aload_n 0, 1) := by decide +kernel
theorem dX10_spillsAt_34 : decode cX10_spillsAt 34 = .ok (.getfield 33, 3) := by decide +kernel
theorem dX10_spillsAt_37 : decode cX10_spillsAt 37 = .ok (.aload_n 0, 1) := by decide +kernel
theorem dX10_spillsAt_38 : decode cX10_spillsAt 38 = .ok (.getfield 75, 3) := by decide +kernel
theorem dX10_spillsAt_41 : decode cX10_spillsAt 41 = .ok (.iload_n 1, 1) := by decide +kernel
theorem dX10_spillsAt_42 : decode cX10_spillsAt 42 = .ok (.aload_n 0, 1) := by decide +kernel
theorem dX10_spillsAt_43 : decode cX10_spillsAt 43 = .ok (.getfield 75, 3) := by decide +kernel
theorem dX10_spillsAt_46 : decode cX10_spillsAt 46 = .ok (.getfield 204, 3) := by decide +kernel
theorem dX10_spillsAt_49 : decode cX10_spillsAt 49 = .ok (.iload_n 1, 1) := by decide +kernel
theorem dX10_spillsAt_50 : decode cX10_spillsAt 50 = .ok (.iaload, 1) := by decide +kernel
theorem dX10_spillsAt_51 : decode cX10_spillsAt 51 = .ok (.invokevirtual 200, 3) := by decide +kernel
theorem dX10_spillsAt_54 : decode cX10_spillsAt 54 = .ok (.invokevirtual 112, 3) := by decide +kernel
theorem dX10_spillsAt_57 : decode cX10_spillsAt 57 = .ok (.ireturn, 1) := by decide +kernel
theorem dX10_safeFlow_0 : decode cX10_safeFlow 0 = .ok (.aload_n 0, 1) := by decide +kernel
theorem dX10_safeFlow_1 : decode cX10_safeFlow 1 = .ok (.invokevirtual 137, 3) := by decide +kernel
theorem dX10_safeFlow_4 : decode cX10_safeFlow 4 = .ok (.ifCond .eq 9, 3) := by decide +kernel
theorem dX10_safeFlow_7 : decode cX10_safeFlow 7 = .ok (.aload_n 0, 1) := by decide +kernel
theorem dX10_safeFlow_8 : decode cX10_safeFlow 8 = .ok (.iconst 1, 1) := by decide +kernel
theorem dX10_safeFlow_9 : decode cX10_safeFlow 9 = .ok (.invokevirtual 90, 3) := by decide +kernel
theorem dX10_safeFlow_12 : decode cX10_safeFlow 12 = .ok (.ireturn, 1) := by decide +kernel
theorem dX10_safeFlow_13 : decode cX10_safeFlow 13 = .ok (.aload_n 0, 1) := by decide +kernel
theorem dX10_safeFlow_14 : decode cX10_safeFlow 14 = .ok (.getfield 33, 3) := by decide +kernel
theorem dX10_safeFlow_17 : decode cX10_safeFlow 17 = .ok (.aload_n 0, 1) := by decide +kernel
theorem dX10_safeFlow_18 : decode cX10_safeFlow 18 = .ok (.getfield 75, 3) := by decide +kernel
theorem dX10_safeFlow_21 : decode cX10_safeFlow 21 = .ok (.aload_n 0, 1) := by decide +kernel
theorem dX10_safeFlow_22 : decode cX10_safeFlow 22 = .ok (.getfield 19, 3) := by decide +kernel
theorem dX10_safeFlow_25 : decode cX10_safeFlow 25 = .ok (.getfield 161, 3) := by decide +kernel
theorem dX10_safeFlow_28 : decode cX10_safeFlow 28 = .ok (.invokevirtual 187, 3) := by decide +kernel
theorem dX10_safeFlow_31 : decode cX10_safeFlow 31 = .ok (.aload_n 0, 1) := by decide +kernel
theorem dX10_safeFlow_32 : decode cX10_safeFlow 32 = .ok (.aload_n 0, 1) := by decide +kernel
theorem dX10_safeFlow_33 : decode cX10_safeFlow 33 = .ok (.getfield 33, 3) := by decide +kernel
theorem dX10_safeFlow_36 : decode cX10_safeFlow 36 = .ok (.aload_n 0, 1) := by decide +kernel
theorem dX10_safeFlow_37 : decode cX10_safeFlow 37 = .ok (.getfield 75, 3) := by decide +kernel
theorem dX10_safeFlow_40 : decode cX10_safeFlow 40 = .ok (.invokevirtual 207, 3) := by decide +kernel
theorem dX10_safeFlow_43 : decode cX10_safeFlow 43 = .ok (.invokevirtual 112, 3) := by decide +kernel
theorem dX10_safeFlow_46 : decode cX10_safeFlow 46 = .ok (.ireturn, 1) := by decide +kernel
theorem dX10_lacing_0 : decode cX10_lacing 0 = .ok (.aload_n 0, 1) := by decide +kernel
theorem dX10_lacing_1 : decode cX10_lacing 1 = .ok (.invokevirtual 137, 3) := by decide +kernel
theorem dX10_lacing_4 : decode cX10_lacing 4 = .ok (.ifCond .eq 9, 3) := by decide +kernel
theorem dX10_lacing_7 : decode cX10_lacing 7 = .ok (.aload_n 0, 1) := by decide +kernel
theorem dX10_lacing_8 : decode cX10_lacing 8 = .ok (.iconst 1, 1) := by decide +kernel
theorem dX10_lacing_9 : decode cX10_lacing 9 = .ok (.invokevirtual 90, 3) := by decide +kernel
theorem dX10_lacing_12 : decode cX10_lacing 12 = .ok (.ireturn, 1) := by decide +kernel
theorem dX10_lacing_13 : decode cX10_lacing 13 = .ok (.aload_n 0, 1) := by decide +kernel
theorem dX10_lacing_14 : decode cX10_lacing 14 = .ok (.getfield 40, 3) := by decide +kernel
theorem dX10_lacing_17 : decode cX10_lacing 17 = .ok (.aload_n 0, 1) := by decide +kernel
theorem dX10_lacing_18 : decode cX10_lacing 18 = .ok (.getfield 75, 3) := by decide +kernel
theorem dX10_lacing_21 : decode cX10_lacing 21 = .ok (.aload_n 0, 1) := by decide +kernel
theorem dX10_lacing_22 : decode cX10_lacing 22 = .ok (.getfield 19, 3) := by decide +kernel
theorem dX10_lacing_25 : decode cX10_lacing 25 = .ok (.invokevirtual 210, 3) := by decide +kernel
theorem dX10_lacing_28 : decode cX10_lacing 28 = .ok (.aload_n 0, 1) := by decide +kernel
theorem dX10_lacing_29 : decode cX10_lacing 29 = .ok (.aload_n 0, 1) := by decide +kernel
theorem dX10_lacing_30 : decode cX10_lacing 30 = .ok (.getfield 40, 3) := by decide +kernel
theorem dX10_lacing_33 : decode cX10_lacing 33 = .ok (.getfield 214, 3) := by decide +kernel
theorem dX10_lacing_36 : decode cX10_lacing 36 = .ok (.invokevirtual 112, 3) := by decide +kernel
theorem dX10_lacing_39 : decode cX10_lacing 39 = .ok (.ireturn, 1) := by decide +kernel
theorem dX10_length_0 : decode cX10_length 0 = .ok (.aload_n 0, 1) := by decide +kernel
theorem dX10_length_1 : decode cX10_length 1 = .ok (.invokevirtual 137, 3) := by decide +kernel
theorem dX10_length_4 : decode cX10_length 4 = .ok (.ifCond .eq 9, 3) := by decide +kernel
theorem dX10_length_7 : decode cX10_length 7 = .ok (.aload_n 0, 1) := by decide +kernel
theorem dX10_length_8 : decode cX10_length 8 = .ok (.iconst 1, 1) := by decide +kernel
theorem dX10_length_9 : decode cX10_length 9 = .ok (.invokevirtual 90, 3) := by decide +kernel
theorem dX10_length_12 : decode cX10_length 12 = .ok (.ireturn, 1) := by decide +kernel
theorem dX10_length_13 : decode cX10_length 13 = .ok (.aload_n 0, 1) := by decide +kernel
theorem dX10_length_14 : decode cX10_length 14 = .ok (.getfield 40, 3) := by decide +kernel
theorem dX10_length_17 : decode cX10_length 17 = .ok (.aload_n 0, 1) := by decide +kernel
theorem dX10_length_18 : decode cX10_length 18 = .ok (.getfield 75, 3) := by decide +kernel
theorem dX10_length_21 : decode cX10_length 21 = .ok (.aload_n 0, 1) := by decide +kernel
theorem dX10_length_22 : decode cX10_length 22 = .ok (.getfield 19, 3) := by decide +kernel
theorem dX10_length_25 : decode cX10_length 25 = .ok (.invokevirtual 210, 3) := by decide +kernel
theorem dX10_length_28 : decode cX10_length 28 = .ok (.aload_n 0, 1) := by decide +kernel
theorem dX10_length_29 : decode cX10_length 29 = .ok (.aload_n 0, 1) := by decide +kernel
theorem dX10_length_30 : decode cX10_length 30 = .ok (.getfield 40, 3) := by decide +kernel
theorem dX10_length_33 : decode cX10_length 33 = .ok (.getfield 217, 3) := by decide +kernel
theorem dX10_length_36 : decode cX10_length 36 = .ok (.invokevirtual 112, 3) := by decide +kernel
theorem dX10_length_39 : decode cX10_length 39 = .ok (.ireturn, 1) := by decide +kernel
theorem dX10_lengthSum_0 : decode cX10_lengthSum 0 = .ok (.aload_n 0, 1) := by decide +kernel
theorem dX10_lengthSum_1 : decode cX10_lengthSum 1 = .ok (.invokevirtual 137, 3) := by decide +kernel
theorem dX10_lengthSum_4 : decode cX10_lengthSum 4 = .ok (.ifCond .eq 9, 3) := by decide +kernel
theorem dX10_lengthSum_7 : decode cX10_lengthSum 7 = .ok (.aload_n 0, 1) := by decide +kernel
theorem dX10_lengthSum_8 : decode cX10_lengthSum 8 = .ok (.iconst 1, 1) := by decide +kernel
theorem dX10_lengthSum_9 : decode cX10_lengthSum 9 = .ok (.invokevirtual 90, 3) := by decide +kernel
theorem dX10_lengthSum_12 : decode cX10_lengthSum 12 = .ok (.ireturn, 1) := by decide +kernel
theorem dX10_lengthSum_13 : decode cX10_lengthSum 13 = .ok (.aload_n 0, 1) := by decide +kernel
theorem dX10_lengthSum_14 : decode cX10_lengthSum 14 = .ok (.getfield 40, 3) := by decide +kernel
theorem dX10_lengthSum_17 : decode cX10_lengthSum 17 = .ok (.aload_n 0, 1) := by decide +kernel
theorem dX10_lengthSum_18 : decode cX10_lengthSum 18 = .ok (.getfield 75, 3) := by decide +kernel
theorem dX10_lengthSum_21 : decode cX10_lengthSum 21 = .ok (.aload_n 0, 1) := by decide +kernel
theorem dX10_lengthSum_22 : decode cX10_lengthSum 22 = .ok (.getfield 19, 3) := by decide +kernel
theorem dX10_lengthSum_25 : decode cX10_lengthSum 25 = .ok (.invokevirtual 210, 3) := by decide +kernel
theorem dX10_lengthSum_28 : decode cX10_lengthSum 28 = .ok (.aload_n 0, 1) := by decide +kernel
theorem dX10_lengthSum_29 : decode cX10_lengthSum 29 = .ok (.aload_n 0, 1) := by decide +kernel
theorem dX10_lengthSum_30 : decode cX10_lengthSum 30 = .ok (.getfield 40, 3) := by decide +kernel
theorem dX10_lengthSum_33 : decode cX10_lengthSum 33 = .ok (.getfield 220, 3) := by decide +kernel
theorem dX10_lengthSum_36 : decode cX10_lengthSum 36 = .ok (.invokevirtual 112, 3) := by decide +kernel
theorem dX10_lengthSum_39 : decode cX10_lengthSum 39 = .ok (.ireturn, 1) := by decide +kernel
theorem dX10_lacings_0 : decode cX10_lacings 0 = .ok (.aload_n 0, 1) := by decide +kernel
theorem dX10_lacings_1 : decode cX10_lacings 1 = .ok (.invokevirtual 137, 3) := by decide +kernel
theorem dX10_lacings_4 : decode cX10_lacings 4 = .ok (.ifCond .eq 9, 3) := by decide +kernel
theorem dX10_lacings_7 : decode cX10_lacings 7 = .ok (.aload_n 0, 1) := by decide +kernel
theorem dX10_lacings_8 : decode cX10_lacings 8 = .ok (.iconst 1, 1) := by decide +kernel
theorem dX10_lacings_9 : decode cX10_lacings 9 = .ok (.invokevirtual 90, 3) := by decide +kernel
theorem dX10_lacings_12 : decode cX10_lacings 12 = .ok (.ireturn, 1) := by decide +kernel
theorem dX10_lacings_13 : decode cX10_lacings 13 = .ok (.aload_n 0, 1) := by decide +kernel
theorem dX10_lacings_14 : decode cX10_lacings 14 = .ok (.getfield 40, 3) := by decide +kernel
theorem dX10_lacings_17 : decode cX10_lacings 17 = .ok (.aload_n 0, 1) := by decide +kernel
theorem dX10_lacings_18 : decode cX10_lacings 18 = .ok (.getfield 75, 3) := by decide +kernel
theorem dX10_lacings_21 : decode cX10_lacings 21 = .ok (.aload_n 0, 1) := by decide +kernel
theorem dX10_lacings_22 : decode cX10_lacings 22 = .ok (.getfield 19, 3) := by decide +kernel
theorem dX10_lacings_25 : decode cX10_lacings 25 = .ok (.invokevirtual 210, 3) := by decide +kernel
theorem dX10_lacings_28 : decode cX10_lacings 28 = .ok (.aload_n 0, 1) := by decide +kernel
theorem dX10_lacings_29 : decode cX10_lacings 29 = .ok (.aload_n 0, 1) := by decide +kernel
theorem dX10_lacings_30 : decode cX10_lacings 30 = .ok (.getfield 40, 3) := by decide +kernel
theorem dX10_lacings_33 : decode cX10_lacings 33 = .ok (.getfield 223, 3) := by decide +kernel
theorem dX10_lacings_36 : decode cX10_lacings 36 = .ok (.invokevirtual 112, 3) := by decide +kernel
theorem dX10_lacings_39 : decode cX10_lacings 39 = .ok (.ireturn, 1) := by decide +kernel
theorem dX10_bestChange_0 : decode cX10_bestChange 0 = .ok (.aload_n 0, 1) := by decide +kernel
theorem dX10_bestChange_1 : decode cX10_bestChange 1 = .ok (.invokevirtual 137, 3) := by decide +kernel
theorem dX10_bestChange_4 : decode cX10_bestChange 4 = .ok (.ifCond .eq 9, 3) := by decide +kernel
theorem dX10_bestChange_7 : decode cX10_bestChange 7 = .ok (.aload_n 0, 1) := by decide +kernel
theorem dX10_bestChange_8 : decode cX10_bestChange 8 = .ok (.iconst 1, 1) := by decide +kernel
theorem dX10_bestChange_9 : decode cX10_bestChange 9 = .ok (.invokevirtual 90, 3) := by decide +kernel
theorem dX10_bestChange_12 : decode cX10_bestChange 12 = .ok (.ireturn, 1) := by decide +kernel
theorem dX10_bestChange_13 : decode cX10_bestChange 13 = .ok (.aload_n 0, 1) := by decide +kernel
theorem dX10_bestChange_14 : decode cX10_bestChange 14 = .ok (.getfield 40, 3) := by decide +kernel
theorem dX10_bestChange_17 : decode cX10_bestChange 17 = .ok (.aload_n 0, 1) := by decide +kernel
theorem dX10_bestChange_18 : decode cX10_bestChange 18 = .ok (.getfield 75, 3) := by decide +kernel
theorem dX10_bestChange_21 : decode cX10_bestChange 21 = .ok (.aload_n 0, 1) := by decide +kernel
theorem dX10_bestChange_22 : decode cX10_bestChange 22 = .ok (.getfield 19, 3) := by decide +kernel
theorem dX10_bestChange_25 : decode cX10_bestChange 25 = .ok (.invokevirtual 226, 3) := by decide +kernel
theorem dX10_bestChange_28 : decode cX10_bestChange 28 = .ok (.aload_n 0, 1) := by decide +kernel
theorem dX10_bestChange_29 : decode cX10_bestChange 29 = .ok (.aload_n 0, 1) := by decide +kernel
theorem dX10_bestChange_30 : decode cX10_bestChange 30 = .ok (.getfield 40, 3) := by decide +kernel
theorem dX10_bestChange_33 : decode cX10_bestChange 33 = .ok (.getfield 229, 3) := by decide +kernel
theorem dX10_bestChange_36 : decode cX10_bestChange 36 = .ok (.invokevirtual 112, 3) := by decide +kernel
theorem dX10_bestChange_39 : decode cX10_bestChange 39 = .ok (.ireturn, 1) := by decide +kernel
theorem dX10_changeHarm_0 : decode cX10_changeHarm 0 = .ok (.aload_n 0, 1) := by decide +kernel
theorem dX10_changeHarm_1 : decode cX10_changeHarm 1 = .ok (.invokevirtual 137, 3) := by decide +kernel
theorem dX10_changeHarm_4 : decode cX10_changeHarm 4 = .ok (.ifCond .eq 9, 3) := by decide +kernel
theorem dX10_changeHarm_7 : decode cX10_changeHarm 7 = .ok (.aload_n 0, 1) := by decide +kernel
theorem dX10_changeHarm_8 : decode cX10_changeHarm 8 = .ok (.iconst 1, 1) := by decide +kernel
theorem dX10_changeHarm_9 : decode cX10_changeHarm 9 = .ok (.invokevirtual 90, 3) := by decide +kernel
theorem dX10_changeHarm_12 : decode cX10_changeHarm 12 = .ok (.ireturn, 1) := by decide +kernel
theorem dX10_changeHarm_13 : decode cX10_changeHarm 13 = .ok (.aload_n 0, 1) := by decide +kernel
theorem dX10_changeHarm_14 : decode cX10_changeHarm 14 = .ok (.getfield 40, 3) := by decide +kernel
theorem dX10_changeHarm_17 : decode cX10_changeHarm 17 = .ok (.aload_n 0, 1) := by decide +kernel
theorem dX10_changeHarm_18 : decode cX10_changeHarm 18 = .ok (.getfield 75, 3) := by decide +kernel
theorem dX10_changeHarm_21 : decode cX10_changeHarm 21 = .ok (.aload_n 0, 1) := by decide +kernel
theorem dX10_changeHarm_22 : decode cX10_changeHarm 22 = .ok (.getfield 19, 3) := by decide +kernel
theorem dX10_changeHarm_25 : decode cX10_changeHarm 25 = .ok (.invokevirtual 226, 3) := by decide +kernel
theorem dX10_changeHarm_28 : decode cX10_changeHarm 28 = .ok (.aload_n 0, 1) := by decide +kernel
theorem dX10_changeHarm_29 : decode cX10_changeHarm 29 = .ok (.aload_n 0, 1) := by decide +kernel
theorem dX10_changeHarm_30 : decode cX10_changeHarm 30 = .ok (.getfield 40, 3) := by decide +kernel
theorem dX10_changeHarm_33 : decode cX10_changeHarm 33 = .ok (.getfield 232, 3) := by decide +kernel
theorem dX10_changeHarm_36 : decode cX10_changeHarm 36 = .ok (.invokevirtual 112, 3) := by decide +kernel
theorem dX10_changeHarm_39 : decode cX10_changeHarm 39 = .ok (.ireturn, 1) := by decide +kernel
theorem dX10_passes_0 : decode cX10_passes 0 = .ok (.aload_n 0, 1) := by decide +kernel
theorem dX10_passes_1 : decode cX10_passes 1 = .ok (.iload_n 1, 1) := by decide +kernel
theorem dX10_passes_2 : decode cX10_passes 2 = .ok (.invokevirtual 235, 3) := by decide +kernel
theorem dX10_passes_5 : decode cX10_passes 5 = .ok (.ifCond .ne 9, 3) := by decide +kernel
theorem dX10_passes_8 : decode cX10_passes 8 = .ok (.aload_n 0, 1) := by decide +kernel
theorem dX10_passes_9 : decode cX10_passes 9 = .ok (.iconst 1, 1) := by decide +kernel
theorem dX10_passes_10 : decode cX10_passes 10 = .ok (.invokevirtual 90, 3) := by decide +kernel
theorem dX10_passes_13 : decode cX10_passes 13 = .ok (.ireturn, 1) := by decide +kernel
theorem dX10_passes_14 : decode cX10_passes 14 = .ok (.aload_n 0, 1) := by decide +kernel
theorem dX10_passes_15 : decode cX10_passes 15 = .ok (.aload_n 0, 1) := by decide +kernel
theorem dX10_passes_16 : decode cX10_passes 16 = .ok (.getfield 47, 3) := by decide +kernel
theorem dX10_passes_19 : decode cX10_passes 19 = .ok (.aload_n 0, 1) := by decide +kernel
theorem dX10_passes_20 : decode cX10_passes 20 = .ok (.getfield 75, 3) := by decide +kernel
theorem dX10_passes_23 : decode cX10_passes 23 = .ok (.aload_n 0, 1) := by decide +kernel
theorem dX10_passes_24 : decode cX10_passes 24 = .ok (.getfield 19, 3) := by decide +kernel
theorem dX10_passes_27 : decode cX10_passes 27 = .ok (.iload_n 1, 1) := by decide +kernel
theorem dX10_passes_28 : decode cX10_passes 28 = .ok (.invokevirtual 238, 3) := by decide +kernel
theorem dX10_passes_31 : decode cX10_passes 31 = .ok (.invokevirtual 112, 3) := by decide +kernel
theorem dX10_passes_34 : decode cX10_passes 34 = .ok (.ireturn, 1) := by decide +kernel
theorem dX10_stuck_0 : decode cX10_stuck 0 = .ok (.aload_n 0, 1) := by decide +kernel
theorem dX10_stuck_1 : decode cX10_stuck 1 = .ok (.iload_n 1, 1) := by decide +kernel
theorem dX10_stuck_2 : decode cX10_stuck 2 = .ok (.invokevirtual 235, 3) := by decide +kernel
theorem dX10_stuck_5 : decode cX10_stuck 5 = .ok (.ifCond .ne 9, 3) := by decide +kernel
theorem dX10_stuck_8 : decode cX10_stuck 8 = .ok (.aload_n 0, 1) := by decide +kernel
theorem dX10_stuck_9 : decode cX10_stuck 9 = .ok (.iconst 1, 1) := by decide +kernel
theorem dX10_stuck_10 : decode cX10_stuck 10 = .ok (.invokevirtual 90, 3) := by decide +kernel
theorem dX10_stuck_13 : decode cX10_stuck 13 = .ok (.ireturn, 1) := by decide +kernel
theorem dX10_stuck_14 : decode cX10_stuck 14 = .ok (.aload_n 0, 1) := by decide +kernel
theorem dX10_stuck_15 : decode cX10_stuck 15 = .ok (.getfield 47, 3) := by decide +kernel
theorem dX10_stuck_18 : decode cX10_stuck 18 = .ok (.aload_n 0, 1) := by decide +kernel
theorem dX10_stuck_19 : decode cX10_stuck 19 = .ok (.getfield 75, 3) := by decide +kernel
theorem dX10_stuck_22 : decode cX10_stuck 22 = .ok (.aload_n 0, 1) := by decide +kernel
theorem dX10_stuck_23 : decode cX10_stuck 23 = .ok (.getfield 19, 3) := by decide +kernel
theorem dX10_stuck_26 : decode cX10_stuck 26 = .ok (.iload_n 1, 1) := by decide +kernel
theorem dX10_stuck_27 : decode cX10_stuck 27 = .ok (.invokevirtual 238, 3) := by decide +kernel
theorem dX10_stuck_30 : decode cX10_stuck 30 = .ok (.istore_n 2, 1) := by decide +kernel
theorem dX10_stuck_31 : decode cX10_stuck 31 = .ok (.iconst 0, 1) := by decide +kernel
theorem dX10_stuck_32 : decode cX10_stuck 32 = .ok (.istore_n 3, 1) := by decide +kernel
theorem dX10_stuck_33 : decode cX10_stuck 33 = .ok (.iload_n 3, 1) := by decide +kernel
theorem dX10_stuck_34 : decode cX10_stuck 34 = .ok (.aload_n 0, 1) := by decide +kernel
theorem dX10_stuck_35 : decode cX10_stuck 35 = .ok (.getfield 75, 3) := by decide +kernel
theorem dX10_stuck_38 : decode cX10_stuck 38 = .ok (.getfield 109, 3) := by decide +kernel
theorem dX10_stuck_41 : decode cX10_stuck 41 = .ok (.if_icmp .ge 23, 3) := by decide +kernel
theorem dX10_stuck_44 : decode cX10_stuck 44 = .ok (.iload_n 2, 1) := by decide +kernel
theorem dX10_stuck_45 : decode cX10_stuck 45 = .ok (.iload_n 3, 1) := by decide +kernel
theorem dX10_stuck_46 : decode cX10_stuck 46 = .ok (.invokestatic 164, 3) := by decide +kernel
theorem dX10_stuck_49 : decode cX10_stuck 49 = .ok (.ifCond .ne 9, 3) := by decide +kernel
theorem dX10_stuck_52 : decode cX10_stuck 52 = .ok (.aload_n 0, 1) := by decide +kernel
theorem dX10_stuck_53 : decode cX10_stuck 53 = .ok (.iload_n 3, 1) := by decide +kernel
theorem dX10_stuck_54 : decode cX10_stuck 54 = .ok (.invokevirtual 112, 3) := by decide +kernel
theorem dX10_stuck_57 : decode cX10_stuck 57 = .ok (.ireturn, 1) := by decide +kernel
theorem dX10_stuck_58 : decode cX10_stuck 58 = .ok (.iinc 3 1, 3) := by decide +kernel
theorem dX10_stuck_61 : decode cX10_stuck 61 = .ok (.goto (-28), 3) := by decide +kernel
theorem dX10_stuck_64 : decode cX10_stuck 64 = .ok (.aload_n 0, 1) := by decide +kernel
theorem dX10_stuck_65 : decode cX10_stuck 65 = .ok (.bipush (-2), 2) := by decide +kernel
theorem dX10_stuck_67 : decode cX10_stuck 67 = .ok (.invokevirtual 112, 3) := by decide +kernel
theorem dX10_stuck_70 : decode cX10_stuck 70 = .ok (.ireturn, 1) := by decide +kernel
theorem dX10_letThrough_0 : decode cX10_letThrough 0 = .ok (.aload_n 0, 1) := by decide +kernel
theorem dX10_letThrough_1 : decode cX10_letThrough 1 = .ok (.iload_n 1, 1) := by decide +kernel
theorem dX10_letThrough_2 : decode cX10_letThrough 2 = .ok (.invokevirtual 235, 3) := by decide +kernel
theorem dX10_letThrough_5 : decode cX10_letThrough 5 = .ok (.ifCond .ne 9, 3) := by decide +kernel
theorem dX10_letThrough_8 : decode cX10_letThrough 8 = .ok (.aload_n 0, 1) := by decide +kernel
theorem dX10_letThrough_9 : decode cX10_letThrough 9 = .ok (.iconst 1, 1) := by decide +kernel
theorem dX10_letThrough_10 : decode cX10_letThrough 10 = .ok (.invokevirtual 90, 3) := by decide +kernel
theorem dX10_letThrough_13 : decode cX10_letThrough 13 = .ok (.ireturn, 1) := by decide +kernel
theorem dX10_letThrough_14 : decode cX10_letThrough 14 = .ok (.aload_n 0, 1) := by decide +kernel
theorem dX10_letThrough_15 : decode cX10_letThrough 15 = .ok (.aload_n 0, 1) := by decide +kernel
theorem dX10_letThrough_16 : decode cX10_letThrough 16 = .ok (.getfield 47, 3) := by decide +kernel
theorem dX10_letThrough_19 : decode cX10_letThrough 19 = .ok (.aload_n 0, 1) := by decide +kernel
theorem dX10_letThrough_20 : decode cX10_letThrough 20 = .ok (.getfield 75, 3) := by decide +kernel
theorem dX10_letThrough_23 : decode cX10_letThrough 23 = .ok (.aload_n 0, 1) := by decide +kernel
theorem dX10_letThrough_24 : decode cX10_letThrough 24 = .ok (.getfield 19, 3) := by decide +kernel
theorem dX10_letThrough_27 : decode cX10_letThrough 27 = .ok (.iload_n 1, 1) := by decide +kernel
theorem dX10_letThrough_28 : decode cX10_letThrough 28 = .ok (.invokevirtual 241, 3) := by decide +kernel
theorem dX10_letThrough_31 : decode cX10_letThrough 31 = .ok (.invokevirtual 112, 3) := by decide +kernel
theorem dX10_letThrough_34 : decode cX10_letThrough 34 = .ok (.ireturn, 1) := by decide +kernel
theorem dX10_bestBoat_0 : decode cX10_bestBoat 0 = .ok (.aload_n 0, 1) := by decide +kernel
theorem dX10_bestBoat_1 : decode cX10_bestBoat 1 = .ok (.invokevirtual 137, 3) := by decide +kernel
theorem dX10_bestBoat_4 : decode cX10_bestBoat 4 = .ok (.ifCond .eq 9, 3) := by decide +kernel
theorem dX10_bestBoat_7 : decode cX10_bestBoat 7 = .ok (.aload_n 0, 1) := by decide +kernel
theorem dX10_bestBoat_8 : decode cX10_bestBoat 8 = .ok (.iconst 1, 1) := by decide +kernel
theorem dX10_bestBoat_9 : decode cX10_bestBoat 9 = .ok (.invokevirtual 90, 3) := by decide +kernel
theorem dX10_bestBoat_12 : decode cX10_bestBoat 12 = .ok (.ireturn, 1) := by decide +kernel
theorem dX10_bestBoat_13 : decode cX10_bestBoat 13 = .ok (.aload_n 0, 1) := by decide +kernel
theorem dX10_bestBoat_14 : decode cX10_bestBoat 14 = .ok (.aload_n 0, 1) := by decide +kernel
theorem dX10_bestBoat_15 : decode cX10_bestBoat 15 = .ok (.getfield 47, 3) := by decide +kernel
theorem dX10_bestBoat_18 : decode cX10_bestBoat 18 = .ok (.aload_n 0, 1) := by decide +kernel
theorem dX10_bestBoat_19 : decode cX10_bestBoat 19 = .ok (.getfield 75, 3) := by decide +kernel
theorem dX10_bestBoat_22 : decode cX10_bestBoat 22 = .ok (.aload_n 0, 1) := by decide +kernel
theorem dX10_bestBoat_23 : decode cX10_bestBoat 23 = .ok (.getfield 19, 3) := by decide +kernel
theorem dX10_bestBoat_26 : decode cX10_bestBoat 26 = .ok (.invokevirtual 244, 3) := by decide +kernel
theorem dX10_bestBoat_29 : decode cX10_bestBoat 29 = .ok (.invokevirtual 112, 3) := by decide +kernel
theorem dX10_bestBoat_32 : decode cX10_bestBoat 32 = .ok (.ireturn, 1) := by decide +kernel
theorem dX10_needs_0 : decode cX10_needs 0 = .ok (.aload_n 0, 1) := by decide +kernel
theorem dX10_needs_1 : decode cX10_needs 1 = .ok (.iload_n 1, 1) := by decide +kernel
theorem dX10_needs_2 : decode cX10_needs 2 = .ok (.invokevirtual 131, 3) := by decide +kernel
theorem dX10_needs_5 : decode cX10_needs 5 = .ok (.ifCond .ne 9, 3) := by decide +kernel
theorem dX10_needs_8 : decode cX10_needs 8 = .ok (.aload_n 0, 1) := by decide +kernel
theorem dX10_needs_9 : decode cX10_needs 9 = .ok (.iconst 1, 1) := by decide +kernel
theorem dX10_needs_10 : decode cX10_needs 10 = .ok (.invokevirtual 90, 3) := by decide +kernel
theorem dX10_needs_13 : decode cX10_needs 13 = .ok (.ireturn, 1) := by decide +kernel
theorem dX10_needs_14 : decode cX10_needs 14 = .ok (.aload_n 0, 1) := by decide +kernel
theorem dX10_needs_15 : decode cX10_needs 15 = .ok (.invokevirtual 124, 3) := by decide +kernel
theorem dX10_needs_18 : decode cX10_needs 18 = .ok (.aload_n 0, 1) := by decide +kernel
theorem dX10_needs_19 : decode cX10_needs 19 = .ok (.aload_n 0, 1) := by decide +kernel
theorem dX10_needs_20 : decode cX10_needs 20 = .ok (.iload_n 1, 1) := by decide +kernel
theorem dX10_needs_21 : decode cX10_needs 21 = .ok (.invokevirtual 248, 3) := by decide +kernel
theorem dX10_needs_24 : decode cX10_needs 24 = .ok (.invokevirtual 112, 3) := by decide +kernel
theorem dX10_needs_27 : decode cX10_needs 27 = .ok (.ireturn, 1) := by decide +kernel
theorem dX10_hauls_0 : decode cX10_hauls 0 = .ok (.aload_n 0, 1) := by decide +kernel
theorem dX10_hauls_1 : decode cX10_hauls 1 = .ok (.iload_n 1, 1) := by decide +kernel
theorem dX10_hauls_2 : decode cX10_hauls 2 = .ok (.invokevirtual 131, 3) := by decide +kernel
theorem dX10_hauls_5 : decode cX10_hauls 5 = .ok (.ifCond .ne 9, 3) := by decide +kernel
theorem dX10_hauls_8 : decode cX10_hauls 8 = .ok (.aload_n 0, 1) := by decide +kernel
theorem dX10_hauls_9 : decode cX10_hauls 9 = .ok (.iconst 1, 1) := by decide +kernel
theorem dX10_hauls_10 : decode cX10_hauls 10 = .ok (.invokevirtual 90, 3) := by decide +kernel
theorem dX10_hauls_13 : decode cX10_hauls 13 = .ok (.ireturn, 1) := by decide +kernel
theorem dX10_hauls_14 : decode cX10_hauls 14 = .ok (.aload_n 0, 1) := by decide +kernel
theorem dX10_hauls_15 : decode cX10_hauls 15 = .ok (.invokevirtual 124, 3) := by decide +kernel
theorem dX10_hauls_18 : decode cX10_hauls 18 = .ok (.aload_n 0, 1) := by decide +kernel
theorem dX10_hauls_19 : decode cX10_hauls 19 = .ok (.aload_n 0, 1) := by decide +kernel
theorem dX10_hauls_20 : decode cX10_hauls 20 = .ok (.getfield 47, 3) := by decide +kernel
theorem dX10_hauls_23 : decode cX10_hauls 23 = .ok (.aload_n 0, 1) := by decide +kernel
theorem dX10_hauls_24 : decode cX10_hauls 24 = .ok (.getfield 75, 3) := by decide +kernel
theorem dX10_hauls_27 : decode cX10_hauls 27 = .ok (.aload_n 0, 1) := by decide +kernel
theorem dX10_hauls_28 : decode cX10_hauls 28 = .ok (.iload_n 1, 1) := by decide +kernel
theorem dX10_hauls_29 : decode cX10_hauls 29 = .ok (.invokevirtual 248, 3) := by decide +kernel
theorem dX10_hauls_32 : decode cX10_hauls 32 = .ok (.invokevirtual 251, 3) := by decide +kernel
theorem dX10_hauls_35 : decode cX10_hauls 35 = .ok (.invokevirtual 112, 3) := by decide +kernel
theorem dX10_hauls_38 : decode cX10_hauls 38 = .ok (.ireturn, 1) := by decide +kernel
theorem dX10_fits_0 : decode cX10_fits 0 = .ok (.aload_n 0, 1) := by decide +kernel
theorem dX10_fits_1 : decode cX10_fits 1 = .ok (.invokevirtual 137, 3) := by decide +kernel
theorem dX10_fits_4 : decode cX10_fits 4 = .ok (.ifCond .eq 9, 3) := by decide +kernel
theorem dX10_fits_7 : decode cX10_fits 7 = .ok (.aload_n 0, 1) := by decide +kernel
theorem dX10_fits_8 : decode cX10_fits 8 = .ok (.iconst 1, 1) := by decide +kernel
theorem dX10_fits_9 : decode cX10_fits 9 = .ok (.invokevirtual 90, 3) := by decide +kernel
theorem dX10_fits_12 : decode cX10_fits 12 = .ok (.ireturn, 1) := by decide +kernel
theorem dX10_fits_13 : decode cX10_fits 13 = .ok (.aload_n 0, 1) := by decide +kernel
theorem dX10_fits_14 : decode cX10_fits 14 = .ok (.getfield 54, 3) := by decide +kernel
theorem dX10_fits_17 : decode cX10_fits 17 = .ok (.aload_n 0, 1) := by decide +kernel
theorem dX10_fits_18 : decode cX10_fits 18 = .ok (.getfield 75, 3) := by decide +kernel
theorem dX10_fits_21 : decode cX10_fits 21 = .ok (.aload_n 0, 1) := by decide +kernel
theorem dX10_fits_22 : decode cX10_fits 22 = .ok (.getfield 19, 3) := by decide +kernel
theorem dX10_fits_25 : decode cX10_fits 25 = .ok (.invokevirtual 255, 3) := by decide +kernel
theorem dX10_fits_28 : decode cX10_fits 28 = .ok (.aload_n 0, 1) := by decide +kernel
theorem dX10_fits_29 : decode cX10_fits 29 = .ok (.aload_n 0, 1) := by decide +kernel
theorem dX10_fits_30 : decode cX10_fits 30 = .ok (.getfield 54, 3) := by decide +kernel
theorem dX10_fits_33 : decode cX10_fits 33 = .ok (.getfield 256, 3) := by decide +kernel
theorem dX10_fits_36 : decode cX10_fits 36 = .ok (.invokevirtual 112, 3) := by decide +kernel
theorem dX10_fits_39 : decode cX10_fits 39 = .ok (.ireturn, 1) := by decide +kernel
theorem dX10_could_0 : decode cX10_could 0 = .ok (.aload_n 0, 1) := by decide +kernel
theorem dX10_could_1 : decode cX10_could 1 = .ok (.invokevirtual 137, 3) := by decide +kernel
theorem dX10_could_4 : decode cX10_could 4 = .ok (.ifCond .eq 9, 3) := by decide +kernel
theorem dX10_could_7 : decode cX10_could 7 = .ok (.aload_n 0, 1) := by decide +kernel
theorem dX10_could_8 : decode cX10_could 8 = .ok (.iconst 1, 1) := by decide +kernel
theorem dX10_could_9 : decode cX10_could 9 = .ok (.invokevirtual 90, 3) := by decide +kernel
theorem dX10_could_12 : decode cX10_could 12 = .ok (.ireturn, 1) := by decide +kernel
theorem dX10_could_13 : decode cX10_could 13 = .ok (.aload_n 0, 1) := by decide +kernel
theorem dX10_could_14 : decode cX10_could 14 = .ok (.getfield 54, 3) := by decide +kernel
theorem dX10_could_17 : decode cX10_could 17 = .ok (.aload_n 0, 1) := by decide +kernel
theorem dX10_could_18 : decode cX10_could 18 = .ok (.getfield 75, 3) := by decide +kernel
theorem dX10_could_21 : decode cX10_could 21 = .ok (.aload_n 0, 1) := by decide +kernel
theorem dX10_could_22 : decode cX10_could 22 = .ok (.getfield 19, 3) := by decide +kernel
theorem dX10_could_25 : decode cX10_could 25 = .ok (.invokevirtual 255, 3) := by decide +kernel
theorem dX10_could_28 : decode cX10_could 28 = .ok (.aload_n 0, 1) := by decide +kernel
theorem dX10_could_29 : decode cX10_could 29 = .ok (.aload_n 0, 1) := by decide +kernel
theorem dX10_could_30 : decode cX10_could 30 = .ok (.getfield 54, 3) := by decide +kernel
theorem dX10_could_33 : decode cX10_could 33 = .ok (.getfield 257, 3) := by decide +kernel
theorem dX10_could_36 : decode cX10_could 36 = .ok (.invokevirtual 112, 3) := by decide +kernel
theorem dX10_could_39 : decode cX10_could 39 = .ok (.ireturn, 1) := by decide +kernel
theorem dX10_surely_0 : decode cX10_surely 0 = .ok (.aload_n 0, 1) := by decide +kernel
theorem dX10_surely_1 : decode cX10_surely 1 = .ok (.invokevirtual 137, 3) := by decide +kernel
theorem dX10_surely_4 : decode cX10_surely 4 = .ok (.ifCond .eq 9, 3) := by decide +kernel
theorem dX10_surely_7 : decode cX10_surely 7 = .ok (.aload_n 0, 1) := by decide +kernel
theorem dX10_surely_8 : decode cX10_surely 8 = .ok (.iconst 1, 1) := by decide +kernel
theorem dX10_surely_9 : decode cX10_surely 9 = .ok (.invokevirtual 90, 3) := by decide +kernel
theorem dX10_surely_12 : decode cX10_surely 12 = .ok (.ireturn, 1) := by decide +kernel
theorem dX10_surely_13 : decode cX10_surely 13 = .ok (.aload_n 0, 1) := by decide +kernel
theorem dX10_surely_14 : decode cX10_surely 14 = .ok (.getfield 54, 3) := by decide +kernel
theorem dX10_surely_17 : decode cX10_surely 17 = .ok (.aload_n 0, 1) := by decide +kernel
theorem dX10_surely_18 : decode cX10_surely 18 = .ok (.getfield 75, 3) := by decide +kernel
theorem dX10_surely_21 : decode cX10_surely 21 = .ok (.aload_n 0, 1) := by decide +kernel
theorem dX10_surely_22 : decode cX10_surely 22 = .ok (.getfield 19, 3) := by decide +kernel
theorem dX10_surely_25 : decode cX10_surely 25 = .ok (.invokevirtual 255, 3) := by decide +kernel
theorem dX10_surely_28 : decode cX10_surely 28 = .ok (.aload_n 0, 1) := by decide +kernel
theorem dX10_surely_29 : decode cX10_surely 29 = .ok (.aload_n 0, 1) := by decide +kernel
theorem dX10_surely_30 : decode cX10_surely 30 = .ok (.getfield 54, 3) := by decide +kernel
theorem dX10_surely_33 : decode cX10_surely 33 = .ok (.getfield 260, 3) := by decide +kernel
theorem dX10_surely_36 : decode cX10_surely 36 = .ok (.invokevirtual 112, 3) := by decide +kernel
theorem dX10_surely_39 : decode cX10_surely 39 = .ok (.ireturn, 1) := by decide +kernel
theorem dX10_ask_0 : decode cX10_ask 0 = .ok (.aload_n 0, 1) := by decide +kernel
theorem dX10_ask_1 : decode cX10_ask 1 = .ok (.invokevirtual 137, 3) := by decide +kernel
theorem dX10_ask_4 : decode cX10_ask 4 = .ok (.ifCond .eq 9, 3) := by decide +kernel
theorem dX10_ask_7 : decode cX10_ask 7 = .ok (.aload_n 0, 1) := by decide +kernel
theorem dX10_ask_8 : decode cX10_ask 8 = .ok (.iconst 1, 1) := by decide +kernel
theorem dX10_ask_9 : decode cX10_ask 9 = .ok (.invokevirtual 90, 3) := by decide +kernel
theorem dX10_ask_12 : decode cX10_ask 12 = .ok (.ireturn, 1) := by decide +kernel
theorem dX10_ask_13 : decode cX10_ask 13 = .ok (.aload_n 0, 1) := by decide +kernel
theorem dX10_ask_14 : decode cX10_ask 14 = .ok (.getfield 54, 3) := by decide +kernel
theorem dX10_ask_17 : decode cX10_ask 17 = .ok (.aload_n 0, 1) := by decide +kernel
theorem dX10_ask_18 : decode cX10_ask 18 = .ok (.getfield 75, 3) := by decide +kernel
theorem dX10_ask_21 : decode cX10_ask 21 = .ok (.aload_n 0, 1) := by decide +kernel
theorem dX10_ask_22 : decode cX10_ask 22 = .ok (.getfield 19, 3) := by decide +kernel
theorem dX10_ask_25 : decode cX10_ask 25 = .ok (.invokevirtual 255, 3) := by decide +kernel
theorem dX10_ask_28 : decode cX10_ask 28 = .ok (.aload_n 0, 1) := by decide +kernel
theorem dX10_ask_29 : decode cX10_ask 29 = .ok (.getfield 54, 3) := by decide +kernel
theorem dX10_ask_32 : decode cX10_ask 32 = .ok (.aload_n 0, 1) := by decide +kernel
theorem dX10_ask_33 : decode cX10_ask 33 = .ok (.getfield 75, 3) := by decide +kernel
theorem dX10_ask_36 : decode cX10_ask 36 = .ok (.invokevirtual 263, 3) := by decide +kernel
theorem dX10_ask_39 : decode cX10_ask 39 = .ok (.aload_n 0, 1) := by decide +kernel
theorem dX10_ask_40 : decode cX10_ask 40 = .ok (.aload_n 0, 1) := by decide +kernel
theorem dX10_ask_41 : decode cX10_ask 41 = .ok (.getfield 54, 3) := by decide +kernel
theorem dX10_ask_44 : decode cX10_ask 44 = .ok (.getfield 266, 3) := by decide +kernel
theorem dX10_ask_47 : decode cX10_ask 47 = .ok (.invokevirtual 112, 3) := by decide +kernel
theorem dX10_ask_50 : decode cX10_ask 50 = .ok (.ireturn, 1) := by decide +kernel
theorem dX10_askLeaves_0 : decode cX10_askLeaves 0 = .ok (.aload_n 0, 1) := by decide +kernel
theorem dX10_askLeaves_1 : decode cX10_askLeaves 1 = .ok (.invokevirtual 137, 3) := by decide +kernel
theorem dX10_askLeaves_4 : decode cX10_askLeaves 4 = .ok (.ifCond .eq 9, 3) := by decide +kernel
theorem dX10_askLeaves_7 : decode cX10_askLeaves 7 = .ok (.aload_n 0, 1) := by decide +kernel
theorem dX10_askLeaves_8 : decode cX10_askLeaves 8 = .ok (.iconst 1, 1) := by decide +kernel
theorem dX10_askLeaves_9 : decode cX10_askLeaves 9 = .ok (.invokevirtual 90, 3) := by decide +kernel
theorem dX10_askLeaves_12 : decode cX10_askLeaves 12 = .ok (.ireturn, 1) := by decide +kernel
theorem dX10_askLeaves_13 : decode cX10_askLeaves 13 = .ok (.aload_n 0, 1) := by decide +kernel
theorem dX10_askLeaves_14 : decode cX10_askLeaves 14 = .ok (.getfield 54, 3) := by decide +kernel
theorem dX10_askLeaves_17 : decode cX10_askLeaves 17 = .ok (.aload_n 0, 1) := by decide +kernel
theorem dX10_askLeaves_18 : decode cX10_askLeaves 18 = .ok (.getfield 75, 3) := by decide +kernel
theorem dX10_askLeaves_21 : decode cX10_askLeaves 21 = .ok (.aload_n 0, 1) := by decide +kernel
theorem dX10_askLeaves_22 : decode cX10_askLeaves 22 = .ok (.getfield 19, 3) := by decide +kernel
theorem dX10_askLeaves_25 : decode cX10_askLeaves 25 = .ok (.invokevirtual 255, 3) := by decide +kernel
theorem dX10_askLeaves_28 : decode cX10_askLeaves 28 = .ok (.aload_n 0, 1) := by decide +kernel
theorem dX10_askLeaves_29 : decode cX10_askLeaves 29 = .ok (.getfield 54, 3) := by decide +kernel
theorem dX10_askLeaves_32 : decode cX10_askLeaves 32 = .ok (.aload_n 0, 1) := by decide +kernel
theorem dX10_askLeaves_33 : decode cX10_askLeaves 33 = .ok (.getfield 75, 3) := by decide +kernel
theorem dX10_askLeaves_36 : decode cX10_askLeaves 36 = .ok (.invokevirtual 263, 3) := by decide +kernel
theorem dX10_askLeaves_39 : decode cX10_askLeaves 39 = .ok (.aload_n 0, 1) := by decide +kernel
theorem dX10_askLeaves_40 : decode cX10_askLeaves 40 = .ok (.aload_n 0, 1) := by decide +kernel
theorem dX10_askLeaves_41 : decode cX10_askLeaves 41 = .ok (.getfield 54, 3) := by decide +kernel
theorem dX10_askLeaves_44 : decode cX10_askLeaves 44 = .ok (.getfield 269, 3) := by decide +kernel
theorem dX10_askLeaves_47 : decode cX10_askLeaves 47 = .ok (.invokevirtual 112, 3) := by decide +kernel
theorem dX10_askLeaves_50 : decode cX10_askLeaves 50 = .ok (.ireturn, 1) := by decide +kernel
theorem dX10_judge_0 : decode cX10_judge 0 = .ok (.aload_n 0, 1) := by decide +kernel
theorem dX10_judge_1 : decode cX10_judge 1 = .ok (.invokevirtual 137, 3) := by decide +kernel
theorem dX10_judge_4 : decode cX10_judge 4 = .ok (.ifCond .eq 9, 3) := by decide +kernel
theorem dX10_judge_7 : decode cX10_judge 7 = .ok (.aload_n 0, 1) := by decide +kernel
theorem dX10_judge_8 : decode cX10_judge 8 = .ok (.iconst 1, 1) := by decide +kernel
theorem dX10_judge_9 : decode cX10_judge 9 = .ok (.invokevirtual 90, 3) := by decide +kernel
theorem dX10_judge_12 : decode cX10_judge 12 = .ok (.ireturn, 1) := by decide +kernel
theorem dX10_judge_13 : decode cX10_judge 13 = .ok (.aload_n 0, 1) := by decide +kernel
theorem dX10_judge_14 : decode cX10_judge 14 = .ok (.invokevirtual 124, 3) := by decide +kernel
theorem dX10_judge_17 : decode cX10_judge 17 = .ok (.iconst 0, 1) := by decide +kernel
theorem dX10_judge_18 : decode cX10_judge 18 = .ok (.istore_n 1, 1) := by decide +kernel
theorem dX10_judge_19 : decode cX10_judge 19 = .ok (.iload_n 1, 1) := by decide +kernel
theorem dX10_judge_20 : decode cX10_judge 20 = .ok (.aload_n 0, 1) := by decide +kernel
theorem dX10_judge_21 : decode cX10_judge 21 = .ok (.getfield 75, 3) := by decide +kernel
theorem dX10_judge_24 : decode cX10_judge 24 = .ok (.getfield 109, 3) := by decide +kernel
theorem dX10_judge_27 : decode cX10_judge 27 = .ok (.if_icmp .ge 49, 3) := by decide +kernel
theorem dX10_judge_30 : decode cX10_judge 30 = .ok (.aload_n 0, 1) := by decide +kernel
theorem dX10_judge_31 : decode cX10_judge 31 = .ok (.getfield 75, 3) := by decide +kernel
theorem dX10_judge_34 : decode cX10_judge 34 = .ok (.getfield 272, 3) := by decide +kernel
theorem dX10_judge_37 : decode cX10_judge 37 = .ok (.iload_n 1, 1) := by decide +kernel
theorem dX10_judge_38 : decode cX10_judge 38 = .ok (.iaload, 1) := by decide +kernel
theorem dX10_judge_39 : decode cX10_judge 39 = .ok (.iconst (-1), 1) := by decide +kernel
theorem dX10_judge_40 : decode cX10_judge 40 = .ok (.if_icmp .eq 30, 3) := by decide +kernel
theorem dX10_judge_43 : decode cX10_judge 43 = .ok (.aload_n 0, 1) := by decide +kernel
theorem dX10_judge_44 : decode cX10_judge 44 = .ok (.getfield 75, 3) := by decide +kernel
theorem dX10_judge_47 : decode cX10_judge 47 = .ok (.getfield 272, 3) := by decide +kernel
theorem dX10_judge_50 : decode cX10_judge 50 = .ok (.iload_n 1, 1) := by decide +kernel
theorem dX10_judge_51 : decode cX10_judge 51 = .ok (.iaload, 1) := by decide +kernel
theorem dX10_judge_52 : decode cX10_judge 52 = .ok (.aload_n 0, 1) := by decide +kernel
theorem dX10_judge_53 : decode cX10_judge 53 = .ok (.getfield 33, 3) := by decide +kernel
theorem dX10_judge_56 : decode cX10_judge 56 = .ok (.getfield 181, 3) := by decide +kernel
theorem dX10_judge_59 : decode cX10_judge 59 = .ok (.iload_n 1, 1) := by decide +kernel
theorem dX10_judge_60 : decode cX10_judge 60 = .ok (.iaload, 1) := by decide +kernel
theorem dX10_judge_61 : decode cX10_judge 61 = .ok (.if_icmp .eq 9, 3) := by decide +kernel
theorem dX10_judge_64 : decode cX10_judge 64 = .ok (.aload_n 0, 1) := by decide +kernel
theorem dX10_judge_65 : decode cX10_judge 65 = .ok (.iload_n 1, 1) := by decide +kernel
theorem dX10_judge_66 : decode cX10_judge 66 = .ok (.invokevirtual 112, 3) := by decide +kernel
theorem dX10_judge_69 : decode cX10_judge 69 = .ok (.ireturn, 1) := by decide +kernel
theorem dX10_judge_70 : decode cX10_judge 70 = .ok (.iinc 1 1, 3) := by decide +kernel
theorem dX10_judge_73 : decode cX10_judge 73 = .ok (.goto (-54), 3) := by decide +kernel
theorem dX10_judge_76 : decode cX10_judge 76 = .ok (.aload_n 0, 1) := by decide +kernel
theorem dX10_judge_77 : decode cX10_judge 77 = .ok (.bipush (-2), 2) := by decide +kernel
theorem dX10_judge_79 : decode cX10_judge 79 = .ok (.invokevirtual 112, 3) := by decide +kernel
theorem dX10_judge_82 : decode cX10_judge 82 = .ok (.ireturn, 1) := by decide +kernel
theorem dX10_parish_0 : decode cX10_parish 0 = .ok (.aload_n 0, 1) := by decide +kernel
theorem dX10_parish_1 : decode cX10_parish 1 = .ok (.getfield 75, 3) := by decide +kernel
theorem dX10_parish_4 : decode cX10_parish 4 = .ok (.getfield 109, 3) := by decide +kernel
theorem dX10_parish_7 : decode cX10_parish 7 = .ok (.iconst 2, 1) := by decide +kernel
theorem dX10_parish_8 : decode cX10_parish 8 = .ok (.if_icmp .ge 12, 3) := by decide +kernel
theorem dX10_parish_11 : decode cX10_parish 11 = .ok (.aload_n 0, 1) := by decide +kernel
theorem dX10_parish_12 : decode cX10_parish 12 = .ok (.iconst 1, 1) := by decide +kernel
theorem dX10_parish_13 : decode cX10_parish 13 = .ok (.putfield 79, 3) := by decide +kernel
theorem dX10_parish_16 : decode cX10_parish 16 = .ok (.sipush (-10000), 3) := by decide +kernel
theorem dX10_parish_19 : decode cX10_parish 19 = .ok (.ireturn, 1) := by decide +kernel
theorem dX10_parish_20 : decode cX10_parish 20 = .ok (.iload_n 1, 1) := by decide +kernel
theorem dX10_parish_21 : decode cX10_parish 21 = .ok (.invokestatic 275, 3) := by decide +kernel
theorem dX10_parish_24 : decode cX10_parish 24 = .ok (.ifCond .eq 10, 3) := by decide +kernel
theorem dX10_parish_27 : decode cX10_parish 27 = .ok (.iload_n 2, 1) := by decide +kernel
theorem dX10_parish_28 : decode cX10_parish 28 = .ok (.invokestatic 275, 3) := by decide +kernel
theorem dX10_parish_31 : decode cX10_parish 31 = .ok (.ifCond .ne 12, 3) := by decide +kernel
theorem dX10_parish_34 : decode cX10_parish 34 = .ok (.aload_n 0, 1) := by decide +kernel
theorem dX10_parish_35 : decode cX10_parish 35 = .ok (.iconst 2, 1) := by decide +kernel
theorem dX10_parish_36 : decode cX10_parish 36 = .ok (.putfield 79, 3) := by decide +kernel
theorem dX10_parish_39 : decode cX10_parish 39 = .ok (.sipush (-10000), 3) := by decide +kernel
theorem dX10_parish_42 : decode cX10_parish 42 = .ok (.ireturn, 1) := by decide +kernel
theorem dX10_parish_43 : decode cX10_parish 43 = .ok (.aload_n 0, 1) := by decide +kernel
theorem dX10_parish_44 : decode cX10_parish 44 = .ok (.getfield 61, 3) := by decide +kernel
theorem dX10_parish_47 : decode cX10_parish 47 = .ok (.aload_n 0, 1) := by decide +kernel
theorem dX10_parish_48 : decode cX10_parish 48 = .ok (.getfield 75, 3) := by decide +kernel
theorem dX10_parish_51 : decode cX10_parish 51 = .ok (.aload_n 0, 1) := by decide +kernel
theorem dX10_parish_52 : decode cX10_parish 52 = .ok (.getfield 19, 3) := by decide +kernel
theorem dX10_parish_55 : decode cX10_parish 55 = .ok (.iload_n 1, 1) := by decide +kernel
theorem dX10_parish_56 : decode cX10_parish 56 = .ok (.iload_n 2, 1) := by decide +kernel
theorem dX10_parish_57 : decode cX10_parish 57 = .ok (.invokevirtual 278, 3) := by decide +kernel
theorem dX10_parish_60 : decode cX10_parish 60 = .ok (.aload_n 0, 1) := by decide +kernel
theorem dX10_parish_61 : decode cX10_parish 61 = .ok (.iload_n 3, 1) := by decide +kernel
theorem dX10_parish_62 : decode cX10_parish 62 = .ok (.ifCond .eq 13, 3) := by decide +kernel
theorem dX10_parish_65 : decode cX10_parish 65 = .ok (.aload_n 0, 1) := by decide +kernel
theorem dX10_parish_66 : decode cX10_parish 66 = .ok (.getfield 61, 3) := by decide +kernel
theorem dX10_parish_69 : decode cX10_parish 69 = .ok (.getfield 282, 3) := by decide +kernel
theorem dX10_parish_72 : decode cX10_parish 72 = .ok (.goto 10, 3) := by decide +kernel
theorem dX10_parish_75 : decode cX10_parish 75 = .ok (.aload_n 0, 1) := by decide +kernel
theorem dX10_parish_76 : decode cX10_parish 76 = .ok (.getfield 61, 3) := by decide +kernel
theorem dX10_parish_79 : decode cX10_parish 79 = .ok (.getfield 285, 3) := by decide +kernel
theorem dX10_parish_82 : decode cX10_parish 82 = .ok (.invokevirtual 112, 3) := by decide +kernel
theorem dX10_parish_85 : decode cX10_parish 85 = .ok (.ireturn, 1) := by decide +kernel
theorem dX10_rests_0 : decode cX10_rests 0 = .ok (.aload_n 0, 1) := by decide +kernel
theorem dX10_rests_1 : decode cX10_rests 1 = .ok (.getfield 75, 3) := by decide +kernel
theorem dX10_rests_4 : decode cX10_rests 4 = .ok (.getfield 109, 3) := by decide +kernel
theorem dX10_rests_7 : decode cX10_rests 7 = .ok (.iconst 2, 1) := by decide +kernel
theorem dX10_rests_8 : decode cX10_rests 8 = .ok (.if_icmp .ge 9, 3) := by decide +kernel
theorem dX10_rests_11 : decode cX10_rests 11 = .ok (.aload_n 0, 1) := by decide +kernel
theorem dX10_rests_12 : decode cX10_rests 12 = .ok (.iconst 1, 1) := by decide +kernel
theorem dX10_rests_13 : decode cX10_rests 13 = .ok (.invokevirtual 90, 3) := by decide +kernel
theorem dX10_rests_16 : decode cX10_rests 16 = .ok (.ireturn, 1) := by decide +kernel
theorem dX10_rests_17 : decode cX10_rests 17 = .ok (.aload_n 0, 1) := by decide +kernel
theorem dX10_rests_18 : decode cX10_rests 18 = .ok (.getfield 61, 3) := by decide +kernel
theorem dX10_rests_21 : decode cX10_rests 21 = .ok (.aload_n 0, 1) := by decide +kernel
theorem dX10_rests_22 : decode cX10_rests 22 = .ok (.getfield 75, 3) := by decide +kernel
theorem dX10_rests_25 : decode cX10_rests 25 = .ok (.aload_n 0, 1) := by decide +kernel
theorem dX10_rests_26 : decode cX10_rests 26 = .ok (.getfield 19, 3) := by decide +kernel
theorem dX10_rests_29 : decode cX10_rests 29 = .ok (.invokevirtual 288, 3) := by decide +kernel
theorem dX10_rests_32 : decode cX10_rests 32 = .ok (.aload_n 0, 1) := by decide +kernel
theorem dX10_rests_33 : decode cX10_rests 33 = .ok (.aload_n 0, 1) := by decide +kernel
theorem dX10_rests_34 : decode cX10_rests 34 = .ok (.getfield 61, 3) := by decide +kernel
theorem dX10_rests_37 : decode cX10_rests 37 = .ok (.getfield 289, 3) := by decide +kernel
theorem dX10_rests_40 : decode cX10_rests 40 = .ok (.invokevirtual 112, 3) := by decide +kernel
theorem dX10_rests_43 : decode cX10_rests 43 = .ok (.ireturn, 1) := by decide +kernel
theorem dX10_rest_0 : decode cX10_rest 0 = .ok (.aload_n 0, 1) := by decide +kernel
theorem dX10_rest_1 : decode cX10_rest 1 = .ok (.getfield 75, 3) := by decide +kernel
theorem dX10_rest_4 : decode cX10_rest 4 = .ok (.getfield 109, 3) := by decide +kernel
theorem dX10_rest_7 : decode cX10_rest 7 = .ok (.iconst 2, 1) := by decide +kernel
theorem dX10_rest_8 : decode cX10_rest 8 = .ok (.if_icmp .ge 9, 3) := by decide +kernel
theorem dX10_rest_11 : decode cX10_rest 11 = .ok (.aload_n 0, 1) := by decide +kernel
theorem dX10_rest_12 : decode cX10_rest 12 = .ok (.iconst 1, 1) := by decide +kernel
theorem dX10_rest_13 : decode cX10_rest 13 = .ok (.invokevirtual 90, 3) := by decide +kernel
theorem dX10_rest_16 : decode cX10_rest 16 = .ok (.ireturn, 1) := by decide +kernel
theorem dX10_rest_17 : decode cX10_rest 17 = .ok (.aload_n 0, 1) := by decide +kernel
theorem dX10_rest_18 : decode cX10_rest 18 = .ok (.getfield 61, 3) := by decide +kernel
theorem dX10_rest_21 : decode cX10_rest 21 = .ok (.aload_n 0, 1) := by decide +kernel
theorem dX10_rest_22 : decode cX10_rest 22 = .ok (.getfield 75, 3) := by decide +kernel
theorem dX10_rest_25 : decode cX10_rest 25 = .ok (.aload_n 0, 1) := by decide +kernel
theorem dX10_rest_26 : decode cX10_rest 26 = .ok (.getfield 19, 3) := by decide +kernel
theorem dX10_rest_29 : decode cX10_rest 29 = .ok (.invokevirtual 288, 3) := by decide +kernel
theorem dX10_rest_32 : decode cX10_rest 32 = .ok (.aload_n 0, 1) := by decide +kernel
theorem dX10_rest_33 : decode cX10_rest 33 = .ok (.aload_n 0, 1) := by decide +kernel
theorem dX10_rest_34 : decode cX10_rest 34 = .ok (.getfield 61, 3) := by decide +kernel
theorem dX10_rest_37 : decode cX10_rest 37 = .ok (.getfield 290, 3) := by decide +kernel
theorem dX10_rest_40 : decode cX10_rest 40 = .ok (.invokevirtual 112, 3) := by decide +kernel
theorem dX10_rest_43 : decode cX10_rest 43 = .ok (.ireturn, 1) := by decide +kernel
theorem dX10_century_0 : decode cX10_century 0 = .ok (.aload_n 0, 1) := by decide +kernel
theorem dX10_century_1 : decode cX10_century 1 = .ok (.invokevirtual 137, 3) := by decide +kernel
theorem dX10_century_4 : decode cX10_century 4 = .ok (.ifCond .eq 9, 3) := by decide +kernel
theorem dX10_century_7 : decode cX10_century 7 = .ok (.aload_n 0, 1) := by decide +kernel
theorem dX10_century_8 : decode cX10_century 8 = .ok (.iconst 1, 1) := by decide +kernel
theorem dX10_century_9 : decode cX10_century 9 = .ok (.invokevirtual 90, 3) := by decide +kernel
theorem dX10_century_12 : decode cX10_century 12 = .ok (.ireturn, 1) := by decide +kernel
theorem dX10_century_13 : decode cX10_century 13 = .ok (.iload_n 1, 1) := by decide +kernel
theorem dX10_century_14 : decode cX10_century 14 = .ok (.invokestatic 293, 3) := by decide +kernel
theorem dX10_century_17 : decode cX10_century 17 = .ok (.ifCond .eq 10, 3) := by decide +kernel
theorem dX10_century_20 : decode cX10_century 20 = .ok (.iload_n 2, 1) := by decide +kernel
theorem dX10_century_21 : decode cX10_century 21 = .ok (.invokestatic 296, 3) := by decide +kernel
theorem dX10_century_24 : decode cX10_century 24 = .ok (.ifCond .ne 9, 3) := by decide +kernel
theorem dX10_century_27 : decode cX10_century 27 = .ok (.aload_n 0, 1) := by decide +kernel
theorem dX10_century_28 : decode cX10_century 28 = .ok (.iconst 2, 1) := by decide +kernel
theorem dX10_century_29 : decode cX10_century 29 = .ok (.invokevirtual 90, 3) := by decide +kernel
theorem dX10_century_32 : decode cX10_century 32 = .ok (.ireturn, 1) := by decide +kernel
theorem dX10_century_33 : decode cX10_century 33 = .ok (.aload_n 0, 1) := by decide +kernel
theorem dX10_century_34 : decode cX10_century 34 = .ok (.getfield 68, 3) := by decide +kernel
theorem dX10_century_37 : decode cX10_century 37 = .ok (.aload_n 0, 1) := by decide +kernel
theorem dX10_century_38 : decode cX10_century 38 = .ok (.getfield 75, 3) := by decide +kernel
theorem dX10_century_41 : decode cX10_century 41 = .ok (.aload_n 0, 1) := by decide +kernel
theorem dX10_century_42 : decode cX10_century 42 = .ok (.getfield 19, 3) := by decide +kernel
theorem dX10_century_45 : decode cX10_century 45 = .ok (.iload_n 1, 1) := by decide +kernel
theorem dX10_century_46 : decode cX10_century 46 = .ok (.iload_n 2, 1) := by decide +kernel
theorem dX10_century_47 : decode cX10_century 47 = .ok (.invokevirtual 299, 3) := by decide +kernel
theorem dX10_century_50 : decode cX10_century 50 = .ok (.aload_n 0, 1) := by decide +kernel
theorem dX10_century_51 : decode cX10_century 51 = .ok (.aload_n 0, 1) := by decide +kernel
theorem dX10_century_52 : decode cX10_century 52 = .ok (.getfield 68, 3) := by decide +kernel
theorem dX10_century_55 : decode cX10_century 55 = .ok (.getfield 302, 3) := by decide +kernel
theorem dX10_century_58 : decode cX10_century 58 = .ok (.invokevirtual 112, 3) := by decide +kernel
theorem dX10_century_61 : decode cX10_century 61 = .ok (.ireturn, 1) := by decide +kernel
theorem dX10_burstBy_0 : decode cX10_burstBy 0 = .ok (.aload_n 0, 1) := by decide +kernel
theorem dX10_burstBy_1 : decode cX10_burstBy 1 = .ok (.invokevirtual 137, 3) := by decide +kernel
theorem dX10_burstBy_4 : decode cX10_burstBy 4 = .ok (.ifCond .eq 9, 3) := by decide +kernel
theorem dX10_burstBy_7 : decode cX10_burstBy 7 = .ok (.aload_n 0, 1) := by decide +kernel
theorem dX10_burstBy_8 : decode cX10_burstBy 8 = .ok (.iconst 1, 1) := by decide +kernel
theorem dX10_burstBy_9 : decode cX10_burstBy 9 = .ok (.invokevirtual 90, 3) := by decide +kernel
theorem dX10_burstBy_12 : decode cX10_burstBy 12 = .ok (.ireturn, 1) := by decide +kernel
theorem dX10_burstBy_13 : decode cX10_burstBy 13 = .ok (.iload_n 1, 1) := by decide +kernel
theorem dX10_burstBy_14 : decode cX10_burstBy 14 = .ok (.invokestatic 293, 3) := by decide +kernel
theorem dX10_burstBy_17 : decode cX10_burstBy 17 = .ok (.ifCond .eq 10, 3) := by decide +kernel
theorem dX10_burstBy_20 : decode cX10_burstBy 20 = .ok (.iload_n 2, 1) := by decide +kernel
theorem dX10_burstBy_21 : decode cX10_burstBy 21 = .ok (.invokestatic 296, 3) := by decide +kernel
theorem dX10_burstBy_24 : decode cX10_burstBy 24 = .ok (.ifCond .ne 9, 3) := by decide +kernel
theorem dX10_burstBy_27 : decode cX10_burstBy 27 = .ok (.aload_n 0, 1) := by decide +kernel
theorem dX10_burstBy_28 : decode cX10_burstBy 28 = .ok (.iconst 2, 1) := by decide +kernel
theorem dX10_burstBy_29 : decode cX10_burstBy 29 = .ok (.invokevirtual 90, 3) := by decide +kernel
theorem dX10_burstBy_32 : decode cX10_burstBy 32 = .ok (.ireturn, 1) := by decide +kernel
theorem dX10_burstBy_33 : decode cX10_burstBy 33 = .ok (.aload_n 0, 1) := by decide +kernel
theorem dX10_burstBy_34 : decode cX10_burstBy 34 = .ok (.getfield 68, 3) := by decide +kernel
theorem dX10_burstBy_37 : decode cX10_burstBy 37 = .ok (.aload_n 0, 1) := by decide +kernel
theorem dX10_burstBy_38 : decode cX10_burstBy 38 = .ok (.getfield 75, 3) := by decide +kernel
theorem dX10_burstBy_41 : decode cX10_burstBy 41 = .ok (.aload_n 0, 1) := by decide +kernel
theorem dX10_burstBy_42 : decode cX10_burstBy 42 = .ok (.getfield 19, 3) := by decide +kernel
theorem dX10_burstBy_45 : decode cX10_burstBy 45 = .ok (.iload_n 1, 1) := by decide +kernel
theorem dX10_burstBy_46 : decode cX10_burstBy 46 = .ok (.iload_n 2, 1) := by decide +kernel
theorem dX10_burstBy_47 : decode cX10_burstBy 47 = .ok (.invokevirtual 299, 3) := by decide +kernel
theorem dX10_burstBy_50 : decode cX10_burstBy 50 = .ok (.aload_n 0, 1) := by decide +kernel
theorem dX10_burstBy_51 : decode cX10_burstBy 51 = .ok (.aload_n 0, 1) := by decide +kernel
theorem dX10_burstBy_52 : decode cX10_burstBy 52 = .ok (.getfield 68, 3) := by decide +kernel
theorem dX10_burstBy_55 : decode cX10_burstBy 55 = .ok (.getfield 305, 3) := by decide +kernel
theorem dX10_burstBy_58 : decode cX10_burstBy 58 = .ok (.getfield 308, 3) := by decide +kernel
theorem dX10_burstBy_61 : decode cX10_burstBy 61 = .ok (.invokevirtual 112, 3) := by decide +kernel
theorem dX10_burstBy_64 : decode cX10_burstBy 64 = .ok (.ireturn, 1) := by decide +kernel
theorem dX10_yearOf_0 : decode cX10_yearOf 0 = .ok (.aload_n 0, 1) := by decide +kernel
theorem dX10_yearOf_1 : decode cX10_yearOf 1 = .ok (.iload_n 1, 1) := by decide +kernel
theorem dX10_yearOf_2 : decode cX10_yearOf 2 = .ok (.invokevirtual 131, 3) := by decide +kernel
theorem dX10_yearOf_5 : decode cX10_yearOf 5 = .ok (.ifCond .ne 9, 3) := by decide +kernel
theorem dX10_yearOf_8 : decode cX10_yearOf 8 = .ok (.aload_n 0, 1) := by decide +kernel
theorem dX10_yearOf_9 : decode cX10_yearOf 9 = .ok (.iconst 1, 1) := by decide +kernel
theorem dX10_yearOf_10 : decode cX10_yearOf 10 = .ok (.invokevirtual 90, 3) := by decide +kernel
theorem dX10_yearOf_13 : decode cX10_yearOf 13 = .ok (.ireturn, 1) := by decide +kernel
theorem dX10_yearOf_14 : decode cX10_yearOf 14 = .ok (.iload_n 2, 1) := by decide +kernel
theorem dX10_yearOf_15 : decode cX10_yearOf 15 = .ok (.invokestatic 293, 3) := by decide +kernel
theorem dX10_yearOf_18 : decode cX10_yearOf 18 = .ok (.ifCond .ne 9, 3) := by decide +kernel
theorem dX10_yearOf_21 : decode cX10_yearOf 21 = .ok (.aload_n 0, 1) := by decide +kernel
theorem dX10_yearOf_22 : decode cX10_yearOf 22 = .ok (.iconst 2, 1) := by decide +kernel
theorem dX10_yearOf_23 : decode cX10_yearOf 23 = .ok (.invokevirtual 90, 3) := by decide +kernel
theorem dX10_yearOf_26 : decode cX10_yearOf 26 = .ok (.ireturn, 1) := by decide +kernel
theorem dX10_yearOf_27 : decode cX10_yearOf 27 = .ok (.aload_n 0, 1) := by decide +kernel
theorem dX10_yearOf_28 : decode cX10_yearOf 28 = .ok (.getfield 19, 3) := by decide +kernel
theorem dX10_yearOf_31 : decode cX10_yearOf 31 = .ok (.getfield 161, 3) := by decide +kernel
theorem dX10_yearOf_34 : decode cX10_yearOf 34 = .ok (.iload_n 1, 1) := by decide +kernel
theorem dX10_yearOf_35 : decode cX10_yearOf 35 = .ok (.invokestatic 164, 3) := by decide +kernel
theorem dX10_yearOf_38 : decode cX10_yearOf 38 = .ok (.ifCond .ne 9, 3) := by decide +kernel
theorem dX10_yearOf_41 : decode cX10_yearOf 41 = .ok (.aload_n 0, 1) := by decide +kernel
theorem dX10_yearOf_42 : decode cX10_yearOf 42 = .ok (.iconst 5, 1) := by decide +kernel
theorem dX10_yearOf_43 : decode cX10_yearOf 43 = .ok (.invokevirtual 90, 3) := by decide +kernel
theorem dX10_yearOf_46 : decode cX10_yearOf 46 = .ok (.ireturn, 1) := by decide +kernel
theorem dX10_yearOf_47 : decode cX10_yearOf 47 = .ok (.aload_n 0, 1) := by decide +kernel
theorem dX10_yearOf_48 : decode cX10_yearOf 48 = .ok (.aload_n 0, 1) := by decide +kernel
theorem dX10_yearOf_49 : decode cX10_yearOf 49 = .ok (.getfield 68, 3) := by decide +kernel
theorem dX10_yearOf_52 : decode cX10_yearOf 52 = .ok (.aload_n 0, 1) := by decide +kernel
theorem dX10_yearOf_53 : decode cX10_yearOf 53 = .ok (.getfield 75, 3) := by decide +kernel
theorem dX10_yearOf_56 : decode cX10_yearOf 56 = .ok (.aload_n 0, 1) := by decide +kernel
theorem dX10_yearOf_57 : decode cX10_yearOf 57 = .ok (.getfield 19, 3) := by decide +kernel
theorem dX10_yearOf_60 : decode cX10_yearOf 60 = .ok (.iload_n 2, 1) := by decide +kernel
theorem dX10_yearOf_61 : decode cX10_yearOf 61 = .ok (.iload_n 1, 1) := by decide +kernel
theorem dX10_yearOf_62 : decode cX10_yearOf 62 = .ok (.invokevirtual 311, 3) := by decide +kernel
theorem dX10_yearOf_65 : decode cX10_yearOf 65 = .ok (.invokevirtual 112, 3) := by decide +kernel
theorem dX10_yearOf_68 : decode cX10_yearOf 68 = .ok (.ireturn, 1) := by decide +kernel
theorem dX10_firstFlood_0 : decode cX10_firstFlood 0 = .ok (.aload_n 0, 1) := by decide +kernel
theorem dX10_firstFlood_1 : decode cX10_firstFlood 1 = .ok (.invokevirtual 137, 3) := by decide +kernel
theorem dX10_firstFlood_4 : decode cX10_firstFlood 4 = .ok (.ifCond .eq 9, 3) := by decide +kernel
theorem dX10_firstFlood_7 : decode cX10_firstFlood 7 = .ok (.aload_n 0, 1) := by decide +kernel
theorem dX10_firstFlood_8 : decode cX10_firstFlood 8 = .ok (.iconst 1, 1) := by decide +kernel
theorem dX10_firstFlood_9 : decode cX10_firstFlood 9 = .ok (.invokevirtual 90, 3) := by decide +kernel
theorem dX10_firstFlood_12 : decode cX10_firstFlood 12 = .ok (.ireturn, 1) := by decide +kernel
theorem dX10_firstFlood_13 : decode cX10_firstFlood 13 = .ok (.iload_n 1, 1) := by decide +kernel
theorem dX10_firstFlood_14 : decode cX10_firstFlood 14 = .ok (.invokestatic 293, 3) := by decide +kernel
theorem dX10_firstFlood_17 : decode cX10_firstFlood 17 = .ok (.ifCond .eq 10, 3) := by decide +kernel
theorem dX10_firstFlood_20 : decode cX10_firstFlood 20 = .ok (.iload_n 2, 1) := by decide +kernel
theorem dX10_firstFlood_21 : decode cX10_firstFlood 21 = .ok (.invokestatic 296, 3) := by decide +kernel
theorem dX10_firstFlood_24 : decode cX10_firstFlood 24 = .ok (.ifCond .ne 9, 3) := by decide +kernel
theorem dX10_firstFlood_27 : decode cX10_firstFlood 27 = .ok (.aload_n 0, 1) := by decide +kernel
theorem dX10_firstFlood_28 : decode cX10_firstFlood 28 = .ok (.iconst 2, 1) := by decide +kernel
theorem dX10_firstFlood_29 : decode cX10_firstFlood 29 = .ok (.invokevirtual 90, 3) := by decide +kernel
theorem dX10_firstFlood_32 : decode cX10_firstFlood 32 = .ok (.ireturn, 1) := by decide +kernel
theorem dX10_firstFlood_33 : decode cX10_firstFlood 33 = .ok (.aload_n 0, 1) := by decide +kernel
theorem dX10_firstFlood_34 : decode cX10_firstFlood 34 = .ok (.getfield 68, 3) := by decide +kernel
theorem dX10_firstFlood_37 : decode cX10_firstFlood 37 = .ok (.aload_n 0, 1) := by decide +kernel
theorem dX10_firstFlood_38 : decode cX10_firstFlood 38 = .ok (.getfield 75, 3) := by decide +kernel
theorem dX10_firstFlood_41 : decode cX10_firstFlood 41 = .ok (.aload_n 0, 1) := by decide +kernel
theorem dX10_firstFlood_42 : decode cX10_firstFlood 42 = .ok (.getfield 19, 3) := by decide +kernel
theorem dX10_firstFlood_45 : decode cX10_firstFlood 45 = .ok (.iload_n 1, 1) := by decide +kernel
theorem dX10_firstFlood_46 : decode cX10_firstFlood 46 = .ok (.iload_n 2, 1) := by decide +kernel
theorem dX10_firstFlood_47 : decode cX10_firstFlood 47 = .ok (.invokevirtual 299, 3) := by decide +kernel
theorem dX10_firstFlood_50 : decode cX10_firstFlood 50 = .ok (.aload_n 0, 1) := by decide +kernel
theorem dX10_firstFlood_51 : decode cX10_firstFlood 51 = .ok (.aload_n 0, 1) := by decide +kernel
theorem dX10_firstFlood_52 : decode cX10_firstFlood 52 = .ok (.getfield 68, 3) := by decide +kernel
theorem dX10_firstFlood_55 : decode cX10_firstFlood 55 = .ok (.getfield 315, 3) := by decide +kernel
theorem dX10_firstFlood_58 : decode cX10_firstFlood 58 = .ok (.invokevirtual 112, 3) := by decide +kernel
theorem dX10_firstFlood_61 : decode cX10_firstFlood 61 = .ok (.ireturn, 1) := by decide +kernel
theorem dX10_lace_0 : decode cX10_lace 0 = .ok (.aload_n 0, 1) := by decide +kernel
theorem dX10_lace_1 : decode cX10_lace 1 = .ok (.iload_n 1, 1) := by decide +kernel
theorem dX10_lace_2 : decode cX10_lace 2 = .ok (.invokevirtual 131, 3) := by decide +kernel
theorem dX10_lace_5 : decode cX10_lace 5 = .ok (.ifCond .ne 9, 3) := by decide +kernel
theorem dX10_lace_8 : decode cX10_lace 8 = .ok (.aload_n 0, 1) := by decide +kernel
theorem dX10_lace_9 : decode cX10_lace 9 = .ok (.iconst 1, 1) := by decide +kernel
theorem dX10_lace_10 : decode cX10_lace 10 = .ok (.invokevirtual 90, 3) := by decide +kernel
theorem dX10_lace_13 : decode cX10_lace 13 = .ok (.ireturn, 1) := by decide +kernel
theorem dX10_lace_14 : decode cX10_lace 14 = .ok (.aload_n 0, 1) := by decide +kernel
theorem dX10_lace_15 : decode cX10_lace 15 = .ok (.getfield 19, 3) := by decide +kernel
theorem dX10_lace_18 : decode cX10_lace 18 = .ok (.getfield 161, 3) := by decide +kernel
theorem dX10_lace_21 : decode cX10_lace 21 = .ok (.aload_n 0, 1) := by decide +kernel
theorem dX10_lace_22 : decode cX10_lace 22 = .ok (.getfield 19, 3) := by decide +kernel
theorem dX10_lace_25 : decode cX10_lace 25 = .ok (.getfield 308, 3) := by decide +kernel
theorem dX10_lace_28 : decode cX10_lace 28 = .ok (.ior, 1) := by decide +kernel
theorem dX10_lace_29 : decode cX10_lace 29 = .ok (.iload_n 1, 1) := by decide +kernel
theorem dX10_lace_30 : decode cX10_lace 30 = .ok (.invokestatic 164, 3) := by decide +kernel
theorem dX10_lace_33 : decode cX10_lace 33 = .ok (.ifCond .eq 9, 3) := by decide +kernel
theorem dX10_lace_36 : decode cX10_lace 36 = .ok (.aload_n 0, 1) := by decide +kernel
theorem dX10_lace_37 : decode cX10_lace 37 = .ok (.iconst 5, 1) := by decide +kernel
theorem dX10_lace_38 : decode cX10_lace 38 = .ok (.invokevirtual 90, 3) := by decide +kernel
theorem dX10_lace_41 : decode cX10_lace 41 = .ok (.ireturn, 1) := by decide +kernel
theorem dX10_lace_42 : decode cX10_lace 42 = .ok (.aload_n 0, 1) := by decide +kernel
theorem dX10_lace_43 : decode cX10_lace 43 = .ok (.getfield 26, 3) := by decide +kernel
theorem dX10_lace_46 : decode cX10_lace 46 = .ok (.aload_n 0, 1) := by decide +kernel
theorem dX10_lace_47 : decode cX10_lace 47 = .ok (.getfield 19, 3) := by decide +kernel
theorem dX10_lace_50 : decode cX10_lace 50 = .ok (.invokevirtual 318, 3) := by decide +kernel
theorem dX10_lace_53 : decode cX10_lace 53 = .ok (.aload_n 0, 1) := by decide +kernel
theorem dX10_lace_54 : decode cX10_lace 54 = .ok (.getfield 19, 3) := by decide +kernel
theorem dX10_lace_57 : decode cX10_lace 57 = .ok (.dup, 1) := by decide +kernel
theorem dX10_lace_58 : decode cX10_lace 58 = .ok (.getfield 161, 3) := by decide +kernel
theorem dX10_lace_61 : decode cX10_lace 61 = .ok (.iconst 1, 1) := by decide +kernel
theorem dX10_lace_62 : decode cX10_lace 62 = .ok (.iload_n 1, 1) := by decide +kernel
theorem dX10_lace_63 : decode cX10_lace 63 = .ok (.ishl, 1) := by decide +kernel
theorem dX10_lace_64 : decode cX10_lace 64 = .ok (.ior, 1) := by decide +kernel
theorem dX10_lace_65 : decode cX10_lace 65 = .ok (.putfield 161, 3) := by decide +kernel
theorem dX10_lace_68 : decode cX10_lace 68 = .ok (.aload_n 0, 1) := by decide +kernel
theorem dX10_lace_69 : decode cX10_lace 69 = .ok (.getfield 33, 3) := by decide +kernel
theorem dX10_lace_72 : decode cX10_lace 72 = .ok (.aload_n 0, 1) := by decide +kernel
theorem dX10_lace_73 : decode cX10_lace 73 = .ok (.getfield 75, 3) := by decide +kernel
theorem dX10_lace_76 : decode cX10_lace 76 = .ok (.aload_n 0, 1) := by decide +kernel
theorem dX10_lace_77 : decode cX10_lace 77 = .ok (.getfield 19, 3) := by decide +kernel
theorem dX10_lace_80 : decode cX10_lace 80 = .ok (.getfield 161, 3) := by decide +kernel
theorem dX10_lace_83 : decode cX10_lace 83 = .ok (.invokevirtual 187, 3) := by decide +kernel
theorem dX10_lace_86 : decode cX10_lace 86 = .ok (.aload_n 0, 1) := by decide +kernel
theorem dX10_lace_87 : decode cX10_lace 87 = .ok (.aload_n 0, 1) := by decide +kernel
theorem dX10_lace_88 : decode cX10_lace 88 = .ok (.getfield 33, 3) := by decide +kernel
theorem dX10_lace_91 : decode cX10_lace 91 = .ok (.getfield 154, 3) := by decide +kernel
theorem dX10_lace_94 : decode cX10_lace 94 = .ok (.aload_n 0, 1) := by decide +kernel
theorem dX10_lace_95 : decode cX10_lace 95 = .ok (.getfield 75, 3) := by decide +kernel
theorem dX10_lace_98 : decode cX10_lace 98 = .ok (.getfield 191, 3) := by decide +kernel
theorem dX10_lace_101 : decode cX10_lace 101 = .ok (.iload_n 1, 1) := by decide +kernel
theorem dX10_lace_102 : decode cX10_lace 102 = .ok (.iaload, 1) := by decide +kernel
theorem dX10_lace_103 : decode cX10_lace 103 = .ok (.iaload, 1) := by decide +kernel
theorem dX10_lace_104 : decode cX10_lace 104 = .ok (.invokevirtual 112, 3) := by decide +kernel
theorem dX10_lace_107 : decode cX10_lace 107 = .ok (.ireturn, 1) := by decide +kernel
theorem dX10_ease_0 : decode cX10_ease 0 = .ok (.aload_n 0, 1) := by decide +kernel
theorem dX10_ease_1 : decode cX10_ease 1 = .ok (.iload_n 1, 1) := by decide +kernel
theorem dX10_ease_2 : decode cX10_ease 2 = .ok (.invokevirtual 131, 3) := by decide +kernel
theorem dX10_ease_5 : decode cX10_ease 5 = .ok (.ifCond .ne 9, 3) := by decide +kernel
theorem dX10_ease_8 : decode cX10_ease 8 = .ok (.aload_n 0, 1) := by decide +kernel
theorem dX10_ease_9 : decode cX10_ease 9 = .ok (.iconst 1, 1) := by decide +kernel
theorem dX10_ease_10 : decode cX10_ease 10 = .ok (.invokevirtual 90, 3) := by decide +kernel
theorem dX10_ease_13 : decode cX10_ease 13 = .ok (.ireturn, 1) := by decide +kernel
theorem dX10_ease_14 : decode cX10_ease 14 = .ok (.aload_n 0, 1) := by decide +kernel
theorem dX10_ease_15 : decode cX10_ease 15 = .ok (.getfield 19, 3) := by decide +kernel
theorem dX10_ease_18 : decode cX10_ease 18 = .ok (.getfield 161, 3) := by decide +kernel
theorem dX10_ease_21 : decode cX10_ease 21 = .ok (.iload_n 1, 1) := by decide +kernel
theorem dX10_ease_22 : decode cX10_ease 22 = .ok (.invokestatic 164, 3) := by decide +kernel
theorem dX10_ease_25 : decode cX10_ease 25 = .ok (.ifCond .ne 9, 3) := by decide +kernel
theorem dX10_ease_28 : decode cX10_ease 28 = .ok (.aload_n 0, 1) := by decide +kernel
theorem dX10_ease_29 : decode cX10_ease 29 = .ok (.iconst 5, 1) := by decide +kernel
theorem dX10_ease_30 : decode cX10_ease 30 = .ok (.invokevirtual 90, 3) := by decide +kernel
theorem dX10_ease_33 : decode cX10_ease 33 = .ok (.ireturn, 1) := by decide +kernel
theorem dX10_ease_34 : decode cX10_ease 34 = .ok (.aload_n 0, 1) := by decide +kernel
theorem dX10_ease_35 : decode cX10_ease 35 = .ok (.getfield 26, 3) := by decide +kernel
theorem dX10_ease_38 : decode cX10_ease 38 = .ok (.aload_n 0, 1) := by decide +kernel
theorem dX10_ease_39 : decode cX10_ease 39 = .ok (.getfield 19, 3) := by decide +kernel
theorem dX10_ease_42 : decode cX10_ease 42 = .ok (.invokevirtual 318, 3) := by decide +kernel
theorem dX10_ease_45 : decode cX10_ease 45 = .ok (.aload_n 0, 1) := by decide +kernel
theorem dX10_ease_46 : decode cX10_ease 46 = .ok (.getfield 19, 3) := by decide +kernel
theorem dX10_ease_49 : decode cX10_ease 49 = .ok (.dup, 1) := by decide +kernel
theorem dX10_ease_50 : decode cX10_ease 50 = .ok (.getfield 161, 3) := by decide +kernel
theorem dX10_ease_53 : decode cX10_ease 53 = .ok (.iconst 1, 1) := by decide +kernel
theorem dX10_ease_54 : decode cX10_ease 54 = .ok (.iload_n 1, 1) := by decide +kernel
theorem dX10_ease_55 : decode cX10_ease 55 = .ok (.ishl, 1) := by decide +kernel
theorem dX10_ease_56 : decode cX10_ease 56 = .ok (.iconst (-1), 1) := by decide +kernel
theorem dX10_ease_57 : decode cX10_ease 57 = .ok (.ixor, 1) := by decide +kernel
theorem dX10_ease_58 : decode cX10_ease 58 = .ok (.iand, 1) := by decide +kernel
theorem dX10_ease_59 : decode cX10_ease 59 = .ok (.putfield 161, 3) := by decide +kernel
theorem dX10_ease_62 : decode cX10_ease 62 = .ok (.aload_n 0, 1) := by decide +kernel
theorem dX10_ease_63 : decode cX10_ease 63 = .ok (.getfield 33, 3) := by decide +kernel
theorem dX10_ease_66 : decode cX10_ease 66 = .ok (.aload_n 0, 1) := by decide +kernel
theorem dX10_ease_67 : decode cX10_ease 67 = .ok (.getfield 75, 3) := by decide +kernel
theorem dX10_ease_70 : decode cX10_ease 70 = .ok (.aload_n 0, 1) := by decide +kernel
theorem dX10_ease_71 : decode cX10_ease 71 = .ok (.getfield 19, 3) := by decide +kernel
theorem dX10_ease_74 : decode cX10_ease 74 = .ok (.getfield 161, 3) := by decide +kernel
theorem dX10_ease_77 : decode cX10_ease 77 = .ok (.invokevirtual 187, 3) := by decide +kernel
theorem dX10_ease_80 : decode cX10_ease 80 = .ok (.aload_n 0, 1) := by decide +kernel
theorem dX10_ease_81 : decode cX10_ease 81 = .ok (.aload_n 0, 1) := by decide +kernel
theorem dX10_ease_82 : decode cX10_ease 82 = .ok (.getfield 33, 3) := by decide +kernel
theorem dX10_ease_85 : decode cX10_ease 85 = .ok (.getfield 154, 3) := by decide +kernel
theorem dX10_ease_88 : decode cX10_ease 88 = .ok (.aload_n 0, 1) := by decide +kernel
theorem dX10_ease_89 : decode cX10_ease 89 = .ok (.getfield 75, 3) := by decide +kernel
theorem dX10_ease_92 : decode cX10_ease 92 = .ok (.getfield 191, 3) := by decide +kernel
theorem dX10_ease_95 : decode cX10_ease 95 = .ok (.iload_n 1, 1) := by decide +kernel
theorem dX10_ease_96 : decode cX10_ease 96 = .ok (.iaload, 1) := by decide +kernel
theorem dX10_ease_97 : decode cX10_ease 97 = .ok (.iaload, 1) := by decide +kernel
theorem dX10_ease_98 : decode cX10_ease 98 = .ok (.invokevirtual 112, 3) := by decide +kernel
theorem dX10_ease_101 : decode cX10_ease 101 = .ok (.ireturn, 1) := by decide +kernel
theorem dX10_mend_0 : decode cX10_mend 0 = .ok (.aload_n 0, 1) := by decide +kernel
theorem dX10_mend_1 : decode cX10_mend 1 = .ok (.iload_n 1, 1) := by decide +kernel
theorem dX10_mend_2 : decode cX10_mend 2 = .ok (.invokevirtual 131, 3) := by decide +kernel
theorem dX10_mend_5 : decode cX10_mend 5 = .ok (.ifCond .ne 9, 3) := by decide +kernel
theorem dX10_mend_8 : decode cX10_mend 8 = .ok (.aload_n 0, 1) := by decide +kernel
theorem dX10_mend_9 : decode cX10_mend 9 = .ok (.iconst 1, 1) := by decide +kernel
theorem dX10_mend_10 : decode cX10_mend 10 = .ok (.invokevirtual 322, 3) := by decide +kernel
theorem dX10_mend_13 : decode cX10_mend 13 = .ok (.ireturn, 1) := by decide +kernel
theorem dX10_mend_14 : decode cX10_mend 14 = .ok (.aload_n 0, 1) := by decide +kernel
theorem dX10_mend_15 : decode cX10_mend 15 = .ok (.getfield 19, 3) := by decide +kernel
theorem dX10_mend_18 : decode cX10_mend 18 = .ok (.getfield 308, 3) := by decide +kernel
theorem dX10_mend_21 : decode cX10_mend 21 = .ok (.iload_n 1, 1) := by decide +kernel
theorem dX10_mend_22 : decode cX10_mend 22 = .ok (.invokestatic 164, 3) := by decide +kernel
theorem dX10_mend_25 : decode cX10_mend 25 = .ok (.ifCond .ne 10, 3) := by decide +kernel
theorem dX10_mend_28 : decode cX10_mend 28 = .ok (.aload_n 0, 1) := by decide +kernel
theorem dX10_mend_29 : decode cX10_mend 29 = .ok (.bipush 6, 2) := by decide +kernel
theorem dX10_mend_31 : decode cX10_mend 31 = .ok (.invokevirtual 322, 3) := by decide +kernel
theorem dX10_mend_34 : decode cX10_mend 34 = .ok (.ireturn, 1) := by decide +kernel
theorem dX10_mend_35 : decode cX10_mend 35 = .ok (.aload_n 0, 1) := by decide +kernel
theorem dX10_mend_36 : decode cX10_mend 36 = .ok (.getfield 26, 3) := by decide +kernel
theorem dX10_mend_39 : decode cX10_mend 39 = .ok (.aload_n 0, 1) := by decide +kernel
theorem dX10_mend_40 : decode cX10_mend 40 = .ok (.getfield 19, 3) := by decide +kernel
theorem dX10_mend_43 : decode cX10_mend 43 = .ok (.invokevirtual 318, 3) := by decide +kernel
theorem dX10_mend_46 : decode cX10_mend 46 = .ok (.aload_n 0, 1) := by decide +kernel
theorem dX10_mend_47 : decode cX10_mend 47 = .ok (.getfield 19, 3) := by decide +kernel
theorem dX10_mend_50 : decode cX10_mend 50 = .ok (.dup, 1) := by decide +kernel
theorem dX10_mend_51 : decode cX10_mend 51 = .ok (.getfield 308, 3) := by decide +kernel
theorem dX10_mend_54 : decode cX10_mend 54 = .ok (.iconst 1, 1) := by decide +kernel
theorem dX10_mend_55 : decode cX10_mend 55 = .ok (.iload_n 1, 1) := by decide +kernel
theorem dX10_mend_56 : decode cX10_mend 56 = .ok (.ishl, 1) := by decide +kernel
theorem dX10_mend_57 : decode cX10_mend 57 = .ok (.iconst (-1), 1) := by decide +kernel
theorem dX10_mend_58 : decode cX10_mend 58 = .ok (.ixor, 1) := by decide +kernel
theorem dX10_mend_59 : decode cX10_mend 59 = .ok (.iand, 1) := by decide +kernel
theorem dX10_mend_60 : decode cX10_mend 60 = .ok (.putfield 308, 3) := by decide +kernel
theorem dX10_mend_63 : decode cX10_mend 63 = .ok (.aload_n 0, 1) := by decide +kernel
theorem dX10_mend_64 : decode cX10_mend 64 = .ok (.getfield 19, 3) := by decide +kernel
theorem dX10_mend_67 : decode cX10_mend 67 = .ok (.getfield 197, 3) := by decide +kernel
theorem dX10_mend_70 : decode cX10_mend 70 = .ok (.iload_n 1, 1) := by decide +kernel
theorem dX10_mend_71 : decode cX10_mend 71 = .ok (.iconst 0, 1) := by decide +kernel
theorem dX10_mend_72 : decode cX10_mend 72 = .ok (.iastore, 1) := by decide +kernel
theorem dX10_mend_73 : decode cX10_mend 73 = .ok (.aload_n 0, 1) := by decide +kernel
theorem dX10_mend_74 : decode cX10_mend 74 = .ok (.invokevirtual 325, 3) := by decide +kernel
theorem dX10_mend_77 : decode cX10_mend 77 = .ok (.ireturn, 1) := by decide +kernel
theorem dX10_rain_0 : decode cX10_rain 0 = .ok (.aload_n 0, 1) := by decide +kernel
theorem dX10_rain_1 : decode cX10_rain 1 = .ok (.invokevirtual 137, 3) := by decide +kernel
theorem dX10_rain_4 : decode cX10_rain 4 = .ok (.ifCond .eq 9, 3) := by decide +kernel
theorem dX10_rain_7 : decode cX10_rain 7 = .ok (.aload_n 0, 1) := by decide +kernel
theorem dX10_rain_8 : decode cX10_rain 8 = .ok (.iconst 1, 1) := by decide +kernel
theorem dX10_rain_9 : decode cX10_rain 9 = .ok (.invokevirtual 322, 3) := by decide +kernel
theorem dX10_rain_12 : decode cX10_rain 12 = .ok (.ireturn, 1) := by decide +kernel
theorem dX10_rain_13 : decode cX10_rain 13 = .ok (.iload_n 1, 1) := by decide +kernel
theorem dX10_rain_14 : decode cX10_rain 14 = .ok (.invokestatic 175, 3) := by decide +kernel
theorem dX10_rain_17 : decode cX10_rain 17 = .ok (.ifCond .ne 9, 3) := by decide +kernel
theorem dX10_rain_20 : decode cX10_rain 20 = .ok (.aload_n 0, 1) := by decide +kernel
theorem dX10_rain_21 : decode cX10_rain 21 = .ok (.iconst 2, 1) := by decide +kernel
theorem dX10_rain_22 : decode cX10_rain 22 = .ok (.invokevirtual 322, 3) := by decide +kernel
theorem dX10_rain_25 : decode cX10_rain 25 = .ok (.ireturn, 1) := by decide +kernel
theorem dX10_rain_26 : decode cX10_rain 26 = .ok (.aload_n 0, 1) := by decide +kernel
theorem dX10_rain_27 : decode cX10_rain 27 = .ok (.getfield 26, 3) := by decide +kernel
theorem dX10_rain_30 : decode cX10_rain 30 = .ok (.aload_n 0, 1) := by decide +kernel
theorem dX10_rain_31 : decode cX10_rain 31 = .ok (.getfield 19, 3) := by decide +kernel
theorem dX10_rain_34 : decode cX10_rain 34 = .ok (.invokevirtual 318, 3) := by decide +kernel
theorem dX10_rain_37 : decode cX10_rain 37 = .ok (.aload_n 0, 1) := by decide +kernel
theorem dX10_rain_38 : decode cX10_rain 38 = .ok (.getfield 19, 3) := by decide +kernel
theorem dX10_rain_41 : decode cX10_rain 41 = .ok (.iload_n 1, 1) := by decide +kernel
theorem dX10_rain_42 : decode cX10_rain 42 = .ok (.putfield 172, 3) := by decide +kernel
theorem dX10_rain_45 : decode cX10_rain 45 = .ok (.aload_n 0, 1) := by decide +kernel
theorem dX10_rain_46 : decode cX10_rain 46 = .ok (.invokevirtual 325, 3) := by decide +kernel
theorem dX10_rain_49 : decode cX10_rain 49 = .ok (.ireturn, 1) := by decide +kernel
theorem dX10_year_0 : decode cX10_year 0 = .ok (.aload_n 0, 1) := by decide +kernel
theorem dX10_year_1 : decode cX10_year 1 = .ok (.invokevirtual 137, 3) := by decide +kernel
theorem dX10_year_4 : decode cX10_year 4 = .ok (.ifCond .eq 9, 3) := by decide +kernel
theorem dX10_year_7 : decode cX10_year 7 = .ok (.aload_n 0, 1) := by decide +kernel
theorem dX10_year_8 : decode cX10_year 8 = .ok (.iconst 1, 1) := by decide +kernel
theorem dX10_year_9 : decode cX10_year 9 = .ok (.invokevirtual 90, 3) := by decide +kernel
theorem dX10_year_12 : decode cX10_year 12 = .ok (.ireturn, 1) := by decide +kernel
theorem dX10_year_13 : decode cX10_year 13 = .ok (.aload_n 0, 1) := by decide +kernel
theorem dX10_year_14 : decode cX10_year 14 = .ok (.getfield 26, 3) := by decide +kernel
theorem dX10_year_17 : decode cX10_year 17 = .ok (.aload_n 0, 1) := by decide +kernel
theorem dX10_year_18 : decode cX10_year 18 = .ok (.getfield 19, 3) := by decide +kernel
theorem dX10_year_21 : decode cX10_year 21 = .ok (.invokevirtual 318, 3) := by decide +kernel
theorem dX10_year_24 : decode cX10_year 24 = .ok (.aload_n 0, 1) := by decide +kernel
theorem dX10_year_25 : decode cX10_year 25 = .ok (.aload_n 0, 1) := by decide +kernel
theorem dX10_year_26 : decode cX10_year 26 = .ok (.getfield 68, 3) := by decide +kernel
theorem dX10_year_29 : decode cX10_year 29 = .ok (.aload_n 0, 1) := by decide +kernel
theorem dX10_year_30 : decode cX10_year 30 = .ok (.getfield 75, 3) := by decide +kernel
theorem dX10_year_33 : decode cX10_year 33 = .ok (.aload_n 0, 1) := by decide +kernel
theorem dX10_year_34 : decode cX10_year 34 = .ok (.getfield 19, 3) := by decide +kernel
theorem dX10_year_37 : decode cX10_year 37 = .ok (.invokevirtual 328, 3) := by decide +kernel
theorem dX10_year_40 : decode cX10_year 40 = .ok (.invokevirtual 112, 3) := by decide +kernel
theorem dX10_year_43 : decode cX10_year 43 = .ok (.ireturn, 1) := by decide +kernel
theorem dX10_seed_0 : decode cX10_seed 0 = .ok (.aload_n 0, 1) := by decide +kernel
theorem dX10_seed_1 : decode cX10_seed 1 = .ok (.invokevirtual 137, 3) := by decide +kernel
theorem dX10_seed_4 : decode cX10_seed 4 = .ok (.ifCond .eq 9, 3) := by decide +kernel
theorem dX10_seed_7 : decode cX10_seed 7 = .ok (.aload_n 0, 1) := by decide +kernel
theorem dX10_seed_8 : decode cX10_seed 8 = .ok (.iconst 1, 1) := by decide +kernel
theorem dX10_seed_9 : decode cX10_seed 9 = .ok (.invokevirtual 322, 3) := by decide +kernel
theorem dX10_seed_12 : decode cX10_seed 12 = .ok (.ireturn, 1) := by decide +kernel
theorem dX10_seed_13 : decode cX10_seed 13 = .ok (.iload_n 1, 1) := by decide +kernel
theorem dX10_seed_14 : decode cX10_seed 14 = .ok (.invokestatic 293, 3) := by decide +kernel
theorem dX10_seed_17 : decode cX10_seed 17 = .ok (.ifCond .ne 9, 3) := by decide +kernel
theorem dX10_seed_20 : decode cX10_seed 20 = .ok (.aload_n 0, 1) := by decide +kernel
theorem dX10_seed_21 : decode cX10_seed 21 = .ok (.iconst 2, 1) := by decide +kernel
theorem dX10_seed_22 : decode cX10_seed 22 = .ok (.invokevirtual 322, 3) := by decide +kernel
theorem dX10_seed_25 : decode cX10_seed 25 = .ok (.ireturn, 1) := by decide +kernel
theorem dX10_seed_26 : decode cX10_seed 26 = .ok (.aload_n 0, 1) := by decide +kernel
theorem dX10_seed_27 : decode cX10_seed 27 = .ok (.getfield 19, 3) := by decide +kernel
theorem dX10_seed_30 : decode cX10_seed 30 = .ok (.iload_n 1, 1) := by decide +kernel
theorem dX10_seed_31 : decode cX10_seed 31 = .ok (.putfield 331, 3) := by decide +kernel
theorem dX10_seed_34 : decode cX10_seed 34 = .ok (.aload_n 0, 1) := by decide +kernel
theorem dX10_seed_35 : decode cX10_seed 35 = .ok (.invokevirtual 325, 3) := by decide +kernel
theorem dX10_seed_38 : decode cX10_seed 38 = .ok (.ireturn, 1) := by decide +kernel
theorem dX10_undo_0 : decode cX10_undo 0 = .ok (.aload_n 0, 1) := by decide +kernel
theorem dX10_undo_1 : decode cX10_undo 1 = .ok (.getfield 26, 3) := by decide +kernel
theorem dX10_undo_4 : decode cX10_undo 4 = .ok (.getfield 334, 3) := by decide +kernel
theorem dX10_undo_7 : decode cX10_undo 7 = .ok (.ifCond .ne 10, 3) := by decide +kernel
theorem dX10_undo_10 : decode cX10_undo 10 = .ok (.aload_n 0, 1) := by decide +kernel
theorem dX10_undo_11 : decode cX10_undo 11 = .ok (.bipush 6, 2) := by decide +kernel
theorem dX10_undo_13 : decode cX10_undo 13 = .ok (.invokevirtual 322, 3) := by decide +kernel
theorem dX10_undo_16 : decode cX10_undo 16 = .ok (.ireturn, 1) := by decide +kernel
theorem dX10_undo_17 : decode cX10_undo 17 = .ok (.aload_n 0, 1) := by decide +kernel
theorem dX10_undo_18 : decode cX10_undo 18 = .ok (.getfield 26, 3) := by decide +kernel
theorem dX10_undo_21 : decode cX10_undo 21 = .ok (.aload_n 0, 1) := by decide +kernel
theorem dX10_undo_22 : decode cX10_undo 22 = .ok (.getfield 19, 3) := by decide +kernel
theorem dX10_undo_25 : decode cX10_undo 25 = .ok (.invokevirtual 335, 3) := by decide +kernel
theorem dX10_undo_28 : decode cX10_undo 28 = .ok (.aload_n 0, 1) := by decide +kernel
theorem dX10_undo_29 : decode cX10_undo 29 = .ok (.invokevirtual 325, 3) := by decide +kernel
theorem dX10_undo_32 : decode cX10_undo 32 = .ok (.ireturn, 1) := by decide +kernel
theorem dX10_mark_0 : decode cX10_mark 0 = .ok (.aload_n 0, 1) := by decide +kernel
theorem dX10_mark_1 : decode cX10_mark 1 = .ok (.invokevirtual 137, 3) := by decide +kernel
theorem dX10_mark_4 : decode cX10_mark 4 = .ok (.ifCond .eq 9, 3) := by decide +kernel
theorem dX10_mark_7 : decode cX10_mark 7 = .ok (.aload_n 0, 1) := by decide +kernel
theorem dX10_mark_8 : decode cX10_mark 8 = .ok (.iconst 1, 1) := by decide +kernel
theorem dX10_mark_9 : decode cX10_mark 9 = .ok (.invokevirtual 90, 3) := by decide +kernel
theorem dX10_mark_12 : decode cX10_mark 12 = .ok (.ireturn, 1) := by decide +kernel
theorem dX10_mark_13 : decode cX10_mark 13 = .ok (.aload_n 0, 1) := by decide +kernel
theorem dX10_mark_14 : decode cX10_mark 14 = .ok (.getfield 26, 3) := by decide +kernel
theorem dX10_mark_17 : decode cX10_mark 17 = .ok (.getfield 338, 3) := by decide +kernel
theorem dX10_mark_20 : decode cX10_mark 20 = .ok (.iconst 3, 1) := by decide +kernel
theorem dX10_mark_21 : decode cX10_mark 21 = .ok (.if_icmp .lt 9, 3) := by decide +kernel
theorem dX10_mark_24 : decode cX10_mark 24 = .ok (.aload_n 0, 1) := by decide +kernel
theorem dX10_mark_25 : decode cX10_mark 25 = .ok (.iconst 3, 1) := by decide +kernel
theorem dX10_mark_26 : decode cX10_mark 26 = .ok (.invokevirtual 90, 3) := by decide +kernel
theorem dX10_mark_29 : decode cX10_mark 29 = .ok (.ireturn, 1) := by decide +kernel
theorem dX10_mark_30 : decode cX10_mark 30 = .ok (.aload_n 0, 1) := by decide +kernel
theorem dX10_mark_31 : decode cX10_mark 31 = .ok (.aload_n 0, 1) := by decide +kernel
theorem dX10_mark_32 : decode cX10_mark 32 = .ok (.getfield 26, 3) := by decide +kernel
theorem dX10_mark_35 : decode cX10_mark 35 = .ok (.aload_n 0, 1) := by decide +kernel
theorem dX10_mark_36 : decode cX10_mark 36 = .ok (.getfield 19, 3) := by decide +kernel
theorem dX10_mark_39 : decode cX10_mark 39 = .ok (.invokevirtual 341, 3) := by decide +kernel
theorem dX10_mark_42 : decode cX10_mark 42 = .ok (.invokevirtual 112, 3) := by decide +kernel
theorem dX10_mark_45 : decode cX10_mark 45 = .ok (.ireturn, 1) := by decide +kernel
theorem dX10_back_0 : decode cX10_back 0 = .ok (.iload_n 1, 1) := by decide +kernel
theorem dX10_back_1 : decode cX10_back 1 = .ok (.ifCond .lt 14, 3) := by decide +kernel
theorem dX10_back_4 : decode cX10_back 4 = .ok (.iload_n 1, 1) := by decide +kernel
theorem dX10_back_5 : decode cX10_back 5 = .ok (.aload_n 0, 1) := by decide +kernel
theorem dX10_back_6 : decode cX10_back 6 = .ok (.getfield 26, 3) := by decide +kernel
theorem dX10_back_9 : decode cX10_back 9 = .ok (.getfield 338, 3) := by decide +kernel
theorem dX10_back_12 : decode cX10_back 12 = .ok (.if_icmp .lt 9, 3) := by decide +kernel
theorem dX10_back_15 : decode cX10_back 15 = .ok (.aload_n 0, 1) := by decide +kernel
theorem dX10_back_16 : decode cX10_back 16 = .ok (.iconst 1, 1) := by decide +kernel
theorem dX10_back_17 : decode cX10_back 17 = .ok (.invokevirtual 322, 3) := by decide +kernel
theorem dX10_back_20 : decode cX10_back 20 = .ok (.ireturn, 1) := by decide +kernel
theorem dX10_back_21 : decode cX10_back 21 = .ok (.aload_n 0, 1) := by decide +kernel
theorem dX10_back_22 : decode cX10_back 22 = .ok (.getfield 26, 3) := by decide +kernel
theorem dX10_back_25 : decode cX10_back 25 = .ok (.iload_n 1, 1) := by decide +kernel
theorem dX10_back_26 : decode cX10_back 26 = .ok (.aload_n 0, 1) := by decide +kernel
theorem dX10_back_27 : decode cX10_back 27 = .ok (.getfield 19, 3) := by decide +kernel
theorem dX10_back_30 : decode cX10_back 30 = .ok (.invokevirtual 345, 3) := by decide +kernel
theorem dX10_back_33 : decode cX10_back 33 = .ok (.aload_n 0, 1) := by decide +kernel
theorem dX10_back_34 : decode cX10_back 34 = .ok (.invokevirtual 325, 3) := by decide +kernel
theorem dX10_back_37 : decode cX10_back 37 = .ok (.ireturn, 1) := by decide +kernel
theorem dX10_led_0 : decode cX10_led 0 = .ok (.iconst 0, 1) := by decide +kernel
theorem dX10_led_1 : decode cX10_led 1 = .ok (.istore_n 2, 1) := by decide +kernel
theorem dX10_led_2 : decode cX10_led 2 = .ok (.iconst 0, 1) := by decide +kernel
theorem dX10_led_3 : decode cX10_led 3 = .ok (.istore_n 3, 1) := by decide +kernel
theorem dX10_led_4 : decode cX10_led 4 = .ok (.iload_n 3, 1) := by decide +kernel
theorem dX10_led_5 : decode cX10_led 5 = .ok (.aload_n 0, 1) := by decide +kernel
theorem dX10_led_6 : decode cX10_led 6 = .ok (.getfield 75, 3) := by decide +kernel
theorem dX10_led_9 : decode cX10_led 9 = .ok (.getfield 158, 3) := by decide +kernel
theorem dX10_led_12 : decode cX10_led 12 = .ok (.if_icmp .ge 33, 3) := by decide +kernel
theorem dX10_led_15 : decode cX10_led 15 = .ok (.aload_n 0, 1) := by decide +kernel
theorem dX10_led_16 : decode cX10_led 16 = .ok (.getfield 19, 3) := by decide +kernel
theorem dX10_led_19 : decode cX10_led 19 = .ok (.getfield 161, 3) := by decide +kernel
theorem dX10_led_22 : decode cX10_led 22 = .ok (.iload_n 3, 1) := by decide +kernel
theorem dX10_led_23 : decode cX10_led 23 = .ok (.invokestatic 164, 3) := by decide +kernel
theorem dX10_led_26 : decode cX10_led 26 = .ok (.ifCond .eq 13, 3) := by decide +kernel
theorem dX10_led_29 : decode cX10_led 29 = .ok (.iload_n 2, 1) := by decide +kernel
theorem dX10_led_30 : decode cX10_led 30 = .ok (.iload_n 1, 1) := by decide +kernel
theorem dX10_led_31 : decode cX10_led 31 = .ok (.if_icmp .ne 5, 3) := by decide +kernel
theorem dX10_led_34 : decode cX10_led 34 = .ok (.iload_n 3, 1) := by decide +kernel
theorem dX10_led_35 : decode cX10_led 35 = .ok (.ireturn, 1) := by decide +kernel
theorem dX10_led_36 : decode cX10_led 36 = .ok (.iinc 2 1, 3) := by decide +kernel
theorem dX10_led_39 : decode cX10_led 39 = .ok (.iinc 3 1, 3) := by decide +kernel
theorem dX10_led_42 : decode cX10_led 42 = .ok (.goto (-38), 3) := by decide +kernel
theorem dX10_led_45 : decode cX10_led 45 = .ok (.new 349, 3) := by decide +kernel
theorem dX10_led_48 : decode cX10_led 48 = .ok (.dup, 1) := by decide +kernel
theorem dX10_led_49 : decode cX10_led 49 = .ok (.invokespecial 351, 3) := by decide +kernel
theorem dX10_led_52 : decode cX10_led 52 = .ok (.athrow, 1) := by decide +kernel
theorem dX10_size_0 : decode cX10_size 0 = .ok (.iload_n 1, 1) := by decide +kernel
theorem dX10_size_1 : decode cX10_size 1 = .ok (.tableswitch 159 0 11 #[63, 71, 79, 87, 95, 103, 111, 119, 127, 135, 143, 151], 63) := by decide +kernel
theorem dX10_size_64 : decode cX10_size 64 = .ok (.aload_n 0, 1) := by decide +kernel
theorem dX10_size_65 : decode cX10_size 65 = .ok (.getfield 75, 3) := by decide +kernel
theorem dX10_size_68 : decode cX10_size 68 = .ok (.getfield 352, 3) := by decide +kernel
theorem dX10_size_71 : decode cX10_size 71 = .ok (.ireturn, 1) := by decide +kernel
theorem dX10_size_72 : decode cX10_size 72 = .ok (.aload_n 0, 1) := by decide +kernel
theorem dX10_size_73 : decode cX10_size 73 = .ok (.getfield 75, 3) := by decide +kernel
theorem dX10_size_76 : decode cX10_size 76 = .ok (.getfield 353, 3) := by decide +kernel
theorem dX10_size_79 : decode cX10_size 79 = .ok (.ireturn, 1) := by decide +kernel
theorem dX10_size_80 : decode cX10_size 80 = .ok (.aload_n 0, 1) := by decide +kernel
theorem dX10_size_81 : decode cX10_size 81 = .ok (.getfield 75, 3) := by decide +kernel
theorem dX10_size_84 : decode cX10_size 84 = .ok (.getfield 109, 3) := by decide +kernel
theorem dX10_size_87 : decode cX10_size 87 = .ok (.ireturn, 1) := by decide +kernel
theorem dX10_size_88 : decode cX10_size 88 = .ok (.aload_n 0, 1) := by decide +kernel
theorem dX10_size_89 : decode cX10_size 89 = .ok (.getfield 75, 3) := by decide +kernel
theorem dX10_size_92 : decode cX10_size 92 = .ok (.getfield 158, 3) := by decide +kernel
theorem dX10_size_95 : decode cX10_size 95 = .ok (.ireturn, 1) := by decide +kernel
theorem dX10_size_96 : decode cX10_size 96 = .ok (.aload_n 0, 1) := by decide +kernel
theorem dX10_size_97 : decode cX10_size 97 = .ok (.getfield 75, 3) := by decide +kernel
theorem dX10_size_100 : decode cX10_size 100 = .ok (.getfield 356, 3) := by decide +kernel
theorem dX10_size_103 : decode cX10_size 103 = .ok (.ireturn, 1) := by decide +kernel
theorem dX10_size_104 : decode cX10_size 104 = .ok (.aload_n 0, 1) := by decide +kernel
theorem dX10_size_105 : decode cX10_size 105 = .ok (.getfield 75, 3) := by decide +kernel
theorem dX10_size_108 : decode cX10_size 108 = .ok (.getfield 359, 3) := by decide +kernel
theorem dX10_size_111 : decode cX10_size 111 = .ok (.ireturn, 1) := by decide +kernel
theorem dX10_size_112 : decode cX10_size 112 = .ok (.aload_n 0, 1) := by decide +kernel
theorem dX10_size_113 : decode cX10_size 113 = .ok (.getfield 75, 3) := by decide +kernel
theorem dX10_size_116 : decode cX10_size 116 = .ok (.getfield 362, 3) := by decide +kernel
theorem dX10_size_119 : decode cX10_size 119 = .ok (.ireturn, 1) := by decide +kernel
theorem dX10_size_120 : decode cX10_size 120 = .ok (.aload_n 0, 1) := by decide +kernel
theorem dX10_size_121 : decode cX10_size 121 = .ok (.getfield 19, 3) := by decide +kernel
theorem dX10_size_124 : decode cX10_size 124 = .ok (.getfield 172, 3) := by decide +kernel
theorem dX10_size_127 : decode cX10_size 127 = .ok (.ireturn, 1) := by decide +kernel
theorem dX10_size_128 : decode cX10_size 128 = .ok (.aload_n 0, 1) := by decide +kernel
theorem dX10_size_129 : decode cX10_size 129 = .ok (.getfield 19, 3) := by decide +kernel
theorem dX10_size_132 : decode cX10_size 132 = .ok (.getfield 331, 3) := by decide +kernel
theorem dX10_size_135 : decode cX10_size 135 = .ok (.ireturn, 1) := by decide +kernel
theorem dX10_size_136 : decode cX10_size 136 = .ok (.aload_n 0, 1) := by decide +kernel
theorem dX10_size_137 : decode cX10_size 137 = .ok (.getfield 26, 3) := by decide +kernel
theorem dX10_size_140 : decode cX10_size 140 = .ok (.getfield 334, 3) := by decide +kernel
theorem dX10_size_143 : decode cX10_size 143 = .ok (.ireturn, 1) := by decide +kernel
theorem dX10_size_144 : decode cX10_size 144 = .ok (.aload_n 0, 1) := by decide +kernel
theorem dX10_size_145 : decode cX10_size 145 = .ok (.getfield 26, 3) := by decide +kernel
theorem dX10_size_148 : decode cX10_size 148 = .ok (.getfield 338, 3) := by decide +kernel
theorem dX10_size_151 : decode cX10_size 151 = .ok (.ireturn, 1) := by decide +kernel
theorem dX10_size_152 : decode cX10_size 152 = .ok (.aload_n 0, 1) := by decide +kernel
theorem dX10_size_153 : decode cX10_size 153 = .ok (.getfield 12, 3) := by decide +kernel
theorem dX10_size_156 : decode cX10_size 156 = .ok (.getfield 83, 3) := by decide +kernel
theorem dX10_size_159 : decode cX10_size 159 = .ok (.ireturn, 1) := by decide +kernel
theorem dX10_size_160 : decode cX10_size 160 = .ok (.iconst (-1), 1) := by decide +kernel
theorem dX10_size_161 : decode cX10_size 161 = .ok (.ireturn, 1) := by decide +kernel
theorem dX10_trouble_0 : decode cX10_trouble 0 = .ok (.aload_n 0, 1) := by decide +kernel
theorem dX10_trouble_1 : decode cX10_trouble 1 = .ok (.getfield 79, 3) := by decide +kernel
theorem dX10_trouble_4 : decode cX10_trouble 4 = .ok (.ireturn, 1) := by decide +kernel
theorem dX10_answered_0 : decode cX10_answered 0 = .ok (.aload_n 0, 1) := by decide +kernel
theorem dX10_answered_1 : decode cX10_answered 1 = .ok (.iconst 0, 1) := by decide +kernel
theorem dX10_answered_2 : decode cX10_answered 2 = .ok (.putfield 79, 3) := by decide +kernel
theorem dX10_answered_5 : decode cX10_answered 5 = .ok (.iload_n 1, 1) := by decide +kernel
theorem dX10_answered_6 : decode cX10_answered 6 = .ok (.ireturn, 1) := by decide +kernel
theorem dX10_refused_0 : decode cX10_refused 0 = .ok (.aload_n 0, 1) := by decide +kernel
theorem dX10_refused_1 : decode cX10_refused 1 = .ok (.iload_n 1, 1) := by decide +kernel
theorem dX10_refused_2 : decode cX10_refused 2 = .ok (.putfield 79, 3) := by decide +kernel
theorem dX10_refused_5 : decode cX10_refused 5 = .ok (.iconst (-1), 1) := by decide +kernel
theorem dX10_refused_6 : decode cX10_refused 6 = .ok (.ireturn, 1) := by decide +kernel
theorem dX10_granted_0 : decode cX10_granted 0 = .ok (.aload_n 0, 1) := by decide +kernel
theorem dX10_granted_1 : decode cX10_granted 1 = .ok (.iconst 0, 1) := by decide +kernel
theorem dX10_granted_2 : decode cX10_granted 2 = .ok (.putfield 79, 3) := by decide +kernel
theorem dX10_granted_5 : decode cX10_granted 5 = .ok (.iconst 1, 1) := by decide +kernel
theorem dX10_granted_6 : decode cX10_granted 6 = .ok (.ireturn, 1) := by decide +kernel
theorem dX10_denied_0 : decode cX10_denied 0 = .ok (.aload_n 0, 1) := by decide +kernel
theorem dX10_denied_1 : decode cX10_denied 1 = .ok (.iload_n 1, 1) := by decide +kernel
theorem dX10_denied_2 : decode cX10_denied 2 = .ok (.putfield 79, 3) := by decide +kernel
theorem dX10_denied_5 : decode cX10_denied 5 = .ok (.iconst 0, 1) := by decide +kernel
theorem dX10_denied_6 : decode cX10_denied 6 = .ok (.ireturn, 1) := by decide +kernel
theorem dX10_noRiver_0 : decode cX10_noRiver 0 = .ok (.aload_n 0, 1) := by decide +kernel
theorem dX10_noRiver_1 : decode cX10_noRiver 1 = .ok (.getfield 75, 3) := by decide +kernel
theorem dX10_noRiver_4 : decode cX10_noRiver 4 = .ok (.getfield 109, 3) := by decide +kernel
theorem dX10_noRiver_7 : decode cX10_noRiver 7 = .ok (.ifCond .ne 7, 3) := by decide +kernel
theorem dX10_noRiver_10 : decode cX10_noRiver 10 = .ok (.iconst 1, 1) := by decide +kernel
theorem dX10_noRiver_11 : decode cX10_noRiver 11 = .ok (.goto 4, 3) := by decide +kernel
theorem dX10_noRiver_14 : decode cX10_noRiver 14 = .ok (.iconst 0, 1) := by decide +kernel
theorem dX10_noRiver_15 : decode cX10_noRiver 15 = .ok (.ireturn, 1) := by decide +kernel
theorem dX10_isReach_0 : decode cX10_isReach 0 = .ok (.iload_n 1, 1) := by decide +kernel
theorem dX10_isReach_1 : decode cX10_isReach 1 = .ok (.ifCond .lt 18, 3) := by decide +kernel
theorem dX10_isReach_4 : decode cX10_isReach 4 = .ok (.iload_n 1, 1) := by decide +kernel
theorem dX10_isReach_5 : decode cX10_isReach 5 = .ok (.aload_n 0, 1) := by decide +kernel
theorem dX10_isReach_6 : decode cX10_isReach 6 = .ok (.getfield 75, 3) := by decide +kernel
theorem dX10_isReach_9 : decode cX10_isReach 9 = .ok (.getfield 109, 3) := by decide +kernel
theorem dX10_isReach_12 : decode cX10_isReach 12 = .ok (.if_icmp .ge 7, 3) := by decide +kernel
theorem dX10_isReach_15 : decode cX10_isReach 15 = .ok (.iconst 1, 1) := by decide +kernel
theorem dX10_isReach_16 : decode cX10_isReach 16 = .ok (.goto 4, 3) := by decide +kernel
theorem dX10_isReach_19 : decode cX10_isReach 19 = .ok (.iconst 0, 1) := by decide +kernel
theorem dX10_isReach_20 : decode cX10_isReach 20 = .ok (.ireturn, 1) := by decide +kernel
theorem dX10_isRope_0 : decode cX10_isRope 0 = .ok (.iload_n 1, 1) := by decide +kernel
theorem dX10_isRope_1 : decode cX10_isRope 1 = .ok (.ifCond .lt 18, 3) := by decide +kernel
theorem dX10_isRope_4 : decode cX10_isRope 4 = .ok (.iload_n 1, 1) := by decide +kernel
theorem dX10_isRope_5 : decode cX10_isRope 5 = .ok (.aload_n 0, 1) := by decide +kernel
theorem dX10_isRope_6 : decode cX10_isRope 6 = .ok (.getfield 75, 3) := by decide +kernel
theorem dX10_isRope_9 : decode cX10_isRope 9 = .ok (.getfield 158, 3) := by decide +kernel
theorem dX10_isRope_12 : decode cX10_isRope 12 = .ok (.if_icmp .ge 7, 3) := by decide +kernel
theorem dX10_isRope_15 : decode cX10_isRope 15 = .ok (.iconst 1, 1) := by decide +kernel
theorem dX10_isRope_16 : decode cX10_isRope 16 = .ok (.goto 4, 3) := by decide +kernel
theorem dX10_isRope_19 : decode cX10_isRope 19 = .ok (.iconst 0, 1) := by decide +kernel
theorem dX10_isRope_20 : decode cX10_isRope 20 = .ok (.ireturn, 1) := by decide +kernel
theorem dX10_isBoat_0 : decode cX10_isBoat 0 = .ok (.iload_n 1, 1) := by decide +kernel
theorem dX10_isBoat_1 : decode cX10_isBoat 1 = .ok (.ifCond .lt 18, 3) := by decide +kernel
theorem dX10_isBoat_4 : decode cX10_isBoat 4 = .ok (.iload_n 1, 1) := by decide +kernel
theorem dX10_isBoat_5 : decode cX10_isBoat 5 = .ok (.aload_n 0, 1) := by decide +kernel
theorem dX10_isBoat_6 : decode cX10_isBoat 6 = .ok (.getfield 75, 3) := by decide +kernel
theorem dX10_isBoat_9 : decode cX10_isBoat 9 = .ok (.getfield 359, 3) := by decide +kernel
theorem dX10_isBoat_12 : decode cX10_isBoat 12 = .ok (.if_icmp .ge 7, 3) := by decide +kernel
theorem dX10_isBoat_15 : decode cX10_isBoat 15 = .ok (.iconst 1, 1) := by decide +kernel
theorem dX10_isBoat_16 : decode cX10_isBoat 16 = .ok (.goto 4, 3) := by decide +kernel
theorem dX10_isBoat_19 : decode cX10_isBoat 19 = .ok (.iconst 0, 1) := by decide +kernel
theorem dX10_isBoat_20 : decode cX10_isBoat 20 = .ok (.ireturn, 1) := by decide +kernel
theorem dX10_isFlow_0 : decode cX10_isFlow 0 = .ok (.iload_n 0, 1) := by decide +kernel
theorem dX10_isFlow_1 : decode cX10_isFlow 1 = .ok (.iconst 1, 1) := by decide +kernel
theorem dX10_isFlow_2 : decode cX10_isFlow 2 = .ok (.if_icmp .lt 14, 3) := by decide +kernel
theorem dX10_isFlow_5 : decode cX10_isFlow 5 = .ok (.iload_n 0, 1) := by decide +kernel
theorem dX10_isFlow_6 : decode cX10_isFlow 6 = .ok (.sipush 999, 3) := by decide +kernel
theorem dX10_isFlow_9 : decode cX10_isFlow 9 = .ok (.if_icmp .gt 7, 3) := by decide +kernel
theorem dX10_isFlow_12 : decode cX10_isFlow 12 = .ok (.iconst 1, 1) := by decide +kernel
theorem dX10_isFlow_13 : decode cX10_isFlow 13 = .ok (.goto 4, 3) := by decide +kernel
theorem dX10_isFlow_16 : decode cX10_isFlow 16 = .ok (.iconst 0, 1) := by decide +kernel
theorem dX10_isFlow_17 : decode cX10_isFlow 17 = .ok (.ireturn, 1) := by decide +kernel
theorem dX10_isPull_0 : decode cX10_isPull 0 = .ok (.iload_n 0, 1) := by decide +kernel
theorem dX10_isPull_1 : decode cX10_isPull 1 = .ok (.ifCond .lt 12, 3) := by decide +kernel
theorem dX10_isPull_4 : decode cX10_isPull 4 = .ok (.iload_n 0, 1) := by decide +kernel
theorem dX10_isPull_5 : decode cX10_isPull 5 = .ok (.iconst 5, 1) := by decide +kernel
theorem dX10_isPull_6 : decode cX10_isPull 6 = .ok (.if_icmp .gt 7, 3) := by decide +kernel
theorem dX10_isPull_9 : decode cX10_isPull 9 = .ok (.iconst 1, 1) := by decide +kernel
theorem dX10_isPull_10 : decode cX10_isPull 10 = .ok (.goto 4, 3) := by decide +kernel
theorem dX10_isPull_13 : decode cX10_isPull 13 = .ok (.iconst 0, 1) := by decide +kernel
theorem dX10_isPull_14 : decode cX10_isPull 14 = .ok (.ireturn, 1) := by decide +kernel
theorem dX10_isSeed_0 : decode cX10_isSeed 0 = .ok (.iload_n 0, 1) := by decide +kernel
theorem dX10_isSeed_1 : decode cX10_isSeed 1 = .ok (.ifCond .lt 14, 3) := by decide +kernel
theorem dX10_isSeed_4 : decode cX10_isSeed 4 = .ok (.iload_n 0, 1) := by decide +kernel
theorem dX10_isSeed_5 : decode cX10_isSeed 5 = .ok (.ldc_w 365, 3) := by decide +kernel
theorem dX10_isSeed_8 : decode cX10_isSeed 8 = .ok (.if_icmp .gt 7, 3) := by decide +kernel
theorem dX10_isSeed_11 : decode cX10_isSeed 11 = .ok (.iconst 1, 1) := by decide +kernel
theorem dX10_isSeed_12 : decode cX10_isSeed 12 = .ok (.goto 4, 3) := by decide +kernel
theorem dX10_isSeed_15 : decode cX10_isSeed 15 = .ok (.iconst 0, 1) := by decide +kernel
theorem dX10_isSeed_16 : decode cX10_isSeed 16 = .ok (.ireturn, 1) := by decide +kernel
theorem dX10_isYears_0 : decode cX10_isYears 0 = .ok (.iload_n 0, 1) := by decide +kernel
theorem dX10_isYears_1 : decode cX10_isYears 1 = .ok (.ifCond .lt 13, 3) := by decide +kernel
theorem dX10_isYears_4 : decode cX10_isYears 4 = .ok (.iload_n 0, 1) := by decide +kernel
theorem dX10_isYears_5 : decode cX10_isYears 5 = .ok (.bipush 60, 2) := by decide +kernel
theorem dX10_isYears_7 : decode cX10_isYears 7 = .ok (.if_icmp .gt 7, 3) := by decide +kernel
theorem dX10_isYears_10 : decode cX10_isYears 10 = .ok (.iconst 1, 1) := by decide +kernel
theorem dX10_isYears_11 : decode cX10_isYears 11 = .ok (.goto 4, 3) := by decide +kernel
theorem dX10_isYears_14 : decode cX10_isYears 14 = .ok (.iconst 0, 1) := by decide +kernel
theorem dX10_isYears_15 : decode cX10_isYears 15 = .ok (.ireturn, 1) := by decide +kernel
theorem dX10_isIn_0 : decode cX10_isIn 0 = .ok (.iload_n 0, 1) := by decide +kernel
theorem dX10_isIn_1 : decode cX10_isIn 1 = .ok (.iload_n 1, 1) := by decide +kernel
theorem dX10_isIn_2 : decode cX10_isIn 2 = .ok (.ishr, 1) := by decide +kernel
theorem dX10_isIn_3 : decode cX10_isIn 3 = .ok (.iconst 1, 1) := by decide +kernel
theorem dX10_isIn_4 : decode cX10_isIn 4 = .ok (.iand, 1) := by decide +kernel
theorem dX10_isIn_5 : decode cX10_isIn 5 = .ok (.iconst 1, 1) := by decide +kernel
theorem dX10_isIn_6 : decode cX10_isIn 6 = .ok (.if_icmp .ne 7, 3) := by decide +kernel
theorem dX10_isIn_9 : decode cX10_isIn 9 = .ok (.iconst 1, 1) := by decide +kernel
theorem dX10_isIn_10 : decode cX10_isIn 10 = .ok (.goto 4, 3) := by decide +kernel
theorem dX10_isIn_13 : decode cX10_isIn 13 = .ok (.iconst 0, 1) := by decide +kernel
theorem dX10_isIn_14 : decode cX10_isIn 14 = .ok (.ireturn, 1) := by decide +kernel
theorem dX10_pourNow_0 : decode cX10_pourNow 0 = .ok (.aload_n 0, 1) := by decide +kernel
theorem dX10_pourNow_1 : decode cX10_pourNow 1 = .ok (.aload_n 0, 1) := by decide +kernel
theorem dX10_pourNow_2 : decode cX10_pourNow 2 = .ok (.getfield 19, 3) := by decide +kernel
theorem dX10_pourNow_5 : decode cX10_pourNow 5 = .ok (.getfield 172, 3) := by decide +kernel
theorem dX10_pourNow_8 : decode cX10_pourNow 8 = .ok (.invokevirtual 178, 3) := by decide +kernel
theorem dX10_pourNow_11 : decode cX10_pourNow 11 = .ok (.return_, 1) := by decide +kernel
theorem dX10_pourBy_0 : decode cX10_pourBy 0 = .ok (.aload_n 0, 1) := by decide +kernel
theorem dX10_pourBy_1 : decode cX10_pourBy 1 = .ok (.getfield 33, 3) := by decide +kernel
theorem dX10_pourBy_4 : decode cX10_pourBy 4 = .ok (.aload_n 0, 1) := by decide +kernel
theorem dX10_pourBy_5 : decode cX10_pourBy 5 = .ok (.getfield 75, 3) := by decide +kernel
theorem dX10_pourBy_8 : decode cX10_pourBy 8 = .ok (.aload_n 0, 1) := by decide +kernel
theorem dX10_pourBy_9 : decode cX10_pourBy 9 = .ok (.getfield 19, 3) := by decide +kernel
theorem dX10_pourBy_12 : decode cX10_pourBy 12 = .ok (.getfield 161, 3) := by decide +kernel
theorem dX10_pourBy_15 : decode cX10_pourBy 15 = .ok (.iload_n 1, 1) := by decide +kernel
theorem dX10_pourBy_16 : decode cX10_pourBy 16 = .ok (.invokevirtual 366, 3) := by decide +kernel
theorem dX10_pourBy_19 : decode cX10_pourBy 19 = .ok (.return_, 1) := by decide +kernel
theorem dX10_haulOf_0 : decode cX10_haulOf 0 = .ok (.aload_n 0, 1) := by decide +kernel
theorem dX10_haulOf_1 : decode cX10_haulOf 1 = .ok (.getfield 75, 3) := by decide +kernel
theorem dX10_haulOf_4 : decode cX10_haulOf 4 = .ok (.getfield 370, 3) := by decide +kernel
theorem dX10_haulOf_7 : decode cX10_haulOf 7 = .ok (.iload_n 1, 1) := by decide +kernel
theorem dX10_haulOf_8 : decode cX10_haulOf 8 = .ok (.iaload, 1) := by decide +kernel
theorem dX10_haulOf_9 : decode cX10_haulOf 9 = .ok (.aload_n 0, 1) := by decide +kernel
theorem dX10_haulOf_10 : decode cX10_haulOf 10 = .ok (.getfield 33, 3) := by decide +kernel
theorem dX10_haulOf_13 : decode cX10_haulOf 13 = .ok (.getfield 181, 3) := by decide +kernel
theorem dX10_haulOf_16 : decode cX10_haulOf 16 = .ok (.aload_n 0, 1) := by decide +kernel
theorem dX10_haulOf_17 : decode cX10_haulOf 17 = .ok (.getfield 75, 3) := by decide +kernel
theorem dX10_haulOf_20 : decode cX10_haulOf 20 = .ok (.getfield 191, 3) := by decide +kernel
theorem dX10_haulOf_23 : decode cX10_haulOf 23 = .ok (.iload_n 1, 1) := by decide +kernel
theorem dX10_haulOf_24 : decode cX10_haulOf 24 = .ok (.iaload, 1) := by decide +kernel
theorem dX10_haulOf_25 : decode cX10_haulOf 25 = .ok (.iaload, 1) := by decide +kernel
theorem dX10_haulOf_26 : decode cX10_haulOf 26 = .ok (.imul, 1) := by decide +kernel
theorem dX10_haulOf_27 : decode cX10_haulOf 27 = .ok (.ireturn, 1) := by decide +kernel
theorem dX10_ofReach_0 : decode cX10_ofReach 0 = .ok (.iload_n 2, 1) := by decide +kernel
theorem dX10_ofReach_1 : decode cX10_ofReach 1 = .ok (.tableswitch 113 0 6 #[43, 53, 63, 73, 83, 93, 103], 43) := by decide +kernel
theorem dX10_ofReach_44 : decode cX10_ofReach 44 = .ok (.aload_n 0, 1) := by decide +kernel
theorem dX10_ofReach_45 : decode cX10_ofReach 45 = .ok (.getfield 75, 3) := by decide +kernel
theorem dX10_ofReach_48 : decode cX10_ofReach 48 = .ok (.getfield 373, 3) := by decide +kernel
theorem dX10_ofReach_51 : decode cX10_ofReach 51 = .ok (.iload_n 1, 1) := by decide +kernel
theorem dX10_ofReach_52 : decode cX10_ofReach 52 = .ok (.iaload, 1) := by decide +kernel
theorem dX10_ofReach_53 : decode cX10_ofReach 53 = .ok (.ireturn, 1) := by decide +kernel
theorem dX10_ofReach_54 : decode cX10_ofReach 54 = .ok (.aload_n 0, 1) := by decide +kernel
theorem dX10_ofReach_55 : decode cX10_ofReach 55 = .ok (.getfield 75, 3) := by decide +kernel
theorem dX10_ofReach_58 : decode cX10_ofReach 58 = .ok (.getfield 376, 3) := by decide +kernel
theorem dX10_ofReach_61 : decode cX10_ofReach 61 = .ok (.iload_n 1, 1) := by decide +kernel
theorem dX10_ofReach_62 : decode cX10_ofReach 62 = .ok (.iaload, 1) := by decide +kernel
theorem dX10_ofReach_63 : decode cX10_ofReach 63 = .ok (.ireturn, 1) := by decide +kernel
theorem dX10_ofReach_64 : decode cX10_ofReach 64 = .ok (.aload_n 0, 1) := by decide +kernel
theorem dX10_ofReach_65 : decode cX10_ofReach 65 = .ok (.getfield 75, 3) := by decide +kernel
theorem dX10_ofReach_68 : decode cX10_ofReach 68 = .ok (.getfield 204, 3) := by decide +kernel
theorem dX10_ofReach_71 : decode cX10_ofReach 71 = .ok (.iload_n 1, 1) := by decide +kernel
theorem dX10_ofReach_72 : decode cX10_ofReach 72 = .ok (.iaload, 1) := by decide +kernel
theorem dX10_ofReach_73 : decode cX10_ofReach 73 = .ok (.ireturn, 1) := by decide +kernel
theorem dX10_ofReach_74 : decode cX10_ofReach 74 = .ok (.aload_n 0, 1) := by decide +kernel
theorem dX10_ofReach_75 : decode cX10_ofReach 75 = .ok (.getfield 33, 3) := by decide +kernel
theorem dX10_ofReach_78 : decode cX10_ofReach 78 = .ok (.getfield 154, 3) := by decide +kernel
theorem dX10_ofReach_81 : decode cX10_ofReach 81 = .ok (.iload_n 1, 1) := by decide +kernel
theorem dX10_ofReach_82 : decode cX10_ofReach 82 = .ok (.iaload, 1) := by decide +kernel
theorem dX10_ofReach_83 : decode cX10_ofReach 83 = .ok (.ireturn, 1) := by decide +kernel
theorem dX10_ofReach_84 : decode cX10_ofReach 84 = .ok (.aload_n 0, 1) := by decide +kernel
theorem dX10_ofReach_85 : decode cX10_ofReach 85 = .ok (.getfield 33, 3) := by decide +kernel
theorem dX10_ofReach_88 : decode cX10_ofReach 88 = .ok (.getfield 379, 3) := by decide +kernel
theorem dX10_ofReach_91 : decode cX10_ofReach 91 = .ok (.iload_n 1, 1) := by decide +kernel
theorem dX10_ofReach_92 : decode cX10_ofReach 92 = .ok (.iaload, 1) := by decide +kernel
theorem dX10_ofReach_93 : decode cX10_ofReach 93 = .ok (.ireturn, 1) := by decide +kernel
theorem dX10_ofReach_94 : decode cX10_ofReach 94 = .ok (.aload_n 0, 1) := by decide +kernel
theorem dX10_ofReach_95 : decode cX10_ofReach 95 = .ok (.getfield 33, 3) := by decide +kernel
theorem dX10_ofReach_98 : decode cX10_ofReach 98 = .ok (.getfield 181, 3) := by decide +kernel
theorem dX10_ofReach_101 : decode cX10_ofReach 101 = .ok (.iload_n 1, 1) := by decide +kernel
theorem dX10_ofReach_102 : decode cX10_ofReach 102 = .ok (.iaload, 1) := by decide +kernel
theorem dX10_ofReach_103 : decode cX10_ofReach 103 = .ok (.ireturn, 1) := by decide +kernel
theorem dX10_ofReach_104 : decode cX10_ofReach 104 = .ok (.aload_n 0, 1) := by decide +kernel
theorem dX10_ofReach_105 : decode cX10_ofReach 105 = .ok (.getfield 33, 3) := by decide +kernel
theorem dX10_ofReach_108 : decode cX10_ofReach 108 = .ok (.getfield 382, 3) := by decide +kernel
theorem dX10_ofReach_111 : decode cX10_ofReach 111 = .ok (.iload_n 1, 1) := by decide +kernel
theorem dX10_ofReach_112 : decode cX10_ofReach 112 = .ok (.iaload, 1) := by decide +kernel
theorem dX10_ofReach_113 : decode cX10_ofReach 113 = .ok (.ireturn, 1) := by decide +kernel
theorem dX10_ofReach_114 : decode cX10_ofReach 114 = .ok (.aload_n 0, 1) := by decide +kernel
theorem dX10_ofReach_115 : decode cX10_ofReach 115 = .ok (.getfield 33, 3) := by decide +kernel
theorem dX10_ofReach_118 : decode cX10_ofReach 118 = .ok (.getfield 385, 3) := by decide +kernel
theorem dX10_ofReach_121 : decode cX10_ofReach 121 = .ok (.iload_n 1, 1) := by decide +kernel
theorem dX10_ofReach_122 : decode cX10_ofReach 122 = .ok (.iaload, 1) := by decide +kernel
theorem dX10_ofReach_123 : decode cX10_ofReach 123 = .ok (.ireturn, 1) := by decide +kernel
theorem dX10_ofRope_0 : decode cX10_ofRope 0 = .ok (.iload_n 2, 1) := by decide +kernel
theorem dX10_ofRope_1 : decode cX10_ofRope 1 = .ok (.tableswitch 105 0 4 #[35, 45, 55, 65, 95], 35) := by decide +kernel
theorem dX10_ofRope_36 : decode cX10_ofRope 36 = .ok (.aload_n 0, 1) := by decide +kernel
theorem dX10_ofRope_37 : decode cX10_ofRope 37 = .ok (.getfield 75, 3) := by decide +kernel
theorem dX10_ofRope_40 : decode cX10_ofRope 40 = .ok (.getfield 191, 3) := by decide +kernel
theorem dX10_ofRope_43 : decode cX10_ofRope 43 = .ok (.iload_n 1, 1) := by decide +kernel
theorem dX10_ofRope_44 : decode cX10_ofRope 44 = .ok (.iaload, 1) := by decide +kernel
theorem dX10_ofRope_45 : decode cX10_ofRope 45 = .ok (.ireturn, 1) := by decide +kernel
theorem dX10_ofRope_46 : decode cX10_ofRope 46 = .ok (.aload_n 0, 1) := by decide +kernel
theorem dX10_ofRope_47 : decode cX10_ofRope 47 = .ok (.getfield 75, 3) := by decide +kernel
theorem dX10_ofRope_50 : decode cX10_ofRope 50 = .ok (.getfield 370, 3) := by decide +kernel
theorem dX10_ofRope_53 : decode cX10_ofRope 53 = .ok (.iload_n 1, 1) := by decide +kernel
theorem dX10_ofRope_54 : decode cX10_ofRope 54 = .ok (.iaload, 1) := by decide +kernel
theorem dX10_ofRope_55 : decode cX10_ofRope 55 = .ok (.ireturn, 1) := by decide +kernel
theorem dX10_ofRope_56 : decode cX10_ofRope 56 = .ok (.aload_n 0, 1) := by decide +kernel
theorem dX10_ofRope_57 : decode cX10_ofRope 57 = .ok (.getfield 75, 3) := by decide +kernel
theorem dX10_ofRope_60 : decode cX10_ofRope 60 = .ok (.getfield 194, 3) := by decide +kernel
theorem dX10_ofRope_63 : decode cX10_ofRope 63 = .ok (.iload_n 1, 1) := by decide +kernel
theorem dX10_ofRope_64 : decode cX10_ofRope 64 = .ok (.iaload, 1) := by decide +kernel
theorem dX10_ofRope_65 : decode cX10_ofRope 65 = .ok (.ireturn, 1) := by decide +kernel
theorem dX10_ofRope_66 : decode cX10_ofRope 66 = .ok (.aload_n 0, 1) := by decide +kernel
theorem dX10_ofRope_67 : decode cX10_ofRope 67 = .ok (.getfield 19, 3) := by decide +kernel
theorem dX10_ofRope_70 : decode cX10_ofRope 70 = .ok (.getfield 308, 3) := by decide +kernel
theorem dX10_ofRope_73 : decode cX10_ofRope 73 = .ok (.iload_n 1, 1) := by decide +kernel
theorem dX10_ofRope_74 : decode cX10_ofRope 74 = .ok (.invokestatic 164, 3) := by decide +kernel
theorem dX10_ofRope_77 : decode cX10_ofRope 77 = .ok (.ifCond .eq 7, 3) := by decide +kernel
theorem dX10_ofRope_80 : decode cX10_ofRope 80 = .ok (.iconst 2, 1) := by decide +kernel
theorem dX10_ofRope_81 : decode cX10_ofRope 81 = .ok (.goto 14, 3) := by decide +kernel
theorem dX10_ofRope_84 : decode cX10_ofRope 84 = .ok (.aload_n 0, 1) := by decide +kernel
theorem dX10_ofRope_85 : decode cX10_ofRope 85 = .ok (.getfield 19, 3) := by decide +kernel
theorem dX10_ofRope_88 : decode cX10_ofRope 88 = .ok (.getfield 161, 3) := by decide +kernel
theorem dX10_ofRope_91 : decode cX10_ofRope 91 = .ok (.iload_n 1, 1) := by decide +kernel
theorem dX10_ofRope_92 : decode cX10_ofRope 92 = .ok (.ishr, 1) := by decide +kernel
theorem dX10_ofRope_93 : decode cX10_ofRope 93 = .ok (.iconst 1, 1) := by decide +kernel
theorem dX10_ofRope_94 : decode cX10_ofRope 94 = .ok (.iand, 1) := by decide +kernel
theorem dX10_ofRope_95 : decode cX10_ofRope 95 = .ok (.ireturn, 1) := by decide +kernel
theorem dX10_ofRope_96 : decode cX10_ofRope 96 = .ok (.aload_n 0, 1) := by decide +kernel
theorem dX10_ofRope_97 : decode cX10_ofRope 97 = .ok (.getfield 19, 3) := by decide +kernel
theorem dX10_ofRope_100 : decode cX10_ofRope 100 = .ok (.getfield 197, 3) := by decide +kernel
theorem dX10_ofRope_103 : decode cX10_ofRope 103 = .ok (.iload_n 1, 1) := by decide +kernel
theorem dX10_ofRope_104 : decode cX10_ofRope 104 = .ok (.iaload, 1) := by decide +kernel
theorem dX10_ofRope_105 : decode cX10_ofRope 105 = .ok (.ireturn, 1) := by decide +kernel
theorem dX10_ofRope_106 : decode cX10_ofRope 106 = .ok (.aload_n 0, 1) := by decide +kernel
theorem dX10_ofRope_107 : decode cX10_ofRope 107 = .ok (.getfield 33, 3) := by decide +kernel
theorem dX10_ofRope_110 : decode cX10_ofRope 110 = .ok (.aload_n 0, 1) := by decide +kernel
theorem dX10_ofRope_111 : decode cX10_ofRope 111 = .ok (.getfield 75, 3) := by decide +kernel
theorem dX10_ofRope_114 : decode cX10_ofRope 114 = .ok (.aload_n 0, 1) := by decide +kernel
theorem dX10_ofRope_115 : decode cX10_ofRope 115 = .ok (.getfield 19, 3) := by decide +kernel
theorem dX10_ofRope_118 : decode cX10_ofRope 118 = .ok (.aload_n 0, 1) := by decide +kernel
theorem dX10_ofRope_119 : decode cX10_ofRope 119 = .ok (.getfield 19, 3) := by decide +kernel
theorem dX10_ofRope_122 : decode cX10_ofRope 122 = .ok (.getfield 161, 3) := by decide +kernel
theorem dX10_ofRope_125 : decode cX10_ofRope 125 = .ok (.invokevirtual 184, 3) := by decide +kernel
theorem dX10_ofRope_128 : decode cX10_ofRope 128 = .ok (.iload_n 1, 1) := by decide +kernel
theorem dX10_ofRope_129 : decode cX10_ofRope 129 = .ok (.ishr, 1) := by decide +kernel
theorem dX10_ofRope_130 : decode cX10_ofRope 130 = .ok (.iconst 1, 1) := by decide +kernel
theorem dX10_ofRope_131 : decode cX10_ofRope 131 = .ok (.iand, 1) := by decide +kernel
theorem dX10_ofRope_132 : decode cX10_ofRope 132 = .ok (.ireturn, 1) := by decide +kernel
theorem dX11_init_0 : decode cX11_init 0 = .ok (.aload_n 0, 1) := by decide +kernel
theorem dX11_init_1 : decode cX11_init 1 = .ok (.invokespecial 3, 3) := by decide +kernel
theorem dX11_init_4 : decode cX11_init 4 = .ok (.aload_n 0, 1) := by decide +kernel
theorem dX11_init_5 : decode cX11_init 5 = .ok (.bipush 6, 2) := by decide +kernel
theorem dX11_init_7 : decode cX11_init 7 = .ok (.newarray .int, 2) := by decide +kernel
theorem dX11_init_9 : decode cX11_init 9 = .ok (.putfield 9, 3) := by decide +kernel
theorem dX11_init_12 : decode cX11_init 12 = .ok (.aload_n 0, 1) := by decide +kernel
theorem dX11_init_13 : decode cX11_init 13 = .ok (.bipush 6, 2) := by decide +kernel
theorem dX11_init_15 : decode cX11_init 15 = .ok (.newarray .int, 2) := by decide +kernel
theorem dX11_init_17 : decode cX11_init 17 = .ok (.putfield 15, 3) := by decide +kernel
theorem dX11_init_20 : decode cX11_init 20 = .ok (.aload_n 0, 1) := by decide +kernel
theorem dX11_init_21 : decode cX11_init 21 = .ok (.bipush 6, 2) := by decide +kernel
theorem dX11_init_23 : decode cX11_init 23 = .ok (.newarray .int, 2) := by decide +kernel
theorem dX11_init_25 : decode cX11_init 25 = .ok (.putfield 18, 3) := by decide +kernel
theorem dX11_init_28 : decode cX11_init 28 = .ok (.aload_n 0, 1) := by decide +kernel
theorem dX11_init_29 : decode cX11_init 29 = .ok (.bipush 6, 2) := by decide +kernel
theorem dX11_init_31 : decode cX11_init 31 = .ok (.newarray .int, 2) := by decide +kernel
theorem dX11_init_33 : decode cX11_init 33 = .ok (.putfield 21, 3) := by decide +kernel
theorem dX11_init_36 : decode cX11_init 36 = .ok (.aload_n 0, 1) := by decide +kernel
theorem dX11_init_37 : decode cX11_init 37 = .ok (.bipush 7, 2) := by decide +kernel
theorem dX11_init_39 : decode cX11_init 39 = .ok (.newarray .int, 2) := by decide +kernel
theorem dX11_init_41 : decode cX11_init 41 = .ok (.putfield 24, 3) := by decide +kernel
theorem dX11_init_44 : decode cX11_init 44 = .ok (.aload_n 0, 1) := by decide +kernel
theorem dX11_init_45 : decode cX11_init 45 = .ok (.bipush 7, 2) := by decide +kernel
theorem dX11_init_47 : decode cX11_init 47 = .ok (.newarray .int, 2) := by decide +kernel
theorem dX11_init_49 : decode cX11_init 49 = .ok (.putfield 27, 3) := by decide +kernel
theorem dX11_init_52 : decode cX11_init 52 = .ok (.aload_n 0, 1) := by decide +kernel
theorem dX11_init_53 : decode cX11_init 53 = .ok (.bipush 7, 2) := by decide +kernel
theorem dX11_init_55 : decode cX11_init 55 = .ok (.newarray .int, 2) := by decide +kernel
theorem dX11_init_57 : decode cX11_init 57 = .ok (.putfield 30, 3) := by decide +kernel
theorem dX11_init_60 : decode cX11_init 60 = .ok (.aload_n 0, 1) := by decide +kernel
theorem dX11_init_61 : decode cX11_init 61 = .ok (.bipush 6, 2) := by decide +kernel
theorem dX11_init_63 : decode cX11_init 63 = .ok (.newarray .int, 2) := by decide +kernel
theorem dX11_init_65 : decode cX11_init 65 = .ok (.putfield 33, 3) := by decide +kernel
theorem dX11_init_68 : decode cX11_init 68 = .ok (.aload_n 0, 1) := by decide +kernel
theorem dX11_init_69 : decode cX11_init 69 = .ok (.iconst 5, 1) := by decide +kernel
theorem dX11_init_70 : decode cX11_init 70 = .ok (.newarray .int, 2) := by decide +kernel
theorem dX11_init_72 : decode cX11_init 72 = .ok (.putfield 36, 3) := by decide +kernel
theorem dX11_init_75 : decode cX11_init 75 = .ok (.aload_n 0, 1) := by decide +kernel
theorem dX11_init_76 : decode cX11_init 76 = .ok (.iconst 5, 1) := by decide +kernel
theorem dX11_init_77 : decode cX11_init 77 = .ok (.newarray .int, 2) := by decide +kernel
theorem dX11_init_79 : decode cX11_init 79 = .ok (.putfield 39, 3) := by decide +kernel
theorem dX11_init_82 : decode cX11_init 82 = .ok (.aload_n 0, 1) := by decide +kernel
theorem dX11_init_83 : decode cX11_init 83 = .ok (.bipush 24, 2) := by decide +kernel
theorem dX11_init_85 : decode cX11_init 85 = .ok (.newarray .long, 2) := by decide +kernel
theorem dX11_init_87 : decode cX11_init 87 = .ok (.putfield 42, 3) := by decide +kernel
theorem dX11_init_90 : decode cX11_init 90 = .ok (.aload_n 0, 1) := by decide +kernel
theorem dX11_init_91 : decode cX11_init 91 = .ok (.bipush 24, 2) := by decide +kernel
theorem dX11_init_93 : decode cX11_init 93 = .ok (.newarray .int, 2) := by decide +kernel
theorem dX11_init_95 : decode cX11_init 95 = .ok (.putfield 46, 3) := by decide +kernel
theorem dX11_init_98 : decode cX11_init 98 = .ok (.aload_n 0, 1) := by decide +kernel
theorem dX11_init_99 : decode cX11_init 99 = .ok (.bipush 24, 2) := by decide +kernel
theorem dX11_init_101 : decode cX11_init 101 = .ok (.newarray .int, 2) := by decide +kernel
theorem dX11_init_103 : decode cX11_init 103 = .ok (.putfield 49, 3) := by decide +kernel
theorem dX11_init_106 : decode cX11_init 106 = .ok (.return_, 1) := by decide +kernel
theorem dX11_find_0 : decode cX11_find 0 = .ok (.iconst 0, 1) := by decide +kernel
theorem dX11_find_1 : decode cX11_find 1 = .ok (.istore_n 3, 1) := by decide +kernel
theorem dX11_find_2 : decode cX11_find 2 = .ok (.iload_n 3, 1) := by decide +kernel
theorem dX11_find_3 : decode cX11_find 3 = .ok (.aload_n 0, 1) := by decide +kernel
theorem dX11_find_4 : decode cX11_find 4 = .ok (.getfield 52, 3) := by decide +kernel
theorem dX11_find_7 : decode cX11_find 7 = .ok (.if_icmp .ge 22, 3) := by decide +kernel
theorem dX11_find_10 : decode cX11_find 10 = .ok (.aload_n 0, 1) := by decide +kernel
theorem dX11_find_11 : decode cX11_find 11 = .ok (.getfield 42, 3) := by decide +kernel
theorem dX11_find_14 : decode cX11_find 14 = .ok (.iload_n 3, 1) := by decide +kernel
theorem dX11_find_15 : decode cX11_find 15 = .ok (.laload, 1) := by decide +kernel
theorem dX11_find_16 : decode cX11_find 16 = .ok (.lload_n 1, 1) := by decide +kernel
theorem dX11_find_17 : decode cX11_find 17 = .ok (.lcmp, 1) := by decide +kernel
theorem dX11_find_18 : decode cX11_find 18 = .ok (.ifCond .ne 5, 3) := by decide +kernel
theorem dX11_find_21 : decode cX11_find 21 = .ok (.iload_n 3, 1) := by decide +kernel
theorem dX11_find_22 : decode cX11_find 22 = .ok (.ireturn, 1) := by decide +kernel
theorem dX11_find_23 : decode cX11_find 23 = .ok (.iinc 3 1, 3) := by decide +kernel
theorem dX11_find_26 : decode cX11_find 26 = .ok (.goto (-24), 3) := by decide +kernel
theorem dX11_find_29 : decode cX11_find 29 = .ok (.iconst (-1), 1) := by decide +kernel
theorem dX11_find_30 : decode cX11_find 30 = .ok (.ireturn, 1) := by decide +kernel
theorem dX12_init_0 : decode cX12_init 0 = .ok (.aload_n 0, 1) := by decide +kernel
theorem dX12_init_1 : decode cX12_init 1 = .ok (.invokespecial 3, 3) := by decide +kernel
theorem dX12_init_4 : decode cX12_init 4 = .ok (.aload_n 0, 1) := by decide +kernel
theorem dX12_init_5 : decode cX12_init 5 = .ok (.iconst (-1), 1) := by decide +kernel
theorem dX12_init_6 : decode cX12_init 6 = .ok (.putfield 9, 3) := by decide +kernel
theorem dX12_init_9 : decode cX12_init 9 = .ok (.aload_n 0, 1) := by decide +kernel
theorem dX12_init_10 : decode cX12_init 10 = .ok (.sipush 900, 3) := by decide +kernel
theorem dX12_init_13 : decode cX12_init 13 = .ok (.newarray .byte, 2) := by decide +kernel
theorem dX12_init_15 : decode cX12_init 15 = .ok (.putfield 13, 3) := by decide +kernel
theorem dX12_init_18 : decode cX12_init 18 = .ok (.aload_n 0, 1) := by decide +kernel
theorem dX12_init_19 : decode cX12_init 19 = .ok (.bipush 16, 2) := by decide +kernel
theorem dX12_init_21 : decode cX12_init 21 = .ok (.newarray .int, 2) := by decide +kernel
theorem dX12_init_23 : decode cX12_init 23 = .ok (.putfield 17, 3) := by decide +kernel
theorem dX12_init_26 : decode cX12_init 26 = .ok (.aload_n 0, 1) := by decide +kernel
theorem dX12_init_27 : decode cX12_init 27 = .ok (.bipush 16, 2) := by decide +kernel
theorem dX12_init_29 : decode cX12_init 29 = .ok (.newarray .int, 2) := by decide +kernel
theorem dX12_init_31 : decode cX12_init 31 = .ok (.putfield 21, 3) := by decide +kernel
theorem dX12_init_34 : decode cX12_init 34 = .ok (.aload_n 0, 1) := by decide +kernel
theorem dX12_init_35 : decode cX12_init 35 = .ok (.sipush 256, 3) := by decide +kernel
theorem dX12_init_38 : decode cX12_init 38 = .ok (.newarray .int, 2) := by decide +kernel
theorem dX12_init_40 : decode cX12_init 40 = .ok (.putfield 24, 3) := by decide +kernel
theorem dX12_init_43 : decode cX12_init 43 = .ok (.aload_n 0, 1) := by decide +kernel
theorem dX12_init_44 : decode cX12_init 44 = .ok (.bipush 48, 2) := by decide +kernel
theorem dX12_init_46 : decode cX12_init 46 = .ok (.newarray .int, 2) := by decide +kernel
theorem dX12_init_48 : decode cX12_init 48 = .ok (.putfield 27, 3) := by decide +kernel
theorem dX12_init_51 : decode cX12_init 51 = .ok (.aload_n 0, 1) := by decide +kernel
theorem dX12_init_52 : decode cX12_init 52 = .ok (.bipush 6, 2) := by decide +kernel
theorem dX12_init_54 : decode cX12_init 54 = .ok (.newarray .int, 2) := by decide +kernel
theorem dX12_init_56 : decode cX12_init 56 = .ok (.putfield 30, 3) := by decide +kernel
theorem dX12_init_59 : decode cX12_init 59 = .ok (.aload_n 0, 1) := by decide +kernel
theorem dX12_init_60 : decode cX12_init 60 = .ok (.bipush 6, 2) := by decide +kernel
theorem dX12_init_62 : decode cX12_init 62 = .ok (.newarray .int, 2) := by decide +kernel
theorem dX12_init_64 : decode cX12_init 64 = .ok (.putfield 33, 3) := by decide +kernel
theorem dX12_init_67 : decode cX12_init 67 = .ok (.aload_n 0, 1) := by decide +kernel
theorem dX12_init_68 : decode cX12_init 68 = .ok (.bipush 6, 2) := by decide +kernel
theorem dX12_init_70 : decode cX12_init 70 = .ok (.newarray .int, 2) := by decide +kernel
theorem dX12_init_72 : decode cX12_init 72 = .ok (.putfield 36, 3) := by decide +kernel
theorem dX12_init_75 : decode cX12_init 75 = .ok (.aload_n 0, 1) := by decide +kernel
theorem dX12_init_76 : decode cX12_init 76 = .ok (.bipush 6, 2) := by decide +kernel
theorem dX12_init_78 : decode cX12_init 78 = .ok (.newarray .int, 2) := by decide +kernel
theorem dX12_init_80 : decode cX12_init 80 = .ok (.putfield 39, 3) := by decide +kernel
theorem dX12_init_83 : decode cX12_init 83 = .ok (.aload_n 0, 1) := by decide +kernel
theorem dX12_init_84 : decode cX12_init 84 = .ok (.sipush 768, 3) := by decide +kernel
theorem dX12_init_87 : decode cX12_init 87 = .ok (.newarray .int, 2) := by decide +kernel
theorem dX12_init_89 : decode cX12_init 89 = .ok (.putfield 42, 3) := by decide +kernel
theorem dX12_init_92 : decode cX12_init 92 = .ok (.aload_n 0, 1) := by decide +kernel
theorem dX12_init_93 : decode cX12_init 93 = .ok (.bipush 36, 2) := by decide +kernel
theorem dX12_init_95 : decode cX12_init 95 = .ok (.newarray .int, 2) := by decide +kernel
theorem dX12_init_97 : decode cX12_init 97 = .ok (.putfield 45, 3) := by decide +kernel
theorem dX12_init_100 : decode cX12_init 100 = .ok (.aload_n 0, 1) := by decide +kernel
theorem dX12_init_101 : decode cX12_init 101 = .ok (.bipush 36, 2) := by decide +kernel
theorem dX12_init_103 : decode cX12_init 103 = .ok (.newarray .int, 2) := by decide +kernel
theorem dX12_init_105 : decode cX12_init 105 = .ok (.putfield 48, 3) := by decide +kernel
theorem dX12_init_108 : decode cX12_init 108 = .ok (.return_, 1) := by decide +kernel
theorem dX12_thrown_0 : decode cX12_thrown 0 = .ok (.aload_n 0, 1) := by decide +kernel
theorem dX12_thrown_1 : decode cX12_thrown 1 = .ok (.getfield 51, 3) := by decide +kernel
theorem dX12_thrown_4 : decode cX12_thrown 4 = .ok (.ireturn, 1) := by decide +kernel
theorem dX12_refused_0 : decode cX12_refused 0 = .ok (.aload_n 0, 1) := by decide +kernel
theorem dX12_refused_1 : decode cX12_refused 1 = .ok (.iload_n 1, 1) := by decide +kernel
theorem dX12_refused_2 : decode cX12_refused 2 = .ok (.putfield 54, 3) := by decide +kernel
theorem dX12_refused_5 : decode cX12_refused 5 = .ok (.aload_n 0, 1) := by decide +kernel
theorem dX12_refused_6 : decode cX12_refused 6 = .ok (.iconst (-1), 1) := by decide +kernel
theorem dX12_refused_7 : decode cX12_refused 7 = .ok (.putfield 9, 3) := by decide +kernel
theorem dX12_refused_10 : decode cX12_refused 10 = .ok (.iconst (-1), 1) := by decide +kernel
theorem dX12_refused_11 : decode cX12_refused 11 = .ok (.ireturn, 1) := by decide +kernel
theorem dX12_lost_0 : decode cX12_lost 0 = .ok (.aload_n 0, 1) := by decide +kernel
theorem dX12_lost_1 : decode cX12_lost 1 = .ok (.iload_n 1, 1) := by decide +kernel
theorem dX12_lost_2 : decode cX12_lost 2 = .ok (.invokevirtual 57, 3) := by decide +kernel
theorem dX12_lost_5 : decode cX12_lost 5 = .ok (.pop, 1) := by decide +kernel
theorem dX12_lost_6 : decode cX12_lost 6 = .ok (.sipush (-10000), 3) := by decide +kernel
theorem dX12_lost_9 : decode cX12_lost 9 = .ok (.ireturn, 1) := by decide +kernel
theorem dX12_denied_0 : decode cX12_denied 0 = .ok (.aload_n 0, 1) := by decide +kernel
theorem dX12_denied_1 : decode cX12_denied 1 = .ok (.iload_n 1, 1) := by decide +kernel
theorem dX12_denied_2 : decode cX12_denied 2 = .ok (.invokevirtual 57, 3) := by decide +kernel
theorem dX12_denied_5 : decode cX12_denied 5 = .ok (.pop, 1) := by decide +kernel
theorem dX12_denied_6 : decode cX12_denied 6 = .ok (.iconst 0, 1) := by decide +kernel
theorem dX12_denied_7 : decode cX12_denied 7 = .ok (.ireturn, 1) := by decide +kernel
theorem dX12_good_0 : decode cX12_good 0 = .ok (.aload_n 0, 1) := by decide +kernel
theorem dX12_good_1 : decode cX12_good 1 = .ok (.iconst 0, 1) := by decide +kernel
theorem dX12_good_2 : decode cX12_good 2 = .ok (.putfield 54, 3) := by decide +kernel
theorem dX12_good_5 : decode cX12_good 5 = .ok (.aload_n 0, 1) := by decide +kernel
theorem dX12_good_6 : decode cX12_good 6 = .ok (.iconst (-1), 1) := by decide +kernel
theorem dX12_good_7 : decode cX12_good 7 = .ok (.putfield 9, 3) := by decide +kernel
theorem dX12_good_10 : decode cX12_good 10 = .ok (.iload_n 1, 1) := by decide +kernel
theorem dX12_good_11 : decode cX12_good 11 = .ok (.ireturn, 1) := by decide +kernel
theorem dX12_granted_0 : decode cX12_granted 0 = .ok (.aload_n 0, 1) := by decide +kernel
theorem dX12_granted_1 : decode cX12_granted 1 = .ok (.iconst 0, 1) := by decide +kernel
theorem dX12_granted_2 : decode cX12_granted 2 = .ok (.invokevirtual 61, 3) := by decide +kernel
theorem dX12_granted_5 : decode cX12_granted 5 = .ok (.pop, 1) := by decide +kernel
theorem dX12_granted_6 : decode cX12_granted 6 = .ok (.iconst 1, 1) := by decide +kernel
theorem dX12_granted_7 : decode cX12_granted 7 = .ok (.ireturn, 1) := by decide +kernel
theorem dX12_in_0 : decode cX12_in 0 = .ok (.iload_n 0, 1) := by decide +kernel
theorem dX12_in_1 : decode cX12_in 1 = .ok (.iload_n 1, 1) := by decide +kernel
theorem dX12_in_2 : decode cX12_in 2 = .ok (.if_icmp .lt 12, 3) := by decide +kernel
theorem dX12_in_5 : decode cX12_in 5 = .ok (.iload_n 0, 1) := by decide +kernel
theorem dX12_in_6 : decode cX12_in 6 = .ok (.iload_n 2, 1) := by decide +kernel
theorem dX12_in_7 : decode cX12_in 7 = .ok (.if_icmp .gt 7, 3) := by decide +kernel
theorem dX12_in_10 : decode cX12_in 10 = .ok (.iconst 1, 1) := by decide +kernel
theorem dX12_in_11 : decode cX12_in 11 = .ok (.goto 4, 3) := by decide +kernel
theorem dX12_in_14 : decode cX12_in 14 = .ok (.iconst 0, 1) := by decide +kernel
theorem dX12_in_15 : decode cX12_in 15 = .ok (.ireturn, 1) := by decide +kernel
theorem dX12_bit_0 : decode cX12_bit 0 = .ok (.iload_n 0, 1) := by decide +kernel
theorem dX12_bit_1 : decode cX12_bit 1 = .ok (.iload_n 1, 1) := by decide +kernel
theorem dX12_bit_2 : decode cX12_bit 2 = .ok (.ishr, 1) := by decide +kernel
theorem dX12_bit_3 : decode cX12_bit 3 = .ok (.iconst 1, 1) := by decide +kernel
theorem dX12_bit_4 : decode cX12_bit 4 = .ok (.iand, 1) := by decide +kernel
theorem dX12_bit_5 : decode cX12_bit 5 = .ok (.iconst 1, 1) := by decide +kernel
theorem dX12_bit_6 : decode cX12_bit 6 = .ok (.if_icmp .ne 7, 3) := by decide +kernel
theorem dX12_bit_9 : decode cX12_bit 9 = .ok (.iconst 1, 1) := by decide +kernel
theorem dX12_bit_10 : decode cX12_bit 10 = .ok (.goto 4, 3) := by decide +kernel
theorem dX12_bit_13 : decode cX12_bit 13 = .ok (.iconst 0, 1) := by decide +kernel
theorem dX12_bit_14 : decode cX12_bit 14 = .ok (.ireturn, 1) := by decide +kernel
theorem dX12_bits_0 : decode cX12_bits 0 = .ok (.iconst 0, 1) := by decide +kernel
theorem dX12_bits_1 : decode cX12_bits 1 = .ok (.istore_n 1, 1) := by decide +kernel
theorem dX12_bits_2 : decode cX12_bits 2 = .ok (.iload_n 0, 1) := by decide +kernel
theorem dX12_bits_3 : decode cX12_bits 3 = .ok (.istore_n 2, 1) := by decide +kernel
theorem dX12_bits_4 : decode cX12_bits 4 = .ok (.iload_n 2, 1) := by decide +kernel
theorem dX12_bits_5 : decode cX12_bits 5 = .ok (.ifCond .eq 15, 3) := by decide +kernel
theorem dX12_bits_8 : decode cX12_bits 8 = .ok (.iinc 1 1, 3) := by decide +kernel
theorem dX12_bits_11 : decode cX12_bits 11 = .ok (.iload_n 2, 1) := by decide +kernel
theorem dX12_bits_12 : decode cX12_bits 12 = .ok (.iload_n 2, 1) := by decide +kernel
theorem dX12_bits_13 : decode cX12_bits 13 = .ok (.iconst 1, 1) := by decide +kernel
theorem dX12_bits_14 : decode cX12_bits 14 = .ok (.isub, 1) := by decide +kernel
theorem dX12_bits_15 : decode cX12_bits 15 = .ok (.iand, 1) := by decide +kernel
theorem dX12_bits_16 : decode cX12_bits 16 = .ok (.istore_n 2, 1) := by decide +kernel
theorem dX12_bits_17 : decode cX12_bits 17 = .ok (.goto (-13), 3) := by decide +kernel
theorem dX12_bits_20 : decode cX12_bits 20 = .ok (.iload_n 1, 1) := by decide +kernel
theorem dX12_bits_21 : decode cX12_bits 21 = .ok (.ireturn, 1) := by decide +kernel
theorem dX12_byteAt_0 : decode cX12_byteAt 0 = .ok (.iload_n 1, 1) := by decide +kernel
theorem dX12_byteAt_1 : decode cX12_byteAt 1 = .ok (.aload_n 0, 1) := by decide +kernel
theorem dX12_byteAt_2 : decode cX12_byteAt 2 = .ok (.getfield 64, 3) := by decide +kernel
theorem dX12_byteAt_5 : decode cX12_byteAt 5 = .ok (.if_icmp .ge 16, 3) := by decide +kernel
theorem dX12_byteAt_8 : decode cX12_byteAt 8 = .ok (.aload_n 0, 1) := by decide +kernel
theorem dX12_byteAt_9 : decode cX12_byteAt 9 = .ok (.getfield 13, 3) := by decide +kernel
theorem dX12_byteAt_12 : decode cX12_byteAt 12 = .ok (.iload_n 1, 1) := by decide +kernel
theorem dX12_byteAt_13 : decode cX12_byteAt 13 = .ok (.baload, 1) := by decide +kernel
theorem dX12_byteAt_14 : decode cX12_byteAt 14 = .ok (.sipush 255, 3) := by decide +kernel
theorem dX12_byteAt_17 : decode cX12_byteAt 17 = .ok (.iand, 1) := by decide +kernel
theorem dX12_byteAt_18 : decode cX12_byteAt 18 = .ok (.goto 4, 3) := by decide +kernel
theorem dX12_byteAt_21 : decode cX12_byteAt 21 = .ok (.iconst (-1), 1) := by decide +kernel
theorem dX12_byteAt_22 : decode cX12_byteAt 22 = .ok (.ireturn, 1) := by decide +kernel
theorem dX12_isLetter_0 : decode cX12_isLetter 0 = .ok (.iload_n 0, 1) := by decide +kernel
theorem dX12_isLetter_1 : decode cX12_isLetter 1 = .ok (.bipush 97, 2) := by decide +kernel
theorem dX12_isLetter_3 : decode cX12_isLetter 3 = .ok (.if_icmp .lt 13, 3) := by decide +kernel
theorem dX12_isLetter_6 : decode cX12_isLetter 6 = .ok (.iload_n 0, 1) := by decide +kernel
theorem dX12_isLetter_7 : decode cX12_isLetter 7 = .ok (.bipush 122, 2) := by decide +kernel
theorem dX12_isLetter_9 : decode cX12_isLetter 9 = .ok (.if_icmp .gt 7, 3) := by decide +kernel
theorem dX12_isLetter_12 : decode cX12_isLetter 12 = .ok (.iconst 1, 1) := by decide +kernel
theorem dX12_isLetter_13 : decode cX12_isLetter 13 = .ok (.goto 4, 3) := by decide +kernel
theorem dX12_isLetter_16 : decode cX12_isLetter 16 = .ok (.iconst 0, 1) := by decide +kernel
theorem dX12_isLetter_17 : decode cX12_isLetter 17 = .ok (.ireturn, 1) := by decide +kernel
theorem dX12_isDigit_0 : decode cX12_isDigit 0 = .ok (.iload_n 0, 1) := by decide +kernel
theorem dX12_isDigit_1 : decode cX12_isDigit 1 = .ok (.bipush 48, 2) := by decide +kernel
theorem dX12_isDigit_3 : decode cX12_isDigit 3 = .ok (.if_icmp .lt 13, 3) := by decide +kernel
theorem dX12_isDigit_6 : decode cX12_isDigit 6 = .ok (.iload_n 0, 1) := by decide +kernel
theorem dX12_isDigit_7 : decode cX12_isDigit 7 = .ok (.bipush 57, 2) := by decide +kernel
theorem dX12_isDigit_9 : decode cX12_isDigit 9 = .ok (.if_icmp .gt 7, 3) := by decide +kernel
theorem dX12_isDigit_12 : decode cX12_isDigit 12 = .ok (.iconst 1, 1) := by decide +kernel
theorem dX12_isDigit_13 : decode cX12_isDigit 13 = .ok (.goto 4, 3) := by decide +kernel
theorem dX12_isDigit_16 : decode cX12_isDigit 16 = .ok (.iconst 0, 1) := by decide +kernel
theorem dX12_isDigit_17 : decode cX12_isDigit 17 = .ok (.ireturn, 1) := by decide +kernel
theorem dX12_packed_0 : decode cX12_packed 0 = .ok (.lconst 0, 1) := by decide +kernel
theorem dX12_packed_1 : decode cX12_packed 1 = .ok (.lstore_n 1, 1) := by decide +kernel
theorem dX12_packed_2 : decode cX12_packed 2 = .ok (.iconst 0, 1) := by decide +kernel
theorem dX12_packed_3 : decode cX12_packed 3 = .ok (.istore_n 3, 1) := by decide +kernel
theorem dX12_packed_4 : decode cX12_packed 4 = .ok (.iload_n 3, 1) := by decide +kernel
theorem dX12_packed_5 : decode cX12_packed 5 = .ok (.aload_n 0, 1) := by decide +kernel
theorem dX12_packed_6 : decode cX12_packed 6 = .ok (.invokevirtual 67, 3) := by decide +kernel
theorem dX12_packed_9 : decode cX12_packed 9 = .ok (.if_icmp .ge 27, 3) := by decide +kernel
theorem dX12_packed_12 : decode cX12_packed 12 = .ok (.ldc2_w 73, 3) := by decide +kernel
theorem dX12_packed_15 : decode cX12_packed 15 = .ok (.lload_n 1, 1) := by decide +kernel
theorem dX12_packed_16 : decode cX12_packed 16 = .ok (.lmul, 1) := by decide +kernel
theorem dX12_packed_17 : decode cX12_packed 17 = .ok (.aload_n 0, 1) := by decide +kernel
theorem dX12_packed_18 : decode cX12_packed 18 = .ok (.iload_n 3, 1) := by decide +kernel
theorem dX12_packed_19 : decode cX12_packed 19 = .ok (.invokevirtual 75, 3) := by decide +kernel
theorem dX12_packed_22 : decode cX12_packed 22 = .ok (.bipush 97, 2) := by decide +kernel
theorem dX12_packed_24 : decode cX12_packed 24 = .ok (.isub, 1) := by decide +kernel
theorem dX12_packed_25 : decode cX12_packed 25 = .ok (.iconst 1, 1) := by decide +kernel
theorem dX12_packed_26 : decode cX12_packed 26 = .ok (.iadd, 1) := by decide +kernel
theorem dX12_packed_27 : decode cX12_packed 27 = .ok (.i2l, 1) := by decide +kernel
theorem dX12_packed_28 : decode cX12_packed 28 = .ok (.ladd, 1) := by decide +kernel
theorem dX12_packed_29 : decode cX12_packed 29 = .ok (.lstore_n 1, 1) := by decide +kernel
theorem dX12_packed_30 : decode cX12_packed 30 = .ok (.iinc 3 1, 3) := by decide +kernel
theorem dX12_packed_33 : decode cX12_packed 33 = .ok (.goto (-29), 3) := by decide +kernel
theorem dX12_packed_36 : decode cX12_packed 36 = .ok (.lload_n 1, 1) := by decide +kernel
theorem dX12_packed_37 : decode cX12_packed 37 = .ok (.lreturn, 1) := by decide +kernel
theorem dX12_goesOn_0 : decode cX12_goesOn 0 = .ok (.aload_n 0, 1) := by decide +kernel
theorem dX12_goesOn_1 : decode cX12_goesOn 1 = .ok (.getfield 79, 3) := by decide +kernel
theorem dX12_goesOn_4 : decode cX12_goesOn 4 = .ok (.iconst 5, 1) := by decide +kernel
theorem dX12_goesOn_5 : decode cX12_goesOn 5 = .ok (.if_icmp .ne 4, 3) := by decide +kernel
theorem dX12_goesOn_8 : decode cX12_goesOn 8 = .ok (.return_, 1) := by decide +kernel
theorem dX12_goesOn_9 : decode cX12_goesOn 9 = .ok (.aload_n 0, 1) := by decide +kernel
theorem dX12_goesOn_10 : decode cX12_goesOn 10 = .ok (.aload_n 0, 1) := by decide +kernel
theorem dX12_goesOn_11 : decode cX12_goesOn 11 = .ok (.getfield 82, 3) := by decide +kernel
theorem dX12_goesOn_14 : decode cX12_goesOn 14 = .ok (.invokevirtual 85, 3) := by decide +kernel
theorem dX12_goesOn_17 : decode cX12_goesOn 17 = .ok (.bipush 32, 2) := by decide +kernel
theorem dX12_goesOn_19 : decode cX12_goesOn 19 = .ok (.if_icmp .ne 16, 3) := by decide +kernel
theorem dX12_goesOn_22 : decode cX12_goesOn 22 = .ok (.aload_n 0, 1) := by decide +kernel
theorem dX12_goesOn_23 : decode cX12_goesOn 23 = .ok (.dup, 1) := by decide +kernel
theorem dX12_goesOn_24 : decode cX12_goesOn 24 = .ok (.getfield 82, 3) := by decide +kernel
theorem dX12_goesOn_27 : decode cX12_goesOn 27 = .ok (.iconst 1, 1) := by decide +kernel
theorem dX12_goesOn_28 : decode cX12_goesOn 28 = .ok (.iadd, 1) := by decide +kernel
theorem dX12_goesOn_29 : decode cX12_goesOn 29 = .ok (.putfield 82, 3) := by decide +kernel
theorem dX12_goesOn_32 : decode cX12_goesOn 32 = .ok (.goto (-23), 3) := by decide +kernel
theorem dX12_goesOn_35 : decode cX12_goesOn 35 = .ok (.aload_n 0, 1) := by decide +kernel
theorem dX12_goesOn_36 : decode cX12_goesOn 36 = .ok (.aload_n 0, 1) := by decide +kernel
theorem dX12_goesOn_37 : decode cX12_goesOn 37 = .ok (.getfield 82, 3) := by decide +kernel
theorem dX12_goesOn_40 : decode cX12_goesOn 40 = .ok (.putfield 88, 3) := by decide +kernel
theorem dX12_goesOn_43 : decode cX12_goesOn 43 = .ok (.aload_n 0, 1) := by decide +kernel
theorem dX12_goesOn_44 : decode cX12_goesOn 44 = .ok (.iconst 0, 1) := by decide +kernel
theorem dX12_goesOn_45 : decode cX12_goesOn 45 = .ok (.putfield 79, 3) := by decide +kernel
theorem dX12_goesOn_48 : decode cX12_goesOn 48 = .ok (.aload_n 0, 1) := by decide +kernel
theorem dX12_goesOn_49 : decode cX12_goesOn 49 = .ok (.aload_n 0, 1) := by decide +kernel
theorem dX12_goesOn_50 : decode cX12_goesOn 50 = .ok (.getfield 82, 3) := by decide +kernel
theorem dX12_goesOn_53 : decode cX12_goesOn 53 = .ok (.invokevirtual 85, 3) := by decide +kernel
theorem dX12_goesOn_56 : decode cX12_goesOn 56 = .ok (.istore_n 1, 1) := by decide +kernel
theorem dX12_goesOn_57 : decode cX12_goesOn 57 = .ok (.iconst 0, 1) := by decide +kernel
theorem dX12_goesOn_58 : decode cX12_goesOn 58 = .ok (.istore_n 2, 1) := by decide +kernel
theorem dX12_goesOn_59 : decode cX12_goesOn 59 = .ok (.iload_n 1, 1) := by decide +kernel
theorem dX12_goesOn_60 : decode cX12_goesOn 60 = .ok (.iconst (-1), 1) := by decide +kernel
theorem dX12_goesOn_61 : decode cX12_goesOn 61 = .ok (.if_icmp .ne 11, 3) := by decide +kernel
theorem dX12_goesOn_64 : decode cX12_goesOn 64 = .ok (.aload_n 0, 1) := by decide +kernel
theorem dX12_goesOn_65 : decode cX12_goesOn 65 = .ok (.iconst 1, 1) := by decide +kernel
theorem dX12_goesOn_66 : decode cX12_goesOn 66 = .ok (.putfield 79, 3) := by decide +kernel
theorem dX12_goesOn_69 : decode cX12_goesOn 69 = .ok (.goto 196, 3) := by decide +kernel
theorem dX12_goesOn_72 : decode cX12_goesOn 72 = .ok (.iload_n 1, 1) := by decide +kernel
theorem dX12_goesOn_73 : decode cX12_goesOn 73 = .ok (.invokestatic 91, 3) := by decide +kernel
theorem dX12_goesOn_76 : decode cX12_goesOn 76 = .ok (.ifCond .eq 85, 3) := by decide +kernel
theorem dX12_goesOn_79 : decode cX12_goesOn 79 = .ok (.aload_n 0, 1) := by decide +kernel
theorem dX12_goesOn_80 : decode cX12_goesOn 80 = .ok (.lconst 0, 1) := by decide +kernel
theorem dX12_goesOn_81 : decode cX12_goesOn 81 = .ok (.putfield 95, 3) := by decide +kernel
theorem dX12_goesOn_84 : decode cX12_goesOn 84 = .ok (.aload_n 0, 1) := by decide +kernel
theorem dX12_goesOn_85 : decode cX12_goesOn 85 = .ok (.aload_n 0, 1) := by decide +kernel
theorem dX12_goesOn_86 : decode cX12_goesOn 86 = .ok (.getfield 82, 3) := by decide +kernel
theorem dX12_goesOn_89 : decode cX12_goesOn 89 = .ok (.invokevirtual 85, 3) := by decide +kernel
theorem dX12_goesOn_92 : decode cX12_goesOn 92 = .ok (.invokestatic 91, 3) := by decide +kernel
theorem dX12_goesOn_95 : decode cX12_goesOn 95 = .ok (.ifCond .eq 52, 3) := by decide +kernel
theorem dX12_goesOn_98 : decode cX12_goesOn 98 = .ok (.iload_n 2, 1) := by decide +kernel
theorem dX12_goesOn_99 : decode cX12_goesOn 99 = .ok (.bipush 8, 2) := by decide +kernel
theorem dX12_goesOn_101 : decode cX12_goesOn 101 = .ok (.if_icmp .ge 30, 3) := by decide +kernel
theorem dX12_goesOn_104 : decode cX12_goesOn 104 = .ok (.aload_n 0, 1) := by decide +kernel
theorem dX12_goesOn_105 : decode cX12_goesOn 105 = .ok (.ldc2_w 73, 3) := by decide +kernel
theorem dX12_goesOn_108 : decode cX12_goesOn 108 = .ok (.aload_n 0, 1) := by decide +kernel
theorem dX12_goesOn_109 : decode cX12_goesOn 109 = .ok (.getfield 95, 3) := by decide +kernel
theorem dX12_goesOn_112 : decode cX12_goesOn 112 = .ok (.lmul, 1) := by decide +kernel
theorem dX12_goesOn_113 : decode cX12_goesOn 113 = .ok (.aload_n 0, 1) := by decide +kernel
theorem dX12_goesOn_114 : decode cX12_goesOn 114 = .ok (.aload_n 0, 1) := by decide +kernel
theorem dX12_goesOn_115 : decode cX12_goesOn 115 = .ok (.getfield 82, 3) := by decide +kernel
theorem dX12_goesOn_118 : decode cX12_goesOn 118 = .ok (.invokevirtual 85, 3) := by decide +kernel
theorem dX12_goesOn_121 : decode cX12_goesOn 121 = .ok (.bipush 97, 2) := by decide +kernel
theorem dX12_goesOn_123 : decode cX12_goesOn 123 = .ok (.isub, 1) := by decide +kernel
theorem dX12_goesOn_124 : decode cX12_goesOn 124 = .ok (.iconst 1, 1) := by decide +kernel
theorem dX12_goesOn_125 : decode cX12_goesOn 125 = .ok (.iadd, 1) := by decide +kernel
theorem dX12_goesOn_126 : decode cX12_goesOn 126 = .ok (.i2l, 1) := by decide +kernel
theorem dX12_goesOn_127 : decode cX12_goesOn 127 = .ok (.ladd, 1) := by decide +kernel
theorem dX12_goesOn_128 : decode cX12_goesOn 128 = .ok (.putfield 95, 3) := by decide +kernel
theorem dX12_goesOn_131 : decode cX12_goesOn 131 = .ok (.iinc 2 1, 3) := by decide +kernel
theorem dX12_goesOn_134 : decode cX12_goesOn 134 = .ok (.aload_n 0, 1) := by decide +kernel
theorem dX12_goesOn_135 : decode cX12_goesOn 135 = .ok (.dup, 1) := by decide +kernel
theorem dX12_goesOn_136 : decode cX12_goesOn 136 = .ok (.getfield 82, 3) := by decide +kernel
theorem dX12_goesOn_139 : decode cX12_goesOn 139 = .ok (.iconst 1, 1) := by decide +kernel
theorem dX12_goesOn_140 : decode cX12_goesOn 140 = .ok (.iadd, 1) := by decide +kernel
theorem dX12_goesOn_141 : decode cX12_goesOn 141 = .ok (.putfield 82, 3) := by decide +kernel
theorem dX12_goesOn_144 : decode cX12_goesOn 144 = .ok (.goto (-60), 3) := by decide +kernel
theorem dX12_goesOn_147 : decode cX12_goesOn 147 = .ok (.iload_n 2, 1) := by decide +kernel
theorem dX12_goesOn_148 : decode cX12_goesOn 148 = .ok (.bipush 8, 2) := by decide +kernel
theorem dX12_goesOn_150 : decode cX12_goesOn 150 = .ok (.if_icmp .gt 115, 3) := by decide +kernel
theorem dX12_goesOn_153 : decode cX12_goesOn 153 = .ok (.aload_n 0, 1) := by decide +kernel
theorem dX12_goesOn_154 : decode cX12_goesOn 154 = .ok (.iconst 2, 1) := by decide +kernel
theorem dX12_goesOn_155 : decode cX12_goesOn 155 = .ok (.putfield 79, 3) := by decide +kernel
theorem dX12_goesOn_158 : decode cX12_goesOn 158 = .ok (.goto 107, 3) := by decide +kernel
theorem dX12_goesOn_161 : decode cX12_goesOn 161 = .ok (.iload_n 1, 1) := by decide +kernel
theorem dX12_goesOn_162 : decode cX12_goesOn 162 = .ok (.invokestatic 99, 3) := by decide +kernel
theorem dX12_goesOn_165 : decode cX12_goesOn 165 = .ok (.ifCond .eq 79, 3) := by decide +kernel
theorem dX12_goesOn_168 : decode cX12_goesOn 168 = .ok (.aload_n 0, 1) := by decide +kernel
theorem dX12_goesOn_169 : decode cX12_goesOn 169 = .ok (.iconst 0, 1) := by decide +kernel
theorem dX12_goesOn_170 : decode cX12_goesOn 170 = .ok (.putfield 102, 3) := by decide +kernel
theorem dX12_goesOn_173 : decode cX12_goesOn 173 = .ok (.aload_n 0, 1) := by decide +kernel
theorem dX12_goesOn_174 : decode cX12_goesOn 174 = .ok (.aload_n 0, 1) := by decide +kernel
theorem dX12_goesOn_175 : decode cX12_goesOn 175 = .ok (.getfield 82, 3) := by decide +kernel
theorem dX12_goesOn_178 : decode cX12_goesOn 178 = .ok (.invokevirtual 85, 3) := by decide +kernel
theorem dX12_goesOn_181 : decode cX12_goesOn 181 = .ok (.invokestatic 99, 3) := by decide +kernel
theorem dX12_goesOn_184 : decode cX12_goesOn 184 = .ok (.ifCond .eq 47, 3) := by decide +kernel
theorem dX12_goesOn_187 : decode cX12_goesOn 187 = .ok (.iload_n 2, 1) := by decide +kernel
theorem dX12_goesOn_188 : decode cX12_goesOn 188 = .ok (.iconst 3, 1) := by decide +kernel
theorem dX12_goesOn_189 : decode cX12_goesOn 189 = .ok (.if_icmp .ge 26, 3) := by decide +kernel
theorem dX12_goesOn_192 : decode cX12_goesOn 192 = .ok (.aload_n 0, 1) := by decide +kernel
theorem dX12_goesOn_193 : decode cX12_goesOn 193 = .ok (.bipush 10, 2) := by decide +kernel
theorem dX12_goesOn_195 : decode cX12_goesOn 195 = .ok (.aload_n 0, 1) := by decide +kernel
theorem dX12_goesOn_196 : decode cX12_goesOn 196 = .ok (.getfield 102, 3) := by decide +kernel
theorem dX12_goesOn_199 : decode cX12_goesOn 199 = .ok (.imul, 1) := by decide +kernel
theorem dX12_goesOn_200 : decode cX12_goesOn 200 = .ok (.aload_n 0, 1) := by decide +kernel
theorem dX12_goesOn_201 : decode cX12_goesOn 201 = .ok (.aload_n 0, 1) := by decide +kernel
theorem dX12_goesOn_202 : decode cX12_goesOn 202 = .ok (.getfield 82, 3) := by decide +kernel
theorem dX12_goesOn_205 : decode cX12_goesOn 205 = .ok (.invokevirtual 85, 3) := by decide +kernel
theorem dX12_goesOn_208 : decode cX12_goesOn 208 = .ok (.iadd, 1) := by decide +kernel
theorem dX12_goesOn_209 : decode cX12_goesOn 209 = .ok (.bipush 48, 2) := by decide +kernel
theorem dX12_goesOn_211 : decode cX12_goesOn 211 = .ok (.isub, 1) := by decide +kernel
theorem dX12_goesOn_212 : decode cX12_goesOn 212 = .ok (.putfield 102, 3) := by decide +kernel
theorem dX12_goesOn_215 : decode cX12_goesOn 215 = .ok (.iinc 2 1, 3) := by decide +kernel
theorem dX12_goesOn_218 : decode cX12_goesOn 218 = .ok (.aload_n 0, 1) := by decide +kernel
theorem dX12_goesOn_219 : decode cX12_goesOn 219 = .ok (.dup, 1) := by decide +kernel
theorem dX12_goesOn_220 : decode cX12_goesOn 220 = .ok (.getfield 82, 3) := by decide +kernel
theorem dX12_goesOn_223 : decode cX12_goesOn 223 = .ok (.iconst 1, 1) := by decide +kernel
theorem dX12_goesOn_224 : decode cX12_goesOn 224 = .ok (.iadd, 1) := by decide +kernel
theorem dX12_goesOn_225 : decode cX12_goesOn 225 = .ok (.putfield 82, 3) := by decide +kernel
theorem dX12_goesOn_228 : decode cX12_goesOn 228 = .ok (.goto (-55), 3) := by decide +kernel
theorem dX12_goesOn_231 : decode cX12_goesOn 231 = .ok (.iload_n 2, 1) := by decide +kernel
theorem dX12_goesOn_232 : decode cX12_goesOn 232 = .ok (.iconst 3, 1) := by decide +kernel
theorem dX12_goesOn_233 : decode cX12_goesOn 233 = .ok (.if_icmp .gt 32, 3) := by decide +kernel
theorem dX12_goesOn_236 : decode cX12_goesOn 236 = .ok (.aload_n 0, 1) := by decide +kernel
theorem dX12_goesOn_237 : decode cX12_goesOn 237 = .ok (.iconst 3, 1) := by decide +kernel
theorem dX12_goesOn_238 : decode cX12_goesOn 238 = .ok (.putfield 79, 3) := by decide +kernel
theorem dX12_goesOn_241 : decode cX12_goesOn 241 = .ok (.goto 24, 3) := by decide +kernel
theorem dX12_goesOn_244 : decode cX12_goesOn 244 = .ok (.iload_n 1, 1) := by decide +kernel
theorem dX12_goesOn_245 : decode cX12_goesOn 245 = .ok (.bipush 59, 2) := by decide +kernel
theorem dX12_goesOn_247 : decode cX12_goesOn 247 = .ok (.if_icmp .ne 18, 3) := by decide +kernel
theorem dX12_goesOn_250 : decode cX12_goesOn 250 = .ok (.aload_n 0, 1) := by decide +kernel
theorem dX12_goesOn_251 : decode cX12_goesOn 251 = .ok (.iconst 4, 1) := by decide +kernel
theorem dX12_goesOn_252 : decode cX12_goesOn 252 = .ok (.putfield 79, 3) := by decide +kernel
theorem dX12_goesOn_255 : decode cX12_goesOn 255 = .ok (.aload_n 0, 1) := by decide +kernel
theorem dX12_goesOn_256 : decode cX12_goesOn 256 = .ok (.dup, 1) := by decide +kernel
theorem dX12_goesOn_257 : decode cX12_goesOn 257 = .ok (.getfield 82, 3) := by decide +kernel
theorem dX12_goesOn_260 : decode cX12_goesOn 260 = .ok (.iconst 1, 1) := by decide +kernel
theorem dX12_goesOn_261 : decode cX12_goesOn 261 = .ok (.iadd, 1) := by decide +kernel
theorem dX12_goesOn_262 : decode cX12_goesOn 262 = .ok (.putfield 82, 3) := by decide +kernel
theorem dX12_goesOn_265 : decode cX12_goesOn 265 = .ok (.return_, 1) := by decide +kernel
theorem dX12_flaw_0 : decode cX12_flaw 0 = .ok (.aload_n 0, 1) := by decide +kernel
theorem dX12_flaw_1 : decode cX12_flaw 1 = .ok (.getfield 79, 3) := by decide +kernel
theorem dX12_flaw_4 : decode cX12_flaw 4 = .ok (.iconst 5, 1) := by decide +kernel
theorem dX12_flaw_5 : decode cX12_flaw 5 = .ok (.if_icmp .ne 4, 3) := by decide +kernel
theorem dX12_flaw_8 : decode cX12_flaw 8 = .ok (.return_, 1) := by decide +kernel
theorem dX12_flaw_9 : decode cX12_flaw 9 = .ok (.aload_n 0, 1) := by decide +kernel
theorem dX12_flaw_10 : decode cX12_flaw 10 = .ok (.iload_n 1, 1) := by decide +kernel
theorem dX12_flaw_11 : decode cX12_flaw 11 = .ok (.putfield 105, 3) := by decide +kernel
theorem dX12_flaw_14 : decode cX12_flaw 14 = .ok (.aload_n 0, 1) := by decide +kernel
theorem dX12_flaw_15 : decode cX12_flaw 15 = .ok (.aload_n 0, 1) := by decide +kernel
theorem dX12_flaw_16 : decode cX12_flaw 16 = .ok (.getfield 88, 3) := by decide +kernel
theorem dX12_flaw_19 : decode cX12_flaw 19 = .ok (.putfield 108, 3) := by decide +kernel
theorem dX12_flaw_22 : decode cX12_flaw 22 = .ok (.aload_n 0, 1) := by decide +kernel
theorem dX12_flaw_23 : decode cX12_flaw 23 = .ok (.iconst 5, 1) := by decide +kernel
theorem dX12_flaw_24 : decode cX12_flaw 24 = .ok (.putfield 79, 3) := by decide +kernel
theorem dX12_flaw_27 : decode cX12_flaw 27 = .ok (.return_, 1) := by decide +kernel
theorem dX12_isWord_0 : decode cX12_isWord 0 = .ok (.aload_n 0, 1) := by decide +kernel
theorem dX12_isWord_1 : decode cX12_isWord 1 = .ok (.getfield 79, 3) := by decide +kernel
theorem dX12_isWord_4 : decode cX12_isWord 4 = .ok (.iconst 2, 1) := by decide +kernel
theorem dX12_isWord_5 : decode cX12_isWord 5 = .ok (.if_icmp .ne 19, 3) := by decide +kernel
theorem dX12_isWord_8 : decode cX12_isWord 8 = .ok (.aload_n 0, 1) := by decide +kernel
theorem dX12_isWord_9 : decode cX12_isWord 9 = .ok (.getfield 95, 3) := by decide +kernel
theorem dX12_isWord_12 : decode cX12_isWord 12 = .ok (.aload_n 1, 1) := by decide +kernel
theorem dX12_isWord_13 : decode cX12_isWord 13 = .ok (.invokestatic 111, 3) := by decide +kernel
theorem dX12_isWord_16 : decode cX12_isWord 16 = .ok (.lcmp, 1) := by decide +kernel
theorem dX12_isWord_17 : decode cX12_isWord 17 = .ok (.ifCond .ne 7, 3) := by decide +kernel
theorem dX12_isWord_20 : decode cX12_isWord 20 = .ok (.iconst 1, 1) := by decide +kernel
theorem dX12_isWord_21 : decode cX12_isWord 21 = .ok (.goto 4, 3) := by decide +kernel
theorem dX12_isWord_24 : decode cX12_isWord 24 = .ok (.iconst 0, 1) := by decide +kernel
theorem dX12_isWord_25 : decode cX12_isWord 25 = .ok (.ireturn, 1) := by decide +kernel
theorem dX12_eatsSemicolon_0 : decode cX12_eatsSemicolon 0 = .ok (.aload_n 0, 1) := by decide +kernel
theorem dX12_eatsSemicolon_1 : decode cX12_eatsSemicolon 1 = .ok (.getfield 79, 3) := by decide +kernel
theorem dX12_eatsSemicolon_4 : decode cX12_eatsSemicolon 4 = .ok (.iconst 4, 1) := by decide +kernel
theorem dX12_eatsSemicolon_5 : decode cX12_eatsSemicolon 5 = .ok (.if_icmp .ne 7, 3) := by decide +kernel
theorem dX12_eatsSemicolon_8 : decode cX12_eatsSemicolon 8 = .ok (.iconst 1, 1) := by decide +kernel
theorem dX12_eatsSemicolon_9 : decode cX12_eatsSemicolon 9 = .ok (.goto 4, 3) := by decide +kernel
theorem dX12_eatsSemicolon_12 : decode cX12_eatsSemicolon 12 = .ok (.iconst 0, 1) := by decide +kernel
theorem dX12_eatsSemicolon_13 : decode cX12_eatsSemicolon 13 = .ok (.istore_n 1, 1) := by decide +kernel
theorem dX12_eatsSemicolon_14 : decode cX12_eatsSemicolon 14 = .ok (.iload_n 1, 1) := by decide +kernel
theorem dX12_eatsSemicolon_15 : decode cX12_eatsSemicolon 15 = .ok (.ifCond .eq 7, 3) := by decide +kernel
theorem dX12_eatsSemicolon_18 : decode cX12_eatsSemicolon 18 = .ok (.aload_n 0, 1) := by decide +kernel
theorem dX12_eatsSemicolon_19 : decode cX12_eatsSemicolon 19 = .ok (.invokevirtual 115, 3) := by decide +kernel
theorem dX12_eatsSemicolon_22 : decode cX12_eatsSemicolon 22 = .ok (.iload_n 1, 1) := by decide +kernel
theorem dX12_eatsSemicolon_23 : decode cX12_eatsSemicolon 23 = .ok (.ireturn, 1) := by decide +kernel
theorem dX12_mustBe_0 : decode cX12_mustBe 0 = .ok (.aload_n 0, 1) := by decide +kernel
theorem dX12_mustBe_1 : decode cX12_mustBe 1 = .ok (.aload_n 1, 1) := by decide +kernel
theorem dX12_mustBe_2 : decode cX12_mustBe 2 = .ok (.invokevirtual 118, 3) := by decide +kernel
theorem dX12_mustBe_5 : decode cX12_mustBe 5 = .ok (.ifCond .ne 8, 3) := by decide +kernel
theorem dX12_mustBe_8 : decode cX12_mustBe 8 = .ok (.aload_n 0, 1) := by decide +kernel
theorem dX12_mustBe_9 : decode cX12_mustBe 9 = .ok (.iconst 1, 1) := by decide +kernel
theorem dX12_mustBe_10 : decode cX12_mustBe 10 = .ok (.invokevirtual 122, 3) := by decide +kernel
theorem dX12_mustBe_13 : decode cX12_mustBe 13 = .ok (.aload_n 0, 1) := by decide +kernel
theorem dX12_mustBe_14 : decode cX12_mustBe 14 = .ok (.invokevirtual 115, 3) := by decide +kernel
theorem dX12_mustBe_17 : decode cX12_mustBe 17 = .ok (.return_, 1) := by decide +kernel
theorem dX12_readWhole_0 : decode cX12_readWhole 0 = .ok (.aload_n 0, 1) := by decide +kernel
theorem dX12_readWhole_1 : decode cX12_readWhole 1 = .ok (.getfield 79, 3) := by decide +kernel
theorem dX12_readWhole_4 : decode cX12_readWhole 4 = .ok (.iconst 3, 1) := by decide +kernel
theorem dX12_readWhole_5 : decode cX12_readWhole 5 = .ok (.if_icmp .eq 11, 3) := by decide +kernel
theorem dX12_readWhole_8 : decode cX12_readWhole 8 = .ok (.aload_n 0, 1) := by decide +kernel
theorem dX12_readWhole_9 : decode cX12_readWhole 9 = .ok (.iconst 1, 1) := by decide +kernel
theorem dX12_readWhole_10 : decode cX12_readWhole 10 = .ok (.invokevirtual 122, 3) := by decide +kernel
theorem dX12_readWhole_13 : decode cX12_readWhole 13 = .ok (.goto 20, 3) := by decide +kernel
theorem dX12_readWhole_16 : decode cX12_readWhole 16 = .ok (.aload_n 0, 1) := by decide +kernel
theorem dX12_readWhole_17 : decode cX12_readWhole 17 = .ok (.getfield 102, 3) := by decide +kernel
theorem dX12_readWhole_20 : decode cX12_readWhole 20 = .ok (.iload_n 1, 1) := by decide +kernel
theorem dX12_readWhole_21 : decode cX12_readWhole 21 = .ok (.iload_n 2, 1) := by decide +kernel
theorem dX12_readWhole_22 : decode cX12_readWhole 22 = .ok (.invokestatic 126, 3) := by decide +kernel
theorem dX12_readWhole_25 : decode cX12_readWhole 25 = .ok (.ifCond .ne 8, 3) := by decide +kernel
theorem dX12_readWhole_28 : decode cX12_readWhole 28 = .ok (.aload_n 0, 1) := by decide +kernel
theorem dX12_readWhole_29 : decode cX12_readWhole 29 = .ok (.iconst 4, 1) := by decide +kernel
theorem dX12_readWhole_30 : decode cX12_readWhole 30 = .ok (.invokevirtual 122, 3) := by decide +kernel
theorem dX12_readWhole_33 : decode cX12_readWhole 33 = .ok (.aload_n 0, 1) := by decide +kernel
theorem dX12_readWhole_34 : decode cX12_readWhole 34 = .ok (.getfield 79, 3) := by decide +kernel
theorem dX12_readWhole_37 : decode cX12_readWhole 37 = .ok (.iconst 5, 1) := by decide +kernel
theorem dX12_readWhole_38 : decode cX12_readWhole 38 = .ok (.if_icmp .ne 7, 3) := by decide +kernel
theorem dX12_readWhole_41 : decode cX12_readWhole 41 = .ok (.iload_n 1, 1) := by decide +kernel
theorem dX12_readWhole_42 : decode cX12_readWhole 42 = .ok (.goto 7, 3) := by decide +kernel
theorem dX12_readWhole_45 : decode cX12_readWhole 45 = .ok (.aload_n 0, 1) := by decide +kernel
theorem dX12_readWhole_46 : decode cX12_readWhole 46 = .ok (.getfield 102, 3) := by decide +kernel
theorem dX12_readWhole_49 : decode cX12_readWhole 49 = .ok (.istore_n 3, 1) := by decide +kernel
theorem dX12_readWhole_50 : decode cX12_readWhole 50 = .ok (.aload_n 0, 1) := by decide +kernel
theorem dX12_readWhole_51 : decode cX12_readWhole 51 = .ok (.invokevirtual 115, 3) := by decide +kernel
theorem dX12_readWhole_54 : decode cX12_readWhole 54 = .ok (.iload_n 3, 1) := by decide +kernel
theorem dX12_readWhole_55 : decode cX12_readWhole 55 = .ok (.ireturn, 1) := by decide +kernel
theorem dX12_readPart_0 : decode cX12_readPart 0 = .ok (.aload_n 0, 1) := by decide +kernel
theorem dX12_readPart_1 : decode cX12_readPart 1 = .ok (.aload_n 1, 1) := by decide +kernel
theorem dX12_readPart_2 : decode cX12_readPart 2 = .ok (.invokevirtual 130, 3) := by decide +kernel
theorem dX12_readPart_5 : decode cX12_readPart 5 = .ok (.aload_n 0, 1) := by decide +kernel
theorem dX12_readPart_6 : decode cX12_readPart 6 = .ok (.iload_n 2, 1) := by decide +kernel
theorem dX12_readPart_7 : decode cX12_readPart 7 = .ok (.iload_n 3, 1) := by decide +kernel
theorem dX12_readPart_8 : decode cX12_readPart 8 = .ok (.invokevirtual 134, 3) := by decide +kernel
theorem dX12_readPart_11 : decode cX12_readPart 11 = .ok (.ireturn, 1) := by decide +kernel
theorem dX12_isName_0 : decode cX12_isName 0 = .ok (.aload_n 0, 1) := by decide +kernel
theorem dX12_isName_1 : decode cX12_isName 1 = .ok (.getfield 79, 3) := by decide +kernel
theorem dX12_isName_4 : decode cX12_isName 4 = .ok (.iconst 2, 1) := by decide +kernel
theorem dX12_isName_5 : decode cX12_isName 5 = .ok (.if_icmp .ne 39, 3) := by decide +kernel
theorem dX12_isName_8 : decode cX12_isName 8 = .ok (.aload_n 0, 1) := by decide +kernel
theorem dX12_isName_9 : decode cX12_isName 9 = .ok (.ldc 138, 2) := by decide +kernel
theorem dX12_isName_11 : decode cX12_isName 11 = .ok (.invokevirtual 118, 3) := by decide +kernel
theorem dX12_isName_14 : decode cX12_isName 14 = .ok (.ifCond .ne 30, 3) := by decide +kernel
theorem dX12_isName_17 : decode cX12_isName 17 = .ok (.aload_n 0, 1) := by decide +kernel
theorem dX12_isName_18 : decode cX12_isName 18 = .ok (.ldc 140, 2) := by decide +kernel
theorem dX12_isName_20 : decode cX12_isName 20 = .ok (.invokevirtual 118, 3) := by decide +kernel
theorem dX12_isName_23 : decode cX12_isName 23 = .ok (.ifCond .ne 21, 3) := by decide +kernel
theorem dX12_isName_26 : decode cX12_isName 26 = .ok (.aload_n 0, 1) := by decide +kernel
theorem dX12_isName_27 : decode cX12_isName 27 = .ok (.ldc 142, 2) := by decide +kernel
theorem dX12_isName_29 : decode cX12_isName 29 = .ok (.invokevirtual 118, 3) := by decide +kernel
theorem dX12_isName_32 : decode cX12_isName 32 = .ok (.ifCond .ne 12, 3) := by decide +kernel
theorem dX12_isName_35 : decode cX12_isName 35 = .ok (.aload_n 0, 1) := by decide +kernel
theorem dX12_isName_36 : decode cX12_isName 36 = .ok (.ldc 144, 2) := by decide +kernel
theorem dX12_isName_38 : decode cX12_isName 38 = .ok (.invokevirtual 118, 3) := by decide +kernel
theorem dX12_isName_41 : decode cX12_isName 41 = .ok (.ifCond .eq 5, 3) := by decide +kernel
theorem dX12_isName_44 : decode cX12_isName 44 = .ok (.iconst 0, 1) := by decide +kernel
theorem dX12_isName_45 : decode cX12_isName 45 = .ok (.ireturn, 1) := by decide +kernel
theorem dX12_isName_46 : decode cX12_isName 46 = .ok (.aload_n 0, 1) := by decide +kernel
theorem dX12_isName_47 : decode cX12_isName 47 = .ok (.ldc 146, 2) := by decide +kernel
theorem dX12_isName_49 : decode cX12_isName 49 = .ok (.invokevirtual 118, 3) := by decide +kernel
theorem dX12_isName_52 : decode cX12_isName 52 = .ok (.ifCond .ne 25, 3) := by decide +kernel
theorem dX12_isName_55 : decode cX12_isName 55 = .ok (.aload_n 0, 1) := by decide +kernel
theorem dX12_isName_56 : decode cX12_isName 56 = .ok (.ldc 148, 2) := by decide +kernel
theorem dX12_isName_58 : decode cX12_isName 58 = .ok (.invokevirtual 118, 3) := by decide +kernel
theorem dX12_isName_61 : decode cX12_isName 61 = .ok (.ifCond .ne 16, 3) := by decide +kernel
theorem dX12_isName_64 : decode cX12_isName 64 = .ok (.aload_n 0, 1) := by decide +kernel
theorem dX12_isName_65 : decode cX12_isName 65 = .ok (.ldc 150, 2) := by decide +kernel
theorem dX12_isName_67 : decode cX12_isName 67 = .ok (.invokevirtual 118, 3) := by decide +kernel
theorem dX12_isName_70 : decode cX12_isName 70 = .ok (.ifCond .ne 7, 3) := by decide +kernel
theorem dX12_isName_73 : decode cX12_isName 73 = .ok (.iconst 1, 1) := by decide +kernel
theorem dX12_isName_74 : decode cX12_isName 74 = .ok (.goto 4, 3) := by decide +kernel
theorem dX12_isName_77 : decode cX12_isName 77 = .ok (.iconst 0, 1) := by decide +kernel
theorem dX12_isName_78 : decode cX12_isName 78 = .ok (.ireturn, 1) := by decide +kernel
theorem dX12_lineBegins_0 : decode cX12_lineBegins 0 = .ok (.iload_n 1, 1) := by decide +kernel
theorem dX12_lineBegins_1 : decode cX12_lineBegins 1 = .ok (.iload_n 2, 1) := by decide +kernel
theorem dX12_lineBegins_2 : decode cX12_lineBegins 2 = .ok (.if_icmp .ne 8, 3) := by decide +kernel
theorem dX12_lineBegins_5 : decode cX12_lineBegins 5 = .ok (.aload_n 0, 1) := by decide +kernel
theorem dX12_lineBegins_6 : decode cX12_lineBegins 6 = .ok (.iconst 5, 1) := by decide +kernel
theorem dX12_lineBegins_7 : decode cX12_lineBegins 7 = .ok (.invokevirtual 122, 3) := by decide +kernel
theorem dX12_lineBegins_10 : decode cX12_lineBegins 10 = .ok (.aload_n 0, 1) := by decide +kernel
theorem dX12_lineBegins_11 : decode cX12_lineBegins 11 = .ok (.getfield 152, 3) := by decide +kernel
theorem dX12_lineBegins_14 : decode cX12_lineBegins 14 = .ok (.getfield 156, 3) := by decide +kernel
theorem dX12_lineBegins_17 : decode cX12_lineBegins 17 = .ok (.ifCond .ne 9, 3) := by decide +kernel
theorem dX12_lineBegins_20 : decode cX12_lineBegins 20 = .ok (.aload_n 0, 1) := by decide +kernel
theorem dX12_lineBegins_21 : decode cX12_lineBegins 21 = .ok (.bipush 6, 2) := by decide +kernel
theorem dX12_lineBegins_23 : decode cX12_lineBegins 23 = .ok (.invokevirtual 122, 3) := by decide +kernel
theorem dX12_lineBegins_26 : decode cX12_lineBegins 26 = .ok (.aload_n 0, 1) := by decide +kernel
theorem dX12_lineBegins_27 : decode cX12_lineBegins 27 = .ok (.invokevirtual 115, 3) := by decide +kernel
theorem dX12_lineBegins_30 : decode cX12_lineBegins 30 = .ok (.return_, 1) := by decide +kernel
theorem dX12_readFresh_0 : decode cX12_readFresh 0 = .ok (.aload_n 0, 1) := by decide +kernel
theorem dX12_readFresh_1 : decode cX12_readFresh 1 = .ok (.invokevirtual 161, 3) := by decide +kernel
theorem dX12_readFresh_4 : decode cX12_readFresh 4 = .ok (.ifCond .ne 8, 3) := by decide +kernel
theorem dX12_readFresh_7 : decode cX12_readFresh 7 = .ok (.aload_n 0, 1) := by decide +kernel
theorem dX12_readFresh_8 : decode cX12_readFresh 8 = .ok (.iconst 1, 1) := by decide +kernel
theorem dX12_readFresh_9 : decode cX12_readFresh 9 = .ok (.invokevirtual 122, 3) := by decide +kernel
theorem dX12_readFresh_12 : decode cX12_readFresh 12 = .ok (.aload_n 0, 1) := by decide +kernel
theorem dX12_readFresh_13 : decode cX12_readFresh 13 = .ok (.getfield 152, 3) := by decide +kernel
theorem dX12_readFresh_16 : decode cX12_readFresh 16 = .ok (.aload_n 0, 1) := by decide +kernel
theorem dX12_readFresh_17 : decode cX12_readFresh 17 = .ok (.getfield 95, 3) := by decide +kernel
theorem dX12_readFresh_20 : decode cX12_readFresh 20 = .ok (.invokevirtual 165, 3) := by decide +kernel
theorem dX12_readFresh_23 : decode cX12_readFresh 23 = .ok (.iconst (-1), 1) := by decide +kernel
theorem dX12_readFresh_24 : decode cX12_readFresh 24 = .ok (.if_icmp .eq 8, 3) := by decide +kernel
theorem dX12_readFresh_27 : decode cX12_readFresh 27 = .ok (.aload_n 0, 1) := by decide +kernel
theorem dX12_readFresh_28 : decode cX12_readFresh 28 = .ok (.iconst 3, 1) := by decide +kernel
theorem dX12_readFresh_29 : decode cX12_readFresh 29 = .ok (.invokevirtual 122, 3) := by decide +kernel
theorem dX12_readFresh_32 : decode cX12_readFresh 32 = .ok (.aload_n 0, 1) := by decide +kernel
theorem dX12_readFresh_33 : decode cX12_readFresh 33 = .ok (.getfield 95, 3) := by decide +kernel
theorem dX12_readFresh_36 : decode cX12_readFresh 36 = .ok (.lstore_n 1, 1) := by decide +kernel
theorem dX12_readFresh_37 : decode cX12_readFresh 37 = .ok (.aload_n 0, 1) := by decide +kernel
theorem dX12_readFresh_38 : decode cX12_readFresh 38 = .ok (.invokevirtual 115, 3) := by decide +kernel
theorem dX12_readFresh_41 : decode cX12_readFresh 41 = .ok (.lload_n 1, 1) := by decide +kernel
theorem dX12_readFresh_42 : decode cX12_readFresh 42 = .ok (.lreturn, 1) := by decide +kernel
theorem dX12_names_0 : decode cX12_names 0 = .ok (.aload_n 0, 1) := by decide +kernel
theorem dX12_names_1 : decode cX12_names 1 = .ok (.getfield 152, 3) := by decide +kernel
theorem dX12_names_4 : decode cX12_names 4 = .ok (.getfield 169, 3) := by decide +kernel
theorem dX12_names_7 : decode cX12_names 7 = .ok (.aload_n 0, 1) := by decide +kernel
theorem dX12_names_8 : decode cX12_names 8 = .ok (.getfield 152, 3) := by decide +kernel
theorem dX12_names_11 : decode cX12_names 11 = .ok (.getfield 173, 3) := by decide +kernel
theorem dX12_names_14 : decode cX12_names 14 = .ok (.lload_n 1, 1) := by decide +kernel
theorem dX12_names_15 : decode cX12_names 15 = .ok (.lastore, 1) := by decide +kernel
theorem dX12_names_16 : decode cX12_names 16 = .ok (.aload_n 0, 1) := by decide +kernel
theorem dX12_names_17 : decode cX12_names 17 = .ok (.getfield 152, 3) := by decide +kernel
theorem dX12_names_20 : decode cX12_names 20 = .ok (.getfield 176, 3) := by decide +kernel
theorem dX12_names_23 : decode cX12_names 23 = .ok (.aload_n 0, 1) := by decide +kernel
theorem dX12_names_24 : decode cX12_names 24 = .ok (.getfield 152, 3) := by decide +kernel
theorem dX12_names_27 : decode cX12_names 27 = .ok (.getfield 173, 3) := by decide +kernel
theorem dX12_names_30 : decode cX12_names 30 = .ok (.iload_n 3, 1) := by decide +kernel
theorem dX12_names_31 : decode cX12_names 31 = .ok (.iastore, 1) := by decide +kernel
theorem dX12_names_32 : decode cX12_names 32 = .ok (.aload_n 0, 1) := by decide +kernel
theorem dX12_names_33 : decode cX12_names 33 = .ok (.getfield 152, 3) := by decide +kernel
theorem dX12_names_36 : decode cX12_names 36 = .ok (.getfield 179, 3) := by decide +kernel
theorem dX12_names_39 : decode cX12_names 39 = .ok (.aload_n 0, 1) := by decide +kernel
theorem dX12_names_40 : decode cX12_names 40 = .ok (.getfield 152, 3) := by decide +kernel
theorem dX12_names_43 : decode cX12_names 43 = .ok (.getfield 173, 3) := by decide +kernel
theorem dX12_names_46 : decode cX12_names 46 = .ok (.iload 4, 2) := by decide +kernel
theorem dX12_names_48 : decode cX12_names 48 = .ok (.iastore, 1) := by decide +kernel
theorem dX12_names_49 : decode cX12_names 49 = .ok (.aload_n 0, 1) := by decide +kernel
theorem dX12_names_50 : decode cX12_names 50 = .ok (.getfield 152, 3) := by decide +kernel
theorem dX12_names_53 : decode cX12_names 53 = .ok (.dup, 1) := by decide +kernel
theorem dX12_names_54 : decode cX12_names 54 = .ok (.getfield 173, 3) := by decide +kernel
theorem dX12_names_57 : decode cX12_names 57 = .ok (.iconst 1, 1) := by decide +kernel
theorem dX12_names_58 : decode cX12_names 58 = .ok (.iadd, 1) := by decide +kernel
theorem dX12_names_59 : decode cX12_names 59 = .ok (.putfield 173, 3) := by decide +kernel
theorem dX12_names_62 : decode cX12_names 62 = .ok (.return_, 1) := by decide +kernel
theorem dX12_knownOne_0 : decode cX12_knownOne 0 = .ok (.aload_n 0, 1) := by decide +kernel
theorem dX12_knownOne_1 : decode cX12_knownOne 1 = .ok (.invokevirtual 161, 3) := by decide +kernel
theorem dX12_knownOne_4 : decode cX12_knownOne 4 = .ok (.ifCond .ne 8, 3) := by decide +kernel
theorem dX12_knownOne_7 : decode cX12_knownOne 7 = .ok (.aload_n 0, 1) := by decide +kernel
theorem dX12_knownOne_8 : decode cX12_knownOne 8 = .ok (.iconst 1, 1) := by decide +kernel
theorem dX12_knownOne_9 : decode cX12_knownOne 9 = .ok (.invokevirtual 122, 3) := by decide +kernel
theorem dX12_knownOne_12 : decode cX12_knownOne 12 = .ok (.aload_n 0, 1) := by decide +kernel
theorem dX12_knownOne_13 : decode cX12_knownOne 13 = .ok (.getfield 152, 3) := by decide +kernel
theorem dX12_knownOne_16 : decode cX12_knownOne 16 = .ok (.aload_n 0, 1) := by decide +kernel
theorem dX12_knownOne_17 : decode cX12_knownOne 17 = .ok (.getfield 95, 3) := by decide +kernel
theorem dX12_knownOne_20 : decode cX12_knownOne 20 = .ok (.invokevirtual 165, 3) := by decide +kernel
theorem dX12_knownOne_23 : decode cX12_knownOne 23 = .ok (.istore_n 2, 1) := by decide +kernel
theorem dX12_knownOne_24 : decode cX12_knownOne 24 = .ok (.iload_n 2, 1) := by decide +kernel
theorem dX12_knownOne_25 : decode cX12_knownOne 25 = .ok (.iconst (-1), 1) := by decide +kernel
theorem dX12_knownOne_26 : decode cX12_knownOne 26 = .ok (.if_icmp .eq 16, 3) := by decide +kernel
theorem dX12_knownOne_29 : decode cX12_knownOne 29 = .ok (.aload_n 0, 1) := by decide +kernel
theorem dX12_knownOne_30 : decode cX12_knownOne 30 = .ok (.getfield 152, 3) := by decide +kernel
theorem dX12_knownOne_33 : decode cX12_knownOne 33 = .ok (.getfield 176, 3) := by decide +kernel
theorem dX12_knownOne_36 : decode cX12_knownOne 36 = .ok (.iload_n 2, 1) := by decide +kernel
theorem dX12_knownOne_37 : decode cX12_knownOne 37 = .ok (.iaload, 1) := by decide +kernel
theorem dX12_knownOne_38 : decode cX12_knownOne 38 = .ok (.iload_n 1, 1) := by decide +kernel
theorem dX12_knownOne_39 : decode cX12_knownOne 39 = .ok (.if_icmp .eq 8, 3) := by decide +kernel
theorem dX12_knownOne_42 : decode cX12_knownOne 42 = .ok (.aload_n 0, 1) := by decide +kernel
theorem dX12_knownOne_43 : decode cX12_knownOne 43 = .ok (.iconst 2, 1) := by decide +kernel
theorem dX12_knownOne_44 : decode cX12_knownOne 44 = .ok (.invokevirtual 122, 3) := by decide +kernel
theorem dX12_knownOne_47 : decode cX12_knownOne 47 = .ok (.aload_n 0, 1) := by decide +kernel
theorem dX12_knownOne_48 : decode cX12_knownOne 48 = .ok (.getfield 79, 3) := by decide +kernel
theorem dX12_knownOne_51 : decode cX12_knownOne 51 = .ok (.iconst 5, 1) := by decide +kernel
theorem dX12_knownOne_52 : decode cX12_knownOne 52 = .ok (.if_icmp .ne 7, 3) := by decide +kernel
theorem dX12_knownOne_55 : decode cX12_knownOne 55 = .ok (.iconst 0, 1) := by decide +kernel
theorem dX12_knownOne_56 : decode cX12_knownOne 56 = .ok (.goto 12, 3) := by decide +kernel
theorem dX12_knownOne_59 : decode cX12_knownOne 59 = .ok (.aload_n 0, 1) := by decide +kernel
theorem dX12_knownOne_60 : decode cX12_knownOne 60 = .ok (.getfield 152, 3) := by decide +kernel
theorem dX12_knownOne_63 : decode cX12_knownOne 63 = .ok (.getfield 179, 3) := by decide +kernel
theorem dX12_knownOne_66 : decode cX12_knownOne 66 = .ok (.iload_n 2, 1) := by decide +kernel
theorem dX12_knownOne_67 : decode cX12_knownOne 67 = .ok (.iaload, 1) := by decide +kernel
theorem dX12_knownOne_68 : decode cX12_knownOne 68 = .ok (.ireturn, 1) := by decide +kernel
theorem dX12_readAll_0 : decode cX12_readAll 0 = .ok (.iconst 1, 1) := by decide +kernel
theorem dX12_readAll_1 : decode cX12_readAll 1 = .ok (.istore_n 1, 1) := by decide +kernel
theorem dX12_readAll_2 : decode cX12_readAll 2 = .ok (.iload_n 1, 1) := by decide +kernel
theorem dX12_readAll_3 : decode cX12_readAll 3 = .ok (.ifCond .eq 15, 3) := by decide +kernel
theorem dX12_readAll_6 : decode cX12_readAll 6 = .ok (.aload_n 0, 1) := by decide +kernel
theorem dX12_readAll_7 : decode cX12_readAll 7 = .ok (.invokevirtual 182, 3) := by decide +kernel
theorem dX12_readAll_10 : decode cX12_readAll 10 = .ok (.aload_n 0, 1) := by decide +kernel
theorem dX12_readAll_11 : decode cX12_readAll 11 = .ok (.invokevirtual 185, 3) := by decide +kernel
theorem dX12_readAll_14 : decode cX12_readAll 14 = .ok (.istore_n 1, 1) := by decide +kernel
theorem dX12_readAll_15 : decode cX12_readAll 15 = .ok (.goto (-13), 3) := by decide +kernel
theorem dX12_readAll_18 : decode cX12_readAll 18 = .ok (.aload_n 0, 1) := by decide +kernel
theorem dX12_readAll_19 : decode cX12_readAll 19 = .ok (.getfield 79, 3) := by decide +kernel
theorem dX12_readAll_22 : decode cX12_readAll 22 = .ok (.iconst 1, 1) := by decide +kernel
theorem dX12_readAll_23 : decode cX12_readAll 23 = .ok (.if_icmp .eq 8, 3) := by decide +kernel
theorem dX12_readAll_26 : decode cX12_readAll 26 = .ok (.aload_n 0, 1) := by decide +kernel
theorem dX12_readAll_27 : decode cX12_readAll 27 = .ok (.iconst 1, 1) := by decide +kernel
theorem dX12_readAll_28 : decode cX12_readAll 28 = .ok (.invokevirtual 122, 3) := by decide +kernel
theorem dX12_readAll_31 : decode cX12_readAll 31 = .ok (.aload_n 0, 1) := by decide +kernel
theorem dX12_readAll_32 : decode cX12_readAll 32 = .ok (.getfield 152, 3) := by decide +kernel
theorem dX12_readAll_35 : decode cX12_readAll 35 = .ok (.getfield 188, 3) := by decide +kernel
theorem dX12_readAll_38 : decode cX12_readAll 38 = .ok (.ifCond .ne 9, 3) := by decide +kernel
theorem dX12_readAll_41 : decode cX12_readAll 41 = .ok (.aload_n 0, 1) := by decide +kernel
theorem dX12_readAll_42 : decode cX12_readAll 42 = .ok (.bipush 6, 2) := by decide +kernel
theorem dX12_readAll_44 : decode cX12_readAll 44 = .ok (.invokevirtual 122, 3) := by decide +kernel
theorem dX12_readAll_47 : decode cX12_readAll 47 = .ok (.return_, 1) := by decide +kernel
theorem dX12_readLine_0 : decode cX12_readLine 0 = .ok (.aload_n 0, 1) := by decide +kernel
theorem dX12_readLine_1 : decode cX12_readLine 1 = .ok (.ldc 138, 2) := by decide +kernel
theorem dX12_readLine_3 : decode cX12_readLine 3 = .ok (.invokevirtual 118, 3) := by decide +kernel
theorem dX12_readLine_6 : decode cX12_readLine 6 = .ok (.ifCond .eq 10, 3) := by decide +kernel
theorem dX12_readLine_9 : decode cX12_readLine 9 = .ok (.aload_n 0, 1) := by decide +kernel
theorem dX12_readLine_10 : decode cX12_readLine 10 = .ok (.invokevirtual 191, 3) := by decide +kernel
theorem dX12_readLine_13 : decode cX12_readLine 13 = .ok (.goto 104, 3) := by decide +kernel
theorem dX12_readLine_16 : decode cX12_readLine 16 = .ok (.aload_n 0, 1) := by decide +kernel
theorem dX12_readLine_17 : decode cX12_readLine 17 = .ok (.ldc 140, 2) := by decide +kernel
theorem dX12_readLine_19 : decode cX12_readLine 19 = .ok (.invokevirtual 118, 3) := by decide +kernel
theorem dX12_readLine_22 : decode cX12_readLine 22 = .ok (.ifCond .eq 10, 3) := by decide +kernel
theorem dX12_readLine_25 : decode cX12_readLine 25 = .ok (.aload_n 0, 1) := by decide +kernel
theorem dX12_readLine_26 : decode cX12_readLine 26 = .ok (.invokevirtual 194, 3) := by decide +kernel
theorem dX12_readLine_29 : decode cX12_readLine 29 = .ok (.goto 88, 3) := by decide +kernel
theorem dX12_readLine_32 : decode cX12_readLine 32 = .ok (.aload_n 0, 1) := by decide +kernel
theorem dX12_readLine_33 : decode cX12_readLine 33 = .ok (.ldc 142, 2) := by decide +kernel
theorem dX12_readLine_35 : decode cX12_readLine 35 = .ok (.invokevirtual 118, 3) := by decide +kernel
theorem dX12_readLine_38 : decode cX12_readLine 38 = .ok (.ifCond .eq 10, 3) := by decide +kernel
theorem dX12_readLine_41 : decode cX12_readLine 41 = .ok (.aload_n 0, 1) := by decide +kernel
