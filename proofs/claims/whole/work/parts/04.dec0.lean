theorem dX0_init_0 : decode cX0_init 0 = .ok (.aload_n 0, 1) := by decide +kernel
theorem dX0_init_1 : decode cX0_init 1 = .ok (.invokespecial 3, 3) := by decide +kernel
theorem dX0_init_4 : decode cX0_init 4 = .ok (.aload_n 0, 1) := by decide +kernel
theorem dX0_init_5 : decode cX0_init 5 = .ok (.new 9, 3) := by decide +kernel
theorem dX0_init_8 : decode cX0_init 8 = .ok (.dup, 1) := by decide +kernel
theorem dX0_init_9 : decode cX0_init 9 = .ok (.invokespecial 11, 3) := by decide +kernel
theorem dX0_init_12 : decode cX0_init 12 = .ok (.putfield 12, 3) := by decide +kernel
theorem dX0_init_15 : decode cX0_init 15 = .ok (.aload_n 0, 1) := by decide +kernel
theorem dX0_init_16 : decode cX0_init 16 = .ok (.new 18, 3) := by decide +kernel
theorem dX0_init_19 : decode cX0_init 19 = .ok (.dup, 1) := by decide +kernel
theorem dX0_init_20 : decode cX0_init 20 = .ok (.invokespecial 20, 3) := by decide +kernel
theorem dX0_init_23 : decode cX0_init 23 = .ok (.putfield 21, 3) := by decide +kernel
theorem dX0_init_26 : decode cX0_init 26 = .ok (.return_, 1) := by decide +kernel
theorem dX0_passYear_0 : decode cX0_passYear 0 = .ok (.aload_n 2, 1) := by decide +kernel
theorem dX0_passYear_1 : decode cX0_passYear 1 = .ok (.bipush 75, 2) := by decide +kernel
theorem dX0_passYear_3 : decode cX0_passYear 3 = .ok (.aload_n 2, 1) := by decide +kernel
theorem dX0_passYear_4 : decode cX0_passYear 4 = .ok (.getfield 25, 3) := by decide +kernel
theorem dX0_passYear_7 : decode cX0_passYear 7 = .ok (.imul, 1) := by decide +kernel
theorem dX0_passYear_8 : decode cX0_passYear 8 = .ok (.bipush 74, 2) := by decide +kernel
theorem dX0_passYear_10 : decode cX0_passYear 10 = .ok (.iadd, 1) := by decide +kernel
theorem dX0_passYear_11 : decode cX0_passYear 11 = .ok (.ldc 29, 2) := by decide +kernel
theorem dX0_passYear_13 : decode cX0_passYear 13 = .ok (.irem, 1) := by decide +kernel
theorem dX0_passYear_14 : decode cX0_passYear 14 = .ok (.putfield 25, 3) := by decide +kernel
theorem dX0_passYear_17 : decode cX0_passYear 17 = .ok (.aload_n 2, 1) := by decide +kernel
theorem dX0_passYear_18 : decode cX0_passYear 18 = .ok (.iconst 1, 1) := by decide +kernel
theorem dX0_passYear_19 : decode cX0_passYear 19 = .ok (.aload_n 1, 1) := by decide +kernel
theorem dX0_passYear_20 : decode cX0_passYear 20 = .ok (.getfield 30, 3) := by decide +kernel
theorem dX0_passYear_23 : decode cX0_passYear 23 = .ok (.aload_n 2, 1) := by decide +kernel
theorem dX0_passYear_24 : decode cX0_passYear 24 = .ok (.getfield 25, 3) := by decide +kernel
theorem dX0_passYear_27 : decode cX0_passYear 27 = .ok (.bipush 61, 2) := by decide +kernel
theorem dX0_passYear_29 : decode cX0_passYear 29 = .ok (.irem, 1) := by decide +kernel
theorem dX0_passYear_30 : decode cX0_passYear 30 = .ok (.iadd, 1) := by decide +kernel
theorem dX0_passYear_31 : decode cX0_passYear 31 = .ok (.bipush 30, 2) := by decide +kernel
theorem dX0_passYear_33 : decode cX0_passYear 33 = .ok (.isub, 1) := by decide +kernel
theorem dX0_passYear_34 : decode cX0_passYear 34 = .ok (.invokestatic 35, 3) := by decide +kernel
theorem dX0_passYear_37 : decode cX0_passYear 37 = .ok (.putfield 41, 3) := by decide +kernel
theorem dX0_passYear_40 : decode cX0_passYear 40 = .ok (.aload_n 0, 1) := by decide +kernel
theorem dX0_passYear_41 : decode cX0_passYear 41 = .ok (.getfield 12, 3) := by decide +kernel
theorem dX0_passYear_44 : decode cX0_passYear 44 = .ok (.aload_n 1, 1) := by decide +kernel
theorem dX0_passYear_45 : decode cX0_passYear 45 = .ok (.aload_n 2, 1) := by decide +kernel
theorem dX0_passYear_46 : decode cX0_passYear 46 = .ok (.getfield 42, 3) := by decide +kernel
theorem dX0_passYear_49 : decode cX0_passYear 49 = .ok (.aload_n 2, 1) := by decide +kernel
theorem dX0_passYear_50 : decode cX0_passYear 50 = .ok (.getfield 41, 3) := by decide +kernel
theorem dX0_passYear_53 : decode cX0_passYear 53 = .ok (.invokevirtual 45, 3) := by decide +kernel
theorem dX0_passYear_56 : decode cX0_passYear 56 = .ok (.aload_n 0, 1) := by decide +kernel
theorem dX0_passYear_57 : decode cX0_passYear 57 = .ok (.getfield 12, 3) := by decide +kernel
theorem dX0_passYear_60 : decode cX0_passYear 60 = .ok (.aload_n 1, 1) := by decide +kernel
theorem dX0_passYear_61 : decode cX0_passYear 61 = .ok (.aload_n 2, 1) := by decide +kernel
theorem dX0_passYear_62 : decode cX0_passYear 62 = .ok (.aload_n 2, 1) := by decide +kernel
theorem dX0_passYear_63 : decode cX0_passYear 63 = .ok (.getfield 42, 3) := by decide +kernel
theorem dX0_passYear_66 : decode cX0_passYear 66 = .ok (.invokevirtual 49, 3) := by decide +kernel
theorem dX0_passYear_69 : decode cX0_passYear 69 = .ok (.istore_n 3, 1) := by decide +kernel
theorem dX0_passYear_70 : decode cX0_passYear 70 = .ok (.aload_n 2, 1) := by decide +kernel
theorem dX0_passYear_71 : decode cX0_passYear 71 = .ok (.dup, 1) := by decide +kernel
theorem dX0_passYear_72 : decode cX0_passYear 72 = .ok (.getfield 42, 3) := by decide +kernel
theorem dX0_passYear_75 : decode cX0_passYear 75 = .ok (.iload_n 3, 1) := by decide +kernel
theorem dX0_passYear_76 : decode cX0_passYear 76 = .ok (.iconst (-1), 1) := by decide +kernel
theorem dX0_passYear_77 : decode cX0_passYear 77 = .ok (.ixor, 1) := by decide +kernel
theorem dX0_passYear_78 : decode cX0_passYear 78 = .ok (.iand, 1) := by decide +kernel
theorem dX0_passYear_79 : decode cX0_passYear 79 = .ok (.putfield 42, 3) := by decide +kernel
theorem dX0_passYear_82 : decode cX0_passYear 82 = .ok (.aload_n 2, 1) := by decide +kernel
theorem dX0_passYear_83 : decode cX0_passYear 83 = .ok (.dup, 1) := by decide +kernel
theorem dX0_passYear_84 : decode cX0_passYear 84 = .ok (.getfield 53, 3) := by decide +kernel
theorem dX0_passYear_87 : decode cX0_passYear 87 = .ok (.iload_n 3, 1) := by decide +kernel
theorem dX0_passYear_88 : decode cX0_passYear 88 = .ok (.ior, 1) := by decide +kernel
theorem dX0_passYear_89 : decode cX0_passYear 89 = .ok (.putfield 53, 3) := by decide +kernel
theorem dX0_passYear_92 : decode cX0_passYear 92 = .ok (.aload_n 0, 1) := by decide +kernel
theorem dX0_passYear_93 : decode cX0_passYear 93 = .ok (.getfield 12, 3) := by decide +kernel
theorem dX0_passYear_96 : decode cX0_passYear 96 = .ok (.aload_n 1, 1) := by decide +kernel
theorem dX0_passYear_97 : decode cX0_passYear 97 = .ok (.aload_n 2, 1) := by decide +kernel
theorem dX0_passYear_98 : decode cX0_passYear 98 = .ok (.getfield 42, 3) := by decide +kernel
theorem dX0_passYear_101 : decode cX0_passYear 101 = .ok (.aload_n 2, 1) := by decide +kernel
theorem dX0_passYear_102 : decode cX0_passYear 102 = .ok (.getfield 41, 3) := by decide +kernel
theorem dX0_passYear_105 : decode cX0_passYear 105 = .ok (.invokevirtual 45, 3) := by decide +kernel
theorem dX0_passYear_108 : decode cX0_passYear 108 = .ok (.iconst 0, 1) := by decide +kernel
theorem dX0_passYear_109 : decode cX0_passYear 109 = .ok (.istore 4, 2) := by decide +kernel
theorem dX0_passYear_111 : decode cX0_passYear 111 = .ok (.iload 4, 2) := by decide +kernel
theorem dX0_passYear_113 : decode cX0_passYear 113 = .ok (.aload_n 1, 1) := by decide +kernel
theorem dX0_passYear_114 : decode cX0_passYear 114 = .ok (.getfield 56, 3) := by decide +kernel
theorem dX0_passYear_117 : decode cX0_passYear 117 = .ok (.if_icmp .ge 32, 3) := by decide +kernel
theorem dX0_passYear_120 : decode cX0_passYear 120 = .ok (.aload_n 2, 1) := by decide +kernel
theorem dX0_passYear_121 : decode cX0_passYear 121 = .ok (.getfield 42, 3) := by decide +kernel
theorem dX0_passYear_124 : decode cX0_passYear 124 = .ok (.iload 4, 2) := by decide +kernel
theorem dX0_passYear_126 : decode cX0_passYear 126 = .ok (.invokestatic 59, 3) := by decide +kernel
theorem dX0_passYear_129 : decode cX0_passYear 129 = .ok (.ifCond .eq 14, 3) := by decide +kernel
theorem dX0_passYear_132 : decode cX0_passYear 132 = .ok (.aload_n 2, 1) := by decide +kernel
theorem dX0_passYear_133 : decode cX0_passYear 133 = .ok (.getfield 63, 3) := by decide +kernel
theorem dX0_passYear_136 : decode cX0_passYear 136 = .ok (.iload 4, 2) := by decide +kernel
theorem dX0_passYear_138 : decode cX0_passYear 138 = .ok (.dup2, 1) := by decide +kernel
theorem dX0_passYear_139 : decode cX0_passYear 139 = .ok (.iaload, 1) := by decide +kernel
theorem dX0_passYear_140 : decode cX0_passYear 140 = .ok (.iconst 1, 1) := by decide +kernel
theorem dX0_passYear_141 : decode cX0_passYear 141 = .ok (.iadd, 1) := by decide +kernel
theorem dX0_passYear_142 : decode cX0_passYear 142 = .ok (.iastore, 1) := by decide +kernel
theorem dX0_passYear_143 : decode cX0_passYear 143 = .ok (.iinc 4 1, 3) := by decide +kernel
theorem dX0_passYear_146 : decode cX0_passYear 146 = .ok (.goto (-35), 3) := by decide +kernel
theorem dX0_passYear_149 : decode cX0_passYear 149 = .ok (.aload_n 0, 1) := by decide +kernel
theorem dX0_passYear_150 : decode cX0_passYear 150 = .ok (.getfield 12, 3) := by decide +kernel
theorem dX0_passYear_153 : decode cX0_passYear 153 = .ok (.getfield 67, 3) := by decide +kernel
theorem dX0_passYear_156 : decode cX0_passYear 156 = .ok (.ireturn, 1) := by decide +kernel
theorem dX0_pass_0 : decode cX0_pass 0 = .ok (.aload_n 0, 1) := by decide +kernel
theorem dX0_pass_1 : decode cX0_pass 1 = .ok (.getfield 21, 3) := by decide +kernel
theorem dX0_pass_4 : decode cX0_pass 4 = .ok (.aload_n 2, 1) := by decide +kernel
theorem dX0_pass_5 : decode cX0_pass 5 = .ok (.invokevirtual 70, 3) := by decide +kernel
theorem dX0_pass_8 : decode cX0_pass 8 = .ok (.aload_n 0, 1) := by decide +kernel
theorem dX0_pass_9 : decode cX0_pass 9 = .ok (.getfield 21, 3) := by decide +kernel
theorem dX0_pass_12 : decode cX0_pass 12 = .ok (.iload_n 3, 1) := by decide +kernel
theorem dX0_pass_13 : decode cX0_pass 13 = .ok (.putfield 25, 3) := by decide +kernel
theorem dX0_pass_16 : decode cX0_pass 16 = .ok (.aload_n 0, 1) := by decide +kernel
theorem dX0_pass_17 : decode cX0_pass 17 = .ok (.iconst 0, 1) := by decide +kernel
theorem dX0_pass_18 : decode cX0_pass 18 = .ok (.putfield 74, 3) := by decide +kernel
theorem dX0_pass_21 : decode cX0_pass 21 = .ok (.aload_n 0, 1) := by decide +kernel
theorem dX0_pass_22 : decode cX0_pass 22 = .ok (.iconst 0, 1) := by decide +kernel
theorem dX0_pass_23 : decode cX0_pass 23 = .ok (.putfield 77, 3) := by decide +kernel
theorem dX0_pass_26 : decode cX0_pass 26 = .ok (.iconst 1, 1) := by decide +kernel
theorem dX0_pass_27 : decode cX0_pass 27 = .ok (.istore 5, 2) := by decide +kernel
theorem dX0_pass_29 : decode cX0_pass 29 = .ok (.iload 5, 2) := by decide +kernel
theorem dX0_pass_31 : decode cX0_pass 31 = .ok (.iload 4, 2) := by decide +kernel
theorem dX0_pass_33 : decode cX0_pass 33 = .ok (.if_icmp .gt 50, 3) := by decide +kernel
theorem dX0_pass_36 : decode cX0_pass 36 = .ok (.aload_n 0, 1) := by decide +kernel
theorem dX0_pass_37 : decode cX0_pass 37 = .ok (.dup, 1) := by decide +kernel
theorem dX0_pass_38 : decode cX0_pass 38 = .ok (.getfield 74, 3) := by decide +kernel
theorem dX0_pass_41 : decode cX0_pass 41 = .ok (.aload_n 0, 1) := by decide +kernel
theorem dX0_pass_42 : decode cX0_pass 42 = .ok (.aload_n 1, 1) := by decide +kernel
theorem dX0_pass_43 : decode cX0_pass 43 = .ok (.aload_n 0, 1) := by decide +kernel
theorem dX0_pass_44 : decode cX0_pass 44 = .ok (.getfield 21, 3) := by decide +kernel
theorem dX0_pass_47 : decode cX0_pass 47 = .ok (.invokevirtual 80, 3) := by decide +kernel
theorem dX0_pass_50 : decode cX0_pass 50 = .ok (.iadd, 1) := by decide +kernel
theorem dX0_pass_51 : decode cX0_pass 51 = .ok (.putfield 74, 3) := by decide +kernel
theorem dX0_pass_54 : decode cX0_pass 54 = .ok (.aload_n 0, 1) := by decide +kernel
theorem dX0_pass_55 : decode cX0_pass 55 = .ok (.getfield 77, 3) := by decide +kernel
theorem dX0_pass_58 : decode cX0_pass 58 = .ok (.ifCond .ne 19, 3) := by decide +kernel
theorem dX0_pass_61 : decode cX0_pass 61 = .ok (.aload_n 0, 1) := by decide +kernel
theorem dX0_pass_62 : decode cX0_pass 62 = .ok (.getfield 12, 3) := by decide +kernel
theorem dX0_pass_65 : decode cX0_pass 65 = .ok (.getfield 84, 3) := by decide +kernel
theorem dX0_pass_68 : decode cX0_pass 68 = .ok (.ifCond .eq 9, 3) := by decide +kernel
theorem dX0_pass_71 : decode cX0_pass 71 = .ok (.aload_n 0, 1) := by decide +kernel
theorem dX0_pass_72 : decode cX0_pass 72 = .ok (.iload 5, 2) := by decide +kernel
theorem dX0_pass_74 : decode cX0_pass 74 = .ok (.putfield 77, 3) := by decide +kernel
theorem dX0_pass_77 : decode cX0_pass 77 = .ok (.iinc 5 1, 3) := by decide +kernel
theorem dX0_pass_80 : decode cX0_pass 80 = .ok (.goto (-51), 3) := by decide +kernel
theorem dX0_pass_83 : decode cX0_pass 83 = .ok (.return_, 1) := by decide +kernel
theorem dX0_burstYear_0 : decode cX0_burstYear 0 = .ok (.aload_n 0, 1) := by decide +kernel
theorem dX0_burstYear_1 : decode cX0_burstYear 1 = .ok (.getfield 21, 3) := by decide +kernel
theorem dX0_burstYear_4 : decode cX0_burstYear 4 = .ok (.aload_n 2, 1) := by decide +kernel
theorem dX0_burstYear_5 : decode cX0_burstYear 5 = .ok (.invokevirtual 70, 3) := by decide +kernel
theorem dX0_burstYear_8 : decode cX0_burstYear 8 = .ok (.aload_n 0, 1) := by decide +kernel
theorem dX0_burstYear_9 : decode cX0_burstYear 9 = .ok (.getfield 21, 3) := by decide +kernel
theorem dX0_burstYear_12 : decode cX0_burstYear 12 = .ok (.iload_n 3, 1) := by decide +kernel
theorem dX0_burstYear_13 : decode cX0_burstYear 13 = .ok (.putfield 25, 3) := by decide +kernel
theorem dX0_burstYear_16 : decode cX0_burstYear 16 = .ok (.iconst 1, 1) := by decide +kernel
theorem dX0_burstYear_17 : decode cX0_burstYear 17 = .ok (.istore 5, 2) := by decide +kernel
theorem dX0_burstYear_19 : decode cX0_burstYear 19 = .ok (.iload 5, 2) := by decide +kernel
theorem dX0_burstYear_21 : decode cX0_burstYear 21 = .ok (.bipush 60, 2) := by decide +kernel
theorem dX0_burstYear_23 : decode cX0_burstYear 23 = .ok (.if_icmp .gt 37, 3) := by decide +kernel
theorem dX0_burstYear_26 : decode cX0_burstYear 26 = .ok (.aload_n 0, 1) := by decide +kernel
theorem dX0_burstYear_27 : decode cX0_burstYear 27 = .ok (.aload_n 1, 1) := by decide +kernel
theorem dX0_burstYear_28 : decode cX0_burstYear 28 = .ok (.aload_n 0, 1) := by decide +kernel
theorem dX0_burstYear_29 : decode cX0_burstYear 29 = .ok (.getfield 21, 3) := by decide +kernel
theorem dX0_burstYear_32 : decode cX0_burstYear 32 = .ok (.invokevirtual 80, 3) := by decide +kernel
theorem dX0_burstYear_35 : decode cX0_burstYear 35 = .ok (.pop, 1) := by decide +kernel
theorem dX0_burstYear_36 : decode cX0_burstYear 36 = .ok (.aload_n 0, 1) := by decide +kernel
theorem dX0_burstYear_37 : decode cX0_burstYear 37 = .ok (.getfield 21, 3) := by decide +kernel
theorem dX0_burstYear_40 : decode cX0_burstYear 40 = .ok (.getfield 53, 3) := by decide +kernel
theorem dX0_burstYear_43 : decode cX0_burstYear 43 = .ok (.iload 4, 2) := by decide +kernel
theorem dX0_burstYear_45 : decode cX0_burstYear 45 = .ok (.invokestatic 59, 3) := by decide +kernel
theorem dX0_burstYear_48 : decode cX0_burstYear 48 = .ok (.ifCond .eq 6, 3) := by decide +kernel
theorem dX0_burstYear_51 : decode cX0_burstYear 51 = .ok (.iload 5, 2) := by decide +kernel
theorem dX0_burstYear_53 : decode cX0_burstYear 53 = .ok (.ireturn, 1) := by decide +kernel
theorem dX0_burstYear_54 : decode cX0_burstYear 54 = .ok (.iinc 5 1, 3) := by decide +kernel
theorem dX0_burstYear_57 : decode cX0_burstYear 57 = .ok (.goto (-38), 3) := by decide +kernel
theorem dX0_burstYear_60 : decode cX0_burstYear 60 = .ok (.iconst 0, 1) := by decide +kernel
theorem dX0_burstYear_61 : decode cX0_burstYear 61 = .ok (.ireturn, 1) := by decide +kernel
theorem dX1_init_0 : decode cX1_init 0 = .ok (.aload_n 0, 1) := by decide +kernel
theorem dX1_init_1 : decode cX1_init 1 = .ok (.invokespecial 3, 3) := by decide +kernel
theorem dX1_init_4 : decode cX1_init 4 = .ok (.aload_n 0, 1) := by decide +kernel
theorem dX1_init_5 : decode cX1_init 5 = .ok (.new 9, 3) := by decide +kernel
theorem dX1_init_8 : decode cX1_init 8 = .ok (.dup, 1) := by decide +kernel
theorem dX1_init_9 : decode cX1_init 9 = .ok (.invokespecial 11, 3) := by decide +kernel
theorem dX1_init_12 : decode cX1_init 12 = .ok (.putfield 12, 3) := by decide +kernel
theorem dX1_init_15 : decode cX1_init 15 = .ok (.return_, 1) := by decide +kernel
theorem dX1_search_0 : decode cX1_search 0 = .ok (.aload_n 0, 1) := by decide +kernel
theorem dX1_search_1 : decode cX1_search 1 = .ok (.iconst 0, 1) := by decide +kernel
theorem dX1_search_2 : decode cX1_search 2 = .ok (.putfield 18, 3) := by decide +kernel
theorem dX1_search_5 : decode cX1_search 5 = .ok (.aload_n 0, 1) := by decide +kernel
theorem dX1_search_6 : decode cX1_search 6 = .ok (.bipush (-2), 2) := by decide +kernel
theorem dX1_search_8 : decode cX1_search 8 = .ok (.putfield 22, 3) := by decide +kernel
theorem dX1_search_11 : decode cX1_search 11 = .ok (.aload_n 0, 1) := by decide +kernel
theorem dX1_search_12 : decode cX1_search 12 = .ok (.bipush (-2), 2) := by decide +kernel
theorem dX1_search_14 : decode cX1_search 14 = .ok (.putfield 25, 3) := by decide +kernel
theorem dX1_search_17 : decode cX1_search 17 = .ok (.aload_n 0, 1) := by decide +kernel
theorem dX1_search_18 : decode cX1_search 18 = .ok (.bipush (-2), 2) := by decide +kernel
theorem dX1_search_20 : decode cX1_search 20 = .ok (.putfield 28, 3) := by decide +kernel
theorem dX1_search_23 : decode cX1_search 23 = .ok (.iconst 0, 1) := by decide +kernel
theorem dX1_search_24 : decode cX1_search 24 = .ok (.istore_n 3, 1) := by decide +kernel
theorem dX1_search_25 : decode cX1_search 25 = .ok (.iload_n 3, 1) := by decide +kernel
theorem dX1_search_26 : decode cX1_search 26 = .ok (.iconst 1, 1) := by decide +kernel
theorem dX1_search_27 : decode cX1_search 27 = .ok (.aload_n 1, 1) := by decide +kernel
theorem dX1_search_28 : decode cX1_search 28 = .ok (.getfield 31, 3) := by decide +kernel
theorem dX1_search_31 : decode cX1_search 31 = .ok (.ishl, 1) := by decide +kernel
theorem dX1_search_32 : decode cX1_search 32 = .ok (.if_icmp .ge 34, 3) := by decide +kernel
theorem dX1_search_35 : decode cX1_search 35 = .ok (.iload_n 3, 1) := by decide +kernel
theorem dX1_search_36 : decode cX1_search 36 = .ok (.aload_n 2, 1) := by decide +kernel
theorem dX1_search_37 : decode cX1_search 37 = .ok (.getfield 36, 3) := by decide +kernel
theorem dX1_search_40 : decode cX1_search 40 = .ok (.iand, 1) := by decide +kernel
theorem dX1_search_41 : decode cX1_search 41 = .ok (.ifCond .ne 19, 3) := by decide +kernel
theorem dX1_search_44 : decode cX1_search 44 = .ok (.aload_n 0, 1) := by decide +kernel
theorem dX1_search_45 : decode cX1_search 45 = .ok (.aload_n 1, 1) := by decide +kernel
theorem dX1_search_46 : decode cX1_search 46 = .ok (.aload_n 2, 1) := by decide +kernel
theorem dX1_search_47 : decode cX1_search 47 = .ok (.iload_n 3, 1) := by decide +kernel
theorem dX1_search_48 : decode cX1_search 48 = .ok (.invokevirtual 41, 3) := by decide +kernel
theorem dX1_search_51 : decode cX1_search 51 = .ok (.ifCond .eq 9, 3) := by decide +kernel
theorem dX1_search_54 : decode cX1_search 54 = .ok (.aload_n 0, 1) := by decide +kernel
theorem dX1_search_55 : decode cX1_search 55 = .ok (.aload_n 1, 1) := by decide +kernel
theorem dX1_search_56 : decode cX1_search 56 = .ok (.iload_n 3, 1) := by decide +kernel
theorem dX1_search_57 : decode cX1_search 57 = .ok (.invokevirtual 45, 3) := by decide +kernel
theorem dX1_search_60 : decode cX1_search 60 = .ok (.iinc 3 1, 3) := by decide +kernel
theorem dX1_search_63 : decode cX1_search 63 = .ok (.goto (-38), 3) := by decide +kernel
theorem dX1_search_66 : decode cX1_search 66 = .ok (.return_, 1) := by decide +kernel
theorem dX1_holds_0 : decode cX1_holds 0 = .ok (.aload_n 0, 1) := by decide +kernel
theorem dX1_holds_1 : decode cX1_holds 1 = .ok (.getfield 12, 3) := by decide +kernel
theorem dX1_holds_4 : decode cX1_holds 4 = .ok (.aload_n 1, 1) := by decide +kernel
theorem dX1_holds_5 : decode cX1_holds 5 = .ok (.iload_n 3, 1) := by decide +kernel
theorem dX1_holds_6 : decode cX1_holds 6 = .ok (.aload_n 2, 1) := by decide +kernel
theorem dX1_holds_7 : decode cX1_holds 7 = .ok (.getfield 49, 3) := by decide +kernel
theorem dX1_holds_10 : decode cX1_holds 10 = .ok (.invokevirtual 52, 3) := by decide +kernel
theorem dX1_holds_13 : decode cX1_holds 13 = .ok (.aload_n 0, 1) := by decide +kernel
theorem dX1_holds_14 : decode cX1_holds 14 = .ok (.getfield 12, 3) := by decide +kernel
theorem dX1_holds_17 : decode cX1_holds 17 = .ok (.aload_n 1, 1) := by decide +kernel
theorem dX1_holds_18 : decode cX1_holds 18 = .ok (.invokevirtual 56, 3) := by decide +kernel
theorem dX1_holds_21 : decode cX1_holds 21 = .ok (.ifCond .ne 30, 3) := by decide +kernel
theorem dX1_holds_24 : decode cX1_holds 24 = .ok (.aload_n 0, 1) := by decide +kernel
theorem dX1_holds_25 : decode cX1_holds 25 = .ok (.getfield 12, 3) := by decide +kernel
theorem dX1_holds_28 : decode cX1_holds 28 = .ok (.getfield 60, 3) := by decide +kernel
theorem dX1_holds_31 : decode cX1_holds 31 = .ok (.ifCond .ne 20, 3) := by decide +kernel
theorem dX1_holds_34 : decode cX1_holds 34 = .ok (.aload_n 0, 1) := by decide +kernel
theorem dX1_holds_35 : decode cX1_holds 35 = .ok (.getfield 12, 3) := by decide +kernel
theorem dX1_holds_38 : decode cX1_holds 38 = .ok (.aload_n 1, 1) := by decide +kernel
theorem dX1_holds_39 : decode cX1_holds 39 = .ok (.aload_n 2, 1) := by decide +kernel
theorem dX1_holds_40 : decode cX1_holds 40 = .ok (.iload_n 3, 1) := by decide +kernel
theorem dX1_holds_41 : decode cX1_holds 41 = .ok (.invokevirtual 63, 3) := by decide +kernel
theorem dX1_holds_44 : decode cX1_holds 44 = .ok (.ifCond .ne 7, 3) := by decide +kernel
theorem dX1_holds_47 : decode cX1_holds 47 = .ok (.iconst 1, 1) := by decide +kernel
theorem dX1_holds_48 : decode cX1_holds 48 = .ok (.goto 4, 3) := by decide +kernel
theorem dX1_holds_51 : decode cX1_holds 51 = .ok (.iconst 0, 1) := by decide +kernel
theorem dX1_holds_52 : decode cX1_holds 52 = .ok (.ireturn, 1) := by decide +kernel
theorem dX1_take_0 : decode cX1_take 0 = .ok (.aload_n 0, 1) := by decide +kernel
theorem dX1_take_1 : decode cX1_take 1 = .ok (.getfield 18, 3) := by decide +kernel
theorem dX1_take_4 : decode cX1_take 4 = .ok (.ifCond .eq 17, 3) := by decide +kernel
theorem dX1_take_7 : decode cX1_take 7 = .ok (.iload_n 2, 1) := by decide +kernel
theorem dX1_take_8 : decode cX1_take 8 = .ok (.invokestatic 67, 3) := by decide +kernel
theorem dX1_take_11 : decode cX1_take 11 = .ok (.aload_n 0, 1) := by decide +kernel
theorem dX1_take_12 : decode cX1_take 12 = .ok (.getfield 22, 3) := by decide +kernel
theorem dX1_take_15 : decode cX1_take 15 = .ok (.invokestatic 67, 3) := by decide +kernel
theorem dX1_take_18 : decode cX1_take 18 = .ok (.if_icmp .ge 8, 3) := by decide +kernel
theorem dX1_take_21 : decode cX1_take 21 = .ok (.aload_n 0, 1) := by decide +kernel
theorem dX1_take_22 : decode cX1_take 22 = .ok (.iload_n 2, 1) := by decide +kernel
theorem dX1_take_23 : decode cX1_take 23 = .ok (.putfield 22, 3) := by decide +kernel
theorem dX1_take_26 : decode cX1_take 26 = .ok (.aload_n 0, 1) := by decide +kernel
theorem dX1_take_27 : decode cX1_take 27 = .ok (.aload_n 1, 1) := by decide +kernel
theorem dX1_take_28 : decode cX1_take 28 = .ok (.iload_n 2, 1) := by decide +kernel
theorem dX1_take_29 : decode cX1_take 29 = .ok (.invokevirtual 73, 3) := by decide +kernel
theorem dX1_take_32 : decode cX1_take 32 = .ok (.istore_n 3, 1) := by decide +kernel
theorem dX1_take_33 : decode cX1_take 33 = .ok (.aload_n 0, 1) := by decide +kernel
theorem dX1_take_34 : decode cX1_take 34 = .ok (.getfield 18, 3) := by decide +kernel
theorem dX1_take_37 : decode cX1_take 37 = .ok (.ifCond .eq 11, 3) := by decide +kernel
theorem dX1_take_40 : decode cX1_take 40 = .ok (.iload_n 3, 1) := by decide +kernel
theorem dX1_take_41 : decode cX1_take 41 = .ok (.aload_n 0, 1) := by decide +kernel
theorem dX1_take_42 : decode cX1_take 42 = .ok (.getfield 28, 3) := by decide +kernel
theorem dX1_take_45 : decode cX1_take 45 = .ok (.if_icmp .ge 13, 3) := by decide +kernel
theorem dX1_take_48 : decode cX1_take 48 = .ok (.aload_n 0, 1) := by decide +kernel
theorem dX1_take_49 : decode cX1_take 49 = .ok (.iload_n 2, 1) := by decide +kernel
theorem dX1_take_50 : decode cX1_take 50 = .ok (.putfield 25, 3) := by decide +kernel
theorem dX1_take_53 : decode cX1_take 53 = .ok (.aload_n 0, 1) := by decide +kernel
theorem dX1_take_54 : decode cX1_take 54 = .ok (.iload_n 3, 1) := by decide +kernel
theorem dX1_take_55 : decode cX1_take 55 = .ok (.putfield 28, 3) := by decide +kernel
theorem dX1_take_58 : decode cX1_take 58 = .ok (.aload_n 0, 1) := by decide +kernel
theorem dX1_take_59 : decode cX1_take 59 = .ok (.dup, 1) := by decide +kernel
theorem dX1_take_60 : decode cX1_take 60 = .ok (.getfield 18, 3) := by decide +kernel
theorem dX1_take_63 : decode cX1_take 63 = .ok (.iconst 1, 1) := by decide +kernel
theorem dX1_take_64 : decode cX1_take 64 = .ok (.iadd, 1) := by decide +kernel
theorem dX1_take_65 : decode cX1_take 65 = .ok (.putfield 18, 3) := by decide +kernel
theorem dX1_take_68 : decode cX1_take 68 = .ok (.return_, 1) := by decide +kernel
theorem dX1_lacedWidths_0 : decode cX1_lacedWidths 0 = .ok (.iconst 0, 1) := by decide +kernel
theorem dX1_lacedWidths_1 : decode cX1_lacedWidths 1 = .ok (.istore_n 3, 1) := by decide +kernel
theorem dX1_lacedWidths_2 : decode cX1_lacedWidths 2 = .ok (.iconst 0, 1) := by decide +kernel
theorem dX1_lacedWidths_3 : decode cX1_lacedWidths 3 = .ok (.istore 4, 2) := by decide +kernel
theorem dX1_lacedWidths_5 : decode cX1_lacedWidths 5 = .ok (.iload 4, 2) := by decide +kernel
theorem dX1_lacedWidths_7 : decode cX1_lacedWidths 7 = .ok (.aload_n 1, 1) := by decide +kernel
theorem dX1_lacedWidths_8 : decode cX1_lacedWidths 8 = .ok (.getfield 77, 3) := by decide +kernel
theorem dX1_lacedWidths_11 : decode cX1_lacedWidths 11 = .ok (.if_icmp .ge 32, 3) := by decide +kernel
theorem dX1_lacedWidths_14 : decode cX1_lacedWidths 14 = .ok (.aload_n 1, 1) := by decide +kernel
theorem dX1_lacedWidths_15 : decode cX1_lacedWidths 15 = .ok (.iload_n 2, 1) := by decide +kernel
theorem dX1_lacedWidths_16 : decode cX1_lacedWidths 16 = .ok (.iload 4, 2) := by decide +kernel
theorem dX1_lacedWidths_18 : decode cX1_lacedWidths 18 = .ok (.invokestatic 80, 3) := by decide +kernel
theorem dX1_lacedWidths_21 : decode cX1_lacedWidths 21 = .ok (.ifCond .eq 16, 3) := by decide +kernel
theorem dX1_lacedWidths_24 : decode cX1_lacedWidths 24 = .ok (.iload_n 3, 1) := by decide +kernel
theorem dX1_lacedWidths_25 : decode cX1_lacedWidths 25 = .ok (.aload_n 0, 1) := by decide +kernel
theorem dX1_lacedWidths_26 : decode cX1_lacedWidths 26 = .ok (.getfield 12, 3) := by decide +kernel
theorem dX1_lacedWidths_29 : decode cX1_lacedWidths 29 = .ok (.getfield 84, 3) := by decide +kernel
theorem dX1_lacedWidths_32 : decode cX1_lacedWidths 32 = .ok (.iload 4, 2) := by decide +kernel
theorem dX1_lacedWidths_34 : decode cX1_lacedWidths 34 = .ok (.iaload, 1) := by decide +kernel
theorem dX1_lacedWidths_35 : decode cX1_lacedWidths 35 = .ok (.iadd, 1) := by decide +kernel
theorem dX1_lacedWidths_36 : decode cX1_lacedWidths 36 = .ok (.istore_n 3, 1) := by decide +kernel
theorem dX1_lacedWidths_37 : decode cX1_lacedWidths 37 = .ok (.iinc 4 1, 3) := by decide +kernel
theorem dX1_lacedWidths_40 : decode cX1_lacedWidths 40 = .ok (.goto (-35), 3) := by decide +kernel
theorem dX1_lacedWidths_43 : decode cX1_lacedWidths 43 = .ok (.iload_n 3, 1) := by decide +kernel
theorem dX1_lacedWidths_44 : decode cX1_lacedWidths 44 = .ok (.ireturn, 1) := by decide +kernel
theorem dX1_hasLaced_0 : decode cX1_hasLaced 0 = .ok (.iconst 0, 1) := by decide +kernel
theorem dX1_hasLaced_1 : decode cX1_hasLaced 1 = .ok (.istore_n 3, 1) := by decide +kernel
theorem dX1_hasLaced_2 : decode cX1_hasLaced 2 = .ok (.iload_n 3, 1) := by decide +kernel
theorem dX1_hasLaced_3 : decode cX1_hasLaced 3 = .ok (.aload_n 0, 1) := by decide +kernel
theorem dX1_hasLaced_4 : decode cX1_hasLaced 4 = .ok (.getfield 31, 3) := by decide +kernel
theorem dX1_hasLaced_7 : decode cX1_hasLaced 7 = .ok (.if_icmp .ge 29, 3) := by decide +kernel
theorem dX1_hasLaced_10 : decode cX1_hasLaced 10 = .ok (.iload_n 1, 1) := by decide +kernel
theorem dX1_hasLaced_11 : decode cX1_hasLaced 11 = .ok (.iload_n 3, 1) := by decide +kernel
theorem dX1_hasLaced_12 : decode cX1_hasLaced 12 = .ok (.invokestatic 88, 3) := by decide +kernel
theorem dX1_hasLaced_15 : decode cX1_hasLaced 15 = .ok (.ifCond .eq 15, 3) := by decide +kernel
theorem dX1_hasLaced_18 : decode cX1_hasLaced 18 = .ok (.aload_n 0, 1) := by decide +kernel
theorem dX1_hasLaced_19 : decode cX1_hasLaced 19 = .ok (.getfield 92, 3) := by decide +kernel
theorem dX1_hasLaced_22 : decode cX1_hasLaced 22 = .ok (.iload_n 3, 1) := by decide +kernel
theorem dX1_hasLaced_23 : decode cX1_hasLaced 23 = .ok (.iaload, 1) := by decide +kernel
theorem dX1_hasLaced_24 : decode cX1_hasLaced 24 = .ok (.iload_n 2, 1) := by decide +kernel
theorem dX1_hasLaced_25 : decode cX1_hasLaced 25 = .ok (.if_icmp .ne 5, 3) := by decide +kernel
theorem dX1_hasLaced_28 : decode cX1_hasLaced 28 = .ok (.iconst 1, 1) := by decide +kernel
theorem dX1_hasLaced_29 : decode cX1_hasLaced 29 = .ok (.ireturn, 1) := by decide +kernel
theorem dX1_hasLaced_30 : decode cX1_hasLaced 30 = .ok (.iinc 3 1, 3) := by decide +kernel
theorem dX1_hasLaced_33 : decode cX1_hasLaced 33 = .ok (.goto (-31), 3) := by decide +kernel
theorem dX1_hasLaced_36 : decode cX1_hasLaced 36 = .ok (.iconst 0, 1) := by decide +kernel
theorem dX1_hasLaced_37 : decode cX1_hasLaced 37 = .ok (.ireturn, 1) := by decide +kernel
theorem dX1_searchChange_0 : decode cX1_searchChange 0 = .ok (.aload_n 0, 1) := by decide +kernel
theorem dX1_searchChange_1 : decode cX1_searchChange 1 = .ok (.bipush (-2), 2) := by decide +kernel
theorem dX1_searchChange_3 : decode cX1_searchChange 3 = .ok (.putfield 95, 3) := by decide +kernel
theorem dX1_searchChange_6 : decode cX1_searchChange 6 = .ok (.aload_n 0, 1) := by decide +kernel
theorem dX1_searchChange_7 : decode cX1_searchChange 7 = .ok (.bipush (-2), 2) := by decide +kernel
theorem dX1_searchChange_9 : decode cX1_searchChange 9 = .ok (.putfield 98, 3) := by decide +kernel
theorem dX1_searchChange_12 : decode cX1_searchChange 12 = .ok (.aload_n 0, 1) := by decide +kernel
theorem dX1_searchChange_13 : decode cX1_searchChange 13 = .ok (.getfield 12, 3) := by decide +kernel
theorem dX1_searchChange_16 : decode cX1_searchChange 16 = .ok (.aload_n 1, 1) := by decide +kernel
theorem dX1_searchChange_17 : decode cX1_searchChange 17 = .ok (.aload_n 2, 1) := by decide +kernel
theorem dX1_searchChange_18 : decode cX1_searchChange 18 = .ok (.getfield 101, 3) := by decide +kernel
theorem dX1_searchChange_21 : decode cX1_searchChange 21 = .ok (.aload_n 2, 1) := by decide +kernel
theorem dX1_searchChange_22 : decode cX1_searchChange 22 = .ok (.getfield 49, 3) := by decide +kernel
theorem dX1_searchChange_25 : decode cX1_searchChange 25 = .ok (.invokevirtual 52, 3) := by decide +kernel
theorem dX1_searchChange_28 : decode cX1_searchChange 28 = .ok (.aload_n 0, 1) := by decide +kernel
theorem dX1_searchChange_29 : decode cX1_searchChange 29 = .ok (.getfield 12, 3) := by decide +kernel
theorem dX1_searchChange_32 : decode cX1_searchChange 32 = .ok (.getfield 104, 3) := by decide +kernel
theorem dX1_searchChange_35 : decode cX1_searchChange 35 = .ok (.istore_n 3, 1) := by decide +kernel
theorem dX1_searchChange_36 : decode cX1_searchChange 36 = .ok (.iconst 0, 1) := by decide +kernel
theorem dX1_searchChange_37 : decode cX1_searchChange 37 = .ok (.istore 4, 2) := by decide +kernel
theorem dX1_searchChange_39 : decode cX1_searchChange 39 = .ok (.iload 4, 2) := by decide +kernel
theorem dX1_searchChange_41 : decode cX1_searchChange 41 = .ok (.aload_n 1, 1) := by decide +kernel
theorem dX1_searchChange_42 : decode cX1_searchChange 42 = .ok (.getfield 31, 3) := by decide +kernel
theorem dX1_searchChange_45 : decode cX1_searchChange 45 = .ok (.if_icmp .ge 72, 3) := by decide +kernel
theorem dX1_searchChange_48 : decode cX1_searchChange 48 = .ok (.aload_n 2, 1) := by decide +kernel
theorem dX1_searchChange_49 : decode cX1_searchChange 49 = .ok (.getfield 36, 3) := by decide +kernel
theorem dX1_searchChange_52 : decode cX1_searchChange 52 = .ok (.iload 4, 2) := by decide +kernel
theorem dX1_searchChange_54 : decode cX1_searchChange 54 = .ok (.invokestatic 88, 3) := by decide +kernel
theorem dX1_searchChange_57 : decode cX1_searchChange 57 = .ok (.ifCond .ne 54, 3) := by decide +kernel
theorem dX1_searchChange_60 : decode cX1_searchChange 60 = .ok (.aload_n 0, 1) := by decide +kernel
theorem dX1_searchChange_61 : decode cX1_searchChange 61 = .ok (.getfield 12, 3) := by decide +kernel
theorem dX1_searchChange_64 : decode cX1_searchChange 64 = .ok (.aload_n 1, 1) := by decide +kernel
theorem dX1_searchChange_65 : decode cX1_searchChange 65 = .ok (.aload_n 2, 1) := by decide +kernel
theorem dX1_searchChange_66 : decode cX1_searchChange 66 = .ok (.getfield 101, 3) := by decide +kernel
theorem dX1_searchChange_69 : decode cX1_searchChange 69 = .ok (.iconst 1, 1) := by decide +kernel
theorem dX1_searchChange_70 : decode cX1_searchChange 70 = .ok (.iload 4, 2) := by decide +kernel
theorem dX1_searchChange_72 : decode cX1_searchChange 72 = .ok (.ishl, 1) := by decide +kernel
theorem dX1_searchChange_73 : decode cX1_searchChange 73 = .ok (.ixor, 1) := by decide +kernel
theorem dX1_searchChange_74 : decode cX1_searchChange 74 = .ok (.aload_n 2, 1) := by decide +kernel
theorem dX1_searchChange_75 : decode cX1_searchChange 75 = .ok (.getfield 49, 3) := by decide +kernel
theorem dX1_searchChange_78 : decode cX1_searchChange 78 = .ok (.invokevirtual 52, 3) := by decide +kernel
theorem dX1_searchChange_81 : decode cX1_searchChange 81 = .ok (.aload_n 0, 1) := by decide +kernel
theorem dX1_searchChange_82 : decode cX1_searchChange 82 = .ok (.getfield 12, 3) := by decide +kernel
theorem dX1_searchChange_85 : decode cX1_searchChange 85 = .ok (.getfield 104, 3) := by decide +kernel
theorem dX1_searchChange_88 : decode cX1_searchChange 88 = .ok (.iload_n 3, 1) := by decide +kernel
theorem dX1_searchChange_89 : decode cX1_searchChange 89 = .ok (.if_icmp .ge 22, 3) := by decide +kernel
theorem dX1_searchChange_92 : decode cX1_searchChange 92 = .ok (.aload_n 0, 1) := by decide +kernel
theorem dX1_searchChange_93 : decode cX1_searchChange 93 = .ok (.getfield 12, 3) := by decide +kernel
theorem dX1_searchChange_96 : decode cX1_searchChange 96 = .ok (.getfield 104, 3) := by decide +kernel
theorem dX1_searchChange_99 : decode cX1_searchChange 99 = .ok (.istore_n 3, 1) := by decide +kernel
theorem dX1_searchChange_100 : decode cX1_searchChange 100 = .ok (.aload_n 0, 1) := by decide +kernel
theorem dX1_searchChange_101 : decode cX1_searchChange 101 = .ok (.iload 4, 2) := by decide +kernel
theorem dX1_searchChange_103 : decode cX1_searchChange 103 = .ok (.putfield 95, 3) := by decide +kernel
theorem dX1_searchChange_106 : decode cX1_searchChange 106 = .ok (.aload_n 0, 1) := by decide +kernel
theorem dX1_searchChange_107 : decode cX1_searchChange 107 = .ok (.iload_n 3, 1) := by decide +kernel
theorem dX1_searchChange_108 : decode cX1_searchChange 108 = .ok (.putfield 98, 3) := by decide +kernel
theorem dX1_searchChange_111 : decode cX1_searchChange 111 = .ok (.iinc 4 1, 3) := by decide +kernel
theorem dX1_searchChange_114 : decode cX1_searchChange 114 = .ok (.goto (-75), 3) := by decide +kernel
theorem dX1_searchChange_117 : decode cX1_searchChange 117 = .ok (.return_, 1) := by decide +kernel
theorem dX2_init_0 : decode cX2_init 0 = .ok (.aload_n 0, 1) := by decide +kernel
theorem dX2_init_1 : decode cX2_init 1 = .ok (.invokespecial 3, 3) := by decide +kernel
theorem dX2_init_4 : decode cX2_init 4 = .ok (.aload_n 0, 1) := by decide +kernel
theorem dX2_init_5 : decode cX2_init 5 = .ok (.bipush 16, 2) := by decide +kernel
theorem dX2_init_7 : decode cX2_init 7 = .ok (.anewarray 9, 3) := by decide +kernel
theorem dX2_init_10 : decode cX2_init 10 = .ok (.putfield 11, 3) := by decide +kernel
theorem dX2_init_13 : decode cX2_init 13 = .ok (.aload_n 0, 1) := by decide +kernel
theorem dX2_init_14 : decode cX2_init 14 = .ok (.iconst 3, 1) := by decide +kernel
theorem dX2_init_15 : decode cX2_init 15 = .ok (.anewarray 9, 3) := by decide +kernel
theorem dX2_init_18 : decode cX2_init 18 = .ok (.putfield 17, 3) := by decide +kernel
theorem dX2_init_21 : decode cX2_init 21 = .ok (.iconst 0, 1) := by decide +kernel
theorem dX2_init_22 : decode cX2_init 22 = .ok (.istore_n 1, 1) := by decide +kernel
theorem dX2_init_23 : decode cX2_init 23 = .ok (.iload_n 1, 1) := by decide +kernel
theorem dX2_init_24 : decode cX2_init 24 = .ok (.bipush 16, 2) := by decide +kernel
theorem dX2_init_26 : decode cX2_init 26 = .ok (.if_icmp .ge 22, 3) := by decide +kernel
theorem dX2_init_29 : decode cX2_init 29 = .ok (.aload_n 0, 1) := by decide +kernel
theorem dX2_init_30 : decode cX2_init 30 = .ok (.getfield 11, 3) := by decide +kernel
theorem dX2_init_33 : decode cX2_init 33 = .ok (.iload_n 1, 1) := by decide +kernel
theorem dX2_init_34 : decode cX2_init 34 = .ok (.new 9, 3) := by decide +kernel
theorem dX2_init_37 : decode cX2_init 37 = .ok (.dup, 1) := by decide +kernel
theorem dX2_init_38 : decode cX2_init 38 = .ok (.invokespecial 20, 3) := by decide +kernel
theorem dX2_init_41 : decode cX2_init 41 = .ok (.aastore, 1) := by decide +kernel
theorem dX2_init_42 : decode cX2_init 42 = .ok (.iinc 1 1, 3) := by decide +kernel
theorem dX2_init_45 : decode cX2_init 45 = .ok (.goto (-22), 3) := by decide +kernel
theorem dX2_init_48 : decode cX2_init 48 = .ok (.iconst 0, 1) := by decide +kernel
theorem dX2_init_49 : decode cX2_init 49 = .ok (.istore_n 1, 1) := by decide +kernel
theorem dX2_init_50 : decode cX2_init 50 = .ok (.iload_n 1, 1) := by decide +kernel
theorem dX2_init_51 : decode cX2_init 51 = .ok (.iconst 3, 1) := by decide +kernel
theorem dX2_init_52 : decode cX2_init 52 = .ok (.if_icmp .ge 22, 3) := by decide +kernel
theorem dX2_init_55 : decode cX2_init 55 = .ok (.aload_n 0, 1) := by decide +kernel
theorem dX2_init_56 : decode cX2_init 56 = .ok (.getfield 17, 3) := by decide +kernel
theorem dX2_init_59 : decode cX2_init 59 = .ok (.iload_n 1, 1) := by decide +kernel
theorem dX2_init_60 : decode cX2_init 60 = .ok (.new 9, 3) := by decide +kernel
theorem dX2_init_63 : decode cX2_init 63 = .ok (.dup, 1) := by decide +kernel
theorem dX2_init_64 : decode cX2_init 64 = .ok (.invokespecial 20, 3) := by decide +kernel
theorem dX2_init_67 : decode cX2_init 67 = .ok (.aastore, 1) := by decide +kernel
theorem dX2_init_68 : decode cX2_init 68 = .ok (.iinc 1 1, 3) := by decide +kernel
theorem dX2_init_71 : decode cX2_init 71 = .ok (.goto (-21), 3) := by decide +kernel
theorem dX2_init_74 : decode cX2_init 74 = .ok (.return_, 1) := by decide +kernel
theorem dX2_forget_0 : decode cX2_forget 0 = .ok (.aload_n 0, 1) := by decide +kernel
theorem dX2_forget_1 : decode cX2_forget 1 = .ok (.iconst 0, 1) := by decide +kernel
theorem dX2_forget_2 : decode cX2_forget 2 = .ok (.putfield 21, 3) := by decide +kernel
theorem dX2_forget_5 : decode cX2_forget 5 = .ok (.aload_n 0, 1) := by decide +kernel
theorem dX2_forget_6 : decode cX2_forget 6 = .ok (.iconst 0, 1) := by decide +kernel
theorem dX2_forget_7 : decode cX2_forget 7 = .ok (.putfield 25, 3) := by decide +kernel
theorem dX2_forget_10 : decode cX2_forget 10 = .ok (.aload_n 0, 1) := by decide +kernel
theorem dX2_forget_11 : decode cX2_forget 11 = .ok (.iconst 0, 1) := by decide +kernel
theorem dX2_forget_12 : decode cX2_forget 12 = .ok (.putfield 28, 3) := by decide +kernel
theorem dX2_forget_15 : decode cX2_forget 15 = .ok (.return_, 1) := by decide +kernel
theorem dX2_keep_0 : decode cX2_keep 0 = .ok (.aload_n 0, 1) := by decide +kernel
theorem dX2_keep_1 : decode cX2_keep 1 = .ok (.getfield 25, 3) := by decide +kernel
theorem dX2_keep_4 : decode cX2_keep 4 = .ok (.bipush 16, 2) := by decide +kernel
theorem dX2_keep_6 : decode cX2_keep 6 = .ok (.if_icmp .ne 26, 3) := by decide +kernel
theorem dX2_keep_9 : decode cX2_keep 9 = .ok (.aload_n 0, 1) := by decide +kernel
theorem dX2_keep_10 : decode cX2_keep 10 = .ok (.aload_n 0, 1) := by decide +kernel
theorem dX2_keep_11 : decode cX2_keep 11 = .ok (.getfield 21, 3) := by decide +kernel
theorem dX2_keep_14 : decode cX2_keep 14 = .ok (.iconst 1, 1) := by decide +kernel
theorem dX2_keep_15 : decode cX2_keep 15 = .ok (.iadd, 1) := by decide +kernel
theorem dX2_keep_16 : decode cX2_keep 16 = .ok (.bipush 16, 2) := by decide +kernel
theorem dX2_keep_18 : decode cX2_keep 18 = .ok (.irem, 1) := by decide +kernel
theorem dX2_keep_19 : decode cX2_keep 19 = .ok (.putfield 21, 3) := by decide +kernel
theorem dX2_keep_22 : decode cX2_keep 22 = .ok (.aload_n 0, 1) := by decide +kernel
theorem dX2_keep_23 : decode cX2_keep 23 = .ok (.dup, 1) := by decide +kernel
theorem dX2_keep_24 : decode cX2_keep 24 = .ok (.getfield 25, 3) := by decide +kernel
theorem dX2_keep_27 : decode cX2_keep 27 = .ok (.iconst 1, 1) := by decide +kernel
theorem dX2_keep_28 : decode cX2_keep 28 = .ok (.isub, 1) := by decide +kernel
theorem dX2_keep_29 : decode cX2_keep 29 = .ok (.putfield 25, 3) := by decide +kernel
theorem dX2_keep_32 : decode cX2_keep 32 = .ok (.aload_n 0, 1) := by decide +kernel
theorem dX2_keep_33 : decode cX2_keep 33 = .ok (.getfield 11, 3) := by decide +kernel
theorem dX2_keep_36 : decode cX2_keep 36 = .ok (.aload_n 0, 1) := by decide +kernel
theorem dX2_keep_37 : decode cX2_keep 37 = .ok (.getfield 21, 3) := by decide +kernel
theorem dX2_keep_40 : decode cX2_keep 40 = .ok (.aload_n 0, 1) := by decide +kernel
theorem dX2_keep_41 : decode cX2_keep 41 = .ok (.getfield 25, 3) := by decide +kernel
theorem dX2_keep_44 : decode cX2_keep 44 = .ok (.iadd, 1) := by decide +kernel
theorem dX2_keep_45 : decode cX2_keep 45 = .ok (.bipush 16, 2) := by decide +kernel
theorem dX2_keep_47 : decode cX2_keep 47 = .ok (.irem, 1) := by decide +kernel
theorem dX2_keep_48 : decode cX2_keep 48 = .ok (.aaload, 1) := by decide +kernel
theorem dX2_keep_49 : decode cX2_keep 49 = .ok (.aload_n 1, 1) := by decide +kernel
theorem dX2_keep_50 : decode cX2_keep 50 = .ok (.invokevirtual 31, 3) := by decide +kernel
theorem dX2_keep_53 : decode cX2_keep 53 = .ok (.aload_n 0, 1) := by decide +kernel
theorem dX2_keep_54 : decode cX2_keep 54 = .ok (.dup, 1) := by decide +kernel
theorem dX2_keep_55 : decode cX2_keep 55 = .ok (.getfield 25, 3) := by decide +kernel
theorem dX2_keep_58 : decode cX2_keep 58 = .ok (.iconst 1, 1) := by decide +kernel
theorem dX2_keep_59 : decode cX2_keep 59 = .ok (.iadd, 1) := by decide +kernel
theorem dX2_keep_60 : decode cX2_keep 60 = .ok (.putfield 25, 3) := by decide +kernel
theorem dX2_keep_63 : decode cX2_keep 63 = .ok (.return_, 1) := by decide +kernel
theorem dX2_restore_0 : decode cX2_restore 0 = .ok (.aload_n 0, 1) := by decide +kernel
theorem dX2_restore_1 : decode cX2_restore 1 = .ok (.getfield 25, 3) := by decide +kernel
theorem dX2_restore_4 : decode cX2_restore 4 = .ok (.ifCond .le 34, 3) := by decide +kernel
theorem dX2_restore_7 : decode cX2_restore 7 = .ok (.aload_n 0, 1) := by decide +kernel
theorem dX2_restore_8 : decode cX2_restore 8 = .ok (.dup, 1) := by decide +kernel
theorem dX2_restore_9 : decode cX2_restore 9 = .ok (.getfield 25, 3) := by decide +kernel
theorem dX2_restore_12 : decode cX2_restore 12 = .ok (.iconst 1, 1) := by decide +kernel
theorem dX2_restore_13 : decode cX2_restore 13 = .ok (.isub, 1) := by decide +kernel
theorem dX2_restore_14 : decode cX2_restore 14 = .ok (.putfield 25, 3) := by decide +kernel
theorem dX2_restore_17 : decode cX2_restore 17 = .ok (.aload_n 1, 1) := by decide +kernel
theorem dX2_restore_18 : decode cX2_restore 18 = .ok (.aload_n 0, 1) := by decide +kernel
theorem dX2_restore_19 : decode cX2_restore 19 = .ok (.getfield 11, 3) := by decide +kernel
theorem dX2_restore_22 : decode cX2_restore 22 = .ok (.aload_n 0, 1) := by decide +kernel
theorem dX2_restore_23 : decode cX2_restore 23 = .ok (.getfield 21, 3) := by decide +kernel
theorem dX2_restore_26 : decode cX2_restore 26 = .ok (.aload_n 0, 1) := by decide +kernel
theorem dX2_restore_27 : decode cX2_restore 27 = .ok (.getfield 25, 3) := by decide +kernel
theorem dX2_restore_30 : decode cX2_restore 30 = .ok (.iadd, 1) := by decide +kernel
theorem dX2_restore_31 : decode cX2_restore 31 = .ok (.bipush 16, 2) := by decide +kernel
theorem dX2_restore_33 : decode cX2_restore 33 = .ok (.irem, 1) := by decide +kernel
theorem dX2_restore_34 : decode cX2_restore 34 = .ok (.aaload, 1) := by decide +kernel
theorem dX2_restore_35 : decode cX2_restore 35 = .ok (.invokevirtual 31, 3) := by decide +kernel
theorem dX2_restore_38 : decode cX2_restore 38 = .ok (.return_, 1) := by decide +kernel
theorem dX2_addMark_0 : decode cX2_addMark 0 = .ok (.aload_n 0, 1) := by decide +kernel
theorem dX2_addMark_1 : decode cX2_addMark 1 = .ok (.getfield 28, 3) := by decide +kernel
theorem dX2_addMark_4 : decode cX2_addMark 4 = .ok (.iconst 3, 1) := by decide +kernel
theorem dX2_addMark_5 : decode cX2_addMark 5 = .ok (.if_icmp .lt 5, 3) := by decide +kernel
theorem dX2_addMark_8 : decode cX2_addMark 8 = .ok (.iconst (-1), 1) := by decide +kernel
theorem dX2_addMark_9 : decode cX2_addMark 9 = .ok (.ireturn, 1) := by decide +kernel
theorem dX2_addMark_10 : decode cX2_addMark 10 = .ok (.aload_n 0, 1) := by decide +kernel
theorem dX2_addMark_11 : decode cX2_addMark 11 = .ok (.getfield 17, 3) := by decide +kernel
theorem dX2_addMark_14 : decode cX2_addMark 14 = .ok (.aload_n 0, 1) := by decide +kernel
theorem dX2_addMark_15 : decode cX2_addMark 15 = .ok (.getfield 28, 3) := by decide +kernel
theorem dX2_addMark_18 : decode cX2_addMark 18 = .ok (.aaload, 1) := by decide +kernel
theorem dX2_addMark_19 : decode cX2_addMark 19 = .ok (.aload_n 1, 1) := by decide +kernel
theorem dX2_addMark_20 : decode cX2_addMark 20 = .ok (.invokevirtual 31, 3) := by decide +kernel
theorem dX2_addMark_23 : decode cX2_addMark 23 = .ok (.aload_n 0, 1) := by decide +kernel
theorem dX2_addMark_24 : decode cX2_addMark 24 = .ok (.dup, 1) := by decide +kernel
theorem dX2_addMark_25 : decode cX2_addMark 25 = .ok (.getfield 28, 3) := by decide +kernel
theorem dX2_addMark_28 : decode cX2_addMark 28 = .ok (.iconst 1, 1) := by decide +kernel
theorem dX2_addMark_29 : decode cX2_addMark 29 = .ok (.iadd, 1) := by decide +kernel
theorem dX2_addMark_30 : decode cX2_addMark 30 = .ok (.putfield 28, 3) := by decide +kernel
theorem dX2_addMark_33 : decode cX2_addMark 33 = .ok (.aload_n 0, 1) := by decide +kernel
theorem dX2_addMark_34 : decode cX2_addMark 34 = .ok (.getfield 28, 3) := by decide +kernel
theorem dX2_addMark_37 : decode cX2_addMark 37 = .ok (.iconst 1, 1) := by decide +kernel
theorem dX2_addMark_38 : decode cX2_addMark 38 = .ok (.isub, 1) := by decide +kernel
theorem dX2_addMark_39 : decode cX2_addMark 39 = .ok (.ireturn, 1) := by decide +kernel
theorem dX2_returnTo_0 : decode cX2_returnTo 0 = .ok (.iload_n 1, 1) := by decide +kernel
theorem dX2_returnTo_1 : decode cX2_returnTo 1 = .ok (.ifCond .lt 31, 3) := by decide +kernel
theorem dX2_returnTo_4 : decode cX2_returnTo 4 = .ok (.iload_n 1, 1) := by decide +kernel
theorem dX2_returnTo_5 : decode cX2_returnTo 5 = .ok (.aload_n 0, 1) := by decide +kernel
theorem dX2_returnTo_6 : decode cX2_returnTo 6 = .ok (.getfield 28, 3) := by decide +kernel
theorem dX2_returnTo_9 : decode cX2_returnTo 9 = .ok (.if_icmp .ge 23, 3) := by decide +kernel
theorem dX2_returnTo_12 : decode cX2_returnTo 12 = .ok (.aload_n 2, 1) := by decide +kernel
theorem dX2_returnTo_13 : decode cX2_returnTo 13 = .ok (.aload_n 0, 1) := by decide +kernel
theorem dX2_returnTo_14 : decode cX2_returnTo 14 = .ok (.getfield 17, 3) := by decide +kernel
theorem dX2_returnTo_17 : decode cX2_returnTo 17 = .ok (.iload_n 1, 1) := by decide +kernel
theorem dX2_returnTo_18 : decode cX2_returnTo 18 = .ok (.aaload, 1) := by decide +kernel
theorem dX2_returnTo_19 : decode cX2_returnTo 19 = .ok (.invokevirtual 31, 3) := by decide +kernel
theorem dX2_returnTo_22 : decode cX2_returnTo 22 = .ok (.aload_n 0, 1) := by decide +kernel
theorem dX2_returnTo_23 : decode cX2_returnTo 23 = .ok (.iconst 0, 1) := by decide +kernel
theorem dX2_returnTo_24 : decode cX2_returnTo 24 = .ok (.putfield 21, 3) := by decide +kernel
theorem dX2_returnTo_27 : decode cX2_returnTo 27 = .ok (.aload_n 0, 1) := by decide +kernel
theorem dX2_returnTo_28 : decode cX2_returnTo 28 = .ok (.iconst 0, 1) := by decide +kernel
theorem dX2_returnTo_29 : decode cX2_returnTo 29 = .ok (.putfield 25, 3) := by decide +kernel
theorem dX2_returnTo_32 : decode cX2_returnTo 32 = .ok (.return_, 1) := by decide +kernel
theorem dX3_init_0 : decode cX3_init 0 = .ok (.aload_n 0, 1) := by decide +kernel
theorem dX3_init_1 : decode cX3_init 1 = .ok (.invokespecial 3, 3) := by decide +kernel
theorem dX3_init_4 : decode cX3_init 4 = .ok (.aload_n 0, 1) := by decide +kernel
theorem dX3_init_5 : decode cX3_init 5 = .ok (.new 9, 3) := by decide +kernel
theorem dX3_init_8 : decode cX3_init 8 = .ok (.dup, 1) := by decide +kernel
theorem dX3_init_9 : decode cX3_init 9 = .ok (.invokespecial 11, 3) := by decide +kernel
theorem dX3_init_12 : decode cX3_init 12 = .ok (.putfield 12, 3) := by decide +kernel
theorem dX3_init_15 : decode cX3_init 15 = .ok (.aload_n 0, 1) := by decide +kernel
theorem dX3_init_16 : decode cX3_init 16 = .ok (.sipush 768, 3) := by decide +kernel
theorem dX3_init_19 : decode cX3_init 19 = .ok (.newarray .int, 2) := by decide +kernel
theorem dX3_init_21 : decode cX3_init 21 = .ok (.putfield 18, 3) := by decide +kernel
theorem dX3_init_24 : decode cX3_init 24 = .ok (.aload_n 0, 1) := by decide +kernel
theorem dX3_init_25 : decode cX3_init 25 = .ok (.sipush 1000, 3) := by decide +kernel
theorem dX3_init_28 : decode cX3_init 28 = .ok (.newarray .int, 2) := by decide +kernel
theorem dX3_init_30 : decode cX3_init 30 = .ok (.putfield 22, 3) := by decide +kernel
theorem dX3_init_33 : decode cX3_init 33 = .ok (.return_, 1) := by decide +kernel
theorem dX3_search_0 : decode cX3_search 0 = .ok (.aload_n 0, 1) := by decide +kernel
theorem dX3_search_1 : decode cX3_search 1 = .ok (.iconst 0, 1) := by decide +kernel
theorem dX3_search_2 : decode cX3_search 2 = .ok (.putfield 25, 3) := by decide +kernel
theorem dX3_search_5 : decode cX3_search 5 = .ok (.aload_n 0, 1) := by decide +kernel
theorem dX3_search_6 : decode cX3_search 6 = .ok (.iconst 0, 1) := by decide +kernel
theorem dX3_search_7 : decode cX3_search 7 = .ok (.putfield 29, 3) := by decide +kernel
theorem dX3_search_10 : decode cX3_search 10 = .ok (.aload_n 0, 1) := by decide +kernel
theorem dX3_search_11 : decode cX3_search 11 = .ok (.aload_n 2, 1) := by decide +kernel
theorem dX3_search_12 : decode cX3_search 12 = .ok (.getfield 32, 3) := by decide +kernel
theorem dX3_search_15 : decode cX3_search 15 = .ok (.putfield 37, 3) := by decide +kernel
theorem dX3_search_18 : decode cX3_search 18 = .ok (.iconst 0, 1) := by decide +kernel
theorem dX3_search_19 : decode cX3_search 19 = .ok (.istore_n 3, 1) := by decide +kernel
theorem dX3_search_20 : decode cX3_search 20 = .ok (.iload_n 3, 1) := by decide +kernel
theorem dX3_search_21 : decode cX3_search 21 = .ok (.iconst 1, 1) := by decide +kernel
theorem dX3_search_22 : decode cX3_search 22 = .ok (.aload_n 1, 1) := by decide +kernel
theorem dX3_search_23 : decode cX3_search 23 = .ok (.getfield 40, 3) := by decide +kernel
theorem dX3_search_26 : decode cX3_search 26 = .ok (.ishl, 1) := by decide +kernel
theorem dX3_search_27 : decode cX3_search 27 = .ok (.if_icmp .ge 54, 3) := by decide +kernel
theorem dX3_search_30 : decode cX3_search 30 = .ok (.iload_n 3, 1) := by decide +kernel
theorem dX3_search_31 : decode cX3_search 31 = .ok (.aload_n 2, 1) := by decide +kernel
theorem dX3_search_32 : decode cX3_search 32 = .ok (.getfield 32, 3) := by decide +kernel
theorem dX3_search_35 : decode cX3_search 35 = .ok (.iconst (-1), 1) := by decide +kernel
theorem dX3_search_36 : decode cX3_search 36 = .ok (.ixor, 1) := by decide +kernel
theorem dX3_search_37 : decode cX3_search 37 = .ok (.iand, 1) := by decide +kernel
theorem dX3_search_38 : decode cX3_search 38 = .ok (.ifCond .ne 37, 3) := by decide +kernel
theorem dX3_search_41 : decode cX3_search 41 = .ok (.aload_n 0, 1) := by decide +kernel
theorem dX3_search_42 : decode cX3_search 42 = .ok (.getfield 12, 3) := by decide +kernel
theorem dX3_search_45 : decode cX3_search 45 = .ok (.aload_n 1, 1) := by decide +kernel
theorem dX3_search_46 : decode cX3_search 46 = .ok (.aload_n 2, 1) := by decide +kernel
theorem dX3_search_47 : decode cX3_search 47 = .ok (.getfield 32, 3) := by decide +kernel
theorem dX3_search_50 : decode cX3_search 50 = .ok (.iload_n 3, 1) := by decide +kernel
theorem dX3_search_51 : decode cX3_search 51 = .ok (.iconst (-1), 1) := by decide +kernel
theorem dX3_search_52 : decode cX3_search 52 = .ok (.ixor, 1) := by decide +kernel
theorem dX3_search_53 : decode cX3_search 53 = .ok (.iand, 1) := by decide +kernel
theorem dX3_search_54 : decode cX3_search 54 = .ok (.aload_n 2, 1) := by decide +kernel
theorem dX3_search_55 : decode cX3_search 55 = .ok (.getfield 45, 3) := by decide +kernel
theorem dX3_search_58 : decode cX3_search 58 = .ok (.invokevirtual 48, 3) := by decide +kernel
theorem dX3_search_61 : decode cX3_search 61 = .ok (.aload_n 0, 1) := by decide +kernel
theorem dX3_search_62 : decode cX3_search 62 = .ok (.aload_n 1, 1) := by decide +kernel
theorem dX3_search_63 : decode cX3_search 63 = .ok (.invokevirtual 52, 3) := by decide +kernel
theorem dX3_search_66 : decode cX3_search 66 = .ok (.ifCond .eq 9, 3) := by decide +kernel
theorem dX3_search_69 : decode cX3_search 69 = .ok (.aload_n 0, 1) := by decide +kernel
theorem dX3_search_70 : decode cX3_search 70 = .ok (.aload_n 1, 1) := by decide +kernel
theorem dX3_search_71 : decode cX3_search 71 = .ok (.iload_n 3, 1) := by decide +kernel
theorem dX3_search_72 : decode cX3_search 72 = .ok (.invokevirtual 56, 3) := by decide +kernel
theorem dX3_search_75 : decode cX3_search 75 = .ok (.iinc 3 1, 3) := by decide +kernel
theorem dX3_search_78 : decode cX3_search 78 = .ok (.goto (-58), 3) := by decide +kernel
theorem dX3_search_81 : decode cX3_search 81 = .ok (.aload_n 0, 1) := by decide +kernel
theorem dX3_search_82 : decode cX3_search 82 = .ok (.getfield 25, 3) := by decide +kernel
theorem dX3_search_85 : decode cX3_search 85 = .ok (.ifCond .ne 8, 3) := by decide +kernel
theorem dX3_search_88 : decode cX3_search 88 = .ok (.aload_n 0, 1) := by decide +kernel
theorem dX3_search_89 : decode cX3_search 89 = .ok (.iconst 0, 1) := by decide +kernel
theorem dX3_search_90 : decode cX3_search 90 = .ok (.putfield 37, 3) := by decide +kernel
theorem dX3_search_93 : decode cX3_search 93 = .ok (.return_, 1) := by decide +kernel
theorem dX3_isAsMud_0 : decode cX3_isAsMud 0 = .ok (.iconst 0, 1) := by decide +kernel
theorem dX3_isAsMud_1 : decode cX3_isAsMud 1 = .ok (.istore_n 2, 1) := by decide +kernel
theorem dX3_isAsMud_2 : decode cX3_isAsMud 2 = .ok (.iload_n 2, 1) := by decide +kernel
theorem dX3_isAsMud_3 : decode cX3_isAsMud 3 = .ok (.aload_n 1, 1) := by decide +kernel
theorem dX3_isAsMud_4 : decode cX3_isAsMud 4 = .ok (.getfield 60, 3) := by decide +kernel
theorem dX3_isAsMud_7 : decode cX3_isAsMud 7 = .ok (.if_icmp .ge 39, 3) := by decide +kernel
theorem dX3_isAsMud_10 : decode cX3_isAsMud 10 = .ok (.aload_n 1, 1) := by decide +kernel
theorem dX3_isAsMud_11 : decode cX3_isAsMud 11 = .ok (.getfield 63, 3) := by decide +kernel
theorem dX3_isAsMud_14 : decode cX3_isAsMud 14 = .ok (.iload_n 2, 1) := by decide +kernel
theorem dX3_isAsMud_15 : decode cX3_isAsMud 15 = .ok (.iaload, 1) := by decide +kernel
theorem dX3_isAsMud_16 : decode cX3_isAsMud 16 = .ok (.iconst (-1), 1) := by decide +kernel
theorem dX3_isAsMud_17 : decode cX3_isAsMud 17 = .ok (.if_icmp .eq 23, 3) := by decide +kernel
theorem dX3_isAsMud_20 : decode cX3_isAsMud 20 = .ok (.aload_n 1, 1) := by decide +kernel
theorem dX3_isAsMud_21 : decode cX3_isAsMud 21 = .ok (.getfield 63, 3) := by decide +kernel
theorem dX3_isAsMud_24 : decode cX3_isAsMud 24 = .ok (.iload_n 2, 1) := by decide +kernel
theorem dX3_isAsMud_25 : decode cX3_isAsMud 25 = .ok (.iaload, 1) := by decide +kernel
theorem dX3_isAsMud_26 : decode cX3_isAsMud 26 = .ok (.aload_n 0, 1) := by decide +kernel
theorem dX3_isAsMud_27 : decode cX3_isAsMud 27 = .ok (.getfield 12, 3) := by decide +kernel
theorem dX3_isAsMud_30 : decode cX3_isAsMud 30 = .ok (.getfield 66, 3) := by decide +kernel
theorem dX3_isAsMud_33 : decode cX3_isAsMud 33 = .ok (.iload_n 2, 1) := by decide +kernel
theorem dX3_isAsMud_34 : decode cX3_isAsMud 34 = .ok (.iaload, 1) := by decide +kernel
theorem dX3_isAsMud_35 : decode cX3_isAsMud 35 = .ok (.if_icmp .eq 5, 3) := by decide +kernel
theorem dX3_isAsMud_38 : decode cX3_isAsMud 38 = .ok (.iconst 0, 1) := by decide +kernel
theorem dX3_isAsMud_39 : decode cX3_isAsMud 39 = .ok (.ireturn, 1) := by decide +kernel
theorem dX3_isAsMud_40 : decode cX3_isAsMud 40 = .ok (.iinc 2 1, 3) := by decide +kernel
theorem dX3_isAsMud_43 : decode cX3_isAsMud 43 = .ok (.goto (-41), 3) := by decide +kernel
theorem dX3_isAsMud_46 : decode cX3_isAsMud 46 = .ok (.iconst 1, 1) := by decide +kernel
theorem dX3_isAsMud_47 : decode cX3_isAsMud 47 = .ok (.ireturn, 1) := by decide +kernel
theorem dX3_take_0 : decode cX3_take 0 = .ok (.iconst 0, 1) := by decide +kernel
theorem dX3_take_1 : decode cX3_take 1 = .ok (.istore_n 3, 1) := by decide +kernel
theorem dX3_take_2 : decode cX3_take 2 = .ok (.iload_n 3, 1) := by decide +kernel
theorem dX3_take_3 : decode cX3_take 3 = .ok (.aload_n 1, 1) := by decide +kernel
theorem dX3_take_4 : decode cX3_take 4 = .ok (.getfield 60, 3) := by decide +kernel
theorem dX3_take_7 : decode cX3_take 7 = .ok (.if_icmp .ge 32, 3) := by decide +kernel
theorem dX3_take_10 : decode cX3_take 10 = .ok (.aload_n 0, 1) := by decide +kernel
theorem dX3_take_11 : decode cX3_take 11 = .ok (.getfield 18, 3) := by decide +kernel
theorem dX3_take_14 : decode cX3_take 14 = .ok (.aload_n 0, 1) := by decide +kernel
theorem dX3_take_15 : decode cX3_take 15 = .ok (.getfield 25, 3) := by decide +kernel
theorem dX3_take_18 : decode cX3_take 18 = .ok (.bipush 6, 2) := by decide +kernel
theorem dX3_take_20 : decode cX3_take 20 = .ok (.imul, 1) := by decide +kernel
theorem dX3_take_21 : decode cX3_take 21 = .ok (.iload_n 3, 1) := by decide +kernel
theorem dX3_take_22 : decode cX3_take 22 = .ok (.iadd, 1) := by decide +kernel
theorem dX3_take_23 : decode cX3_take 23 = .ok (.aload_n 0, 1) := by decide +kernel
theorem dX3_take_24 : decode cX3_take 24 = .ok (.getfield 12, 3) := by decide +kernel
theorem dX3_take_27 : decode cX3_take 27 = .ok (.getfield 66, 3) := by decide +kernel
theorem dX3_take_30 : decode cX3_take 30 = .ok (.iload_n 3, 1) := by decide +kernel
theorem dX3_take_31 : decode cX3_take 31 = .ok (.iaload, 1) := by decide +kernel
theorem dX3_take_32 : decode cX3_take 32 = .ok (.iastore, 1) := by decide +kernel
theorem dX3_take_33 : decode cX3_take 33 = .ok (.iinc 3 1, 3) := by decide +kernel
theorem dX3_take_36 : decode cX3_take 36 = .ok (.goto (-34), 3) := by decide +kernel
theorem dX3_take_39 : decode cX3_take 39 = .ok (.aload_n 0, 1) := by decide +kernel
theorem dX3_take_40 : decode cX3_take 40 = .ok (.dup, 1) := by decide +kernel
theorem dX3_take_41 : decode cX3_take 41 = .ok (.getfield 29, 3) := by decide +kernel
theorem dX3_take_44 : decode cX3_take 44 = .ok (.iload_n 2, 1) := by decide +kernel
theorem dX3_take_45 : decode cX3_take 45 = .ok (.ior, 1) := by decide +kernel
theorem dX3_take_46 : decode cX3_take 46 = .ok (.putfield 29, 3) := by decide +kernel
theorem dX3_take_49 : decode cX3_take 49 = .ok (.aload_n 0, 1) := by decide +kernel
theorem dX3_take_50 : decode cX3_take 50 = .ok (.dup, 1) := by decide +kernel
theorem dX3_take_51 : decode cX3_take 51 = .ok (.getfield 37, 3) := by decide +kernel
theorem dX3_take_54 : decode cX3_take 54 = .ok (.iload_n 2, 1) := by decide +kernel
theorem dX3_take_55 : decode cX3_take 55 = .ok (.iand, 1) := by decide +kernel
theorem dX3_take_56 : decode cX3_take 56 = .ok (.putfield 37, 3) := by decide +kernel
theorem dX3_take_59 : decode cX3_take 59 = .ok (.aload_n 0, 1) := by decide +kernel
theorem dX3_take_60 : decode cX3_take 60 = .ok (.dup, 1) := by decide +kernel
theorem dX3_take_61 : decode cX3_take 61 = .ok (.getfield 25, 3) := by decide +kernel
theorem dX3_take_64 : decode cX3_take 64 = .ok (.iconst 1, 1) := by decide +kernel
theorem dX3_take_65 : decode cX3_take 65 = .ok (.iadd, 1) := by decide +kernel
theorem dX3_take_66 : decode cX3_take 66 = .ok (.putfield 25, 3) := by decide +kernel
theorem dX3_take_69 : decode cX3_take 69 = .ok (.return_, 1) := by decide +kernel
theorem dX3_choose_0 : decode cX3_choose 0 = .ok (.aload_n 0, 1) := by decide +kernel
theorem dX3_choose_1 : decode cX3_choose 1 = .ok (.bipush (-2), 2) := by decide +kernel
theorem dX3_choose_3 : decode cX3_choose 3 = .ok (.putfield 69, 3) := by decide +kernel
theorem dX3_choose_6 : decode cX3_choose 6 = .ok (.aload_n 0, 1) := by decide +kernel
theorem dX3_choose_7 : decode cX3_choose 7 = .ok (.bipush (-2), 2) := by decide +kernel
theorem dX3_choose_9 : decode cX3_choose 9 = .ok (.putfield 72, 3) := by decide +kernel
theorem dX3_choose_12 : decode cX3_choose 12 = .ok (.iconst 0, 1) := by decide +kernel
theorem dX3_choose_13 : decode cX3_choose 13 = .ok (.istore_n 2, 1) := by decide +kernel
theorem dX3_choose_14 : decode cX3_choose 14 = .ok (.iload_n 2, 1) := by decide +kernel
theorem dX3_choose_15 : decode cX3_choose 15 = .ok (.aload_n 1, 1) := by decide +kernel
theorem dX3_choose_16 : decode cX3_choose 16 = .ok (.getfield 60, 3) := by decide +kernel
theorem dX3_choose_19 : decode cX3_choose 19 = .ok (.if_icmp .ge 59, 3) := by decide +kernel
theorem dX3_choose_22 : decode cX3_choose 22 = .ok (.aload_n 0, 1) := by decide +kernel
theorem dX3_choose_23 : decode cX3_choose 23 = .ok (.getfield 25, 3) := by decide +kernel
theorem dX3_choose_26 : decode cX3_choose 26 = .ok (.ifCond .le 52, 3) := by decide +kernel
theorem dX3_choose_29 : decode cX3_choose 29 = .ok (.aload_n 1, 1) := by decide +kernel
theorem dX3_choose_30 : decode cX3_choose 30 = .ok (.getfield 63, 3) := by decide +kernel
theorem dX3_choose_33 : decode cX3_choose 33 = .ok (.iload_n 2, 1) := by decide +kernel
theorem dX3_choose_34 : decode cX3_choose 34 = .ok (.iaload, 1) := by decide +kernel
theorem dX3_choose_35 : decode cX3_choose 35 = .ok (.iconst (-1), 1) := by decide +kernel
theorem dX3_choose_36 : decode cX3_choose 36 = .ok (.if_icmp .ne 36, 3) := by decide +kernel
theorem dX3_choose_39 : decode cX3_choose 39 = .ok (.aload_n 0, 1) := by decide +kernel
theorem dX3_choose_40 : decode cX3_choose 40 = .ok (.iload_n 2, 1) := by decide +kernel
theorem dX3_choose_41 : decode cX3_choose 41 = .ok (.invokevirtual 75, 3) := by decide +kernel
theorem dX3_choose_44 : decode cX3_choose 44 = .ok (.istore_n 3, 1) := by decide +kernel
theorem dX3_choose_45 : decode cX3_choose 45 = .ok (.aload_n 0, 1) := by decide +kernel
theorem dX3_choose_46 : decode cX3_choose 46 = .ok (.getfield 69, 3) := by decide +kernel
theorem dX3_choose_49 : decode cX3_choose 49 = .ok (.bipush (-2), 2) := by decide +kernel
theorem dX3_choose_51 : decode cX3_choose 51 = .ok (.if_icmp .eq 11, 3) := by decide +kernel
theorem dX3_choose_54 : decode cX3_choose 54 = .ok (.iload_n 3, 1) := by decide +kernel
theorem dX3_choose_55 : decode cX3_choose 55 = .ok (.aload_n 0, 1) := by decide +kernel
theorem dX3_choose_56 : decode cX3_choose 56 = .ok (.getfield 72, 3) := by decide +kernel
theorem dX3_choose_59 : decode cX3_choose 59 = .ok (.if_icmp .ge 13, 3) := by decide +kernel
theorem dX3_choose_62 : decode cX3_choose 62 = .ok (.aload_n 0, 1) := by decide +kernel
theorem dX3_choose_63 : decode cX3_choose 63 = .ok (.iload_n 2, 1) := by decide +kernel
theorem dX3_choose_64 : decode cX3_choose 64 = .ok (.putfield 69, 3) := by decide +kernel
theorem dX3_choose_67 : decode cX3_choose 67 = .ok (.aload_n 0, 1) := by decide +kernel
theorem dX3_choose_68 : decode cX3_choose 68 = .ok (.iload_n 3, 1) := by decide +kernel
theorem dX3_choose_69 : decode cX3_choose 69 = .ok (.putfield 72, 3) := by decide +kernel
theorem dX3_choose_72 : decode cX3_choose 72 = .ok (.iinc 2 1, 3) := by decide +kernel
theorem dX3_choose_75 : decode cX3_choose 75 = .ok (.goto (-61), 3) := by decide +kernel
theorem dX3_choose_78 : decode cX3_choose 78 = .ok (.return_, 1) := by decide +kernel
theorem dX3_mostAlike_0 : decode cX3_mostAlike 0 = .ok (.iconst 0, 1) := by decide +kernel
theorem dX3_mostAlike_1 : decode cX3_mostAlike 1 = .ok (.istore_n 2, 1) := by decide +kernel
theorem dX3_mostAlike_2 : decode cX3_mostAlike 2 = .ok (.iconst 0, 1) := by decide +kernel
theorem dX3_mostAlike_3 : decode cX3_mostAlike 3 = .ok (.istore_n 3, 1) := by decide +kernel
theorem dX3_mostAlike_4 : decode cX3_mostAlike 4 = .ok (.iload_n 3, 1) := by decide +kernel
theorem dX3_mostAlike_5 : decode cX3_mostAlike 5 = .ok (.aload_n 0, 1) := by decide +kernel
theorem dX3_mostAlike_6 : decode cX3_mostAlike 6 = .ok (.getfield 25, 3) := by decide +kernel
theorem dX3_mostAlike_9 : decode cX3_mostAlike 9 = .ok (.if_icmp .ge 45, 3) := by decide +kernel
theorem dX3_mostAlike_12 : decode cX3_mostAlike 12 = .ok (.aload_n 0, 1) := by decide +kernel
theorem dX3_mostAlike_13 : decode cX3_mostAlike 13 = .ok (.getfield 18, 3) := by decide +kernel
theorem dX3_mostAlike_16 : decode cX3_mostAlike 16 = .ok (.iload_n 3, 1) := by decide +kernel
theorem dX3_mostAlike_17 : decode cX3_mostAlike 17 = .ok (.bipush 6, 2) := by decide +kernel
theorem dX3_mostAlike_19 : decode cX3_mostAlike 19 = .ok (.imul, 1) := by decide +kernel
theorem dX3_mostAlike_20 : decode cX3_mostAlike 20 = .ok (.iload_n 1, 1) := by decide +kernel
theorem dX3_mostAlike_21 : decode cX3_mostAlike 21 = .ok (.iadd, 1) := by decide +kernel
theorem dX3_mostAlike_22 : decode cX3_mostAlike 22 = .ok (.iaload, 1) := by decide +kernel
theorem dX3_mostAlike_23 : decode cX3_mostAlike 23 = .ok (.istore 4, 2) := by decide +kernel
theorem dX3_mostAlike_25 : decode cX3_mostAlike 25 = .ok (.aload_n 0, 1) := by decide +kernel
theorem dX3_mostAlike_26 : decode cX3_mostAlike 26 = .ok (.getfield 22, 3) := by decide +kernel
theorem dX3_mostAlike_29 : decode cX3_mostAlike 29 = .ok (.iload 4, 2) := by decide +kernel
theorem dX3_mostAlike_31 : decode cX3_mostAlike 31 = .ok (.dup2, 1) := by decide +kernel
theorem dX3_mostAlike_32 : decode cX3_mostAlike 32 = .ok (.iaload, 1) := by decide +kernel
theorem dX3_mostAlike_33 : decode cX3_mostAlike 33 = .ok (.iconst 1, 1) := by decide +kernel
theorem dX3_mostAlike_34 : decode cX3_mostAlike 34 = .ok (.iadd, 1) := by decide +kernel
theorem dX3_mostAlike_35 : decode cX3_mostAlike 35 = .ok (.iastore, 1) := by decide +kernel
theorem dX3_mostAlike_36 : decode cX3_mostAlike 36 = .ok (.iload_n 2, 1) := by decide +kernel
theorem dX3_mostAlike_37 : decode cX3_mostAlike 37 = .ok (.aload_n 0, 1) := by decide +kernel
theorem dX3_mostAlike_38 : decode cX3_mostAlike 38 = .ok (.getfield 22, 3) := by decide +kernel
theorem dX3_mostAlike_41 : decode cX3_mostAlike 41 = .ok (.iload 4, 2) := by decide +kernel
theorem dX3_mostAlike_43 : decode cX3_mostAlike 43 = .ok (.iaload, 1) := by decide +kernel
theorem dX3_mostAlike_44 : decode cX3_mostAlike 44 = .ok (.invokestatic 79, 3) := by decide +kernel
theorem dX3_mostAlike_47 : decode cX3_mostAlike 47 = .ok (.istore_n 2, 1) := by decide +kernel
theorem dX3_mostAlike_48 : decode cX3_mostAlike 48 = .ok (.iinc 3 1, 3) := by decide +kernel
theorem dX3_mostAlike_51 : decode cX3_mostAlike 51 = .ok (.goto (-47), 3) := by decide +kernel
theorem dX3_mostAlike_54 : decode cX3_mostAlike 54 = .ok (.iconst 0, 1) := by decide +kernel
theorem dX3_mostAlike_55 : decode cX3_mostAlike 55 = .ok (.istore_n 3, 1) := by decide +kernel
theorem dX3_mostAlike_56 : decode cX3_mostAlike 56 = .ok (.iload_n 3, 1) := by decide +kernel
theorem dX3_mostAlike_57 : decode cX3_mostAlike 57 = .ok (.aload_n 0, 1) := by decide +kernel
theorem dX3_mostAlike_58 : decode cX3_mostAlike 58 = .ok (.getfield 25, 3) := by decide +kernel
theorem dX3_mostAlike_61 : decode cX3_mostAlike 61 = .ok (.if_icmp .ge 26, 3) := by decide +kernel
theorem dX3_mostAlike_64 : decode cX3_mostAlike 64 = .ok (.aload_n 0, 1) := by decide +kernel
theorem dX3_mostAlike_65 : decode cX3_mostAlike 65 = .ok (.getfield 22, 3) := by decide +kernel
theorem dX3_mostAlike_68 : decode cX3_mostAlike 68 = .ok (.aload_n 0, 1) := by decide +kernel
theorem dX3_mostAlike_69 : decode cX3_mostAlike 69 = .ok (.getfield 18, 3) := by decide +kernel
theorem dX3_mostAlike_72 : decode cX3_mostAlike 72 = .ok (.iload_n 3, 1) := by decide +kernel
theorem dX3_mostAlike_73 : decode cX3_mostAlike 73 = .ok (.bipush 6, 2) := by decide +kernel
theorem dX3_mostAlike_75 : decode cX3_mostAlike 75 = .ok (.imul, 1) := by decide +kernel
theorem dX3_mostAlike_76 : decode cX3_mostAlike 76 = .ok (.iload_n 1, 1) := by decide +kernel
theorem dX3_mostAlike_77 : decode cX3_mostAlike 77 = .ok (.iadd, 1) := by decide +kernel
theorem dX3_mostAlike_78 : decode cX3_mostAlike 78 = .ok (.iaload, 1) := by decide +kernel
theorem dX3_mostAlike_79 : decode cX3_mostAlike 79 = .ok (.iconst 0, 1) := by decide +kernel
theorem dX3_mostAlike_80 : decode cX3_mostAlike 80 = .ok (.iastore, 1) := by decide +kernel
theorem dX3_mostAlike_81 : decode cX3_mostAlike 81 = .ok (.iinc 3 1, 3) := by decide +kernel
theorem dX3_mostAlike_84 : decode cX3_mostAlike 84 = .ok (.goto (-28), 3) := by decide +kernel
theorem dX3_mostAlike_87 : decode cX3_mostAlike 87 = .ok (.iload_n 2, 1) := by decide +kernel
theorem dX3_mostAlike_88 : decode cX3_mostAlike 88 = .ok (.ireturn, 1) := by decide +kernel
theorem dX4_init_0 : decode cX4_init 0 = .ok (.aload_n 0, 1) := by decide +kernel
theorem dX4_init_1 : decode cX4_init 1 = .ok (.invokespecial 3, 3) := by decide +kernel
theorem dX4_init_4 : decode cX4_init 4 = .ok (.aload_n 0, 1) := by decide +kernel
theorem dX4_init_5 : decode cX4_init 5 = .ok (.new 9, 3) := by decide +kernel
theorem dX4_init_8 : decode cX4_init 8 = .ok (.dup, 1) := by decide +kernel
theorem dX4_init_9 : decode cX4_init 9 = .ok (.invokespecial 11, 3) := by decide +kernel
theorem dX4_init_12 : decode cX4_init 12 = .ok (.putfield 12, 3) := by decide +kernel
theorem dX4_init_15 : decode cX4_init 15 = .ok (.aload_n 0, 1) := by decide +kernel
theorem dX4_init_16 : decode cX4_init 16 = .ok (.bipush 36, 2) := by decide +kernel
theorem dX4_init_18 : decode cX4_init 18 = .ok (.newarray .int, 2) := by decide +kernel
theorem dX4_init_20 : decode cX4_init 20 = .ok (.putfield 18, 3) := by decide +kernel
theorem dX4_init_23 : decode cX4_init 23 = .ok (.aload_n 0, 1) := by decide +kernel
theorem dX4_init_24 : decode cX4_init 24 = .ok (.bipush 36, 2) := by decide +kernel
theorem dX4_init_26 : decode cX4_init 26 = .ok (.newarray .int, 2) := by decide +kernel
theorem dX4_init_28 : decode cX4_init 28 = .ok (.putfield 22, 3) := by decide +kernel
theorem dX4_init_31 : decode cX4_init 31 = .ok (.return_, 1) := by decide +kernel
theorem dX4_pull_0 : decode cX4_pull 0 = .ok (.iconst 0, 1) := by decide +kernel
theorem dX4_pull_1 : decode cX4_pull 1 = .ok (.aload_n 1, 1) := by decide +kernel
theorem dX4_pull_2 : decode cX4_pull 2 = .ok (.getfield 25, 3) := by decide +kernel
theorem dX4_pull_5 : decode cX4_pull 5 = .ok (.iconst 1, 1) := by decide +kernel
theorem dX4_pull_6 : decode cX4_pull 6 = .ok (.isub, 1) := by decide +kernel
theorem dX4_pull_7 : decode cX4_pull 7 = .ok (.invokestatic 31, 3) := by decide +kernel
theorem dX4_pull_10 : decode cX4_pull 10 = .ok (.istore 5, 2) := by decide +kernel
theorem dX4_pull_12 : decode cX4_pull 12 = .ok (.aload_n 0, 1) := by decide +kernel
theorem dX4_pull_13 : decode cX4_pull 13 = .ok (.getfield 12, 3) := by decide +kernel
theorem dX4_pull_16 : decode cX4_pull 16 = .ok (.aload_n 1, 1) := by decide +kernel
theorem dX4_pull_17 : decode cX4_pull 17 = .ok (.aload_n 2, 1) := by decide +kernel
theorem dX4_pull_18 : decode cX4_pull 18 = .ok (.getfield 37, 3) := by decide +kernel
theorem dX4_pull_21 : decode cX4_pull 21 = .ok (.invokevirtual 42, 3) := by decide +kernel
theorem dX4_pull_24 : decode cX4_pull 24 = .ok (.aload_n 0, 1) := by decide +kernel
theorem dX4_pull_25 : decode cX4_pull 25 = .ok (.getfield 12, 3) := by decide +kernel
theorem dX4_pull_28 : decode cX4_pull 28 = .ok (.iconst 0, 1) := by decide +kernel
theorem dX4_pull_29 : decode cX4_pull 29 = .ok (.iload_n 3, 1) := by decide +kernel
theorem dX4_pull_30 : decode cX4_pull 30 = .ok (.invokevirtual 46, 3) := by decide +kernel
theorem dX4_pull_33 : decode cX4_pull 33 = .ok (.aload_n 0, 1) := by decide +kernel
theorem dX4_pull_34 : decode cX4_pull 34 = .ok (.getfield 12, 3) := by decide +kernel
theorem dX4_pull_37 : decode cX4_pull 37 = .ok (.iload 5, 2) := by decide +kernel
theorem dX4_pull_39 : decode cX4_pull 39 = .ok (.iload 4, 2) := by decide +kernel
theorem dX4_pull_41 : decode cX4_pull 41 = .ok (.invokevirtual 46, 3) := by decide +kernel
theorem dX4_pull_44 : decode cX4_pull 44 = .ok (.aload_n 0, 1) := by decide +kernel
theorem dX4_pull_45 : decode cX4_pull 45 = .ok (.getfield 12, 3) := by decide +kernel
theorem dX4_pull_48 : decode cX4_pull 48 = .ok (.aload_n 1, 1) := by decide +kernel
theorem dX4_pull_49 : decode cX4_pull 49 = .ok (.aload_n 2, 1) := by decide +kernel
theorem dX4_pull_50 : decode cX4_pull 50 = .ok (.getfield 50, 3) := by decide +kernel
theorem dX4_pull_53 : decode cX4_pull 53 = .ok (.invokevirtual 53, 3) := by decide +kernel
theorem dX4_pull_56 : decode cX4_pull 56 = .ok (.aload_n 0, 1) := by decide +kernel
theorem dX4_pull_57 : decode cX4_pull 57 = .ok (.iconst 3, 1) := by decide +kernel
theorem dX4_pull_58 : decode cX4_pull 58 = .ok (.iload_n 3, 1) := by decide +kernel
theorem dX4_pull_59 : decode cX4_pull 59 = .ok (.imul, 1) := by decide +kernel
theorem dX4_pull_60 : decode cX4_pull 60 = .ok (.aload_n 0, 1) := by decide +kernel
theorem dX4_pull_61 : decode cX4_pull 61 = .ok (.getfield 12, 3) := by decide +kernel
theorem dX4_pull_64 : decode cX4_pull 64 = .ok (.getfield 56, 3) := by decide +kernel
theorem dX4_pull_67 : decode cX4_pull 67 = .ok (.iconst 0, 1) := by decide +kernel
theorem dX4_pull_68 : decode cX4_pull 68 = .ok (.iaload, 1) := by decide +kernel
theorem dX4_pull_69 : decode cX4_pull 69 = .ok (.isub, 1) := by decide +kernel
theorem dX4_pull_70 : decode cX4_pull 70 = .ok (.putfield 59, 3) := by decide +kernel
theorem dX4_pull_73 : decode cX4_pull 73 = .ok (.aload_n 0, 1) := by decide +kernel
theorem dX4_pull_74 : decode cX4_pull 74 = .ok (.iconst 3, 1) := by decide +kernel
theorem dX4_pull_75 : decode cX4_pull 75 = .ok (.iload 4, 2) := by decide +kernel
theorem dX4_pull_77 : decode cX4_pull 77 = .ok (.imul, 1) := by decide +kernel
theorem dX4_pull_78 : decode cX4_pull 78 = .ok (.aload_n 0, 1) := by decide +kernel
theorem dX4_pull_79 : decode cX4_pull 79 = .ok (.getfield 12, 3) := by decide +kernel
theorem dX4_pull_82 : decode cX4_pull 82 = .ok (.getfield 56, 3) := by decide +kernel
theorem dX4_pull_85 : decode cX4_pull 85 = .ok (.iload 5, 2) := by decide +kernel
theorem dX4_pull_87 : decode cX4_pull 87 = .ok (.iaload, 1) := by decide +kernel
theorem dX4_pull_88 : decode cX4_pull 88 = .ok (.isub, 1) := by decide +kernel
theorem dX4_pull_89 : decode cX4_pull 89 = .ok (.putfield 62, 3) := by decide +kernel
theorem dX4_pull_92 : decode cX4_pull 92 = .ok (.return_, 1) := by decide +kernel
theorem dX4_search_0 : decode cX4_search 0 = .ok (.iconst 0, 1) := by decide +kernel
theorem dX4_search_1 : decode cX4_search 1 = .ok (.istore_n 3, 1) := by decide +kernel
theorem dX4_search_2 : decode cX4_search 2 = .ok (.iload_n 3, 1) := by decide +kernel
theorem dX4_search_3 : decode cX4_search 3 = .ok (.bipush 6, 2) := by decide +kernel
theorem dX4_search_5 : decode cX4_search 5 = .ok (.if_icmp .ge 66, 3) := by decide +kernel
theorem dX4_search_8 : decode cX4_search 8 = .ok (.iconst 0, 1) := by decide +kernel
theorem dX4_search_9 : decode cX4_search 9 = .ok (.istore 4, 2) := by decide +kernel
theorem dX4_search_11 : decode cX4_search 11 = .ok (.iload 4, 2) := by decide +kernel
theorem dX4_search_13 : decode cX4_search 13 = .ok (.bipush 6, 2) := by decide +kernel
theorem dX4_search_15 : decode cX4_search 15 = .ok (.if_icmp .ge 50, 3) := by decide +kernel
theorem dX4_search_18 : decode cX4_search 18 = .ok (.aload_n 0, 1) := by decide +kernel
theorem dX4_search_19 : decode cX4_search 19 = .ok (.aload_n 1, 1) := by decide +kernel
theorem dX4_search_20 : decode cX4_search 20 = .ok (.aload_n 2, 1) := by decide +kernel
theorem dX4_search_21 : decode cX4_search 21 = .ok (.iload_n 3, 1) := by decide +kernel
theorem dX4_search_22 : decode cX4_search 22 = .ok (.iload 4, 2) := by decide +kernel
theorem dX4_search_24 : decode cX4_search 24 = .ok (.invokevirtual 65, 3) := by decide +kernel
theorem dX4_search_27 : decode cX4_search 27 = .ok (.aload_n 0, 1) := by decide +kernel
theorem dX4_search_28 : decode cX4_search 28 = .ok (.getfield 18, 3) := by decide +kernel
theorem dX4_search_31 : decode cX4_search 31 = .ok (.iload_n 3, 1) := by decide +kernel
theorem dX4_search_32 : decode cX4_search 32 = .ok (.bipush 6, 2) := by decide +kernel
theorem dX4_search_34 : decode cX4_search 34 = .ok (.imul, 1) := by decide +kernel
theorem dX4_search_35 : decode cX4_search 35 = .ok (.iload 4, 2) := by decide +kernel
theorem dX4_search_37 : decode cX4_search 37 = .ok (.iadd, 1) := by decide +kernel
theorem dX4_search_38 : decode cX4_search 38 = .ok (.aload_n 0, 1) := by decide +kernel
theorem dX4_search_39 : decode cX4_search 39 = .ok (.getfield 59, 3) := by decide +kernel
theorem dX4_search_42 : decode cX4_search 42 = .ok (.iastore, 1) := by decide +kernel
theorem dX4_search_43 : decode cX4_search 43 = .ok (.aload_n 0, 1) := by decide +kernel
theorem dX4_search_44 : decode cX4_search 44 = .ok (.getfield 22, 3) := by decide +kernel
theorem dX4_search_47 : decode cX4_search 47 = .ok (.iload_n 3, 1) := by decide +kernel
theorem dX4_search_48 : decode cX4_search 48 = .ok (.bipush 6, 2) := by decide +kernel
theorem dX4_search_50 : decode cX4_search 50 = .ok (.imul, 1) := by decide +kernel
theorem dX4_search_51 : decode cX4_search 51 = .ok (.iload 4, 2) := by decide +kernel
theorem dX4_search_53 : decode cX4_search 53 = .ok (.iadd, 1) := by decide +kernel
theorem dX4_search_54 : decode cX4_search 54 = .ok (.aload_n 0, 1) := by decide +kernel
theorem dX4_search_55 : decode cX4_search 55 = .ok (.getfield 62, 3) := by decide +kernel
theorem dX4_search_58 : decode cX4_search 58 = .ok (.iastore, 1) := by decide +kernel
theorem dX4_search_59 : decode cX4_search 59 = .ok (.iinc 4 1, 3) := by decide +kernel
theorem dX4_search_62 : decode cX4_search 62 = .ok (.goto (-51), 3) := by decide +kernel
theorem dX4_search_65 : decode cX4_search 65 = .ok (.iinc 3 1, 3) := by decide +kernel
theorem dX4_search_68 : decode cX4_search 68 = .ok (.goto (-66), 3) := by decide +kernel
theorem dX4_search_71 : decode cX4_search 71 = .ok (.aload_n 0, 1) := by decide +kernel
theorem dX4_search_72 : decode cX4_search 72 = .ok (.iconst 0, 1) := by decide +kernel
theorem dX4_search_73 : decode cX4_search 73 = .ok (.putfield 69, 3) := by decide +kernel
theorem dX4_search_76 : decode cX4_search 76 = .ok (.aload_n 0, 1) := by decide +kernel
theorem dX4_search_77 : decode cX4_search 77 = .ok (.bipush (-2), 2) := by decide +kernel
theorem dX4_search_79 : decode cX4_search 79 = .ok (.putfield 72, 3) := by decide +kernel
theorem dX4_search_82 : decode cX4_search 82 = .ok (.iconst 0, 1) := by decide +kernel
theorem dX4_search_83 : decode cX4_search 83 = .ok (.istore_n 3, 1) := by decide +kernel
theorem dX4_search_84 : decode cX4_search 84 = .ok (.iload_n 3, 1) := by decide +kernel
theorem dX4_search_85 : decode cX4_search 85 = .ok (.bipush 6, 2) := by decide +kernel
theorem dX4_search_87 : decode cX4_search 87 = .ok (.if_icmp .ge 70, 3) := by decide +kernel
theorem dX4_search_90 : decode cX4_search 90 = .ok (.iconst 0, 1) := by decide +kernel
theorem dX4_search_91 : decode cX4_search 91 = .ok (.istore 4, 2) := by decide +kernel
theorem dX4_search_93 : decode cX4_search 93 = .ok (.iload 4, 2) := by decide +kernel
theorem dX4_search_95 : decode cX4_search 95 = .ok (.bipush 6, 2) := by decide +kernel
theorem dX4_search_97 : decode cX4_search 97 = .ok (.if_icmp .ge 54, 3) := by decide +kernel
theorem dX4_search_100 : decode cX4_search 100 = .ok (.aload_n 0, 1) := by decide +kernel
theorem dX4_search_101 : decode cX4_search 101 = .ok (.iload_n 3, 1) := by decide +kernel
theorem dX4_search_102 : decode cX4_search 102 = .ok (.iload 4, 2) := by decide +kernel
theorem dX4_search_104 : decode cX4_search 104 = .ok (.invokevirtual 75, 3) := by decide +kernel
theorem dX4_search_107 : decode cX4_search 107 = .ok (.ifCond .eq 38, 3) := by decide +kernel
theorem dX4_search_110 : decode cX4_search 110 = .ok (.aload_n 0, 1) := by decide +kernel
theorem dX4_search_111 : decode cX4_search 111 = .ok (.aload_n 0, 1) := by decide +kernel
theorem dX4_search_112 : decode cX4_search 112 = .ok (.getfield 69, 3) := by decide +kernel
theorem dX4_search_115 : decode cX4_search 115 = .ok (.ifCond .ne 13, 3) := by decide +kernel
theorem dX4_search_118 : decode cX4_search 118 = .ok (.bipush 10, 2) := by decide +kernel
theorem dX4_search_120 : decode cX4_search 120 = .ok (.iload_n 3, 1) := by decide +kernel
theorem dX4_search_121 : decode cX4_search 121 = .ok (.imul, 1) := by decide +kernel
theorem dX4_search_122 : decode cX4_search 122 = .ok (.iload 4, 2) := by decide +kernel
theorem dX4_search_124 : decode cX4_search 124 = .ok (.iadd, 1) := by decide +kernel
theorem dX4_search_125 : decode cX4_search 125 = .ok (.goto 7, 3) := by decide +kernel
theorem dX4_search_128 : decode cX4_search 128 = .ok (.aload_n 0, 1) := by decide +kernel
theorem dX4_search_129 : decode cX4_search 129 = .ok (.getfield 72, 3) := by decide +kernel
theorem dX4_search_132 : decode cX4_search 132 = .ok (.putfield 72, 3) := by decide +kernel
theorem dX4_search_135 : decode cX4_search 135 = .ok (.aload_n 0, 1) := by decide +kernel
theorem dX4_search_136 : decode cX4_search 136 = .ok (.dup, 1) := by decide +kernel
theorem dX4_search_137 : decode cX4_search 137 = .ok (.getfield 69, 3) := by decide +kernel
theorem dX4_search_140 : decode cX4_search 140 = .ok (.iconst 1, 1) := by decide +kernel
theorem dX4_search_141 : decode cX4_search 141 = .ok (.iadd, 1) := by decide +kernel
theorem dX4_search_142 : decode cX4_search 142 = .ok (.putfield 69, 3) := by decide +kernel
theorem dX4_search_145 : decode cX4_search 145 = .ok (.iinc 4 1, 3) := by decide +kernel
theorem dX4_search_148 : decode cX4_search 148 = .ok (.goto (-55), 3) := by decide +kernel
theorem dX4_search_151 : decode cX4_search 151 = .ok (.iinc 3 1, 3) := by decide +kernel
theorem dX4_search_154 : decode cX4_search 154 = .ok (.goto (-70), 3) := by decide +kernel
theorem dX4_search_157 : decode cX4_search 157 = .ok (.return_, 1) := by decide +kernel
theorem dX4_isRest_0 : decode cX4_isRest 0 = .ok (.iload_n 1, 1) := by decide +kernel
theorem dX4_isRest_1 : decode cX4_isRest 1 = .ok (.bipush 6, 2) := by decide +kernel
theorem dX4_isRest_3 : decode cX4_isRest 3 = .ok (.imul, 1) := by decide +kernel
theorem dX4_isRest_4 : decode cX4_isRest 4 = .ok (.iload_n 2, 1) := by decide +kernel
theorem dX4_isRest_5 : decode cX4_isRest 5 = .ok (.iadd, 1) := by decide +kernel
theorem dX4_isRest_6 : decode cX4_isRest 6 = .ok (.istore_n 3, 1) := by decide +kernel
theorem dX4_isRest_7 : decode cX4_isRest 7 = .ok (.iconst 0, 1) := by decide +kernel
theorem dX4_isRest_8 : decode cX4_isRest 8 = .ok (.istore 4, 2) := by decide +kernel
theorem dX4_isRest_10 : decode cX4_isRest 10 = .ok (.iload 4, 2) := by decide +kernel
theorem dX4_isRest_12 : decode cX4_isRest 12 = .ok (.bipush 6, 2) := by decide +kernel
theorem dX4_isRest_14 : decode cX4_isRest 14 = .ok (.if_icmp .ge 53, 3) := by decide +kernel
theorem dX4_isRest_17 : decode cX4_isRest 17 = .ok (.aload_n 0, 1) := by decide +kernel
theorem dX4_isRest_18 : decode cX4_isRest 18 = .ok (.getfield 18, 3) := by decide +kernel
theorem dX4_isRest_21 : decode cX4_isRest 21 = .ok (.iload 4, 2) := by decide +kernel
theorem dX4_isRest_23 : decode cX4_isRest 23 = .ok (.bipush 6, 2) := by decide +kernel
theorem dX4_isRest_25 : decode cX4_isRest 25 = .ok (.imul, 1) := by decide +kernel
theorem dX4_isRest_26 : decode cX4_isRest 26 = .ok (.iload_n 2, 1) := by decide +kernel
theorem dX4_isRest_27 : decode cX4_isRest 27 = .ok (.iadd, 1) := by decide +kernel
theorem dX4_isRest_28 : decode cX4_isRest 28 = .ok (.iaload, 1) := by decide +kernel
theorem dX4_isRest_29 : decode cX4_isRest 29 = .ok (.aload_n 0, 1) := by decide +kernel
theorem dX4_isRest_30 : decode cX4_isRest 30 = .ok (.getfield 18, 3) := by decide +kernel
theorem dX4_isRest_33 : decode cX4_isRest 33 = .ok (.iload_n 3, 1) := by decide +kernel
theorem dX4_isRest_34 : decode cX4_isRest 34 = .ok (.iaload, 1) := by decide +kernel
theorem dX4_isRest_35 : decode cX4_isRest 35 = .ok (.if_icmp .gt 24, 3) := by decide +kernel
theorem dX4_isRest_38 : decode cX4_isRest 38 = .ok (.aload_n 0, 1) := by decide +kernel
theorem dX4_isRest_39 : decode cX4_isRest 39 = .ok (.getfield 22, 3) := by decide +kernel
theorem dX4_isRest_42 : decode cX4_isRest 42 = .ok (.iload_n 1, 1) := by decide +kernel
theorem dX4_isRest_43 : decode cX4_isRest 43 = .ok (.bipush 6, 2) := by decide +kernel
theorem dX4_isRest_45 : decode cX4_isRest 45 = .ok (.imul, 1) := by decide +kernel
theorem dX4_isRest_46 : decode cX4_isRest 46 = .ok (.iload 4, 2) := by decide +kernel
theorem dX4_isRest_48 : decode cX4_isRest 48 = .ok (.iadd, 1) := by decide +kernel
theorem dX4_isRest_49 : decode cX4_isRest 49 = .ok (.iaload, 1) := by decide +kernel
theorem dX4_isRest_50 : decode cX4_isRest 50 = .ok (.aload_n 0, 1) := by decide +kernel
theorem dX4_isRest_51 : decode cX4_isRest 51 = .ok (.getfield 22, 3) := by decide +kernel
theorem dX4_isRest_54 : decode cX4_isRest 54 = .ok (.iload_n 3, 1) := by decide +kernel
theorem dX4_isRest_55 : decode cX4_isRest 55 = .ok (.iaload, 1) := by decide +kernel
theorem dX4_isRest_56 : decode cX4_isRest 56 = .ok (.if_icmp .le 5, 3) := by decide +kernel
theorem dX4_isRest_59 : decode cX4_isRest 59 = .ok (.iconst 0, 1) := by decide +kernel
theorem dX4_isRest_60 : decode cX4_isRest 60 = .ok (.ireturn, 1) := by decide +kernel
theorem dX4_isRest_61 : decode cX4_isRest 61 = .ok (.iinc 4 1, 3) := by decide +kernel
theorem dX4_isRest_64 : decode cX4_isRest 64 = .ok (.goto (-54), 3) := by decide +kernel
theorem dX4_isRest_67 : decode cX4_isRest 67 = .ok (.iconst 1, 1) := by decide +kernel
theorem dX4_isRest_68 : decode cX4_isRest 68 = .ok (.ireturn, 1) := by decide +kernel
theorem dX5_init_0 : decode cX5_init 0 = .ok (.aload_n 0, 1) := by decide +kernel
theorem dX5_init_1 : decode cX5_init 1 = .ok (.invokespecial 3, 3) := by decide +kernel
theorem dX5_init_4 : decode cX5_init 4 = .ok (.aload_n 0, 1) := by decide +kernel
theorem dX5_init_5 : decode cX5_init 5 = .ok (.sipush 900, 3) := by decide +kernel
theorem dX5_init_8 : decode cX5_init 8 = .ok (.newarray .byte, 2) := by decide +kernel
theorem dX5_init_10 : decode cX5_init 10 = .ok (.putfield 9, 3) := by decide +kernel
theorem dX5_init_13 : decode cX5_init 13 = .ok (.aload_n 0, 1) := by decide +kernel
theorem dX5_init_14 : decode cX5_init 14 = .ok (.bipush 24, 2) := by decide +kernel
theorem dX5_init_16 : decode cX5_init 16 = .ok (.newarray .long, 2) := by decide +kernel
theorem dX5_init_18 : decode cX5_init 18 = .ok (.putfield 15, 3) := by decide +kernel
theorem dX5_init_21 : decode cX5_init 21 = .ok (.aload_n 0, 1) := by decide +kernel
theorem dX5_init_22 : decode cX5_init 22 = .ok (.bipush 24, 2) := by decide +kernel
theorem dX5_init_24 : decode cX5_init 24 = .ok (.newarray .int, 2) := by decide +kernel
theorem dX5_init_26 : decode cX5_init 26 = .ok (.putfield 19, 3) := by decide +kernel
theorem dX5_init_29 : decode cX5_init 29 = .ok (.aload_n 0, 1) := by decide +kernel
theorem dX5_init_30 : decode cX5_init 30 = .ok (.bipush 24, 2) := by decide +kernel
theorem dX5_init_32 : decode cX5_init 32 = .ok (.newarray .int, 2) := by decide +kernel
theorem dX5_init_34 : decode cX5_init 34 = .ok (.putfield 23, 3) := by decide +kernel
theorem dX5_init_37 : decode cX5_init 37 = .ok (.aload_n 0, 1) := by decide +kernel
theorem dX5_init_38 : decode cX5_init 38 = .ok (.new 26, 3) := by decide +kernel
theorem dX5_init_41 : decode cX5_init 41 = .ok (.dup, 1) := by decide +kernel
theorem dX5_init_42 : decode cX5_init 42 = .ok (.invokespecial 28, 3) := by decide +kernel
theorem dX5_init_45 : decode cX5_init 45 = .ok (.putfield 29, 3) := by decide +kernel
theorem dX5_init_48 : decode cX5_init 48 = .ok (.return_, 1) := by decide +kernel
theorem dX5_append_0 : decode cX5_append 0 = .ok (.bipush 24, 2) := by decide +kernel
theorem dX5_append_2 : decode cX5_append 2 = .ok (.istore_n 2, 1) := by decide +kernel
theorem dX5_append_3 : decode cX5_append 3 = .ok (.iload_n 2, 1) := by decide +kernel
theorem dX5_append_4 : decode cX5_append 4 = .ok (.ifCond .lt 42, 3) := by decide +kernel
theorem dX5_append_7 : decode cX5_append 7 = .ok (.aload_n 0, 1) := by decide +kernel
theorem dX5_append_8 : decode cX5_append 8 = .ok (.getfield 33, 3) := by decide +kernel
theorem dX5_append_11 : decode cX5_append 11 = .ok (.sipush 900, 3) := by decide +kernel
theorem dX5_append_14 : decode cX5_append 14 = .ok (.if_icmp .ge 26, 3) := by decide +kernel
theorem dX5_append_17 : decode cX5_append 17 = .ok (.aload_n 0, 1) := by decide +kernel
theorem dX5_append_18 : decode cX5_append 18 = .ok (.getfield 9, 3) := by decide +kernel
theorem dX5_append_21 : decode cX5_append 21 = .ok (.aload_n 0, 1) := by decide +kernel
theorem dX5_append_22 : decode cX5_append 22 = .ok (.getfield 33, 3) := by decide +kernel
theorem dX5_append_25 : decode cX5_append 25 = .ok (.iload_n 1, 1) := by decide +kernel
theorem dX5_append_26 : decode cX5_append 26 = .ok (.iload_n 2, 1) := by decide +kernel
theorem dX5_append_27 : decode cX5_append 27 = .ok (.iushr, 1) := by decide +kernel
theorem dX5_append_28 : decode cX5_append 28 = .ok (.i2b, 1) := by decide +kernel
theorem dX5_append_29 : decode cX5_append 29 = .ok (.bastore, 1) := by decide +kernel
theorem dX5_append_30 : decode cX5_append 30 = .ok (.aload_n 0, 1) := by decide +kernel
theorem dX5_append_31 : decode cX5_append 31 = .ok (.dup, 1) := by decide +kernel
theorem dX5_append_32 : decode cX5_append 32 = .ok (.getfield 33, 3) := by decide +kernel
theorem dX5_append_35 : decode cX5_append 35 = .ok (.iconst 1, 1) := by decide +kernel
theorem dX5_append_36 : decode cX5_append 36 = .ok (.iadd, 1) := by decide +kernel
theorem dX5_append_37 : decode cX5_append 37 = .ok (.putfield 33, 3) := by decide +kernel
theorem dX5_append_40 : decode cX5_append 40 = .ok (.iinc 2 (-8), 3) := by decide +kernel
theorem dX5_append_43 : decode cX5_append 43 = .ok (.goto (-40), 3) := by decide +kernel
theorem dX5_append_46 : decode cX5_append 46 = .ok (.return_, 1) := by decide +kernel
theorem dX5_exchange_0 : decode cX5_exchange 0 = .ok (.aload_n 0, 1) := by decide +kernel
theorem dX5_exchange_1 : decode cX5_exchange 1 = .ok (.getfield 29, 3) := by decide +kernel
theorem dX5_exchange_4 : decode cX5_exchange 4 = .ok (.astore_n 2, 1) := by decide +kernel
theorem dX5_exchange_5 : decode cX5_exchange 5 = .ok (.aload_n 0, 1) := by decide +kernel
theorem dX5_exchange_6 : decode cX5_exchange 6 = .ok (.aload_n 1, 1) := by decide +kernel
theorem dX5_exchange_7 : decode cX5_exchange 7 = .ok (.putfield 29, 3) := by decide +kernel
theorem dX5_exchange_10 : decode cX5_exchange 10 = .ok (.aload_n 2, 1) := by decide +kernel
theorem dX5_exchange_11 : decode cX5_exchange 11 = .ok (.areturn, 1) := by decide +kernel
theorem dX5_read_0 : decode cX5_read 0 = .ok (.aload_n 0, 1) := by decide +kernel
theorem dX5_read_1 : decode cX5_read 1 = .ok (.iload_n 1, 1) := by decide +kernel
theorem dX5_read_2 : decode cX5_read 2 = .ok (.aload_n 0, 1) := by decide +kernel
theorem dX5_read_3 : decode cX5_read 3 = .ok (.getfield 33, 3) := by decide +kernel
theorem dX5_read_6 : decode cX5_read 6 = .ok (.invokestatic 37, 3) := by decide +kernel
theorem dX5_read_9 : decode cX5_read 9 = .ok (.putfield 43, 3) := by decide +kernel
theorem dX5_read_12 : decode cX5_read 12 = .ok (.aload_n 0, 1) := by decide +kernel
theorem dX5_read_13 : decode cX5_read 13 = .ok (.iconst 0, 1) := by decide +kernel
theorem dX5_read_14 : decode cX5_read 14 = .ok (.putfield 33, 3) := by decide +kernel
theorem dX5_read_17 : decode cX5_read 17 = .ok (.aload_n 0, 1) := by decide +kernel
theorem dX5_read_18 : decode cX5_read 18 = .ok (.iconst 0, 1) := by decide +kernel
theorem dX5_read_19 : decode cX5_read 19 = .ok (.putfield 46, 3) := by decide +kernel
theorem dX5_read_22 : decode cX5_read 22 = .ok (.aload_n 0, 1) := by decide +kernel
theorem dX5_read_23 : decode cX5_read 23 = .ok (.iconst 0, 1) := by decide +kernel
theorem dX5_read_24 : decode cX5_read 24 = .ok (.putfield 49, 3) := by decide +kernel
theorem dX5_read_27 : decode cX5_read 27 = .ok (.aload_n 0, 1) := by decide +kernel
theorem dX5_read_28 : decode cX5_read 28 = .ok (.iconst 0, 1) := by decide +kernel
theorem dX5_read_29 : decode cX5_read 29 = .ok (.putfield 52, 3) := by decide +kernel
theorem dX5_read_32 : decode cX5_read 32 = .ok (.aload_n 0, 1) := by decide +kernel
theorem dX5_read_33 : decode cX5_read 33 = .ok (.getfield 29, 3) := by decide +kernel
theorem dX5_read_36 : decode cX5_read 36 = .ok (.invokevirtual 55, 3) := by decide +kernel
theorem dX5_read_39 : decode cX5_read 39 = .ok (.aload_n 0, 1) := by decide +kernel
theorem dX5_read_40 : decode cX5_read 40 = .ok (.invokevirtual 58, 3) := by decide +kernel
theorem dX5_read_43 : decode cX5_read 43 = .ok (.aload_n 0, 1) := by decide +kernel
theorem dX5_read_44 : decode cX5_read 44 = .ok (.invokevirtual 61, 3) := by decide +kernel
theorem dX5_read_47 : decode cX5_read 47 = .ok (.istore_n 2, 1) := by decide +kernel
theorem dX5_read_48 : decode cX5_read 48 = .ok (.iconst 0, 1) := by decide +kernel
theorem dX5_read_49 : decode cX5_read 49 = .ok (.istore_n 3, 1) := by decide +kernel
theorem dX5_read_50 : decode cX5_read 50 = .ok (.iload_n 3, 1) := by decide +kernel
theorem dX5_read_51 : decode cX5_read 51 = .ok (.sipush 900, 3) := by decide +kernel
theorem dX5_read_54 : decode cX5_read 54 = .ok (.if_icmp .ge 30, 3) := by decide +kernel
theorem dX5_read_57 : decode cX5_read 57 = .ok (.iload_n 2, 1) := by decide +kernel
theorem dX5_read_58 : decode cX5_read 58 = .ok (.ifCond .eq 26, 3) := by decide +kernel
theorem dX5_read_61 : decode cX5_read 61 = .ok (.aload_n 0, 1) := by decide +kernel
theorem dX5_read_62 : decode cX5_read 62 = .ok (.getfield 65, 3) := by decide +kernel
theorem dX5_read_65 : decode cX5_read 65 = .ok (.iconst 3, 1) := by decide +kernel
theorem dX5_read_66 : decode cX5_read 66 = .ok (.if_icmp .ne 18, 3) := by decide +kernel
theorem dX5_read_69 : decode cX5_read 69 = .ok (.aload_n 0, 1) := by decide +kernel
theorem dX5_read_70 : decode cX5_read 70 = .ok (.invokevirtual 58, 3) := by decide +kernel
theorem dX5_read_73 : decode cX5_read 73 = .ok (.aload_n 0, 1) := by decide +kernel
theorem dX5_read_74 : decode cX5_read 74 = .ok (.invokevirtual 61, 3) := by decide +kernel
theorem dX5_read_77 : decode cX5_read 77 = .ok (.istore_n 2, 1) := by decide +kernel
theorem dX5_read_78 : decode cX5_read 78 = .ok (.iinc 3 1, 3) := by decide +kernel
theorem dX5_read_81 : decode cX5_read 81 = .ok (.goto (-31), 3) := by decide +kernel
theorem dX5_read_84 : decode cX5_read 84 = .ok (.iload_n 2, 1) := by decide +kernel
theorem dX5_read_85 : decode cX5_read 85 = .ok (.ifCond .ne 5, 3) := by decide +kernel
theorem dX5_read_88 : decode cX5_read 88 = .ok (.iconst 0, 1) := by decide +kernel
theorem dX5_read_89 : decode cX5_read 89 = .ok (.ireturn, 1) := by decide +kernel
theorem dX5_read_90 : decode cX5_read 90 = .ok (.aload_n 0, 1) := by decide +kernel
theorem dX5_read_91 : decode cX5_read 91 = .ok (.getfield 65, 3) := by decide +kernel
theorem dX5_read_94 : decode cX5_read 94 = .ok (.ifCond .eq 9, 3) := by decide +kernel
theorem dX5_read_97 : decode cX5_read 97 = .ok (.aload_n 0, 1) := by decide +kernel
theorem dX5_read_98 : decode cX5_read 98 = .ok (.iconst 1, 1) := by decide +kernel
theorem dX5_read_99 : decode cX5_read 99 = .ok (.invokevirtual 68, 3) := by decide +kernel
theorem dX5_read_102 : decode cX5_read 102 = .ok (.ireturn, 1) := by decide +kernel
theorem dX5_read_103 : decode cX5_read 103 = .ok (.aload_n 0, 1) := by decide +kernel
theorem dX5_read_104 : decode cX5_read 104 = .ok (.getfield 29, 3) := by decide +kernel
theorem dX5_read_107 : decode cX5_read 107 = .ok (.getfield 72, 3) := by decide +kernel
theorem dX5_read_110 : decode cX5_read 110 = .ok (.ifCond .gt 12, 3) := by decide +kernel
theorem dX5_read_113 : decode cX5_read 113 = .ok (.aload_n 0, 1) := by decide +kernel
theorem dX5_read_114 : decode cX5_read 114 = .ok (.bipush 6, 2) := by decide +kernel
theorem dX5_read_116 : decode cX5_read 116 = .ok (.invokevirtual 68, 3) := by decide +kernel
theorem dX5_read_119 : decode cX5_read 119 = .ok (.ifCond .eq 7, 3) := by decide +kernel
theorem dX5_read_122 : decode cX5_read 122 = .ok (.iconst 1, 1) := by decide +kernel
theorem dX5_read_123 : decode cX5_read 123 = .ok (.goto 4, 3) := by decide +kernel
theorem dX5_read_126 : decode cX5_read 126 = .ok (.iconst 0, 1) := by decide +kernel
theorem dX5_read_127 : decode cX5_read 127 = .ok (.ireturn, 1) := by decide +kernel
theorem dX5_fail_0 : decode cX5_fail 0 = .ok (.aload_n 0, 1) := by decide +kernel
theorem dX5_fail_1 : decode cX5_fail 1 = .ok (.iload_n 1, 1) := by decide +kernel
theorem dX5_fail_2 : decode cX5_fail 2 = .ok (.putfield 49, 3) := by decide +kernel
theorem dX5_fail_5 : decode cX5_fail 5 = .ok (.aload_n 0, 1) := by decide +kernel
theorem dX5_fail_6 : decode cX5_fail 6 = .ok (.aload_n 0, 1) := by decide +kernel
theorem dX5_fail_7 : decode cX5_fail 7 = .ok (.getfield 75, 3) := by decide +kernel
theorem dX5_fail_10 : decode cX5_fail 10 = .ok (.putfield 78, 3) := by decide +kernel
theorem dX5_fail_13 : decode cX5_fail 13 = .ok (.iconst 0, 1) := by decide +kernel
theorem dX5_fail_14 : decode cX5_fail 14 = .ok (.ireturn, 1) := by decide +kernel
theorem dX5_next_0 : decode cX5_next 0 = .ok (.aload_n 0, 1) := by decide +kernel
theorem dX5_next_1 : decode cX5_next 1 = .ok (.getfield 46, 3) := by decide +kernel
theorem dX5_next_4 : decode cX5_next 4 = .ok (.aload_n 0, 1) := by decide +kernel
theorem dX5_next_5 : decode cX5_next 5 = .ok (.getfield 43, 3) := by decide +kernel
theorem dX5_next_8 : decode cX5_next 8 = .ok (.if_icmp .ge 30, 3) := by decide +kernel
theorem dX5_next_11 : decode cX5_next 11 = .ok (.aload_n 0, 1) := by decide +kernel
theorem dX5_next_12 : decode cX5_next 12 = .ok (.getfield 9, 3) := by decide +kernel
theorem dX5_next_15 : decode cX5_next 15 = .ok (.aload_n 0, 1) := by decide +kernel
theorem dX5_next_16 : decode cX5_next 16 = .ok (.getfield 46, 3) := by decide +kernel
theorem dX5_next_19 : decode cX5_next 19 = .ok (.baload, 1) := by decide +kernel
theorem dX5_next_20 : decode cX5_next 20 = .ok (.bipush 32, 2) := by decide +kernel
theorem dX5_next_22 : decode cX5_next 22 = .ok (.if_icmp .ne 16, 3) := by decide +kernel
theorem dX5_next_25 : decode cX5_next 25 = .ok (.aload_n 0, 1) := by decide +kernel
theorem dX5_next_26 : decode cX5_next 26 = .ok (.dup, 1) := by decide +kernel
theorem dX5_next_27 : decode cX5_next 27 = .ok (.getfield 46, 3) := by decide +kernel
theorem dX5_next_30 : decode cX5_next 30 = .ok (.iconst 1, 1) := by decide +kernel
theorem dX5_next_31 : decode cX5_next 31 = .ok (.iadd, 1) := by decide +kernel
theorem dX5_next_32 : decode cX5_next 32 = .ok (.putfield 46, 3) := by decide +kernel
theorem dX5_next_35 : decode cX5_next 35 = .ok (.goto (-35), 3) := by decide +kernel
theorem dX5_next_38 : decode cX5_next 38 = .ok (.aload_n 0, 1) := by decide +kernel
theorem dX5_next_39 : decode cX5_next 39 = .ok (.aload_n 0, 1) := by decide +kernel
theorem dX5_next_40 : decode cX5_next 40 = .ok (.getfield 46, 3) := by decide +kernel
theorem dX5_next_43 : decode cX5_next 43 = .ok (.putfield 75, 3) := by decide +kernel
theorem dX5_next_46 : decode cX5_next 46 = .ok (.aload_n 0, 1) := by decide +kernel
theorem dX5_next_47 : decode cX5_next 47 = .ok (.getfield 46, 3) := by decide +kernel
theorem dX5_next_50 : decode cX5_next 50 = .ok (.aload_n 0, 1) := by decide +kernel
theorem dX5_next_51 : decode cX5_next 51 = .ok (.getfield 43, 3) := by decide +kernel
theorem dX5_next_54 : decode cX5_next 54 = .ok (.if_icmp .lt 11, 3) := by decide +kernel
theorem dX5_next_57 : decode cX5_next 57 = .ok (.aload_n 0, 1) := by decide +kernel
theorem dX5_next_58 : decode cX5_next 58 = .ok (.iconst 0, 1) := by decide +kernel
theorem dX5_next_59 : decode cX5_next 59 = .ok (.putfield 65, 3) := by decide +kernel
theorem dX5_next_62 : decode cX5_next 62 = .ok (.goto 110, 3) := by decide +kernel
theorem dX5_next_65 : decode cX5_next 65 = .ok (.aload_n 0, 1) := by decide +kernel
theorem dX5_next_66 : decode cX5_next 66 = .ok (.getfield 9, 3) := by decide +kernel
theorem dX5_next_69 : decode cX5_next 69 = .ok (.aload_n 0, 1) := by decide +kernel
theorem dX5_next_70 : decode cX5_next 70 = .ok (.getfield 46, 3) := by decide +kernel
theorem dX5_next_73 : decode cX5_next 73 = .ok (.baload, 1) := by decide +kernel
theorem dX5_next_74 : decode cX5_next 74 = .ok (.bipush 59, 2) := by decide +kernel
theorem dX5_next_76 : decode cX5_next 76 = .ok (.if_icmp .ne 21, 3) := by decide +kernel
theorem dX5_next_79 : decode cX5_next 79 = .ok (.aload_n 0, 1) := by decide +kernel
theorem dX5_next_80 : decode cX5_next 80 = .ok (.iconst 3, 1) := by decide +kernel
theorem dX5_next_81 : decode cX5_next 81 = .ok (.putfield 65, 3) := by decide +kernel
theorem dX5_next_84 : decode cX5_next 84 = .ok (.aload_n 0, 1) := by decide +kernel
theorem dX5_next_85 : decode cX5_next 85 = .ok (.dup, 1) := by decide +kernel
theorem dX5_next_86 : decode cX5_next 86 = .ok (.getfield 46, 3) := by decide +kernel
theorem dX5_next_89 : decode cX5_next 89 = .ok (.iconst 1, 1) := by decide +kernel
theorem dX5_next_90 : decode cX5_next 90 = .ok (.iadd, 1) := by decide +kernel
theorem dX5_next_91 : decode cX5_next 91 = .ok (.putfield 46, 3) := by decide +kernel
theorem dX5_next_94 : decode cX5_next 94 = .ok (.goto 78, 3) := by decide +kernel
theorem dX5_next_97 : decode cX5_next 97 = .ok (.aload_n 0, 1) := by decide +kernel
theorem dX5_next_98 : decode cX5_next 98 = .ok (.getfield 9, 3) := by decide +kernel
theorem dX5_next_101 : decode cX5_next 101 = .ok (.aload_n 0, 1) := by decide +kernel
theorem dX5_next_102 : decode cX5_next 102 = .ok (.getfield 46, 3) := by decide +kernel
theorem dX5_next_105 : decode cX5_next 105 = .ok (.baload, 1) := by decide +kernel
theorem dX5_next_106 : decode cX5_next 106 = .ok (.bipush 97, 2) := by decide +kernel
theorem dX5_next_108 : decode cX5_next 108 = .ok (.if_icmp .lt 24, 3) := by decide +kernel
theorem dX5_next_111 : decode cX5_next 111 = .ok (.aload_n 0, 1) := by decide +kernel
theorem dX5_next_112 : decode cX5_next 112 = .ok (.getfield 9, 3) := by decide +kernel
theorem dX5_next_115 : decode cX5_next 115 = .ok (.aload_n 0, 1) := by decide +kernel
theorem dX5_next_116 : decode cX5_next 116 = .ok (.getfield 46, 3) := by decide +kernel
theorem dX5_next_119 : decode cX5_next 119 = .ok (.baload, 1) := by decide +kernel
theorem dX5_next_120 : decode cX5_next 120 = .ok (.bipush 122, 2) := by decide +kernel
theorem dX5_next_122 : decode cX5_next 122 = .ok (.if_icmp .gt 10, 3) := by decide +kernel
theorem dX5_next_125 : decode cX5_next 125 = .ok (.aload_n 0, 1) := by decide +kernel
theorem dX5_next_126 : decode cX5_next 126 = .ok (.invokevirtual 81, 3) := by decide +kernel
theorem dX5_next_129 : decode cX5_next 129 = .ok (.goto 43, 3) := by decide +kernel
theorem dX5_next_132 : decode cX5_next 132 = .ok (.aload_n 0, 1) := by decide +kernel
theorem dX5_next_133 : decode cX5_next 133 = .ok (.getfield 9, 3) := by decide +kernel
theorem dX5_next_136 : decode cX5_next 136 = .ok (.aload_n 0, 1) := by decide +kernel
theorem dX5_next_137 : decode cX5_next 137 = .ok (.getfield 46, 3) := by decide +kernel
theorem dX5_next_140 : decode cX5_next 140 = .ok (.baload, 1) := by decide +kernel
theorem dX5_next_141 : decode cX5_next 141 = .ok (.bipush 48, 2) := by decide +kernel
theorem dX5_next_143 : decode cX5_next 143 = .ok (.if_icmp .lt 24, 3) := by decide +kernel
theorem dX5_next_146 : decode cX5_next 146 = .ok (.aload_n 0, 1) := by decide +kernel
theorem dX5_next_147 : decode cX5_next 147 = .ok (.getfield 9, 3) := by decide +kernel
theorem dX5_next_150 : decode cX5_next 150 = .ok (.aload_n 0, 1) := by decide +kernel
theorem dX5_next_151 : decode cX5_next 151 = .ok (.getfield 46, 3) := by decide +kernel
theorem dX5_next_154 : decode cX5_next 154 = .ok (.baload, 1) := by decide +kernel
theorem dX5_next_155 : decode cX5_next 155 = .ok (.bipush 57, 2) := by decide +kernel
theorem dX5_next_157 : decode cX5_next 157 = .ok (.if_icmp .gt 10, 3) := by decide +kernel
theorem dX5_next_160 : decode cX5_next 160 = .ok (.aload_n 0, 1) := by decide +kernel
theorem dX5_next_161 : decode cX5_next 161 = .ok (.invokevirtual 84, 3) := by decide +kernel
theorem dX5_next_164 : decode cX5_next 164 = .ok (.goto 8, 3) := by decide +kernel
theorem dX5_next_167 : decode cX5_next 167 = .ok (.aload_n 0, 1) := by decide +kernel
theorem dX5_next_168 : decode cX5_next 168 = .ok (.iconst 4, 1) := by decide +kernel
theorem dX5_next_169 : decode cX5_next 169 = .ok (.putfield 65, 3) := by decide +kernel
theorem dX5_next_172 : decode cX5_next 172 = .ok (.return_, 1) := by decide +kernel
theorem dX5_scanWord_0 : decode cX5_scanWord 0 = .ok (.aload_n 0, 1) := by decide +kernel
theorem dX5_scanWord_1 : decode cX5_scanWord 1 = .ok (.lconst 0, 1) := by decide +kernel
theorem dX5_scanWord_2 : decode cX5_scanWord 2 = .ok (.putfield 87, 3) := by decide +kernel
theorem dX5_scanWord_5 : decode cX5_scanWord 5 = .ok (.aload_n 0, 1) := by decide +kernel
theorem dX5_scanWord_6 : decode cX5_scanWord 6 = .ok (.getfield 46, 3) := by decide +kernel
theorem dX5_scanWord_9 : decode cX5_scanWord 9 = .ok (.aload_n 0, 1) := by decide +kernel
theorem dX5_scanWord_10 : decode cX5_scanWord 10 = .ok (.getfield 43, 3) := by decide +kernel
theorem dX5_scanWord_13 : decode cX5_scanWord 13 = .ok (.if_icmp .ge 66, 3) := by decide +kernel
theorem dX5_scanWord_16 : decode cX5_scanWord 16 = .ok (.aload_n 0, 1) := by decide +kernel
theorem dX5_scanWord_17 : decode cX5_scanWord 17 = .ok (.getfield 9, 3) := by decide +kernel
theorem dX5_scanWord_20 : decode cX5_scanWord 20 = .ok (.aload_n 0, 1) := by decide +kernel
theorem dX5_scanWord_21 : decode cX5_scanWord 21 = .ok (.getfield 46, 3) := by decide +kernel
theorem dX5_scanWord_24 : decode cX5_scanWord 24 = .ok (.baload, 1) := by decide +kernel
theorem dX5_scanWord_25 : decode cX5_scanWord 25 = .ok (.bipush 97, 2) := by decide +kernel
theorem dX5_scanWord_27 : decode cX5_scanWord 27 = .ok (.if_icmp .lt 52, 3) := by decide +kernel
theorem dX5_scanWord_30 : decode cX5_scanWord 30 = .ok (.aload_n 0, 1) := by decide +kernel
theorem dX5_scanWord_31 : decode cX5_scanWord 31 = .ok (.getfield 9, 3) := by decide +kernel
theorem dX5_scanWord_34 : decode cX5_scanWord 34 = .ok (.aload_n 0, 1) := by decide +kernel
theorem dX5_scanWord_35 : decode cX5_scanWord 35 = .ok (.getfield 46, 3) := by decide +kernel
theorem dX5_scanWord_38 : decode cX5_scanWord 38 = .ok (.baload, 1) := by decide +kernel
theorem dX5_scanWord_39 : decode cX5_scanWord 39 = .ok (.bipush 122, 2) := by decide +kernel
theorem dX5_scanWord_41 : decode cX5_scanWord 41 = .ok (.if_icmp .gt 38, 3) := by decide +kernel
theorem dX5_scanWord_44 : decode cX5_scanWord 44 = .ok (.aload_n 0, 1) := by decide +kernel
theorem dX5_scanWord_45 : decode cX5_scanWord 45 = .ok (.aload_n 0, 1) := by decide +kernel
theorem dX5_scanWord_46 : decode cX5_scanWord 46 = .ok (.getfield 87, 3) := by decide +kernel
theorem dX5_scanWord_49 : decode cX5_scanWord 49 = .ok (.bipush 8, 2) := by decide +kernel
theorem dX5_scanWord_51 : decode cX5_scanWord 51 = .ok (.lshl, 1) := by decide +kernel
theorem dX5_scanWord_52 : decode cX5_scanWord 52 = .ok (.aload_n 0, 1) := by decide +kernel
theorem dX5_scanWord_53 : decode cX5_scanWord 53 = .ok (.getfield 9, 3) := by decide +kernel
theorem dX5_scanWord_56 : decode cX5_scanWord 56 = .ok (.aload_n 0, 1) := by decide +kernel
theorem dX5_scanWord_57 : decode cX5_scanWord 57 = .ok (.getfield 46, 3) := by decide +kernel
theorem dX5_scanWord_60 : decode cX5_scanWord 60 = .ok (.baload, 1) := by decide +kernel
theorem dX5_scanWord_61 : decode cX5_scanWord 61 = .ok (.i2l, 1) := by decide +kernel
theorem dX5_scanWord_62 : decode cX5_scanWord 62 = .ok (.lor, 1) := by decide +kernel
theorem dX5_scanWord_63 : decode cX5_scanWord 63 = .ok (.putfield 87, 3) := by decide +kernel
theorem dX5_scanWord_66 : decode cX5_scanWord 66 = .ok (.aload_n 0, 1) := by decide +kernel
theorem dX5_scanWord_67 : decode cX5_scanWord 67 = .ok (.dup, 1) := by decide +kernel
theorem dX5_scanWord_68 : decode cX5_scanWord 68 = .ok (.getfield 46, 3) := by decide +kernel
theorem dX5_scanWord_71 : decode cX5_scanWord 71 = .ok (.iconst 1, 1) := by decide +kernel
theorem dX5_scanWord_72 : decode cX5_scanWord 72 = .ok (.iadd, 1) := by decide +kernel
theorem dX5_scanWord_73 : decode cX5_scanWord 73 = .ok (.putfield 46, 3) := by decide +kernel
theorem dX5_scanWord_76 : decode cX5_scanWord 76 = .ok (.goto (-71), 3) := by decide +kernel
theorem dX5_scanWord_79 : decode cX5_scanWord 79 = .ok (.aload_n 0, 1) := by decide +kernel
theorem dX5_scanWord_80 : decode cX5_scanWord 80 = .ok (.aload_n 0, 1) := by decide +kernel
theorem dX5_scanWord_81 : decode cX5_scanWord 81 = .ok (.getfield 46, 3) := by decide +kernel
theorem dX5_scanWord_84 : decode cX5_scanWord 84 = .ok (.aload_n 0, 1) := by decide +kernel
theorem dX5_scanWord_85 : decode cX5_scanWord 85 = .ok (.getfield 75, 3) := by decide +kernel
theorem dX5_scanWord_88 : decode cX5_scanWord 88 = .ok (.isub, 1) := by decide +kernel
theorem dX5_scanWord_89 : decode cX5_scanWord 89 = .ok (.bipush 8, 2) := by decide +kernel
theorem dX5_scanWord_91 : decode cX5_scanWord 91 = .ok (.if_icmp .gt 7, 3) := by decide +kernel
theorem dX5_scanWord_94 : decode cX5_scanWord 94 = .ok (.iconst 1, 1) := by decide +kernel
theorem dX5_scanWord_95 : decode cX5_scanWord 95 = .ok (.goto 4, 3) := by decide +kernel
theorem dX5_scanWord_98 : decode cX5_scanWord 98 = .ok (.iconst 4, 1) := by decide +kernel
theorem dX5_scanWord_99 : decode cX5_scanWord 99 = .ok (.putfield 65, 3) := by decide +kernel
theorem dX5_scanWord_102 : decode cX5_scanWord 102 = .ok (.return_, 1) := by decide +kernel
theorem dX5_scanWhole_0 : decode cX5_scanWhole 0 = .ok (.aload_n 0, 1) := by decide +kernel
theorem dX5_scanWhole_1 : decode cX5_scanWhole 1 = .ok (.iconst 0, 1) := by decide +kernel
theorem dX5_scanWhole_2 : decode cX5_scanWhole 2 = .ok (.putfield 91, 3) := by decide +kernel
theorem dX5_scanWhole_5 : decode cX5_scanWhole 5 = .ok (.aload_n 0, 1) := by decide +kernel
theorem dX5_scanWhole_6 : decode cX5_scanWhole 6 = .ok (.getfield 46, 3) := by decide +kernel
theorem dX5_scanWhole_9 : decode cX5_scanWhole 9 = .ok (.aload_n 0, 1) := by decide +kernel
theorem dX5_scanWhole_10 : decode cX5_scanWhole 10 = .ok (.getfield 43, 3) := by decide +kernel
theorem dX5_scanWhole_13 : decode cX5_scanWhole 13 = .ok (.if_icmp .ge 68, 3) := by decide +kernel
theorem dX5_scanWhole_16 : decode cX5_scanWhole 16 = .ok (.aload_n 0, 1) := by decide +kernel
theorem dX5_scanWhole_17 : decode cX5_scanWhole 17 = .ok (.getfield 9, 3) := by decide +kernel
theorem dX5_scanWhole_20 : decode cX5_scanWhole 20 = .ok (.aload_n 0, 1) := by decide +kernel
theorem dX5_scanWhole_21 : decode cX5_scanWhole 21 = .ok (.getfield 46, 3) := by decide +kernel
theorem dX5_scanWhole_24 : decode cX5_scanWhole 24 = .ok (.baload, 1) := by decide +kernel
theorem dX5_scanWhole_25 : decode cX5_scanWhole 25 = .ok (.bipush 48, 2) := by decide +kernel
theorem dX5_scanWhole_27 : decode cX5_scanWhole 27 = .ok (.if_icmp .lt 54, 3) := by decide +kernel
theorem dX5_scanWhole_30 : decode cX5_scanWhole 30 = .ok (.aload_n 0, 1) := by decide +kernel
theorem dX5_scanWhole_31 : decode cX5_scanWhole 31 = .ok (.getfield 9, 3) := by decide +kernel
theorem dX5_scanWhole_34 : decode cX5_scanWhole 34 = .ok (.aload_n 0, 1) := by decide +kernel
theorem dX5_scanWhole_35 : decode cX5_scanWhole 35 = .ok (.getfield 46, 3) := by decide +kernel
theorem dX5_scanWhole_38 : decode cX5_scanWhole 38 = .ok (.baload, 1) := by decide +kernel
theorem dX5_scanWhole_39 : decode cX5_scanWhole 39 = .ok (.bipush 57, 2) := by decide +kernel
theorem dX5_scanWhole_41 : decode cX5_scanWhole 41 = .ok (.if_icmp .gt 40, 3) := by decide +kernel
theorem dX5_scanWhole_44 : decode cX5_scanWhole 44 = .ok (.aload_n 0, 1) := by decide +kernel
theorem dX5_scanWhole_45 : decode cX5_scanWhole 45 = .ok (.bipush 10, 2) := by decide +kernel
theorem dX5_scanWhole_47 : decode cX5_scanWhole 47 = .ok (.aload_n 0, 1) := by decide +kernel
theorem dX5_scanWhole_48 : decode cX5_scanWhole 48 = .ok (.getfield 91, 3) := by decide +kernel
theorem dX5_scanWhole_51 : decode cX5_scanWhole 51 = .ok (.imul, 1) := by decide +kernel
theorem dX5_scanWhole_52 : decode cX5_scanWhole 52 = .ok (.aload_n 0, 1) := by decide +kernel
theorem dX5_scanWhole_53 : decode cX5_scanWhole 53 = .ok (.getfield 9, 3) := by decide +kernel
theorem dX5_scanWhole_56 : decode cX5_scanWhole 56 = .ok (.aload_n 0, 1) := by decide +kernel
theorem dX5_scanWhole_57 : decode cX5_scanWhole 57 = .ok (.getfield 46, 3) := by decide +kernel
theorem dX5_scanWhole_60 : decode cX5_scanWhole 60 = .ok (.baload, 1) := by decide +kernel
theorem dX5_scanWhole_61 : decode cX5_scanWhole 61 = .ok (.iadd, 1) := by decide +kernel
theorem dX5_scanWhole_62 : decode cX5_scanWhole 62 = .ok (.bipush 48, 2) := by decide +kernel
theorem dX5_scanWhole_64 : decode cX5_scanWhole 64 = .ok (.isub, 1) := by decide +kernel
theorem dX5_scanWhole_65 : decode cX5_scanWhole 65 = .ok (.putfield 91, 3) := by decide +kernel
theorem dX5_scanWhole_68 : decode cX5_scanWhole 68 = .ok (.aload_n 0, 1) := by decide +kernel
theorem dX5_scanWhole_69 : decode cX5_scanWhole 69 = .ok (.dup, 1) := by decide +kernel
theorem dX5_scanWhole_70 : decode cX5_scanWhole 70 = .ok (.getfield 46, 3) := by decide +kernel
theorem dX5_scanWhole_73 : decode cX5_scanWhole 73 = .ok (.iconst 1, 1) := by decide +kernel
theorem dX5_scanWhole_74 : decode cX5_scanWhole 74 = .ok (.iadd, 1) := by decide +kernel
theorem dX5_scanWhole_75 : decode cX5_scanWhole 75 = .ok (.putfield 46, 3) := by decide +kernel
theorem dX5_scanWhole_78 : decode cX5_scanWhole 78 = .ok (.goto (-73), 3) := by decide +kernel
theorem dX5_scanWhole_81 : decode cX5_scanWhole 81 = .ok (.aload_n 0, 1) := by decide +kernel
theorem dX5_scanWhole_82 : decode cX5_scanWhole 82 = .ok (.aload_n 0, 1) := by decide +kernel
theorem dX5_scanWhole_83 : decode cX5_scanWhole 83 = .ok (.getfield 46, 3) := by decide +kernel
theorem dX5_scanWhole_86 : decode cX5_scanWhole 86 = .ok (.aload_n 0, 1) := by decide +kernel
theorem dX5_scanWhole_87 : decode cX5_scanWhole 87 = .ok (.getfield 75, 3) := by decide +kernel
theorem dX5_scanWhole_90 : decode cX5_scanWhole 90 = .ok (.isub, 1) := by decide +kernel
theorem dX5_scanWhole_91 : decode cX5_scanWhole 91 = .ok (.iconst 3, 1) := by decide +kernel
theorem dX5_scanWhole_92 : decode cX5_scanWhole 92 = .ok (.if_icmp .gt 7, 3) := by decide +kernel
theorem dX5_scanWhole_95 : decode cX5_scanWhole 95 = .ok (.iconst 2, 1) := by decide +kernel
theorem dX5_scanWhole_96 : decode cX5_scanWhole 96 = .ok (.goto 4, 3) := by decide +kernel
theorem dX5_scanWhole_99 : decode cX5_scanWhole 99 = .ok (.iconst 4, 1) := by decide +kernel
theorem dX5_scanWhole_100 : decode cX5_scanWhole 100 = .ok (.putfield 65, 3) := by decide +kernel
theorem dX5_scanWhole_103 : decode cX5_scanWhole 103 = .ok (.return_, 1) := by decide +kernel
theorem dX5_isWord_0 : decode cX5_isWord 0 = .ok (.aload_n 0, 1) := by decide +kernel
theorem dX5_isWord_1 : decode cX5_isWord 1 = .ok (.getfield 65, 3) := by decide +kernel
theorem dX5_isWord_4 : decode cX5_isWord 4 = .ok (.iconst 1, 1) := by decide +kernel
theorem dX5_isWord_5 : decode cX5_isWord 5 = .ok (.if_icmp .ne 16, 3) := by decide +kernel
theorem dX5_isWord_8 : decode cX5_isWord 8 = .ok (.aload_n 0, 1) := by decide +kernel
theorem dX5_isWord_9 : decode cX5_isWord 9 = .ok (.getfield 87, 3) := by decide +kernel
theorem dX5_isWord_12 : decode cX5_isWord 12 = .ok (.lload_n 1, 1) := by decide +kernel
theorem dX5_isWord_13 : decode cX5_isWord 13 = .ok (.lcmp, 1) := by decide +kernel
theorem dX5_isWord_14 : decode cX5_isWord 14 = .ok (.ifCond .ne 7, 3) := by decide +kernel
theorem dX5_isWord_17 : decode cX5_isWord 17 = .ok (.iconst 1, 1) := by decide +kernel
theorem dX5_isWord_18 : decode cX5_isWord 18 = .ok (.goto 4, 3) := by decide +kernel
theorem dX5_isWord_21 : decode cX5_isWord 21 = .ok (.iconst 0, 1) := by decide +kernel
theorem dX5_isWord_22 : decode cX5_isWord 22 = .ok (.ireturn, 1) := by decide +kernel
theorem dX5_lineOfWord_0 : decode cX5_lineOfWord 0 = .ok (.aload_n 0, 1) := by decide +kernel
theorem dX5_lineOfWord_1 : decode cX5_lineOfWord 1 = .ok (.getfield 65, 3) := by decide +kernel
theorem dX5_lineOfWord_4 : decode cX5_lineOfWord 4 = .ok (.iconst 1, 1) := by decide +kernel
theorem dX5_lineOfWord_5 : decode cX5_lineOfWord 5 = .ok (.if_icmp .eq 5, 3) := by decide +kernel
theorem dX5_lineOfWord_8 : decode cX5_lineOfWord 8 = .ok (.iconst (-1), 1) := by decide +kernel
theorem dX5_lineOfWord_9 : decode cX5_lineOfWord 9 = .ok (.ireturn, 1) := by decide +kernel
theorem dX5_lineOfWord_10 : decode cX5_lineOfWord 10 = .ok (.aload_n 0, 1) := by decide +kernel
theorem dX5_lineOfWord_11 : decode cX5_lineOfWord 11 = .ok (.getfield 87, 3) := by decide +kernel
theorem dX5_lineOfWord_14 : decode cX5_lineOfWord 14 = .ok (.ldc2_w 94, 3) := by decide +kernel
theorem dX5_lineOfWord_17 : decode cX5_lineOfWord 17 = .ok (.lcmp, 1) := by decide +kernel
theorem dX5_lineOfWord_18 : decode cX5_lineOfWord 18 = .ok (.ifCond .ne 5, 3) := by decide +kernel
theorem dX5_lineOfWord_21 : decode cX5_lineOfWord 21 = .ok (.iconst 0, 1) := by decide +kernel
theorem dX5_lineOfWord_22 : decode cX5_lineOfWord 22 = .ok (.ireturn, 1) := by decide +kernel
theorem dX5_lineOfWord_23 : decode cX5_lineOfWord 23 = .ok (.aload_n 0, 1) := by decide +kernel
theorem dX5_lineOfWord_24 : decode cX5_lineOfWord 24 = .ok (.getfield 87, 3) := by decide +kernel
theorem dX5_lineOfWord_27 : decode cX5_lineOfWord 27 = .ok (.ldc2_w 96, 3) := by decide +kernel
theorem dX5_lineOfWord_30 : decode cX5_lineOfWord 30 = .ok (.lcmp, 1) := by decide +kernel
theorem dX5_lineOfWord_31 : decode cX5_lineOfWord 31 = .ok (.ifCond .ne 5, 3) := by decide +kernel
theorem dX5_lineOfWord_34 : decode cX5_lineOfWord 34 = .ok (.iconst 1, 1) := by decide +kernel
theorem dX5_lineOfWord_35 : decode cX5_lineOfWord 35 = .ok (.ireturn, 1) := by decide +kernel
theorem dX5_lineOfWord_36 : decode cX5_lineOfWord 36 = .ok (.aload_n 0, 1) := by decide +kernel
theorem dX5_lineOfWord_37 : decode cX5_lineOfWord 37 = .ok (.getfield 87, 3) := by decide +kernel
theorem dX5_lineOfWord_40 : decode cX5_lineOfWord 40 = .ok (.ldc2_w 98, 3) := by decide +kernel
theorem dX5_lineOfWord_43 : decode cX5_lineOfWord 43 = .ok (.lcmp, 1) := by decide +kernel
theorem dX5_lineOfWord_44 : decode cX5_lineOfWord 44 = .ok (.ifCond .ne 5, 3) := by decide +kernel
theorem dX5_lineOfWord_47 : decode cX5_lineOfWord 47 = .ok (.iconst 2, 1) := by decide +kernel
theorem dX5_lineOfWord_48 : decode cX5_lineOfWord 48 = .ok (.ireturn, 1) := by decide +kernel
theorem dX5_lineOfWord_49 : decode cX5_lineOfWord 49 = .ok (.aload_n 0, 1) := by decide +kernel
theorem dX5_lineOfWord_50 : decode cX5_lineOfWord 50 = .ok (.getfield 87, 3) := by decide +kernel
theorem dX5_lineOfWord_53 : decode cX5_lineOfWord 53 = .ok (.ldc2_w 100, 3) := by decide +kernel
theorem dX5_lineOfWord_56 : decode cX5_lineOfWord 56 = .ok (.lcmp, 1) := by decide +kernel
theorem dX5_lineOfWord_57 : decode cX5_lineOfWord 57 = .ok (.ifCond .ne 5, 3) := by decide +kernel
theorem dX5_lineOfWord_60 : decode cX5_lineOfWord 60 = .ok (.iconst 3, 1) := by decide +kernel
theorem dX5_lineOfWord_61 : decode cX5_lineOfWord 61 = .ok (.ireturn, 1) := by decide +kernel
theorem dX5_lineOfWord_62 : decode cX5_lineOfWord 62 = .ok (.aload_n 0, 1) := by decide +kernel
theorem dX5_lineOfWord_63 : decode cX5_lineOfWord 63 = .ok (.getfield 87, 3) := by decide +kernel
theorem dX5_lineOfWord_66 : decode cX5_lineOfWord 66 = .ok (.ldc2_w 102, 3) := by decide +kernel
theorem dX5_lineOfWord_69 : decode cX5_lineOfWord 69 = .ok (.lcmp, 1) := by decide +kernel
theorem dX5_lineOfWord_70 : decode cX5_lineOfWord 70 = .ok (.ifCond .ne 5, 3) := by decide +kernel
theorem dX5_lineOfWord_73 : decode cX5_lineOfWord 73 = .ok (.iconst 4, 1) := by decide +kernel
theorem dX5_lineOfWord_74 : decode cX5_lineOfWord 74 = .ok (.ireturn, 1) := by decide +kernel
theorem dX5_lineOfWord_75 : decode cX5_lineOfWord 75 = .ok (.aload_n 0, 1) := by decide +kernel
theorem dX5_lineOfWord_76 : decode cX5_lineOfWord 76 = .ok (.getfield 87, 3) := by decide +kernel
theorem dX5_lineOfWord_79 : decode cX5_lineOfWord 79 = .ok (.ldc2_w 104, 3) := by decide +kernel
theorem dX5_lineOfWord_82 : decode cX5_lineOfWord 82 = .ok (.lcmp, 1) := by decide +kernel
theorem dX5_lineOfWord_83 : decode cX5_lineOfWord 83 = .ok (.ifCond .ne 5, 3) := by decide +kernel
theorem dX5_lineOfWord_86 : decode cX5_lineOfWord 86 = .ok (.iconst 5, 1) := by decide +kernel
theorem dX5_lineOfWord_87 : decode cX5_lineOfWord 87 = .ok (.ireturn, 1) := by decide +kernel
theorem dX5_lineOfWord_88 : decode cX5_lineOfWord 88 = .ok (.aload_n 0, 1) := by decide +kernel
theorem dX5_lineOfWord_89 : decode cX5_lineOfWord 89 = .ok (.getfield 87, 3) := by decide +kernel
theorem dX5_lineOfWord_92 : decode cX5_lineOfWord 92 = .ok (.ldc2_w 106, 3) := by decide +kernel
theorem dX5_lineOfWord_95 : decode cX5_lineOfWord 95 = .ok (.lcmp, 1) := by decide +kernel
theorem dX5_lineOfWord_96 : decode cX5_lineOfWord 96 = .ok (.ifCond .ne 8, 3) := by decide +kernel
theorem dX5_lineOfWord_99 : decode cX5_lineOfWord 99 = .ok (.bipush 6, 2) := by decide +kernel
theorem dX5_lineOfWord_101 : decode cX5_lineOfWord 101 = .ok (.goto 4, 3) := by decide +kernel
theorem dX5_lineOfWord_104 : decode cX5_lineOfWord 104 = .ok (.iconst (-1), 1) := by decide +kernel
theorem dX5_lineOfWord_105 : decode cX5_lineOfWord 105 = .ok (.ireturn, 1) := by decide +kernel
theorem dX5_kindOfWord_0 : decode cX5_kindOfWord 0 = .ok (.aload_n 0, 1) := by decide +kernel
theorem dX5_kindOfWord_1 : decode cX5_kindOfWord 1 = .ok (.ldc2_w 108, 3) := by decide +kernel
theorem dX5_kindOfWord_4 : decode cX5_kindOfWord 4 = .ok (.invokevirtual 110, 3) := by decide +kernel
theorem dX5_kindOfWord_7 : decode cX5_kindOfWord 7 = .ok (.ifCond .eq 5, 3) := by decide +kernel
theorem dX5_kindOfWord_10 : decode cX5_kindOfWord 10 = .ok (.iconst 0, 1) := by decide +kernel
theorem dX5_kindOfWord_11 : decode cX5_kindOfWord 11 = .ok (.ireturn, 1) := by decide +kernel
theorem dX5_kindOfWord_12 : decode cX5_kindOfWord 12 = .ok (.aload_n 0, 1) := by decide +kernel
theorem dX5_kindOfWord_13 : decode cX5_kindOfWord 13 = .ok (.ldc2_w 114, 3) := by decide +kernel
theorem dX5_kindOfWord_16 : decode cX5_kindOfWord 16 = .ok (.invokevirtual 110, 3) := by decide +kernel
theorem dX5_kindOfWord_19 : decode cX5_kindOfWord 19 = .ok (.ifCond .eq 5, 3) := by decide +kernel
theorem dX5_kindOfWord_22 : decode cX5_kindOfWord 22 = .ok (.iconst 1, 1) := by decide +kernel
theorem dX5_kindOfWord_23 : decode cX5_kindOfWord 23 = .ok (.ireturn, 1) := by decide +kernel
theorem dX5_kindOfWord_24 : decode cX5_kindOfWord 24 = .ok (.aload_n 0, 1) := by decide +kernel
theorem dX5_kindOfWord_25 : decode cX5_kindOfWord 25 = .ok (.ldc2_w 116, 3) := by decide +kernel
theorem dX5_kindOfWord_28 : decode cX5_kindOfWord 28 = .ok (.invokevirtual 110, 3) := by decide +kernel
theorem dX5_kindOfWord_31 : decode cX5_kindOfWord 31 = .ok (.ifCond .eq 5, 3) := by decide +kernel
theorem dX5_kindOfWord_34 : decode cX5_kindOfWord 34 = .ok (.iconst 2, 1) := by decide +kernel
theorem dX5_kindOfWord_35 : decode cX5_kindOfWord 35 = .ok (.ireturn, 1) := by decide +kernel
theorem dX5_kindOfWord_36 : decode cX5_kindOfWord 36 = .ok (.aload_n 0, 1) := by decide +kernel
theorem dX5_kindOfWord_37 : decode cX5_kindOfWord 37 = .ok (.ldc2_w 118, 3) := by decide +kernel
theorem dX5_kindOfWord_40 : decode cX5_kindOfWord 40 = .ok (.invokevirtual 110, 3) := by decide +kernel
theorem dX5_kindOfWord_43 : decode cX5_kindOfWord 43 = .ok (.ifCond .eq 7, 3) := by decide +kernel
theorem dX5_kindOfWord_46 : decode cX5_kindOfWord 46 = .ok (.iconst 3, 1) := by decide +kernel
theorem dX5_kindOfWord_47 : decode cX5_kindOfWord 47 = .ok (.goto 4, 3) := by decide +kernel
theorem dX5_kindOfWord_50 : decode cX5_kindOfWord 50 = .ok (.iconst (-1), 1) := by decide +kernel
theorem dX5_kindOfWord_51 : decode cX5_kindOfWord 51 = .ok (.ireturn, 1) := by decide +kernel
theorem dX5_readLine_0 : decode cX5_readLine 0 = .ok (.aload_n 0, 1) := by decide +kernel
theorem dX5_readLine_1 : decode cX5_readLine 1 = .ok (.invokevirtual 120, 3) := by decide +kernel
theorem dX5_readLine_4 : decode cX5_readLine 4 = .ok (.istore_n 1, 1) := by decide +kernel
theorem dX5_readLine_5 : decode cX5_readLine 5 = .ok (.iload_n 1, 1) := by decide +kernel
theorem dX5_readLine_6 : decode cX5_readLine 6 = .ok (.iconst (-1), 1) := by decide +kernel
theorem dX5_readLine_7 : decode cX5_readLine 7 = .ok (.if_icmp .ne 9, 3) := by decide +kernel
theorem dX5_readLine_10 : decode cX5_readLine 10 = .ok (.aload_n 0, 1) := by decide +kernel
theorem dX5_readLine_11 : decode cX5_readLine 11 = .ok (.iconst 1, 1) := by decide +kernel
theorem dX5_readLine_12 : decode cX5_readLine 12 = .ok (.invokevirtual 68, 3) := by decide +kernel
theorem dX5_readLine_15 : decode cX5_readLine 15 = .ok (.ireturn, 1) := by decide +kernel
theorem dX5_readLine_16 : decode cX5_readLine 16 = .ok (.aload_n 0, 1) := by decide +kernel
theorem dX5_readLine_17 : decode cX5_readLine 17 = .ok (.getfield 29, 3) := by decide +kernel
theorem dX5_readLine_20 : decode cX5_readLine 20 = .ok (.getfield 124, 3) := by decide +kernel
theorem dX5_readLine_23 : decode cX5_readLine 23 = .ok (.ifCond .le 7, 3) := by decide +kernel
theorem dX5_readLine_26 : decode cX5_readLine 26 = .ok (.iconst 1, 1) := by decide +kernel
theorem dX5_readLine_27 : decode cX5_readLine 27 = .ok (.goto 4, 3) := by decide +kernel
theorem dX5_readLine_30 : decode cX5_readLine 30 = .ok (.iconst 0, 1) := by decide +kernel
theorem dX5_readLine_31 : decode cX5_readLine 31 = .ok (.istore_n 2, 1) := by decide +kernel
theorem dX5_readLine_32 : decode cX5_readLine 32 = .ok (.iload_n 1, 1) := by decide +kernel
theorem dX5_readLine_33 : decode cX5_readLine 33 = .ok (.ifCond .ne 13, 3) := by decide +kernel
theorem dX5_readLine_36 : decode cX5_readLine 36 = .ok (.iload_n 2, 1) := by decide +kernel
theorem dX5_readLine_37 : decode cX5_readLine 37 = .ok (.ifCond .eq 9, 3) := by decide +kernel
theorem dX5_readLine_40 : decode cX5_readLine 40 = .ok (.aload_n 0, 1) := by decide +kernel
theorem dX5_readLine_41 : decode cX5_readLine 41 = .ok (.iconst 3, 1) := by decide +kernel
theorem dX5_readLine_42 : decode cX5_readLine 42 = .ok (.invokevirtual 68, 3) := by decide +kernel
theorem dX5_readLine_45 : decode cX5_readLine 45 = .ok (.ireturn, 1) := by decide +kernel
theorem dX5_readLine_46 : decode cX5_readLine 46 = .ok (.aload_n 0, 1) := by decide +kernel
theorem dX5_readLine_47 : decode cX5_readLine 47 = .ok (.iload_n 1, 1) := by decide +kernel
theorem dX5_readLine_48 : decode cX5_readLine 48 = .ok (.invokevirtual 127, 3) := by decide +kernel
theorem dX5_readLine_51 : decode cX5_readLine 51 = .ok (.ifCond .eq 9, 3) := by decide +kernel
theorem dX5_readLine_54 : decode cX5_readLine 54 = .ok (.aload_n 0, 1) := by decide +kernel
theorem dX5_readLine_55 : decode cX5_readLine 55 = .ok (.iconst 5, 1) := by decide +kernel
theorem dX5_readLine_56 : decode cX5_readLine 56 = .ok (.invokevirtual 68, 3) := by decide +kernel
theorem dX5_readLine_59 : decode cX5_readLine 59 = .ok (.ireturn, 1) := by decide +kernel
theorem dX5_readLine_60 : decode cX5_readLine 60 = .ok (.iload_n 1, 1) := by decide +kernel
theorem dX5_readLine_61 : decode cX5_readLine 61 = .ok (.ifCond .eq 14, 3) := by decide +kernel
theorem dX5_readLine_64 : decode cX5_readLine 64 = .ok (.iload_n 2, 1) := by decide +kernel
theorem dX5_readLine_65 : decode cX5_readLine 65 = .ok (.ifCond .ne 10, 3) := by decide +kernel
theorem dX5_readLine_68 : decode cX5_readLine 68 = .ok (.aload_n 0, 1) := by decide +kernel
theorem dX5_readLine_69 : decode cX5_readLine 69 = .ok (.bipush 6, 2) := by decide +kernel
theorem dX5_readLine_71 : decode cX5_readLine 71 = .ok (.invokevirtual 68, 3) := by decide +kernel
theorem dX5_readLine_74 : decode cX5_readLine 74 = .ok (.ireturn, 1) := by decide +kernel
theorem dX5_readLine_75 : decode cX5_readLine 75 = .ok (.aload_n 0, 1) := by decide +kernel
theorem dX5_readLine_76 : decode cX5_readLine 76 = .ok (.invokevirtual 58, 3) := by decide +kernel
theorem dX5_readLine_79 : decode cX5_readLine 79 = .ok (.iload_n 1, 1) := by decide +kernel
theorem dX5_readLine_80 : decode cX5_readLine 80 = .ok (.tableswitch 70 0 5 #[40, 45, 50, 55, 60, 65], 40) := by decide +kernel
theorem dX5_readLine_120 : decode cX5_readLine 120 = .ok (.aload_n 0, 1) := by decide +kernel
theorem dX5_readLine_121 : decode cX5_readLine 121 = .ok (.invokevirtual 130, 3) := by decide +kernel
theorem dX5_readLine_124 : decode cX5_readLine 124 = .ok (.ireturn, 1) := by decide +kernel
theorem dX5_readLine_125 : decode cX5_readLine 125 = .ok (.aload_n 0, 1) := by decide +kernel
theorem dX5_readLine_126 : decode cX5_readLine 126 = .ok (.invokevirtual 133, 3) := by decide +kernel
theorem dX5_readLine_129 : decode cX5_readLine 129 = .ok (.ireturn, 1) := by decide +kernel
theorem dX5_readLine_130 : decode cX5_readLine 130 = .ok (.aload_n 0, 1) := by decide +kernel
theorem dX5_readLine_131 : decode cX5_readLine 131 = .ok (.invokevirtual 136, 3) := by decide +kernel
theorem dX5_readLine_134 : decode cX5_readLine 134 = .ok (.ireturn, 1) := by decide +kernel
theorem dX5_readLine_135 : decode cX5_readLine 135 = .ok (.aload_n 0, 1) := by decide +kernel
theorem dX5_readLine_136 : decode cX5_readLine 136 = .ok (.invokevirtual 139, 3) := by decide +kernel
theorem dX5_readLine_139 : decode cX5_readLine 139 = .ok (.ireturn, 1) := by decide +kernel
theorem dX5_readLine_140 : decode cX5_readLine 140 = .ok (.aload_n 0, 1) := by decide +kernel
theorem dX5_readLine_141 : decode cX5_readLine 141 = .ok (.invokevirtual 142, 3) := by decide +kernel
theorem dX5_readLine_144 : decode cX5_readLine 144 = .ok (.ireturn, 1) := by decide +kernel
theorem dX5_readLine_145 : decode cX5_readLine 145 = .ok (.aload_n 0, 1) := by decide +kernel
theorem dX5_readLine_146 : decode cX5_readLine 146 = .ok (.invokevirtual 145, 3) := by decide +kernel
theorem dX5_readLine_149 : decode cX5_readLine 149 = .ok (.ireturn, 1) := by decide +kernel
theorem dX5_readLine_150 : decode cX5_readLine 150 = .ok (.aload_n 0, 1) := by decide +kernel
theorem dX5_readLine_151 : decode cX5_readLine 151 = .ok (.invokevirtual 148, 3) := by decide +kernel
theorem dX5_readLine_154 : decode cX5_readLine 154 = .ok (.ireturn, 1) := by decide +kernel
theorem dX5_isFull_0 : decode cX5_isFull 0 = .ok (.iload_n 1, 1) := by decide +kernel
theorem dX5_isFull_1 : decode cX5_isFull 1 = .ok (.tableswitch 106 1 5 #[35, 53, 106, 71, 89], 35) := by decide +kernel
theorem dX5_isFull_36 : decode cX5_isFull 36 = .ok (.aload_n 0, 1) := by decide +kernel
theorem dX5_isFull_37 : decode cX5_isFull 37 = .ok (.getfield 29, 3) := by decide +kernel
theorem dX5_isFull_40 : decode cX5_isFull 40 = .ok (.getfield 72, 3) := by decide +kernel
theorem dX5_isFull_43 : decode cX5_isFull 43 = .ok (.bipush 6, 2) := by decide +kernel
theorem dX5_isFull_45 : decode cX5_isFull 45 = .ok (.if_icmp .lt 7, 3) := by decide +kernel
theorem dX5_isFull_48 : decode cX5_isFull 48 = .ok (.iconst 1, 1) := by decide +kernel
theorem dX5_isFull_49 : decode cX5_isFull 49 = .ok (.goto 4, 3) := by decide +kernel
theorem dX5_isFull_52 : decode cX5_isFull 52 = .ok (.iconst 0, 1) := by decide +kernel
theorem dX5_isFull_53 : decode cX5_isFull 53 = .ok (.ireturn, 1) := by decide +kernel
theorem dX5_isFull_54 : decode cX5_isFull 54 = .ok (.aload_n 0, 1) := by decide +kernel
theorem dX5_isFull_55 : decode cX5_isFull 55 = .ok (.getfield 29, 3) := by decide +kernel
theorem dX5_isFull_58 : decode cX5_isFull 58 = .ok (.getfield 151, 3) := by decide +kernel
theorem dX5_isFull_61 : decode cX5_isFull 61 = .ok (.bipush 7, 2) := by decide +kernel
theorem dX5_isFull_63 : decode cX5_isFull 63 = .ok (.if_icmp .lt 7, 3) := by decide +kernel
theorem dX5_isFull_66 : decode cX5_isFull 66 = .ok (.iconst 1, 1) := by decide +kernel
theorem dX5_isFull_67 : decode cX5_isFull 67 = .ok (.goto 4, 3) := by decide +kernel
theorem dX5_isFull_70 : decode cX5_isFull 70 = .ok (.iconst 0, 1) := by decide +kernel
theorem dX5_isFull_71 : decode cX5_isFull 71 = .ok (.ireturn, 1) := by decide +kernel
theorem dX5_isFull_72 : decode cX5_isFull 72 = .ok (.aload_n 0, 1) := by decide +kernel
theorem dX5_isFull_73 : decode cX5_isFull 73 = .ok (.getfield 29, 3) := by decide +kernel
theorem dX5_isFull_76 : decode cX5_isFull 76 = .ok (.getfield 154, 3) := by decide +kernel
theorem dX5_isFull_79 : decode cX5_isFull 79 = .ok (.bipush 6, 2) := by decide +kernel
theorem dX5_isFull_81 : decode cX5_isFull 81 = .ok (.if_icmp .lt 7, 3) := by decide +kernel
theorem dX5_isFull_84 : decode cX5_isFull 84 = .ok (.iconst 1, 1) := by decide +kernel
theorem dX5_isFull_85 : decode cX5_isFull 85 = .ok (.goto 4, 3) := by decide +kernel
theorem dX5_isFull_88 : decode cX5_isFull 88 = .ok (.iconst 0, 1) := by decide +kernel
theorem dX5_isFull_89 : decode cX5_isFull 89 = .ok (.ireturn, 1) := by decide +kernel
theorem dX5_isFull_90 : decode cX5_isFull 90 = .ok (.aload_n 0, 1) := by decide +kernel
theorem dX5_isFull_91 : decode cX5_isFull 91 = .ok (.getfield 29, 3) := by decide +kernel
theorem dX5_isFull_94 : decode cX5_isFull 94 = .ok (.getfield 157, 3) := by decide +kernel
theorem dX5_isFull_97 : decode cX5_isFull 97 = .ok (.iconst 5, 1) := by decide +kernel
theorem dX5_isFull_98 : decode cX5_isFull 98 = .ok (.if_icmp .lt 7, 3) := by decide +kernel
theorem dX5_isFull_101 : decode cX5_isFull 101 = .ok (.iconst 1, 1) := by decide +kernel
theorem dX5_isFull_102 : decode cX5_isFull 102 = .ok (.goto 4, 3) := by decide +kernel
theorem dX5_isFull_105 : decode cX5_isFull 105 = .ok (.iconst 0, 1) := by decide +kernel
theorem dX5_isFull_106 : decode cX5_isFull 106 = .ok (.ireturn, 1) := by decide +kernel
theorem dX5_isFull_107 : decode cX5_isFull 107 = .ok (.iconst 0, 1) := by decide +kernel
theorem dX5_isFull_108 : decode cX5_isFull 108 = .ok (.ireturn, 1) := by decide +kernel
theorem dX5_readRiver_0 : decode cX5_readRiver 0 = .ok (.aload_n 0, 1) := by decide +kernel
theorem dX5_readRiver_1 : decode cX5_readRiver 1 = .ok (.ldc2_w 160, 3) := by decide +kernel
theorem dX5_readRiver_4 : decode cX5_readRiver 4 = .ok (.iconst 1, 1) := by decide +kernel
theorem dX5_readRiver_5 : decode cX5_readRiver 5 = .ok (.sipush 900, 3) := by decide +kernel
theorem dX5_readRiver_8 : decode cX5_readRiver 8 = .ok (.invokevirtual 162, 3) := by decide +kernel
theorem dX5_readRiver_11 : decode cX5_readRiver 11 = .ok (.ifCond .ne 5, 3) := by decide +kernel
theorem dX5_readRiver_14 : decode cX5_readRiver 14 = .ok (.iconst 0, 1) := by decide +kernel
theorem dX5_readRiver_15 : decode cX5_readRiver 15 = .ok (.ireturn, 1) := by decide +kernel
theorem dX5_readRiver_16 : decode cX5_readRiver 16 = .ok (.aload_n 0, 1) := by decide +kernel
theorem dX5_readRiver_17 : decode cX5_readRiver 17 = .ok (.getfield 29, 3) := by decide +kernel
theorem dX5_readRiver_20 : decode cX5_readRiver 20 = .ok (.aload_n 0, 1) := by decide +kernel
theorem dX5_readRiver_21 : decode cX5_readRiver 21 = .ok (.getfield 91, 3) := by decide +kernel
theorem dX5_readRiver_24 : decode cX5_readRiver 24 = .ok (.putfield 124, 3) := by decide +kernel
theorem dX5_readRiver_27 : decode cX5_readRiver 27 = .ok (.aload_n 0, 1) := by decide +kernel
theorem dX5_readRiver_28 : decode cX5_readRiver 28 = .ok (.invokevirtual 58, 3) := by decide +kernel
theorem dX5_readRiver_31 : decode cX5_readRiver 31 = .ok (.aload_n 0, 1) := by decide +kernel
theorem dX5_readRiver_32 : decode cX5_readRiver 32 = .ok (.ldc2_w 166, 3) := by decide +kernel
theorem dX5_readRiver_35 : decode cX5_readRiver 35 = .ok (.iconst 2, 1) := by decide +kernel
theorem dX5_readRiver_36 : decode cX5_readRiver 36 = .ok (.bipush 40, 2) := by decide +kernel
theorem dX5_readRiver_38 : decode cX5_readRiver 38 = .ok (.invokevirtual 162, 3) := by decide +kernel
theorem dX5_readRiver_41 : decode cX5_readRiver 41 = .ok (.ifCond .ne 5, 3) := by decide +kernel
theorem dX5_readRiver_44 : decode cX5_readRiver 44 = .ok (.iconst 0, 1) := by decide +kernel
theorem dX5_readRiver_45 : decode cX5_readRiver 45 = .ok (.ireturn, 1) := by decide +kernel
theorem dX5_readRiver_46 : decode cX5_readRiver 46 = .ok (.aload_n 0, 1) := by decide +kernel
theorem dX5_readRiver_47 : decode cX5_readRiver 47 = .ok (.getfield 29, 3) := by decide +kernel
theorem dX5_readRiver_50 : decode cX5_readRiver 50 = .ok (.aload_n 0, 1) := by decide +kernel
theorem dX5_readRiver_51 : decode cX5_readRiver 51 = .ok (.getfield 91, 3) := by decide +kernel
theorem dX5_readRiver_54 : decode cX5_readRiver 54 = .ok (.putfield 168, 3) := by decide +kernel
theorem dX5_readRiver_57 : decode cX5_readRiver 57 = .ok (.aload_n 0, 1) := by decide +kernel
theorem dX5_readRiver_58 : decode cX5_readRiver 58 = .ok (.invokevirtual 58, 3) := by decide +kernel
theorem dX5_readRiver_61 : decode cX5_readRiver 61 = .ok (.iconst 1, 1) := by decide +kernel
theorem dX5_readRiver_62 : decode cX5_readRiver 62 = .ok (.ireturn, 1) := by decide +kernel
theorem dX5_readReach_0 : decode cX5_readReach 0 = .ok (.aload_n 0, 1) := by decide +kernel
theorem dX5_readReach_1 : decode cX5_readReach 1 = .ok (.getfield 29, 3) := by decide +kernel
theorem dX5_readReach_4 : decode cX5_readReach 4 = .ok (.getfield 72, 3) := by decide +kernel
theorem dX5_readReach_7 : decode cX5_readReach 7 = .ok (.istore_n 1, 1) := by decide +kernel
theorem dX5_readReach_8 : decode cX5_readReach 8 = .ok (.aload_n 0, 1) := by decide +kernel
theorem dX5_readReach_9 : decode cX5_readReach 9 = .ok (.iconst 1, 1) := by decide +kernel
theorem dX5_readReach_10 : decode cX5_readReach 10 = .ok (.iload_n 1, 1) := by decide +kernel
theorem dX5_readReach_11 : decode cX5_readReach 11 = .ok (.invokevirtual 170, 3) := by decide +kernel
theorem dX5_readReach_14 : decode cX5_readReach 14 = .ok (.ifCond .ne 5, 3) := by decide +kernel
theorem dX5_readReach_17 : decode cX5_readReach 17 = .ok (.iconst 0, 1) := by decide +kernel
theorem dX5_readReach_18 : decode cX5_readReach 18 = .ok (.ireturn, 1) := by decide +kernel
theorem dX5_readReach_19 : decode cX5_readReach 19 = .ok (.aload_n 0, 1) := by decide +kernel
theorem dX5_readReach_20 : decode cX5_readReach 20 = .ok (.invokevirtual 174, 3) := by decide +kernel
theorem dX5_readReach_23 : decode cX5_readReach 23 = .ok (.istore_n 2, 1) := by decide +kernel
theorem dX5_readReach_24 : decode cX5_readReach 24 = .ok (.iload_n 2, 1) := by decide +kernel
theorem dX5_readReach_25 : decode cX5_readReach 25 = .ok (.iconst (-1), 1) := by decide +kernel
theorem dX5_readReach_26 : decode cX5_readReach 26 = .ok (.if_icmp .ne 9, 3) := by decide +kernel
theorem dX5_readReach_29 : decode cX5_readReach 29 = .ok (.aload_n 0, 1) := by decide +kernel
theorem dX5_readReach_30 : decode cX5_readReach 30 = .ok (.iconst 1, 1) := by decide +kernel
theorem dX5_readReach_31 : decode cX5_readReach 31 = .ok (.invokevirtual 68, 3) := by decide +kernel
theorem dX5_readReach_34 : decode cX5_readReach 34 = .ok (.ireturn, 1) := by decide +kernel
theorem dX5_readReach_35 : decode cX5_readReach 35 = .ok (.aload_n 0, 1) := by decide +kernel
theorem dX5_readReach_36 : decode cX5_readReach 36 = .ok (.getfield 29, 3) := by decide +kernel
theorem dX5_readReach_39 : decode cX5_readReach 39 = .ok (.getfield 177, 3) := by decide +kernel
theorem dX5_readReach_42 : decode cX5_readReach 42 = .ok (.iload_n 1, 1) := by decide +kernel
theorem dX5_readReach_43 : decode cX5_readReach 43 = .ok (.iload_n 2, 1) := by decide +kernel
theorem dX5_readReach_44 : decode cX5_readReach 44 = .ok (.iastore, 1) := by decide +kernel
theorem dX5_readReach_45 : decode cX5_readReach 45 = .ok (.aload_n 0, 1) := by decide +kernel
theorem dX5_readReach_46 : decode cX5_readReach 46 = .ok (.invokevirtual 58, 3) := by decide +kernel
theorem dX5_readReach_49 : decode cX5_readReach 49 = .ok (.aload_n 0, 1) := by decide +kernel
theorem dX5_readReach_50 : decode cX5_readReach 50 = .ok (.ldc2_w 180, 3) := by decide +kernel
theorem dX5_readReach_53 : decode cX5_readReach 53 = .ok (.iconst 3, 1) := by decide +kernel
theorem dX5_readReach_54 : decode cX5_readReach 54 = .ok (.bipush 40, 2) := by decide +kernel
theorem dX5_readReach_56 : decode cX5_readReach 56 = .ok (.invokevirtual 162, 3) := by decide +kernel
theorem dX5_readReach_59 : decode cX5_readReach 59 = .ok (.ifCond .ne 5, 3) := by decide +kernel
theorem dX5_readReach_62 : decode cX5_readReach 62 = .ok (.iconst 0, 1) := by decide +kernel
theorem dX5_readReach_63 : decode cX5_readReach 63 = .ok (.ireturn, 1) := by decide +kernel
theorem dX5_readReach_64 : decode cX5_readReach 64 = .ok (.aload_n 0, 1) := by decide +kernel
theorem dX5_readReach_65 : decode cX5_readReach 65 = .ok (.getfield 29, 3) := by decide +kernel
theorem dX5_readReach_68 : decode cX5_readReach 68 = .ok (.getfield 182, 3) := by decide +kernel
theorem dX5_readReach_71 : decode cX5_readReach 71 = .ok (.iload_n 1, 1) := by decide +kernel
theorem dX5_readReach_72 : decode cX5_readReach 72 = .ok (.aload_n 0, 1) := by decide +kernel
theorem dX5_readReach_73 : decode cX5_readReach 73 = .ok (.getfield 91, 3) := by decide +kernel
theorem dX5_readReach_76 : decode cX5_readReach 76 = .ok (.iastore, 1) := by decide +kernel
theorem dX5_readReach_77 : decode cX5_readReach 77 = .ok (.aload_n 0, 1) := by decide +kernel
theorem dX5_readReach_78 : decode cX5_readReach 78 = .ok (.invokevirtual 58, 3) := by decide +kernel
theorem dX5_readReach_81 : decode cX5_readReach 81 = .ok (.aload_n 0, 1) := by decide +kernel
theorem dX5_readReach_82 : decode cX5_readReach 82 = .ok (.ldc2_w 185, 3) := by decide +kernel
theorem dX5_readReach_85 : decode cX5_readReach 85 = .ok (.iconst 1, 1) := by decide +kernel
theorem dX5_readReach_86 : decode cX5_readReach 86 = .ok (.bipush 99, 2) := by decide +kernel
theorem dX5_readReach_88 : decode cX5_readReach 88 = .ok (.invokevirtual 162, 3) := by decide +kernel
theorem dX5_readReach_91 : decode cX5_readReach 91 = .ok (.ifCond .ne 5, 3) := by decide +kernel
theorem dX5_readReach_94 : decode cX5_readReach 94 = .ok (.iconst 0, 1) := by decide +kernel
theorem dX5_readReach_95 : decode cX5_readReach 95 = .ok (.ireturn, 1) := by decide +kernel
theorem dX5_readReach_96 : decode cX5_readReach 96 = .ok (.aload_n 0, 1) := by decide +kernel
theorem dX5_readReach_97 : decode cX5_readReach 97 = .ok (.getfield 29, 3) := by decide +kernel
theorem dX5_readReach_100 : decode cX5_readReach 100 = .ok (.getfield 187, 3) := by decide +kernel
theorem dX5_readReach_103 : decode cX5_readReach 103 = .ok (.iload_n 1, 1) := by decide +kernel
theorem dX5_readReach_104 : decode cX5_readReach 104 = .ok (.aload_n 0, 1) := by decide +kernel
theorem dX5_readReach_105 : decode cX5_readReach 105 = .ok (.getfield 91, 3) := by decide +kernel
theorem dX5_readReach_108 : decode cX5_readReach 108 = .ok (.iastore, 1) := by decide +kernel
theorem dX5_readReach_109 : decode cX5_readReach 109 = .ok (.aload_n 0, 1) := by decide +kernel
theorem dX5_readReach_110 : decode cX5_readReach 110 = .ok (.invokevirtual 58, 3) := by decide +kernel
theorem dX5_readReach_113 : decode cX5_readReach 113 = .ok (.aload_n 0, 1) := by decide +kernel
theorem dX5_readReach_114 : decode cX5_readReach 114 = .ok (.getfield 29, 3) := by decide +kernel
theorem dX5_readReach_117 : decode cX5_readReach 117 = .ok (.dup, 1) := by decide +kernel
theorem dX5_readReach_118 : decode cX5_readReach 118 = .ok (.getfield 72, 3) := by decide +kernel
theorem dX5_readReach_121 : decode cX5_readReach 121 = .ok (.iconst 1, 1) := by decide +kernel
theorem dX5_readReach_122 : decode cX5_readReach 122 = .ok (.iadd, 1) := by decide +kernel
theorem dX5_readReach_123 : decode cX5_readReach 123 = .ok (.putfield 72, 3) := by decide +kernel
theorem dX5_readReach_126 : decode cX5_readReach 126 = .ok (.iconst 1, 1) := by decide +kernel
theorem dX5_readReach_127 : decode cX5_readReach 127 = .ok (.ireturn, 1) := by decide +kernel
theorem dX5_readRope_0 : decode cX5_readRope 0 = .ok (.aload_n 0, 1) := by decide +kernel
theorem dX5_readRope_1 : decode cX5_readRope 1 = .ok (.getfield 29, 3) := by decide +kernel
theorem dX5_readRope_4 : decode cX5_readRope 4 = .ok (.getfield 151, 3) := by decide +kernel
theorem dX5_readRope_7 : decode cX5_readRope 7 = .ok (.istore_n 1, 1) := by decide +kernel
theorem dX5_readRope_8 : decode cX5_readRope 8 = .ok (.aload_n 0, 1) := by decide +kernel
theorem dX5_readRope_9 : decode cX5_readRope 9 = .ok (.iconst 2, 1) := by decide +kernel
theorem dX5_readRope_10 : decode cX5_readRope 10 = .ok (.iload_n 1, 1) := by decide +kernel
theorem dX5_readRope_11 : decode cX5_readRope 11 = .ok (.invokevirtual 170, 3) := by decide +kernel
theorem dX5_readRope_14 : decode cX5_readRope 14 = .ok (.ifCond .ne 5, 3) := by decide +kernel
theorem dX5_readRope_17 : decode cX5_readRope 17 = .ok (.iconst 0, 1) := by decide +kernel
theorem dX5_readRope_18 : decode cX5_readRope 18 = .ok (.ireturn, 1) := by decide +kernel
theorem dX5_readRope_19 : decode cX5_readRope 19 = .ok (.aload_n 0, 1) := by decide +kernel
theorem dX5_readRope_20 : decode cX5_readRope 20 = .ok (.ldc2_w 190, 3) := by decide +kernel
theorem dX5_readRope_23 : decode cX5_readRope 23 = .ok (.invokevirtual 110, 3) := by decide +kernel
theorem dX5_readRope_26 : decode cX5_readRope 26 = .ok (.ifCond .ne 9, 3) := by decide +kernel
theorem dX5_readRope_29 : decode cX5_readRope 29 = .ok (.aload_n 0, 1) := by decide +kernel
theorem dX5_readRope_30 : decode cX5_readRope 30 = .ok (.iconst 1, 1) := by decide +kernel
theorem dX5_readRope_31 : decode cX5_readRope 31 = .ok (.invokevirtual 68, 3) := by decide +kernel
theorem dX5_readRope_34 : decode cX5_readRope 34 = .ok (.ireturn, 1) := by decide +kernel
theorem dX5_readRope_35 : decode cX5_readRope 35 = .ok (.aload_n 0, 1) := by decide +kernel
theorem dX5_readRope_36 : decode cX5_readRope 36 = .ok (.invokevirtual 58, 3) := by decide +kernel
theorem dX5_readRope_39 : decode cX5_readRope 39 = .ok (.aload_n 0, 1) := by decide +kernel
theorem dX5_readRope_40 : decode cX5_readRope 40 = .ok (.iconst 1, 1) := by decide +kernel
theorem dX5_readRope_41 : decode cX5_readRope 41 = .ok (.invokevirtual 192, 3) := by decide +kernel
theorem dX5_readRope_44 : decode cX5_readRope 44 = .ok (.istore_n 2, 1) := by decide +kernel
theorem dX5_readRope_45 : decode cX5_readRope 45 = .ok (.iload_n 2, 1) := by decide +kernel
theorem dX5_readRope_46 : decode cX5_readRope 46 = .ok (.iconst (-1), 1) := by decide +kernel
theorem dX5_readRope_47 : decode cX5_readRope 47 = .ok (.if_icmp .ne 5, 3) := by decide +kernel
theorem dX5_readRope_50 : decode cX5_readRope 50 = .ok (.iconst 0, 1) := by decide +kernel
theorem dX5_readRope_51 : decode cX5_readRope 51 = .ok (.ireturn, 1) := by decide +kernel
theorem dX5_readRope_52 : decode cX5_readRope 52 = .ok (.aload_n 0, 1) := by decide +kernel
theorem dX5_readRope_53 : decode cX5_readRope 53 = .ok (.getfield 29, 3) := by decide +kernel
theorem dX5_readRope_56 : decode cX5_readRope 56 = .ok (.getfield 196, 3) := by decide +kernel
theorem dX5_readRope_59 : decode cX5_readRope 59 = .ok (.iload_n 1, 1) := by decide +kernel
theorem dX5_readRope_60 : decode cX5_readRope 60 = .ok (.iload_n 2, 1) := by decide +kernel
theorem dX5_readRope_61 : decode cX5_readRope 61 = .ok (.iastore, 1) := by decide +kernel
theorem dX5_readRope_62 : decode cX5_readRope 62 = .ok (.aload_n 0, 1) := by decide +kernel
theorem dX5_readRope_63 : decode cX5_readRope 63 = .ok (.invokevirtual 58, 3) := by decide +kernel
theorem dX5_readRope_66 : decode cX5_readRope 66 = .ok (.aload_n 0, 1) := by decide +kernel
theorem dX5_readRope_67 : decode cX5_readRope 67 = .ok (.ldc2_w 199, 3) := by decide +kernel
theorem dX5_readRope_70 : decode cX5_readRope 70 = .ok (.iconst 1, 1) := by decide +kernel
theorem dX5_readRope_71 : decode cX5_readRope 71 = .ok (.bipush 9, 2) := by decide +kernel
theorem dX5_readRope_73 : decode cX5_readRope 73 = .ok (.invokevirtual 162, 3) := by decide +kernel
theorem dX5_readRope_76 : decode cX5_readRope 76 = .ok (.ifCond .ne 5, 3) := by decide +kernel
theorem dX5_readRope_79 : decode cX5_readRope 79 = .ok (.iconst 0, 1) := by decide +kernel
theorem dX5_readRope_80 : decode cX5_readRope 80 = .ok (.ireturn, 1) := by decide +kernel
theorem dX5_readRope_81 : decode cX5_readRope 81 = .ok (.aload_n 0, 1) := by decide +kernel
theorem dX5_readRope_82 : decode cX5_readRope 82 = .ok (.getfield 29, 3) := by decide +kernel
theorem dX5_readRope_85 : decode cX5_readRope 85 = .ok (.getfield 201, 3) := by decide +kernel
theorem dX5_readRope_88 : decode cX5_readRope 88 = .ok (.iload_n 1, 1) := by decide +kernel
theorem dX5_readRope_89 : decode cX5_readRope 89 = .ok (.aload_n 0, 1) := by decide +kernel
theorem dX5_readRope_90 : decode cX5_readRope 90 = .ok (.getfield 91, 3) := by decide +kernel
theorem dX5_readRope_93 : decode cX5_readRope 93 = .ok (.iastore, 1) := by decide +kernel
theorem dX5_readRope_94 : decode cX5_readRope 94 = .ok (.aload_n 0, 1) := by decide +kernel
theorem dX5_readRope_95 : decode cX5_readRope 95 = .ok (.invokevirtual 58, 3) := by decide +kernel
theorem dX5_readRope_98 : decode cX5_readRope 98 = .ok (.aload_n 0, 1) := by decide +kernel
theorem dX5_readRope_99 : decode cX5_readRope 99 = .ok (.ldc2_w 204, 3) := by decide +kernel
theorem dX5_readRope_102 : decode cX5_readRope 102 = .ok (.iconst 1, 1) := by decide +kernel
theorem dX5_readRope_103 : decode cX5_readRope 103 = .ok (.bipush 99, 2) := by decide +kernel
theorem dX5_readRope_105 : decode cX5_readRope 105 = .ok (.invokevirtual 162, 3) := by decide +kernel
theorem dX5_readRope_108 : decode cX5_readRope 108 = .ok (.ifCond .ne 5, 3) := by decide +kernel
theorem dX5_readRope_111 : decode cX5_readRope 111 = .ok (.iconst 0, 1) := by decide +kernel
theorem dX5_readRope_112 : decode cX5_readRope 112 = .ok (.ireturn, 1) := by decide +kernel
theorem dX5_readRope_113 : decode cX5_readRope 113 = .ok (.aload_n 0, 1) := by decide +kernel
theorem dX5_readRope_114 : decode cX5_readRope 114 = .ok (.getfield 29, 3) := by decide +kernel
theorem dX5_readRope_117 : decode cX5_readRope 117 = .ok (.getfield 206, 3) := by decide +kernel
theorem dX5_readRope_120 : decode cX5_readRope 120 = .ok (.iload_n 1, 1) := by decide +kernel
theorem dX5_readRope_121 : decode cX5_readRope 121 = .ok (.aload_n 0, 1) := by decide +kernel
theorem dX5_readRope_122 : decode cX5_readRope 122 = .ok (.getfield 91, 3) := by decide +kernel
theorem dX5_readRope_125 : decode cX5_readRope 125 = .ok (.iastore, 1) := by decide +kernel
theorem dX5_readRope_126 : decode cX5_readRope 126 = .ok (.aload_n 0, 1) := by decide +kernel
theorem dX5_readRope_127 : decode cX5_readRope 127 = .ok (.invokevirtual 58, 3) := by decide +kernel
theorem dX5_readRope_130 : decode cX5_readRope 130 = .ok (.aload_n 0, 1) := by decide +kernel
theorem dX5_readRope_131 : decode cX5_readRope 131 = .ok (.getfield 29, 3) := by decide +kernel
theorem dX5_readRope_134 : decode cX5_readRope 134 = .ok (.dup, 1) := by decide +kernel
theorem dX5_readRope_135 : decode cX5_readRope 135 = .ok (.getfield 151, 3) := by decide +kernel
theorem dX5_readRope_138 : decode cX5_readRope 138 = .ok (.iconst 1, 1) := by decide +kernel
theorem dX5_readRope_139 : decode cX5_readRope 139 = .ok (.iadd, 1) := by decide +kernel
theorem dX5_readRope_140 : decode cX5_readRope 140 = .ok (.putfield 151, 3) := by decide +kernel
theorem dX5_readRope_143 : decode cX5_readRope 143 = .ok (.iconst 1, 1) := by decide +kernel
theorem dX5_readRope_144 : decode cX5_readRope 144 = .ok (.ireturn, 1) := by decide +kernel
theorem dX5_readLoose_0 : decode cX5_readLoose 0 = .ok (.aload_n 0, 1) := by decide +kernel
theorem dX5_readLoose_1 : decode cX5_readLoose 1 = .ok (.iconst 2, 1) := by decide +kernel
theorem dX5_readLoose_2 : decode cX5_readLoose 2 = .ok (.invokevirtual 192, 3) := by decide +kernel
theorem dX5_readLoose_5 : decode cX5_readLoose 5 = .ok (.istore_n 1, 1) := by decide +kernel
theorem dX5_readLoose_6 : decode cX5_readLoose 6 = .ok (.iload_n 1, 1) := by decide +kernel
theorem dX5_readLoose_7 : decode cX5_readLoose 7 = .ok (.iconst (-1), 1) := by decide +kernel
theorem dX5_readLoose_8 : decode cX5_readLoose 8 = .ok (.if_icmp .ne 5, 3) := by decide +kernel
theorem dX5_readLoose_11 : decode cX5_readLoose 11 = .ok (.iconst 0, 1) := by decide +kernel
theorem dX5_readLoose_12 : decode cX5_readLoose 12 = .ok (.ireturn, 1) := by decide +kernel
theorem dX5_readLoose_13 : decode cX5_readLoose 13 = .ok (.aload_n 0, 1) := by decide +kernel
theorem dX5_readLoose_14 : decode cX5_readLoose 14 = .ok (.getfield 29, 3) := by decide +kernel
theorem dX5_readLoose_17 : decode cX5_readLoose 17 = .ok (.getfield 209, 3) := by decide +kernel
theorem dX5_readLoose_20 : decode cX5_readLoose 20 = .ok (.iload_n 1, 1) := by decide +kernel
theorem dX5_readLoose_21 : decode cX5_readLoose 21 = .ok (.invokestatic 212, 3) := by decide +kernel
theorem dX5_readLoose_24 : decode cX5_readLoose 24 = .ok (.ifCond .eq 9, 3) := by decide +kernel
theorem dX5_readLoose_27 : decode cX5_readLoose 27 = .ok (.aload_n 0, 1) := by decide +kernel
theorem dX5_readLoose_28 : decode cX5_readLoose 28 = .ok (.iconst 3, 1) := by decide +kernel
theorem dX5_readLoose_29 : decode cX5_readLoose 29 = .ok (.invokevirtual 68, 3) := by decide +kernel
theorem dX5_readLoose_32 : decode cX5_readLoose 32 = .ok (.ireturn, 1) := by decide +kernel
theorem dX5_readLoose_33 : decode cX5_readLoose 33 = .ok (.aload_n 0, 1) := by decide +kernel
theorem dX5_readLoose_34 : decode cX5_readLoose 34 = .ok (.getfield 29, 3) := by decide +kernel
theorem dX5_readLoose_37 : decode cX5_readLoose 37 = .ok (.dup, 1) := by decide +kernel
theorem dX5_readLoose_38 : decode cX5_readLoose 38 = .ok (.getfield 209, 3) := by decide +kernel
theorem dX5_readLoose_41 : decode cX5_readLoose 41 = .ok (.iconst 1, 1) := by decide +kernel
theorem dX5_readLoose_42 : decode cX5_readLoose 42 = .ok (.iload_n 1, 1) := by decide +kernel
theorem dX5_readLoose_43 : decode cX5_readLoose 43 = .ok (.ishl, 1) := by decide +kernel
theorem dX5_readLoose_44 : decode cX5_readLoose 44 = .ok (.ior, 1) := by decide +kernel
theorem dX5_readLoose_45 : decode cX5_readLoose 45 = .ok (.putfield 209, 3) := by decide +kernel
theorem dX5_readLoose_48 : decode cX5_readLoose 48 = .ok (.aload_n 0, 1) := by decide +kernel
theorem dX5_readLoose_49 : decode cX5_readLoose 49 = .ok (.invokevirtual 58, 3) := by decide +kernel
theorem dX5_readLoose_52 : decode cX5_readLoose 52 = .ok (.iconst 1, 1) := by decide +kernel
theorem dX5_readLoose_53 : decode cX5_readLoose 53 = .ok (.ireturn, 1) := by decide +kernel
theorem dX5_readHand_0 : decode cX5_readHand 0 = .ok (.aload_n 0, 1) := by decide +kernel
theorem dX5_readHand_1 : decode cX5_readHand 1 = .ok (.getfield 29, 3) := by decide +kernel
theorem dX5_readHand_4 : decode cX5_readHand 4 = .ok (.getfield 154, 3) := by decide +kernel
theorem dX5_readHand_7 : decode cX5_readHand 7 = .ok (.istore_n 1, 1) := by decide +kernel
theorem dX5_readHand_8 : decode cX5_readHand 8 = .ok (.aload_n 0, 1) := by decide +kernel
theorem dX5_readHand_9 : decode cX5_readHand 9 = .ok (.iconst 4, 1) := by decide +kernel
theorem dX5_readHand_10 : decode cX5_readHand 10 = .ok (.iload_n 1, 1) := by decide +kernel
theorem dX5_readHand_11 : decode cX5_readHand 11 = .ok (.invokevirtual 170, 3) := by decide +kernel
theorem dX5_readHand_14 : decode cX5_readHand 14 = .ok (.ifCond .eq 16, 3) := by decide +kernel
theorem dX5_readHand_17 : decode cX5_readHand 17 = .ok (.aload_n 0, 1) := by decide +kernel
theorem dX5_readHand_18 : decode cX5_readHand 18 = .ok (.ldc2_w 215, 3) := by decide +kernel
theorem dX5_readHand_21 : decode cX5_readHand 21 = .ok (.iconst 1, 1) := by decide +kernel
theorem dX5_readHand_22 : decode cX5_readHand 22 = .ok (.bipush 99, 2) := by decide +kernel
theorem dX5_readHand_24 : decode cX5_readHand 24 = .ok (.invokevirtual 162, 3) := by decide +kernel
theorem dX5_readHand_27 : decode cX5_readHand 27 = .ok (.ifCond .ne 5, 3) := by decide +kernel
theorem dX5_readHand_30 : decode cX5_readHand 30 = .ok (.iconst 0, 1) := by decide +kernel
theorem dX5_readHand_31 : decode cX5_readHand 31 = .ok (.ireturn, 1) := by decide +kernel
theorem dX5_readHand_32 : decode cX5_readHand 32 = .ok (.aload_n 0, 1) := by decide +kernel
theorem dX5_readHand_33 : decode cX5_readHand 33 = .ok (.getfield 29, 3) := by decide +kernel
theorem dX5_readHand_36 : decode cX5_readHand 36 = .ok (.getfield 217, 3) := by decide +kernel
theorem dX5_readHand_39 : decode cX5_readHand 39 = .ok (.iload_n 1, 1) := by decide +kernel
theorem dX5_readHand_40 : decode cX5_readHand 40 = .ok (.aload_n 0, 1) := by decide +kernel
theorem dX5_readHand_41 : decode cX5_readHand 41 = .ok (.getfield 91, 3) := by decide +kernel
theorem dX5_readHand_44 : decode cX5_readHand 44 = .ok (.iastore, 1) := by decide +kernel
theorem dX5_readHand_45 : decode cX5_readHand 45 = .ok (.aload_n 0, 1) := by decide +kernel
theorem dX5_readHand_46 : decode cX5_readHand 46 = .ok (.invokevirtual 58, 3) := by decide +kernel
theorem dX5_readHand_49 : decode cX5_readHand 49 = .ok (.aload_n 0, 1) := by decide +kernel
theorem dX5_readHand_50 : decode cX5_readHand 50 = .ok (.getfield 29, 3) := by decide +kernel
theorem dX5_readHand_53 : decode cX5_readHand 53 = .ok (.dup, 1) := by decide +kernel
theorem dX5_readHand_54 : decode cX5_readHand 54 = .ok (.getfield 154, 3) := by decide +kernel
theorem dX5_readHand_57 : decode cX5_readHand 57 = .ok (.iconst 1, 1) := by decide +kernel
theorem dX5_readHand_58 : decode cX5_readHand 58 = .ok (.iadd, 1) := by decide +kernel
theorem dX5_readHand_59 : decode cX5_readHand 59 = .ok (.putfield 154, 3) := by decide +kernel
theorem dX5_readHand_62 : decode cX5_readHand 62 = .ok (.iconst 1, 1) := by decide +kernel
theorem dX5_readHand_63 : decode cX5_readHand 63 = .ok (.ireturn, 1) := by decide +kernel
theorem dX5_readBoat_0 : decode cX5_readBoat 0 = .ok (.aload_n 0, 1) := by decide +kernel
theorem dX5_readBoat_1 : decode cX5_readBoat 1 = .ok (.getfield 29, 3) := by decide +kernel
theorem dX5_readBoat_4 : decode cX5_readBoat 4 = .ok (.getfield 157, 3) := by decide +kernel
theorem dX5_readBoat_7 : decode cX5_readBoat 7 = .ok (.istore_n 1, 1) := by decide +kernel
theorem dX5_readBoat_8 : decode cX5_readBoat 8 = .ok (.aload_n 0, 1) := by decide +kernel
theorem dX5_readBoat_9 : decode cX5_readBoat 9 = .ok (.iconst 5, 1) := by decide +kernel
theorem dX5_readBoat_10 : decode cX5_readBoat 10 = .ok (.iload_n 1, 1) := by decide +kernel
theorem dX5_readBoat_11 : decode cX5_readBoat 11 = .ok (.invokevirtual 170, 3) := by decide +kernel
theorem dX5_readBoat_14 : decode cX5_readBoat 14 = .ok (.ifCond .eq 16, 3) := by decide +kernel
theorem dX5_readBoat_17 : decode cX5_readBoat 17 = .ok (.aload_n 0, 1) := by decide +kernel
theorem dX5_readBoat_18 : decode cX5_readBoat 18 = .ok (.ldc2_w 180, 3) := by decide +kernel
theorem dX5_readBoat_21 : decode cX5_readBoat 21 = .ok (.iconst 1, 1) := by decide +kernel
theorem dX5_readBoat_22 : decode cX5_readBoat 22 = .ok (.bipush 30, 2) := by decide +kernel
theorem dX5_readBoat_24 : decode cX5_readBoat 24 = .ok (.invokevirtual 162, 3) := by decide +kernel
theorem dX5_readBoat_27 : decode cX5_readBoat 27 = .ok (.ifCond .ne 5, 3) := by decide +kernel
theorem dX5_readBoat_30 : decode cX5_readBoat 30 = .ok (.iconst 0, 1) := by decide +kernel
theorem dX5_readBoat_31 : decode cX5_readBoat 31 = .ok (.ireturn, 1) := by decide +kernel
theorem dX5_readBoat_32 : decode cX5_readBoat 32 = .ok (.aload_n 0, 1) := by decide +kernel
theorem dX5_readBoat_33 : decode cX5_readBoat 33 = .ok (.getfield 29, 3) := by decide +kernel
theorem dX5_readBoat_36 : decode cX5_readBoat 36 = .ok (.getfield 220, 3) := by decide +kernel
theorem dX5_readBoat_39 : decode cX5_readBoat 39 = .ok (.iload_n 1, 1) := by decide +kernel
theorem dX5_readBoat_40 : decode cX5_readBoat 40 = .ok (.aload_n 0, 1) := by decide +kernel
theorem dX5_readBoat_41 : decode cX5_readBoat 41 = .ok (.getfield 91, 3) := by decide +kernel
theorem dX5_readBoat_44 : decode cX5_readBoat 44 = .ok (.iastore, 1) := by decide +kernel
theorem dX5_readBoat_45 : decode cX5_readBoat 45 = .ok (.aload_n 0, 1) := by decide +kernel
theorem dX5_readBoat_46 : decode cX5_readBoat 46 = .ok (.invokevirtual 58, 3) := by decide +kernel
theorem dX5_readBoat_49 : decode cX5_readBoat 49 = .ok (.aload_n 0, 1) := by decide +kernel
theorem dX5_readBoat_50 : decode cX5_readBoat 50 = .ok (.ldc2_w 223, 3) := by decide +kernel
theorem dX5_readBoat_53 : decode cX5_readBoat 53 = .ok (.iconst 0, 1) := by decide +kernel
theorem dX5_readBoat_54 : decode cX5_readBoat 54 = .ok (.bipush 60, 2) := by decide +kernel
theorem dX5_readBoat_56 : decode cX5_readBoat 56 = .ok (.invokevirtual 162, 3) := by decide +kernel
theorem dX5_readBoat_59 : decode cX5_readBoat 59 = .ok (.ifCond .ne 5, 3) := by decide +kernel
theorem dX5_readBoat_62 : decode cX5_readBoat 62 = .ok (.iconst 0, 1) := by decide +kernel
theorem dX5_readBoat_63 : decode cX5_readBoat 63 = .ok (.ireturn, 1) := by decide +kernel
theorem dX5_readBoat_64 : decode cX5_readBoat 64 = .ok (.aload_n 0, 1) := by decide +kernel
theorem dX5_readBoat_65 : decode cX5_readBoat 65 = .ok (.getfield 29, 3) := by decide +kernel
theorem dX5_readBoat_68 : decode cX5_readBoat 68 = .ok (.getfield 225, 3) := by decide +kernel
theorem dX5_readBoat_71 : decode cX5_readBoat 71 = .ok (.iload_n 1, 1) := by decide +kernel
theorem dX5_readBoat_72 : decode cX5_readBoat 72 = .ok (.aload_n 0, 1) := by decide +kernel
theorem dX5_readBoat_73 : decode cX5_readBoat 73 = .ok (.getfield 91, 3) := by decide +kernel
theorem dX5_readBoat_76 : decode cX5_readBoat 76 = .ok (.iastore, 1) := by decide +kernel
theorem dX5_readBoat_77 : decode cX5_readBoat 77 = .ok (.aload_n 0, 1) := by decide +kernel
theorem dX5_readBoat_78 : decode cX5_readBoat 78 = .ok (.invokevirtual 58, 3) := by decide +kernel
theorem dX5_readBoat_81 : decode cX5_readBoat 81 = .ok (.aload_n 0, 1) := by decide +kernel
theorem dX5_readBoat_82 : decode cX5_readBoat 82 = .ok (.getfield 29, 3) := by decide +kernel
theorem dX5_readBoat_85 : decode cX5_readBoat 85 = .ok (.dup, 1) := by decide +kernel
theorem dX5_readBoat_86 : decode cX5_readBoat 86 = .ok (.getfield 157, 3) := by decide +kernel
theorem dX5_readBoat_89 : decode cX5_readBoat 89 = .ok (.iconst 1, 1) := by decide +kernel
theorem dX5_readBoat_90 : decode cX5_readBoat 90 = .ok (.iadd, 1) := by decide +kernel
theorem dX5_readBoat_91 : decode cX5_readBoat 91 = .ok (.putfield 157, 3) := by decide +kernel
theorem dX5_readBoat_94 : decode cX5_readBoat 94 = .ok (.iconst 1, 1) := by decide +kernel
theorem dX5_readBoat_95 : decode cX5_readBoat 95 = .ok (.ireturn, 1) := by decide +kernel
theorem dX5_readMud_0 : decode cX5_readMud 0 = .ok (.aload_n 0, 1) := by decide +kernel
theorem dX5_readMud_1 : decode cX5_readMud 1 = .ok (.iconst 1, 1) := by decide +kernel
theorem dX5_readMud_2 : decode cX5_readMud 2 = .ok (.invokevirtual 192, 3) := by decide +kernel
theorem dX5_readMud_5 : decode cX5_readMud 5 = .ok (.istore_n 1, 1) := by decide +kernel
theorem dX5_readMud_6 : decode cX5_readMud 6 = .ok (.iload_n 1, 1) := by decide +kernel
theorem dX5_readMud_7 : decode cX5_readMud 7 = .ok (.iconst (-1), 1) := by decide +kernel
theorem dX5_readMud_8 : decode cX5_readMud 8 = .ok (.if_icmp .ne 5, 3) := by decide +kernel
theorem dX5_readMud_11 : decode cX5_readMud 11 = .ok (.iconst 0, 1) := by decide +kernel
theorem dX5_readMud_12 : decode cX5_readMud 12 = .ok (.ireturn, 1) := by decide +kernel
theorem dX5_readMud_13 : decode cX5_readMud 13 = .ok (.aload_n 0, 1) := by decide +kernel
theorem dX5_readMud_14 : decode cX5_readMud 14 = .ok (.getfield 29, 3) := by decide +kernel
theorem dX5_readMud_17 : decode cX5_readMud 17 = .ok (.getfield 228, 3) := by decide +kernel
theorem dX5_readMud_20 : decode cX5_readMud 20 = .ok (.iload_n 1, 1) := by decide +kernel
theorem dX5_readMud_21 : decode cX5_readMud 21 = .ok (.iaload, 1) := by decide +kernel
theorem dX5_readMud_22 : decode cX5_readMud 22 = .ok (.iconst (-1), 1) := by decide +kernel
theorem dX5_readMud_23 : decode cX5_readMud 23 = .ok (.if_icmp .eq 9, 3) := by decide +kernel
theorem dX5_readMud_26 : decode cX5_readMud 26 = .ok (.aload_n 0, 1) := by decide +kernel
theorem dX5_readMud_27 : decode cX5_readMud 27 = .ok (.iconst 3, 1) := by decide +kernel
theorem dX5_readMud_28 : decode cX5_readMud 28 = .ok (.invokevirtual 68, 3) := by decide +kernel
theorem dX5_readMud_31 : decode cX5_readMud 31 = .ok (.ireturn, 1) := by decide +kernel
theorem dX5_readMud_32 : decode cX5_readMud 32 = .ok (.aload_n 0, 1) := by decide +kernel
theorem dX5_readMud_33 : decode cX5_readMud 33 = .ok (.invokevirtual 58, 3) := by decide +kernel
theorem dX5_readMud_36 : decode cX5_readMud 36 = .ok (.aload_n 0, 1) := by decide +kernel
theorem dX5_readMud_37 : decode cX5_readMud 37 = .ok (.ldc2_w 223, 3) := by decide +kernel
theorem dX5_readMud_40 : decode cX5_readMud 40 = .ok (.iconst 0, 1) := by decide +kernel
theorem dX5_readMud_41 : decode cX5_readMud 41 = .ok (.sipush 900, 3) := by decide +kernel
theorem dX5_readMud_44 : decode cX5_readMud 44 = .ok (.invokevirtual 162, 3) := by decide +kernel
theorem dX5_readMud_47 : decode cX5_readMud 47 = .ok (.ifCond .ne 5, 3) := by decide +kernel
theorem dX5_readMud_50 : decode cX5_readMud 50 = .ok (.iconst 0, 1) := by decide +kernel
theorem dX5_readMud_51 : decode cX5_readMud 51 = .ok (.ireturn, 1) := by decide +kernel
theorem dX5_readMud_52 : decode cX5_readMud 52 = .ok (.aload_n 0, 1) := by decide +kernel
theorem dX5_readMud_53 : decode cX5_readMud 53 = .ok (.getfield 29, 3) := by decide +kernel
theorem dX5_readMud_56 : decode cX5_readMud 56 = .ok (.getfield 228, 3) := by decide +kernel
theorem dX5_readMud_59 : decode cX5_readMud 59 = .ok (.iload_n 1, 1) := by decide +kernel
theorem dX5_readMud_60 : decode cX5_readMud 60 = .ok (.aload_n 0, 1) := by decide +kernel
theorem dX5_readMud_61 : decode cX5_readMud 61 = .ok (.getfield 91, 3) := by decide +kernel
theorem dX5_readMud_64 : decode cX5_readMud 64 = .ok (.iastore, 1) := by decide +kernel
theorem dX5_readMud_65 : decode cX5_readMud 65 = .ok (.aload_n 0, 1) := by decide +kernel
theorem dX5_readMud_66 : decode cX5_readMud 66 = .ok (.getfield 29, 3) := by decide +kernel
theorem dX5_readMud_69 : decode cX5_readMud 69 = .ok (.dup, 1) := by decide +kernel
theorem dX5_readMud_70 : decode cX5_readMud 70 = .ok (.getfield 231, 3) := by decide +kernel
theorem dX5_readMud_73 : decode cX5_readMud 73 = .ok (.iconst 1, 1) := by decide +kernel
theorem dX5_readMud_74 : decode cX5_readMud 74 = .ok (.iadd, 1) := by decide +kernel
theorem dX5_readMud_75 : decode cX5_readMud 75 = .ok (.putfield 231, 3) := by decide +kernel
theorem dX5_readMud_78 : decode cX5_readMud 78 = .ok (.aload_n 0, 1) := by decide +kernel
theorem dX5_readMud_79 : decode cX5_readMud 79 = .ok (.invokevirtual 58, 3) := by decide +kernel
theorem dX5_readMud_82 : decode cX5_readMud 82 = .ok (.iconst 1, 1) := by decide +kernel
theorem dX5_readMud_83 : decode cX5_readMud 83 = .ok (.ireturn, 1) := by decide +kernel
theorem dX5_readWhole_0 : decode cX5_readWhole 0 = .ok (.aload_n 0, 1) := by decide +kernel
theorem dX5_readWhole_1 : decode cX5_readWhole 1 = .ok (.lload_n 1, 1) := by decide +kernel
theorem dX5_readWhole_2 : decode cX5_readWhole 2 = .ok (.invokevirtual 110, 3) := by decide +kernel
theorem dX5_readWhole_5 : decode cX5_readWhole 5 = .ok (.ifCond .ne 9, 3) := by decide +kernel
theorem dX5_readWhole_8 : decode cX5_readWhole 8 = .ok (.aload_n 0, 1) := by decide +kernel
theorem dX5_readWhole_9 : decode cX5_readWhole 9 = .ok (.iconst 1, 1) := by decide +kernel
theorem dX5_readWhole_10 : decode cX5_readWhole 10 = .ok (.invokevirtual 68, 3) := by decide +kernel
theorem dX5_readWhole_13 : decode cX5_readWhole 13 = .ok (.ireturn, 1) := by decide +kernel
theorem dX5_readWhole_14 : decode cX5_readWhole 14 = .ok (.aload_n 0, 1) := by decide +kernel
theorem dX5_readWhole_15 : decode cX5_readWhole 15 = .ok (.invokevirtual 58, 3) := by decide +kernel
theorem dX5_readWhole_18 : decode cX5_readWhole 18 = .ok (.aload_n 0, 1) := by decide +kernel
theorem dX5_readWhole_19 : decode cX5_readWhole 19 = .ok (.getfield 65, 3) := by decide +kernel
theorem dX5_readWhole_22 : decode cX5_readWhole 22 = .ok (.iconst 2, 1) := by decide +kernel
theorem dX5_readWhole_23 : decode cX5_readWhole 23 = .ok (.if_icmp .eq 9, 3) := by decide +kernel
theorem dX5_readWhole_26 : decode cX5_readWhole 26 = .ok (.aload_n 0, 1) := by decide +kernel
theorem dX5_readWhole_27 : decode cX5_readWhole 27 = .ok (.iconst 1, 1) := by decide +kernel
theorem dX5_readWhole_28 : decode cX5_readWhole 28 = .ok (.invokevirtual 68, 3) := by decide +kernel
theorem dX5_readWhole_31 : decode cX5_readWhole 31 = .ok (.ireturn, 1) := by decide +kernel
theorem dX5_readWhole_32 : decode cX5_readWhole 32 = .ok (.aload_n 0, 1) := by decide +kernel
theorem dX5_readWhole_33 : decode cX5_readWhole 33 = .ok (.getfield 91, 3) := by decide +kernel
theorem dX5_readWhole_36 : decode cX5_readWhole 36 = .ok (.iload_n 3, 1) := by decide +kernel
theorem dX5_readWhole_37 : decode cX5_readWhole 37 = .ok (.if_icmp .lt 12, 3) := by decide +kernel
theorem dX5_readWhole_40 : decode cX5_readWhole 40 = .ok (.aload_n 0, 1) := by decide +kernel
theorem dX5_readWhole_41 : decode cX5_readWhole 41 = .ok (.getfield 91, 3) := by decide +kernel
theorem dX5_readWhole_44 : decode cX5_readWhole 44 = .ok (.iload 4, 2) := by decide +kernel
theorem dX5_readWhole_46 : decode cX5_readWhole 46 = .ok (.if_icmp .le 11, 3) := by decide +kernel
theorem dX5_readWhole_49 : decode cX5_readWhole 49 = .ok (.aload_n 0, 1) := by decide +kernel
theorem dX5_readWhole_50 : decode cX5_readWhole 50 = .ok (.iconst 4, 1) := by decide +kernel
theorem dX5_readWhole_51 : decode cX5_readWhole 51 = .ok (.invokevirtual 68, 3) := by decide +kernel
theorem dX5_readWhole_54 : decode cX5_readWhole 54 = .ok (.ifCond .eq 7, 3) := by decide +kernel
theorem dX5_readWhole_57 : decode cX5_readWhole 57 = .ok (.iconst 1, 1) := by decide +kernel
theorem dX5_readWhole_58 : decode cX5_readWhole 58 = .ok (.goto 4, 3) := by decide +kernel
theorem dX5_readWhole_61 : decode cX5_readWhole 61 = .ok (.iconst 0, 1) := by decide +kernel
theorem dX5_readWhole_62 : decode cX5_readWhole 62 = .ok (.ireturn, 1) := by decide +kernel
theorem dX5_readNewName_0 : decode cX5_readNewName 0 = .ok (.aload_n 0, 1) := by decide +kernel
theorem dX5_readNewName_1 : decode cX5_readNewName 1 = .ok (.invokevirtual 234, 3) := by decide +kernel
theorem dX5_readNewName_4 : decode cX5_readNewName 4 = .ok (.ifCond .ne 9, 3) := by decide +kernel
theorem dX5_readNewName_7 : decode cX5_readNewName 7 = .ok (.aload_n 0, 1) := by decide +kernel
theorem dX5_readNewName_8 : decode cX5_readNewName 8 = .ok (.iconst 1, 1) := by decide +kernel
theorem dX5_readNewName_9 : decode cX5_readNewName 9 = .ok (.invokevirtual 68, 3) := by decide +kernel
theorem dX5_readNewName_12 : decode cX5_readNewName 12 = .ok (.ireturn, 1) := by decide +kernel
theorem dX5_readNewName_13 : decode cX5_readNewName 13 = .ok (.aload_n 0, 1) := by decide +kernel
theorem dX5_readNewName_14 : decode cX5_readNewName 14 = .ok (.invokevirtual 237, 3) := by decide +kernel
theorem dX5_readNewName_17 : decode cX5_readNewName 17 = .ok (.iconst (-1), 1) := by decide +kernel
theorem dX5_readNewName_18 : decode cX5_readNewName 18 = .ok (.if_icmp .ne 12, 3) := by decide +kernel
theorem dX5_readNewName_21 : decode cX5_readNewName 21 = .ok (.aload_n 0, 1) := by decide +kernel
theorem dX5_readNewName_22 : decode cX5_readNewName 22 = .ok (.getfield 52, 3) := by decide +kernel
theorem dX5_readNewName_25 : decode cX5_readNewName 25 = .ok (.bipush 24, 2) := by decide +kernel
theorem dX5_readNewName_27 : decode cX5_readNewName 27 = .ok (.if_icmp .lt 9, 3) := by decide +kernel
theorem dX5_readNewName_30 : decode cX5_readNewName 30 = .ok (.aload_n 0, 1) := by decide +kernel
theorem dX5_readNewName_31 : decode cX5_readNewName 31 = .ok (.iconst 3, 1) := by decide +kernel
theorem dX5_readNewName_32 : decode cX5_readNewName 32 = .ok (.invokevirtual 68, 3) := by decide +kernel
theorem dX5_readNewName_35 : decode cX5_readNewName 35 = .ok (.ireturn, 1) := by decide +kernel
theorem dX5_readNewName_36 : decode cX5_readNewName 36 = .ok (.aload_n 0, 1) := by decide +kernel
theorem dX5_readNewName_37 : decode cX5_readNewName 37 = .ok (.getfield 15, 3) := by decide +kernel
theorem dX5_readNewName_40 : decode cX5_readNewName 40 = .ok (.aload_n 0, 1) := by decide +kernel
theorem dX5_readNewName_41 : decode cX5_readNewName 41 = .ok (.getfield 52, 3) := by decide +kernel
theorem dX5_readNewName_44 : decode cX5_readNewName 44 = .ok (.aload_n 0, 1) := by decide +kernel
theorem dX5_readNewName_45 : decode cX5_readNewName 45 = .ok (.getfield 87, 3) := by decide +kernel
theorem dX5_readNewName_48 : decode cX5_readNewName 48 = .ok (.lastore, 1) := by decide +kernel
theorem dX5_readNewName_49 : decode cX5_readNewName 49 = .ok (.aload_n 0, 1) := by decide +kernel
theorem dX5_readNewName_50 : decode cX5_readNewName 50 = .ok (.getfield 19, 3) := by decide +kernel
theorem dX5_readNewName_53 : decode cX5_readNewName 53 = .ok (.aload_n 0, 1) := by decide +kernel
theorem dX5_readNewName_54 : decode cX5_readNewName 54 = .ok (.getfield 52, 3) := by decide +kernel
theorem dX5_readNewName_57 : decode cX5_readNewName 57 = .ok (.iload_n 1, 1) := by decide +kernel
theorem dX5_readNewName_58 : decode cX5_readNewName 58 = .ok (.iastore, 1) := by decide +kernel
theorem dX5_readNewName_59 : decode cX5_readNewName 59 = .ok (.aload_n 0, 1) := by decide +kernel
theorem dX5_readNewName_60 : decode cX5_readNewName 60 = .ok (.getfield 23, 3) := by decide +kernel
theorem dX5_readNewName_63 : decode cX5_readNewName 63 = .ok (.aload_n 0, 1) := by decide +kernel
theorem dX5_readNewName_64 : decode cX5_readNewName 64 = .ok (.getfield 52, 3) := by decide +kernel
theorem dX5_readNewName_67 : decode cX5_readNewName 67 = .ok (.iload_n 2, 1) := by decide +kernel
theorem dX5_readNewName_68 : decode cX5_readNewName 68 = .ok (.iastore, 1) := by decide +kernel
theorem dX5_readNewName_69 : decode cX5_readNewName 69 = .ok (.aload_n 0, 1) := by decide +kernel
theorem dX5_readNewName_70 : decode cX5_readNewName 70 = .ok (.dup, 1) := by decide +kernel
theorem dX5_readNewName_71 : decode cX5_readNewName 71 = .ok (.getfield 52, 3) := by decide +kernel
theorem dX5_readNewName_74 : decode cX5_readNewName 74 = .ok (.iconst 1, 1) := by decide +kernel
theorem dX5_readNewName_75 : decode cX5_readNewName 75 = .ok (.iadd, 1) := by decide +kernel
theorem dX5_readNewName_76 : decode cX5_readNewName 76 = .ok (.putfield 52, 3) := by decide +kernel
theorem dX5_readNewName_79 : decode cX5_readNewName 79 = .ok (.aload_n 0, 1) := by decide +kernel
theorem dX5_readNewName_80 : decode cX5_readNewName 80 = .ok (.invokevirtual 58, 3) := by decide +kernel
theorem dX5_readNewName_83 : decode cX5_readNewName 83 = .ok (.iconst 1, 1) := by decide +kernel
theorem dX5_readNewName_84 : decode cX5_readNewName 84 = .ok (.ireturn, 1) := by decide +kernel
theorem dX5_usedName_0 : decode cX5_usedName 0 = .ok (.aload_n 0, 1) := by decide +kernel
theorem dX5_usedName_1 : decode cX5_usedName 1 = .ok (.invokevirtual 234, 3) := by decide +kernel
theorem dX5_usedName_4 : decode cX5_usedName 4 = .ok (.ifCond .ne 11, 3) := by decide +kernel
theorem dX5_usedName_7 : decode cX5_usedName 7 = .ok (.aload_n 0, 1) := by decide +kernel
theorem dX5_usedName_8 : decode cX5_usedName 8 = .ok (.iconst 1, 1) := by decide +kernel
theorem dX5_usedName_9 : decode cX5_usedName 9 = .ok (.invokevirtual 68, 3) := by decide +kernel
theorem dX5_usedName_12 : decode cX5_usedName 12 = .ok (.pop, 1) := by decide +kernel
theorem dX5_usedName_13 : decode cX5_usedName 13 = .ok (.iconst (-1), 1) := by decide +kernel
theorem dX5_usedName_14 : decode cX5_usedName 14 = .ok (.ireturn, 1) := by decide +kernel
theorem dX5_usedName_15 : decode cX5_usedName 15 = .ok (.aload_n 0, 1) := by decide +kernel
theorem dX5_usedName_16 : decode cX5_usedName 16 = .ok (.invokevirtual 237, 3) := by decide +kernel
theorem dX5_usedName_19 : decode cX5_usedName 19 = .ok (.istore_n 2, 1) := by decide +kernel
theorem dX5_usedName_20 : decode cX5_usedName 20 = .ok (.iload_n 2, 1) := by decide +kernel
theorem dX5_usedName_21 : decode cX5_usedName 21 = .ok (.iconst (-1), 1) := by decide +kernel
theorem dX5_usedName_22 : decode cX5_usedName 22 = .ok (.if_icmp .eq 13, 3) := by decide +kernel
theorem dX5_usedName_25 : decode cX5_usedName 25 = .ok (.aload_n 0, 1) := by decide +kernel
theorem dX5_usedName_26 : decode cX5_usedName 26 = .ok (.getfield 19, 3) := by decide +kernel
theorem dX5_usedName_29 : decode cX5_usedName 29 = .ok (.iload_n 2, 1) := by decide +kernel
theorem dX5_usedName_30 : decode cX5_usedName 30 = .ok (.iaload, 1) := by decide +kernel
theorem dX5_usedName_31 : decode cX5_usedName 31 = .ok (.iload_n 1, 1) := by decide +kernel
theorem dX5_usedName_32 : decode cX5_usedName 32 = .ok (.if_icmp .eq 11, 3) := by decide +kernel
theorem dX5_usedName_35 : decode cX5_usedName 35 = .ok (.aload_n 0, 1) := by decide +kernel
theorem dX5_usedName_36 : decode cX5_usedName 36 = .ok (.iconst 2, 1) := by decide +kernel
theorem dX5_usedName_37 : decode cX5_usedName 37 = .ok (.invokevirtual 68, 3) := by decide +kernel
theorem dX5_usedName_40 : decode cX5_usedName 40 = .ok (.pop, 1) := by decide +kernel
theorem dX5_usedName_41 : decode cX5_usedName 41 = .ok (.iconst (-1), 1) := by decide +kernel
theorem dX5_usedName_42 : decode cX5_usedName 42 = .ok (.ireturn, 1) := by decide +kernel
theorem dX5_usedName_43 : decode cX5_usedName 43 = .ok (.aload_n 0, 1) := by decide +kernel
theorem dX5_usedName_44 : decode cX5_usedName 44 = .ok (.getfield 23, 3) := by decide +kernel
theorem dX5_usedName_47 : decode cX5_usedName 47 = .ok (.iload_n 2, 1) := by decide +kernel
theorem dX5_usedName_48 : decode cX5_usedName 48 = .ok (.iaload, 1) := by decide +kernel
theorem dX5_usedName_49 : decode cX5_usedName 49 = .ok (.ireturn, 1) := by decide +kernel
theorem dX5_isName_0 : decode cX5_isName 0 = .ok (.aload_n 0, 1) := by decide +kernel
theorem dX5_isName_1 : decode cX5_isName 1 = .ok (.getfield 65, 3) := by decide +kernel
theorem dX5_isName_4 : decode cX5_isName 4 = .ok (.iconst 1, 1) := by decide +kernel
theorem dX5_isName_5 : decode cX5_isName 5 = .ok (.if_icmp .ne 15, 3) := by decide +kernel
theorem dX5_isName_8 : decode cX5_isName 8 = .ok (.aload_n 0, 1) := by decide +kernel
theorem dX5_isName_9 : decode cX5_isName 9 = .ok (.invokevirtual 120, 3) := by decide +kernel
theorem dX5_isName_12 : decode cX5_isName 12 = .ok (.iconst (-1), 1) := by decide +kernel
theorem dX5_isName_13 : decode cX5_isName 13 = .ok (.if_icmp .ne 7, 3) := by decide +kernel
theorem dX5_isName_16 : decode cX5_isName 16 = .ok (.iconst 1, 1) := by decide +kernel
theorem dX5_isName_17 : decode cX5_isName 17 = .ok (.goto 4, 3) := by decide +kernel
theorem dX5_isName_20 : decode cX5_isName 20 = .ok (.iconst 0, 1) := by decide +kernel
theorem dX5_isName_21 : decode cX5_isName 21 = .ok (.ireturn, 1) := by decide +kernel
theorem dX5_nameIndex_0 : decode cX5_nameIndex 0 = .ok (.iconst 0, 1) := by decide +kernel
theorem dX5_nameIndex_1 : decode cX5_nameIndex 1 = .ok (.istore_n 1, 1) := by decide +kernel
theorem dX5_nameIndex_2 : decode cX5_nameIndex 2 = .ok (.iload_n 1, 1) := by decide +kernel
theorem dX5_nameIndex_3 : decode cX5_nameIndex 3 = .ok (.aload_n 0, 1) := by decide +kernel
theorem dX5_nameIndex_4 : decode cX5_nameIndex 4 = .ok (.getfield 52, 3) := by decide +kernel
theorem dX5_nameIndex_7 : decode cX5_nameIndex 7 = .ok (.if_icmp .ge 25, 3) := by decide +kernel
theorem dX5_nameIndex_10 : decode cX5_nameIndex 10 = .ok (.aload_n 0, 1) := by decide +kernel
theorem dX5_nameIndex_11 : decode cX5_nameIndex 11 = .ok (.getfield 15, 3) := by decide +kernel
theorem dX5_nameIndex_14 : decode cX5_nameIndex 14 = .ok (.iload_n 1, 1) := by decide +kernel
theorem dX5_nameIndex_15 : decode cX5_nameIndex 15 = .ok (.laload, 1) := by decide +kernel
theorem dX5_nameIndex_16 : decode cX5_nameIndex 16 = .ok (.aload_n 0, 1) := by decide +kernel
theorem dX5_nameIndex_17 : decode cX5_nameIndex 17 = .ok (.getfield 87, 3) := by decide +kernel
theorem dX5_nameIndex_20 : decode cX5_nameIndex 20 = .ok (.lcmp, 1) := by decide +kernel
theorem dX5_nameIndex_21 : decode cX5_nameIndex 21 = .ok (.ifCond .ne 5, 3) := by decide +kernel
theorem dX5_nameIndex_24 : decode cX5_nameIndex 24 = .ok (.iload_n 1, 1) := by decide +kernel
theorem dX5_nameIndex_25 : decode cX5_nameIndex 25 = .ok (.ireturn, 1) := by decide +kernel
theorem dX5_nameIndex_26 : decode cX5_nameIndex 26 = .ok (.iinc 1 1, 3) := by decide +kernel
theorem dX5_nameIndex_29 : decode cX5_nameIndex 29 = .ok (.goto (-27), 3) := by decide +kernel
theorem dX5_nameIndex_32 : decode cX5_nameIndex 32 = .ok (.iconst (-1), 1) := by decide +kernel
theorem dX5_nameIndex_33 : decode cX5_nameIndex 33 = .ok (.ireturn, 1) := by decide +kernel
theorem dX6_init_0 : decode cX6_init 0 = .ok (.aload_n 0, 1) := by decide +kernel
theorem dX6_init_1 : decode cX6_init 1 = .ok (.invokespecial 3, 3) := by decide +kernel
theorem dX6_init_4 : decode cX6_init 4 = .ok (.aload_n 0, 1) := by decide +kernel
theorem dX6_init_5 : decode cX6_init 5 = .ok (.bipush 6, 2) := by decide +kernel
theorem dX6_init_7 : decode cX6_init 7 = .ok (.newarray .int, 2) := by decide +kernel
theorem dX6_init_9 : decode cX6_init 9 = .ok (.putfield 9, 3) := by decide +kernel
theorem dX6_init_12 : decode cX6_init 12 = .ok (.aload_n 0, 1) := by decide +kernel
theorem dX6_init_13 : decode cX6_init 13 = .ok (.bipush 6, 2) := by decide +kernel
theorem dX6_init_15 : decode cX6_init 15 = .ok (.newarray .int, 2) := by decide +kernel
theorem dX6_init_17 : decode cX6_init 17 = .ok (.putfield 15, 3) := by decide +kernel
theorem dX6_init_20 : decode cX6_init 20 = .ok (.aload_n 0, 1) := by decide +kernel
theorem dX6_init_21 : decode cX6_init 21 = .ok (.bipush 6, 2) := by decide +kernel
theorem dX6_init_23 : decode cX6_init 23 = .ok (.newarray .int, 2) := by decide +kernel
theorem dX6_init_25 : decode cX6_init 25 = .ok (.putfield 18, 3) := by decide +kernel
theorem dX6_init_28 : decode cX6_init 28 = .ok (.aload_n 0, 1) := by decide +kernel
theorem dX6_init_29 : decode cX6_init 29 = .ok (.bipush 6, 2) := by decide +kernel
theorem dX6_init_31 : decode cX6_init 31 = .ok (.newarray .int, 2) := by decide +kernel
theorem dX6_init_33 : decode cX6_init 33 = .ok (.putfield 21, 3) := by decide +kernel
theorem dX6_init_36 : decode cX6_init 36 = .ok (.aload_n 0, 1) := by decide +kernel
theorem dX6_init_37 : decode cX6_init 37 = .ok (.bipush 7, 2) := by decide +kernel
theorem dX6_init_39 : decode cX6_init 39 = .ok (.newarray .int, 2) := by decide +kernel
theorem dX6_init_41 : decode cX6_init 41 = .ok (.putfield 24, 3) := by decide +kernel
theorem dX6_init_44 : decode cX6_init 44 = .ok (.aload_n 0, 1) := by decide +kernel
theorem dX6_init_45 : decode cX6_init 45 = .ok (.bipush 7, 2) := by decide +kernel
theorem dX6_init_47 : decode cX6_init 47 = .ok (.newarray .int, 2) := by decide +kernel
theorem dX6_init_49 : decode cX6_init 49 = .ok (.putfield 27, 3) := by decide +kernel
theorem dX6_init_52 : decode cX6_init 52 = .ok (.aload_n 0, 1) := by decide +kernel
theorem dX6_init_53 : decode cX6_init 53 = .ok (.bipush 7, 2) := by decide +kernel
theorem dX6_init_55 : decode cX6_init 55 = .ok (.newarray .int, 2) := by decide +kernel
theorem dX6_init_57 : decode cX6_init 57 = .ok (.putfield 30, 3) := by decide +kernel
theorem dX6_init_60 : decode cX6_init 60 = .ok (.aload_n 0, 1) := by decide +kernel
theorem dX6_init_61 : decode cX6_init 61 = .ok (.bipush 6, 2) := by decide +kernel
theorem dX6_init_63 : decode cX6_init 63 = .ok (.newarray .int, 2) := by decide +kernel
theorem dX6_init_65 : decode cX6_init 65 = .ok (.putfield 33, 3) := by decide +kernel
theorem dX6_init_68 : decode cX6_init 68 = .ok (.aload_n 0, 1) := by decide +kernel
theorem dX6_init_69 : decode cX6_init 69 = .ok (.iconst 5, 1) := by decide +kernel
theorem dX6_init_70 : decode cX6_init 70 = .ok (.newarray .int, 2) := by decide +kernel
theorem dX6_init_72 : decode cX6_init 72 = .ok (.putfield 36, 3) := by decide +kernel
theorem dX6_init_75 : decode cX6_init 75 = .ok (.aload_n 0, 1) := by decide +kernel
theorem dX6_init_76 : decode cX6_init 76 = .ok (.iconst 5, 1) := by decide +kernel
theorem dX6_init_77 : decode cX6_init 77 = .ok (.newarray .int, 2) := by decide +kernel
theorem dX6_init_79 : decode cX6_init 79 = .ok (.putfield 39, 3) := by decide +kernel
theorem dX6_init_82 : decode cX6_init 82 = .ok (.return_, 1) := by decide +kernel
theorem dX6_empty_0 : decode cX6_empty 0 = .ok (.aload_n 0, 1) := by decide +kernel
theorem dX6_empty_1 : decode cX6_empty 1 = .ok (.iconst 0, 1) := by decide +kernel
theorem dX6_empty_2 : decode cX6_empty 2 = .ok (.putfield 42, 3) := by decide +kernel
theorem dX6_empty_5 : decode cX6_empty 5 = .ok (.aload_n 0, 1) := by decide +kernel
theorem dX6_empty_6 : decode cX6_empty 6 = .ok (.iconst 0, 1) := by decide +kernel
theorem dX6_empty_7 : decode cX6_empty 7 = .ok (.putfield 46, 3) := by decide +kernel
theorem dX6_empty_10 : decode cX6_empty 10 = .ok (.aload_n 0, 1) := by decide +kernel
theorem dX6_empty_11 : decode cX6_empty 11 = .ok (.iconst 0, 1) := by decide +kernel
theorem dX6_empty_12 : decode cX6_empty 12 = .ok (.putfield 49, 3) := by decide +kernel
theorem dX6_empty_15 : decode cX6_empty 15 = .ok (.aload_n 0, 1) := by decide +kernel
theorem dX6_empty_16 : decode cX6_empty 16 = .ok (.iconst 0, 1) := by decide +kernel
theorem dX6_empty_17 : decode cX6_empty 17 = .ok (.putfield 52, 3) := by decide +kernel
theorem dX6_empty_20 : decode cX6_empty 20 = .ok (.aload_n 0, 1) := by decide +kernel
theorem dX6_empty_21 : decode cX6_empty 21 = .ok (.iconst 0, 1) := by decide +kernel
theorem dX6_empty_22 : decode cX6_empty 22 = .ok (.putfield 55, 3) := by decide +kernel
theorem dX6_empty_25 : decode cX6_empty 25 = .ok (.aload_n 0, 1) := by decide +kernel
theorem dX6_empty_26 : decode cX6_empty 26 = .ok (.iconst 0, 1) := by decide +kernel
theorem dX6_empty_27 : decode cX6_empty 27 = .ok (.putfield 58, 3) := by decide +kernel
theorem dX6_empty_30 : decode cX6_empty 30 = .ok (.aload_n 0, 1) := by decide +kernel
theorem dX6_empty_31 : decode cX6_empty 31 = .ok (.iconst 0, 1) := by decide +kernel
theorem dX6_empty_32 : decode cX6_empty 32 = .ok (.putfield 61, 3) := by decide +kernel
theorem dX6_empty_35 : decode cX6_empty 35 = .ok (.aload_n 0, 1) := by decide +kernel
theorem dX6_empty_36 : decode cX6_empty 36 = .ok (.iconst 0, 1) := by decide +kernel
theorem dX6_empty_37 : decode cX6_empty 37 = .ok (.putfield 64, 3) := by decide +kernel
theorem dX6_empty_40 : decode cX6_empty 40 = .ok (.iconst 0, 1) := by decide +kernel
theorem dX6_empty_41 : decode cX6_empty 41 = .ok (.istore_n 1, 1) := by decide +kernel
theorem dX6_empty_42 : decode cX6_empty 42 = .ok (.iload_n 1, 1) := by decide +kernel
theorem dX6_empty_43 : decode cX6_empty 43 = .ok (.bipush 6, 2) := by decide +kernel
theorem dX6_empty_45 : decode cX6_empty 45 = .ok (.if_icmp .ge 16, 3) := by decide +kernel
theorem dX6_empty_48 : decode cX6_empty 48 = .ok (.aload_n 0, 1) := by decide +kernel
theorem dX6_empty_49 : decode cX6_empty 49 = .ok (.getfield 21, 3) := by decide +kernel
theorem dX6_empty_52 : decode cX6_empty 52 = .ok (.iload_n 1, 1) := by decide +kernel
theorem dX6_empty_53 : decode cX6_empty 53 = .ok (.iconst (-1), 1) := by decide +kernel
theorem dX6_empty_54 : decode cX6_empty 54 = .ok (.iastore, 1) := by decide +kernel
theorem dX6_empty_55 : decode cX6_empty 55 = .ok (.iinc 1 1, 3) := by decide +kernel
theorem dX6_empty_58 : decode cX6_empty 58 = .ok (.goto (-16), 3) := by decide +kernel
theorem dX6_empty_61 : decode cX6_empty 61 = .ok (.return_, 1) := by decide +kernel
theorem dX7_init_0 : decode cX7_init 0 = .ok (.aload_n 0, 1) := by decide +kernel
theorem dX7_init_1 : decode cX7_init 1 = .ok (.invokespecial 3, 3) := by decide +kernel
theorem dX7_init_4 : decode cX7_init 4 = .ok (.aload_n 0, 1) := by decide +kernel
theorem dX7_init_5 : decode cX7_init 5 = .ok (.bipush 7, 2) := by decide +kernel
theorem dX7_init_7 : decode cX7_init 7 = .ok (.newarray .int, 2) := by decide +kernel
theorem dX7_init_9 : decode cX7_init 9 = .ok (.putfield 9, 3) := by decide +kernel
theorem dX7_init_12 : decode cX7_init 12 = .ok (.return_, 1) := by decide +kernel
theorem dX7_begin_0 : decode cX7_begin 0 = .ok (.aload_n 0, 1) := by decide +kernel
theorem dX7_begin_1 : decode cX7_begin 1 = .ok (.iconst 1, 1) := by decide +kernel
theorem dX7_begin_2 : decode cX7_begin 2 = .ok (.aload_n 1, 1) := by decide +kernel
theorem dX7_begin_3 : decode cX7_begin 3 = .ok (.getfield 15, 3) := by decide +kernel
theorem dX7_begin_6 : decode cX7_begin 6 = .ok (.ishl, 1) := by decide +kernel
theorem dX7_begin_7 : decode cX7_begin 7 = .ok (.iconst 1, 1) := by decide +kernel
theorem dX7_begin_8 : decode cX7_begin 8 = .ok (.isub, 1) := by decide +kernel
theorem dX7_begin_9 : decode cX7_begin 9 = .ok (.aload_n 1, 1) := by decide +kernel
theorem dX7_begin_10 : decode cX7_begin 10 = .ok (.getfield 21, 3) := by decide +kernel
theorem dX7_begin_13 : decode cX7_begin 13 = .ok (.iconst (-1), 1) := by decide +kernel
theorem dX7_begin_14 : decode cX7_begin 14 = .ok (.ixor, 1) := by decide +kernel
theorem dX7_begin_15 : decode cX7_begin 15 = .ok (.iand, 1) := by decide +kernel
theorem dX7_begin_16 : decode cX7_begin 16 = .ok (.putfield 24, 3) := by decide +kernel
theorem dX7_begin_19 : decode cX7_begin 19 = .ok (.aload_n 0, 1) := by decide +kernel
theorem dX7_begin_20 : decode cX7_begin 20 = .ok (.iconst 0, 1) := by decide +kernel
theorem dX7_begin_21 : decode cX7_begin 21 = .ok (.putfield 27, 3) := by decide +kernel
theorem dX7_begin_24 : decode cX7_begin 24 = .ok (.aload_n 0, 1) := by decide +kernel
theorem dX7_begin_25 : decode cX7_begin 25 = .ok (.aload_n 1, 1) := by decide +kernel
theorem dX7_begin_26 : decode cX7_begin 26 = .ok (.getfield 30, 3) := by decide +kernel
theorem dX7_begin_29 : decode cX7_begin 29 = .ok (.putfield 33, 3) := by decide +kernel
theorem dX7_begin_32 : decode cX7_begin 32 = .ok (.aload_n 0, 1) := by decide +kernel
theorem dX7_begin_33 : decode cX7_begin 33 = .ok (.iconst 0, 1) := by decide +kernel
theorem dX7_begin_34 : decode cX7_begin 34 = .ok (.putfield 34, 3) := by decide +kernel
theorem dX7_begin_37 : decode cX7_begin 37 = .ok (.iconst 0, 1) := by decide +kernel
theorem dX7_begin_38 : decode cX7_begin 38 = .ok (.istore_n 2, 1) := by decide +kernel
theorem dX7_begin_39 : decode cX7_begin 39 = .ok (.iload_n 2, 1) := by decide +kernel
theorem dX7_begin_40 : decode cX7_begin 40 = .ok (.bipush 7, 2) := by decide +kernel
theorem dX7_begin_42 : decode cX7_begin 42 = .ok (.if_icmp .ge 16, 3) := by decide +kernel
theorem dX7_begin_45 : decode cX7_begin 45 = .ok (.aload_n 0, 1) := by decide +kernel
theorem dX7_begin_46 : decode cX7_begin 46 = .ok (.getfield 9, 3) := by decide +kernel
theorem dX7_begin_49 : decode cX7_begin 49 = .ok (.iload_n 2, 1) := by decide +kernel
theorem dX7_begin_50 : decode cX7_begin 50 = .ok (.iconst 0, 1) := by decide +kernel
theorem dX7_begin_51 : decode cX7_begin 51 = .ok (.iastore, 1) := by decide +kernel
theorem dX7_begin_52 : decode cX7_begin 52 = .ok (.iinc 2 1, 3) := by decide +kernel
theorem dX7_begin_55 : decode cX7_begin 55 = .ok (.goto (-16), 3) := by decide +kernel
theorem dX7_begin_58 : decode cX7_begin 58 = .ok (.return_, 1) := by decide +kernel
theorem dX7_copy_0 : decode cX7_copy 0 = .ok (.aload_n 0, 1) := by decide +kernel
theorem dX7_copy_1 : decode cX7_copy 1 = .ok (.aload_n 1, 1) := by decide +kernel
theorem dX7_copy_2 : decode cX7_copy 2 = .ok (.getfield 24, 3) := by decide +kernel
theorem dX7_copy_5 : decode cX7_copy 5 = .ok (.putfield 24, 3) := by decide +kernel
theorem dX7_copy_8 : decode cX7_copy 8 = .ok (.aload_n 0, 1) := by decide +kernel
theorem dX7_copy_9 : decode cX7_copy 9 = .ok (.aload_n 1, 1) := by decide +kernel
theorem dX7_copy_10 : decode cX7_copy 10 = .ok (.getfield 27, 3) := by decide +kernel
theorem dX7_copy_13 : decode cX7_copy 13 = .ok (.putfield 27, 3) := by decide +kernel
theorem dX7_copy_16 : decode cX7_copy 16 = .ok (.aload_n 0, 1) := by decide +kernel
theorem dX7_copy_17 : decode cX7_copy 17 = .ok (.aload_n 1, 1) := by decide +kernel
theorem dX7_copy_18 : decode cX7_copy 18 = .ok (.getfield 33, 3) := by decide +kernel
theorem dX7_copy_21 : decode cX7_copy 21 = .ok (.putfield 33, 3) := by decide +kernel
theorem dX7_copy_24 : decode cX7_copy 24 = .ok (.aload_n 0, 1) := by decide +kernel
theorem dX7_copy_25 : decode cX7_copy 25 = .ok (.aload_n 1, 1) := by decide +kernel
theorem dX7_copy_26 : decode cX7_copy 26 = .ok (.getfield 34, 3) := by decide +kernel
theorem dX7_copy_29 : decode cX7_copy 29 = .ok (.putfield 34, 3) := by decide +kernel
theorem dX7_copy_32 : decode cX7_copy 32 = .ok (.iconst 0, 1) := by decide +kernel
theorem dX7_copy_33 : decode cX7_copy 33 = .ok (.istore_n 2, 1) := by decide +kernel
theorem dX7_copy_34 : decode cX7_copy 34 = .ok (.iload_n 2, 1) := by decide +kernel
theorem dX7_copy_35 : decode cX7_copy 35 = .ok (.bipush 7, 2) := by decide +kernel
theorem dX7_copy_37 : decode cX7_copy 37 = .ok (.if_icmp .ge 21, 3) := by decide +kernel
theorem dX7_copy_40 : decode cX7_copy 40 = .ok (.aload_n 0, 1) := by decide +kernel
theorem dX7_copy_41 : decode cX7_copy 41 = .ok (.getfield 9, 3) := by decide +kernel
theorem dX7_copy_44 : decode cX7_copy 44 = .ok (.iload_n 2, 1) := by decide +kernel
theorem dX7_copy_45 : decode cX7_copy 45 = .ok (.aload_n 1, 1) := by decide +kernel
theorem dX7_copy_46 : decode cX7_copy 46 = .ok (.getfield 9, 3) := by decide +kernel
theorem dX7_copy_49 : decode cX7_copy 49 = .ok (.iload_n 2, 1) := by decide +kernel
theorem dX7_copy_50 : decode cX7_copy 50 = .ok (.iaload, 1) := by decide +kernel
theorem dX7_copy_51 : decode cX7_copy 51 = .ok (.iastore, 1) := by decide +kernel
theorem dX7_copy_52 : decode cX7_copy 52 = .ok (.iinc 2 1, 3) := by decide +kernel
theorem dX7_copy_55 : decode cX7_copy 55 = .ok (.goto (-21), 3) := by decide +kernel
theorem dX7_copy_58 : decode cX7_copy 58 = .ok (.return_, 1) := by decide +kernel
theorem dX8_init_0 : decode cX8_init 0 = .ok (.aload_n 0, 1) := by decide +kernel
theorem dX8_init_1 : decode cX8_init 1 = .ok (.invokespecial 3, 3) := by decide +kernel
theorem dX8_init_4 : decode cX8_init 4 = .ok (.aload_n 0, 1) := by decide +kernel
theorem dX8_init_5 : decode cX8_init 5 = .ok (.bipush 6, 2) := by decide +kernel
theorem dX8_init_7 : decode cX8_init 7 = .ok (.newarray .int, 2) := by decide +kernel
theorem dX8_init_9 : decode cX8_init 9 = .ok (.putfield 9, 3) := by decide +kernel
theorem dX8_init_12 : decode cX8_init 12 = .ok (.aload_n 0, 1) := by decide +kernel
theorem dX8_init_13 : decode cX8_init 13 = .ok (.bipush 6, 2) := by decide +kernel
theorem dX8_init_15 : decode cX8_init 15 = .ok (.newarray .int, 2) := by decide +kernel
theorem dX8_init_17 : decode cX8_init 17 = .ok (.putfield 15, 3) := by decide +kernel
theorem dX8_init_20 : decode cX8_init 20 = .ok (.aload_n 0, 1) := by decide +kernel
theorem dX8_init_21 : decode cX8_init 21 = .ok (.bipush 6, 2) := by decide +kernel
theorem dX8_init_23 : decode cX8_init 23 = .ok (.newarray .int, 2) := by decide +kernel
theorem dX8_init_25 : decode cX8_init 25 = .ok (.putfield 18, 3) := by decide +kernel
theorem dX8_init_28 : decode cX8_init 28 = .ok (.aload_n 0, 1) := by decide +kernel
theorem dX8_init_29 : decode cX8_init 29 = .ok (.bipush 6, 2) := by decide +kernel
theorem dX8_init_31 : decode cX8_init 31 = .ok (.newarray .int, 2) := by decide +kernel
theorem dX8_init_33 : decode cX8_init 33 = .ok (.putfield 21, 3) := by decide +kernel
theorem dX8_init_36 : decode cX8_init 36 = .ok (.aload_n 0, 1) := by decide +kernel
theorem dX8_init_37 : decode cX8_init 37 = .ok (.bipush 6, 2) := by decide +kernel
theorem dX8_init_39 : decode cX8_init 39 = .ok (.newarray .int, 2) := by decide +kernel
theorem dX8_init_41 : decode cX8_init 41 = .ok (.putfield 24, 3) := by decide +kernel
theorem dX8_init_44 : decode cX8_init 44 = .ok (.return_, 1) := by decide +kernel
theorem dX8_run_0 : decode cX8_run 0 = .ok (.aload_n 0, 1) := by decide +kernel
theorem dX8_run_1 : decode cX8_run 1 = .ok (.aload_n 1, 1) := by decide +kernel
theorem dX8_run_2 : decode cX8_run 2 = .ok (.iload_n 2, 1) := by decide +kernel
theorem dX8_run_3 : decode cX8_run 3 = .ok (.invokevirtual 27, 3) := by decide +kernel
theorem dX8_run_6 : decode cX8_run 6 = .ok (.aload_n 0, 1) := by decide +kernel
theorem dX8_run_7 : decode cX8_run 7 = .ok (.aload_n 1, 1) := by decide +kernel
theorem dX8_run_8 : decode cX8_run 8 = .ok (.iload_n 3, 1) := by decide +kernel
theorem dX8_run_9 : decode cX8_run 9 = .ok (.invokevirtual 31, 3) := by decide +kernel
theorem dX8_run_12 : decode cX8_run 12 = .ok (.return_, 1) := by decide +kernel
theorem dX8_narrow_0 : decode cX8_narrow 0 = .ok (.iconst 0, 1) := by decide +kernel
theorem dX8_narrow_1 : decode cX8_narrow 1 = .ok (.istore_n 3, 1) := by decide +kernel
theorem dX8_narrow_2 : decode cX8_narrow 2 = .ok (.iload_n 3, 1) := by decide +kernel
theorem dX8_narrow_3 : decode cX8_narrow 3 = .ok (.aload_n 1, 1) := by decide +kernel
theorem dX8_narrow_4 : decode cX8_narrow 4 = .ok (.getfield 34, 3) := by decide +kernel
theorem dX8_narrow_7 : decode cX8_narrow 7 = .ok (.if_icmp .ge 21, 3) := by decide +kernel
theorem dX8_narrow_10 : decode cX8_narrow 10 = .ok (.aload_n 0, 1) := by decide +kernel
theorem dX8_narrow_11 : decode cX8_narrow 11 = .ok (.getfield 9, 3) := by decide +kernel
theorem dX8_narrow_14 : decode cX8_narrow 14 = .ok (.iload_n 3, 1) := by decide +kernel
theorem dX8_narrow_15 : decode cX8_narrow 15 = .ok (.aload_n 1, 1) := by decide +kernel
theorem dX8_narrow_16 : decode cX8_narrow 16 = .ok (.getfield 40, 3) := by decide +kernel
theorem dX8_narrow_19 : decode cX8_narrow 19 = .ok (.iload_n 3, 1) := by decide +kernel
theorem dX8_narrow_20 : decode cX8_narrow 20 = .ok (.iaload, 1) := by decide +kernel
theorem dX8_narrow_21 : decode cX8_narrow 21 = .ok (.iastore, 1) := by decide +kernel
theorem dX8_narrow_22 : decode cX8_narrow 22 = .ok (.iinc 3 1, 3) := by decide +kernel
theorem dX8_narrow_25 : decode cX8_narrow 25 = .ok (.goto (-23), 3) := by decide +kernel
theorem dX8_narrow_28 : decode cX8_narrow 28 = .ok (.iconst 0, 1) := by decide +kernel
theorem dX8_narrow_29 : decode cX8_narrow 29 = .ok (.istore_n 3, 1) := by decide +kernel
theorem dX8_narrow_30 : decode cX8_narrow 30 = .ok (.iload_n 3, 1) := by decide +kernel
theorem dX8_narrow_31 : decode cX8_narrow 31 = .ok (.aload_n 1, 1) := by decide +kernel
theorem dX8_narrow_32 : decode cX8_narrow 32 = .ok (.getfield 43, 3) := by decide +kernel
theorem dX8_narrow_35 : decode cX8_narrow 35 = .ok (.if_icmp .ge 37, 3) := by decide +kernel
theorem dX8_narrow_38 : decode cX8_narrow 38 = .ok (.iload_n 2, 1) := by decide +kernel
theorem dX8_narrow_39 : decode cX8_narrow 39 = .ok (.iload_n 3, 1) := by decide +kernel
theorem dX8_narrow_40 : decode cX8_narrow 40 = .ok (.invokestatic 46, 3) := by decide +kernel
theorem dX8_narrow_43 : decode cX8_narrow 43 = .ok (.ifCond .eq 23, 3) := by decide +kernel
theorem dX8_narrow_46 : decode cX8_narrow 46 = .ok (.aload_n 0, 1) := by decide +kernel
theorem dX8_narrow_47 : decode cX8_narrow 47 = .ok (.getfield 9, 3) := by decide +kernel
theorem dX8_narrow_50 : decode cX8_narrow 50 = .ok (.aload_n 1, 1) := by decide +kernel
theorem dX8_narrow_51 : decode cX8_narrow 51 = .ok (.getfield 50, 3) := by decide +kernel
theorem dX8_narrow_54 : decode cX8_narrow 54 = .ok (.iload_n 3, 1) := by decide +kernel
theorem dX8_narrow_55 : decode cX8_narrow 55 = .ok (.iaload, 1) := by decide +kernel
theorem dX8_narrow_56 : decode cX8_narrow 56 = .ok (.dup2, 1) := by decide +kernel
theorem dX8_narrow_57 : decode cX8_narrow 57 = .ok (.iaload, 1) := by decide +kernel
theorem dX8_narrow_58 : decode cX8_narrow 58 = .ok (.aload_n 1, 1) := by decide +kernel
theorem dX8_narrow_59 : decode cX8_narrow 59 = .ok (.getfield 53, 3) := by decide +kernel
theorem dX8_narrow_62 : decode cX8_narrow 62 = .ok (.iload_n 3, 1) := by decide +kernel
theorem dX8_narrow_63 : decode cX8_narrow 63 = .ok (.iaload, 1) := by decide +kernel
theorem dX8_narrow_64 : decode cX8_narrow 64 = .ok (.isub, 1) := by decide +kernel
theorem dX8_narrow_65 : decode cX8_narrow 65 = .ok (.iastore, 1) := by decide +kernel
theorem dX8_narrow_66 : decode cX8_narrow 66 = .ok (.iinc 3 1, 3) := by decide +kernel
theorem dX8_narrow_69 : decode cX8_narrow 69 = .ok (.goto (-39), 3) := by decide +kernel
theorem dX8_narrow_72 : decode cX8_narrow 72 = .ok (.iconst 0, 1) := by decide +kernel
theorem dX8_narrow_73 : decode cX8_narrow 73 = .ok (.istore_n 3, 1) := by decide +kernel
theorem dX8_narrow_74 : decode cX8_narrow 74 = .ok (.iload_n 3, 1) := by decide +kernel
theorem dX8_narrow_75 : decode cX8_narrow 75 = .ok (.aload_n 1, 1) := by decide +kernel
theorem dX8_narrow_76 : decode cX8_narrow 76 = .ok (.getfield 34, 3) := by decide +kernel
theorem dX8_narrow_79 : decode cX8_narrow 79 = .ok (.if_icmp .ge 25, 3) := by decide +kernel
theorem dX8_narrow_82 : decode cX8_narrow 82 = .ok (.aload_n 0, 1) := by decide +kernel
theorem dX8_narrow_83 : decode cX8_narrow 83 = .ok (.getfield 9, 3) := by decide +kernel
theorem dX8_narrow_86 : decode cX8_narrow 86 = .ok (.iload_n 3, 1) := by decide +kernel
theorem dX8_narrow_87 : decode cX8_narrow 87 = .ok (.iconst 1, 1) := by decide +kernel
theorem dX8_narrow_88 : decode cX8_narrow 88 = .ok (.aload_n 0, 1) := by decide +kernel
theorem dX8_narrow_89 : decode cX8_narrow 89 = .ok (.getfield 9, 3) := by decide +kernel
theorem dX8_narrow_92 : decode cX8_narrow 92 = .ok (.iload_n 3, 1) := by decide +kernel
theorem dX8_narrow_93 : decode cX8_narrow 93 = .ok (.iaload, 1) := by decide +kernel
theorem dX8_narrow_94 : decode cX8_narrow 94 = .ok (.invokestatic 56, 3) := by decide +kernel
theorem dX8_narrow_97 : decode cX8_narrow 97 = .ok (.iastore, 1) := by decide +kernel
theorem dX8_narrow_98 : decode cX8_narrow 98 = .ok (.iinc 3 1, 3) := by decide +kernel
theorem dX8_narrow_101 : decode cX8_narrow 101 = .ok (.goto (-27), 3) := by decide +kernel
theorem dX8_narrow_104 : decode cX8_narrow 104 = .ok (.return_, 1) := by decide +kernel
theorem dX8_narrowMore_0 : decode cX8_narrowMore 0 = .ok (.aload_n 0, 1) := by decide +kernel
theorem dX8_narrowMore_1 : decode cX8_narrowMore 1 = .ok (.getfield 9, 3) := by decide +kernel
theorem dX8_narrowMore_4 : decode cX8_narrowMore 4 = .ok (.iload_n 1, 1) := by decide +kernel
theorem dX8_narrowMore_5 : decode cX8_narrowMore 5 = .ok (.iconst 1, 1) := by decide +kernel
theorem dX8_narrowMore_6 : decode cX8_narrowMore 6 = .ok (.aload_n 0, 1) := by decide +kernel
theorem dX8_narrowMore_7 : decode cX8_narrowMore 7 = .ok (.getfield 9, 3) := by decide +kernel
theorem dX8_narrowMore_10 : decode cX8_narrowMore 10 = .ok (.iload_n 1, 1) := by decide +kernel
theorem dX8_narrowMore_11 : decode cX8_narrowMore 11 = .ok (.iaload, 1) := by decide +kernel
theorem dX8_narrowMore_12 : decode cX8_narrowMore 12 = .ok (.iload_n 2, 1) := by decide +kernel
theorem dX8_narrowMore_13 : decode cX8_narrowMore 13 = .ok (.isub, 1) := by decide +kernel
theorem dX8_narrowMore_14 : decode cX8_narrowMore 14 = .ok (.invokestatic 56, 3) := by decide +kernel
theorem dX8_narrowMore_17 : decode cX8_narrowMore 17 = .ok (.iastore, 1) := by decide +kernel
theorem dX8_narrowMore_18 : decode cX8_narrowMore 18 = .ok (.return_, 1) := by decide +kernel
theorem dX8_pour_0 : decode cX8_pour 0 = .ok (.aload_n 0, 1) := by decide +kernel
theorem dX8_pour_1 : decode cX8_pour 1 = .ok (.iload_n 2, 1) := by decide +kernel
theorem dX8_pour_2 : decode cX8_pour 2 = .ok (.putfield 62, 3) := by decide +kernel
theorem dX8_pour_5 : decode cX8_pour 5 = .ok (.aload_n 0, 1) := by decide +kernel
theorem dX8_pour_6 : decode cX8_pour 6 = .ok (.iconst 0, 1) := by decide +kernel
theorem dX8_pour_7 : decode cX8_pour 7 = .ok (.putfield 65, 3) := by decide +kernel
theorem dX8_pour_10 : decode cX8_pour 10 = .ok (.aload_n 0, 1) := by decide +kernel
theorem dX8_pour_11 : decode cX8_pour 11 = .ok (.iconst 0, 1) := by decide +kernel
theorem dX8_pour_12 : decode cX8_pour 12 = .ok (.putfield 68, 3) := by decide +kernel
theorem dX8_pour_15 : decode cX8_pour 15 = .ok (.iconst 0, 1) := by decide +kernel
theorem dX8_pour_16 : decode cX8_pour 16 = .ok (.istore_n 3, 1) := by decide +kernel
theorem dX8_pour_17 : decode cX8_pour 17 = .ok (.iload_n 3, 1) := by decide +kernel
theorem dX8_pour_18 : decode cX8_pour 18 = .ok (.aload_n 1, 1) := by decide +kernel
theorem dX8_pour_19 : decode cX8_pour 19 = .ok (.getfield 34, 3) := by decide +kernel
theorem dX8_pour_22 : decode cX8_pour 22 = .ok (.if_icmp .ge 15, 3) := by decide +kernel
theorem dX8_pour_25 : decode cX8_pour 25 = .ok (.aload_n 0, 1) := by decide +kernel
theorem dX8_pour_26 : decode cX8_pour 26 = .ok (.aload_n 1, 1) := by decide +kernel
theorem dX8_pour_27 : decode cX8_pour 27 = .ok (.iload_n 3, 1) := by decide +kernel
theorem dX8_pour_28 : decode cX8_pour 28 = .ok (.invokevirtual 71, 3) := by decide +kernel
theorem dX8_pour_31 : decode cX8_pour 31 = .ok (.iinc 3 1, 3) := by decide +kernel
theorem dX8_pour_34 : decode cX8_pour 34 = .ok (.goto (-17), 3) := by decide +kernel
theorem dX8_pour_37 : decode cX8_pour 37 = .ok (.return_, 1) := by decide +kernel
theorem dX8_pourInto_0 : decode cX8_pourInto 0 = .ok (.iconst 1, 1) := by decide +kernel
theorem dX8_pourInto_1 : decode cX8_pourInto 1 = .ok (.aload_n 0, 1) := by decide +kernel
theorem dX8_pourInto_2 : decode cX8_pourInto 2 = .ok (.getfield 9, 3) := by decide +kernel
theorem dX8_pourInto_5 : decode cX8_pourInto 5 = .ok (.iload_n 2, 1) := by decide +kernel
theorem dX8_pourInto_6 : decode cX8_pourInto 6 = .ok (.iaload, 1) := by decide +kernel
theorem dX8_pourInto_7 : decode cX8_pourInto 7 = .ok (.invokestatic 56, 3) := by decide +kernel
theorem dX8_pourInto_10 : decode cX8_pourInto 10 = .ok (.istore_n 3, 1) := by decide +kernel
theorem dX8_pourInto_11 : decode cX8_pourInto 11 = .ok (.aload_n 0, 1) := by decide +kernel
theorem dX8_pourInto_12 : decode cX8_pourInto 12 = .ok (.getfield 15, 3) := by decide +kernel
theorem dX8_pourInto_15 : decode cX8_pourInto 15 = .ok (.iload_n 2, 1) := by decide +kernel
theorem dX8_pourInto_16 : decode cX8_pourInto 16 = .ok (.aload_n 0, 1) := by decide +kernel
theorem dX8_pourInto_17 : decode cX8_pourInto 17 = .ok (.getfield 62, 3) := by decide +kernel
theorem dX8_pourInto_20 : decode cX8_pourInto 20 = .ok (.iastore, 1) := by decide +kernel
theorem dX8_pourInto_21 : decode cX8_pourInto 21 = .ok (.aload_n 0, 1) := by decide +kernel
theorem dX8_pourInto_22 : decode cX8_pourInto 22 = .ok (.getfield 18, 3) := by decide +kernel
theorem dX8_pourInto_25 : decode cX8_pourInto 25 = .ok (.iload_n 2, 1) := by decide +kernel
theorem dX8_pourInto_26 : decode cX8_pourInto 26 = .ok (.aload_n 0, 1) := by decide +kernel
theorem dX8_pourInto_27 : decode cX8_pourInto 27 = .ok (.getfield 62, 3) := by decide +kernel
theorem dX8_pourInto_30 : decode cX8_pourInto 30 = .ok (.iload_n 3, 1) := by decide +kernel
theorem dX8_pourInto_31 : decode cX8_pourInto 31 = .ok (.idiv, 1) := by decide +kernel
theorem dX8_pourInto_32 : decode cX8_pourInto 32 = .ok (.iastore, 1) := by decide +kernel
theorem dX8_pourInto_33 : decode cX8_pourInto 33 = .ok (.aload_n 0, 1) := by decide +kernel
theorem dX8_pourInto_34 : decode cX8_pourInto 34 = .ok (.getfield 21, 3) := by decide +kernel
theorem dX8_pourInto_37 : decode cX8_pourInto 37 = .ok (.iload_n 2, 1) := by decide +kernel
theorem dX8_pourInto_38 : decode cX8_pourInto 38 = .ok (.iconst 0, 1) := by decide +kernel
theorem dX8_pourInto_39 : decode cX8_pourInto 39 = .ok (.aload_n 0, 1) := by decide +kernel
theorem dX8_pourInto_40 : decode cX8_pourInto 40 = .ok (.getfield 18, 3) := by decide +kernel
theorem dX8_pourInto_43 : decode cX8_pourInto 43 = .ok (.iload_n 2, 1) := by decide +kernel
theorem dX8_pourInto_44 : decode cX8_pourInto 44 = .ok (.iaload, 1) := by decide +kernel
theorem dX8_pourInto_45 : decode cX8_pourInto 45 = .ok (.aload_n 1, 1) := by decide +kernel
theorem dX8_pourInto_46 : decode cX8_pourInto 46 = .ok (.getfield 74, 3) := by decide +kernel
theorem dX8_pourInto_49 : decode cX8_pourInto 49 = .ok (.iload_n 2, 1) := by decide +kernel
theorem dX8_pourInto_50 : decode cX8_pourInto 50 = .ok (.iaload, 1) := by decide +kernel
theorem dX8_pourInto_51 : decode cX8_pourInto 51 = .ok (.isub, 1) := by decide +kernel
theorem dX8_pourInto_52 : decode cX8_pourInto 52 = .ok (.invokestatic 56, 3) := by decide +kernel
theorem dX8_pourInto_55 : decode cX8_pourInto 55 = .ok (.iload_n 3, 1) := by decide +kernel
theorem dX8_pourInto_56 : decode cX8_pourInto 56 = .ok (.imul, 1) := by decide +kernel
theorem dX8_pourInto_57 : decode cX8_pourInto 57 = .ok (.iastore, 1) := by decide +kernel
theorem dX8_pourInto_58 : decode cX8_pourInto 58 = .ok (.aload_n 0, 1) := by decide +kernel
theorem dX8_pourInto_59 : decode cX8_pourInto 59 = .ok (.getfield 24, 3) := by decide +kernel
theorem dX8_pourInto_62 : decode cX8_pourInto 62 = .ok (.iload_n 2, 1) := by decide +kernel
theorem dX8_pourInto_63 : decode cX8_pourInto 63 = .ok (.aload_n 1, 1) := by decide +kernel
theorem dX8_pourInto_64 : decode cX8_pourInto 64 = .ok (.getfield 77, 3) := by decide +kernel
theorem dX8_pourInto_67 : decode cX8_pourInto 67 = .ok (.iload_n 2, 1) := by decide +kernel
theorem dX8_pourInto_68 : decode cX8_pourInto 68 = .ok (.iaload, 1) := by decide +kernel
theorem dX8_pourInto_69 : decode cX8_pourInto 69 = .ok (.aload_n 0, 1) := by decide +kernel
theorem dX8_pourInto_70 : decode cX8_pourInto 70 = .ok (.getfield 21, 3) := by decide +kernel
theorem dX8_pourInto_73 : decode cX8_pourInto 73 = .ok (.iload_n 2, 1) := by decide +kernel
theorem dX8_pourInto_74 : decode cX8_pourInto 74 = .ok (.iaload, 1) := by decide +kernel
theorem dX8_pourInto_75 : decode cX8_pourInto 75 = .ok (.invokestatic 80, 3) := by decide +kernel
theorem dX8_pourInto_78 : decode cX8_pourInto 78 = .ok (.iastore, 1) := by decide +kernel
theorem dX8_pourInto_79 : decode cX8_pourInto 79 = .ok (.aload_n 0, 1) := by decide +kernel
theorem dX8_pourInto_80 : decode cX8_pourInto 80 = .ok (.dup, 1) := by decide +kernel
theorem dX8_pourInto_81 : decode cX8_pourInto 81 = .ok (.getfield 62, 3) := by decide +kernel
theorem dX8_pourInto_84 : decode cX8_pourInto 84 = .ok (.aload_n 0, 1) := by decide +kernel
theorem dX8_pourInto_85 : decode cX8_pourInto 85 = .ok (.getfield 21, 3) := by decide +kernel
theorem dX8_pourInto_88 : decode cX8_pourInto 88 = .ok (.iload_n 2, 1) := by decide +kernel
theorem dX8_pourInto_89 : decode cX8_pourInto 89 = .ok (.iaload, 1) := by decide +kernel
theorem dX8_pourInto_90 : decode cX8_pourInto 90 = .ok (.isub, 1) := by decide +kernel
theorem dX8_pourInto_91 : decode cX8_pourInto 91 = .ok (.putfield 62, 3) := by decide +kernel
theorem dX8_pourInto_94 : decode cX8_pourInto 94 = .ok (.aload_n 1, 1) := by decide +kernel
theorem dX8_pourInto_95 : decode cX8_pourInto 95 = .ok (.getfield 77, 3) := by decide +kernel
theorem dX8_pourInto_98 : decode cX8_pourInto 98 = .ok (.iload_n 2, 1) := by decide +kernel
theorem dX8_pourInto_99 : decode cX8_pourInto 99 = .ok (.iaload, 1) := by decide +kernel
theorem dX8_pourInto_100 : decode cX8_pourInto 100 = .ok (.iconst 1, 1) := by decide +kernel
theorem dX8_pourInto_101 : decode cX8_pourInto 101 = .ok (.if_icmp .ne 20, 3) := by decide +kernel
theorem dX8_pourInto_104 : decode cX8_pourInto 104 = .ok (.aload_n 0, 1) := by decide +kernel
theorem dX8_pourInto_105 : decode cX8_pourInto 105 = .ok (.dup, 1) := by decide +kernel
theorem dX8_pourInto_106 : decode cX8_pourInto 106 = .ok (.getfield 62, 3) := by decide +kernel
theorem dX8_pourInto_109 : decode cX8_pourInto 109 = .ok (.aload_n 0, 1) := by decide +kernel
theorem dX8_pourInto_110 : decode cX8_pourInto 110 = .ok (.getfield 21, 3) := by decide +kernel
theorem dX8_pourInto_113 : decode cX8_pourInto 113 = .ok (.iload_n 2, 1) := by decide +kernel
theorem dX8_pourInto_114 : decode cX8_pourInto 114 = .ok (.iaload, 1) := by decide +kernel
theorem dX8_pourInto_115 : decode cX8_pourInto 115 = .ok (.iconst 2, 1) := by decide +kernel
theorem dX8_pourInto_116 : decode cX8_pourInto 116 = .ok (.idiv, 1) := by decide +kernel
theorem dX8_pourInto_117 : decode cX8_pourInto 117 = .ok (.iadd, 1) := by decide +kernel
theorem dX8_pourInto_118 : decode cX8_pourInto 118 = .ok (.putfield 62, 3) := by decide +kernel
theorem dX8_pourInto_121 : decode cX8_pourInto 121 = .ok (.aload_n 0, 1) := by decide +kernel
theorem dX8_pourInto_122 : decode cX8_pourInto 122 = .ok (.getfield 21, 3) := by decide +kernel
theorem dX8_pourInto_125 : decode cX8_pourInto 125 = .ok (.iload_n 2, 1) := by decide +kernel
theorem dX8_pourInto_126 : decode cX8_pourInto 126 = .ok (.iaload, 1) := by decide +kernel
theorem dX8_pourInto_127 : decode cX8_pourInto 127 = .ok (.ifCond .le 15, 3) := by decide +kernel
theorem dX8_pourInto_130 : decode cX8_pourInto 130 = .ok (.aload_n 0, 1) := by decide +kernel
theorem dX8_pourInto_131 : decode cX8_pourInto 131 = .ok (.dup, 1) := by decide +kernel
theorem dX8_pourInto_132 : decode cX8_pourInto 132 = .ok (.getfield 68, 3) := by decide +kernel
theorem dX8_pourInto_135 : decode cX8_pourInto 135 = .ok (.iconst 1, 1) := by decide +kernel
theorem dX8_pourInto_136 : decode cX8_pourInto 136 = .ok (.iload_n 2, 1) := by decide +kernel
theorem dX8_pourInto_137 : decode cX8_pourInto 137 = .ok (.ishl, 1) := by decide +kernel
theorem dX8_pourInto_138 : decode cX8_pourInto 138 = .ok (.ior, 1) := by decide +kernel
theorem dX8_pourInto_139 : decode cX8_pourInto 139 = .ok (.putfield 68, 3) := by decide +kernel
theorem dX8_pourInto_142 : decode cX8_pourInto 142 = .ok (.aload_n 0, 1) := by decide +kernel
theorem dX8_pourInto_143 : decode cX8_pourInto 143 = .ok (.dup, 1) := by decide +kernel
theorem dX8_pourInto_144 : decode cX8_pourInto 144 = .ok (.getfield 65, 3) := by decide +kernel
theorem dX8_pourInto_147 : decode cX8_pourInto 147 = .ok (.aload_n 0, 1) := by decide +kernel
theorem dX8_pourInto_148 : decode cX8_pourInto 148 = .ok (.getfield 24, 3) := by decide +kernel
theorem dX8_pourInto_151 : decode cX8_pourInto 151 = .ok (.iload_n 2, 1) := by decide +kernel
theorem dX8_pourInto_152 : decode cX8_pourInto 152 = .ok (.iaload, 1) := by decide +kernel
theorem dX8_pourInto_153 : decode cX8_pourInto 153 = .ok (.iadd, 1) := by decide +kernel
theorem dX8_pourInto_154 : decode cX8_pourInto 154 = .ok (.putfield 65, 3) := by decide +kernel
theorem dX8_pourInto_157 : decode cX8_pourInto 157 = .ok (.return_, 1) := by decide +kernel
theorem dX8_harmBySpill_0 : decode cX8_harmBySpill 0 = .ok (.iload_n 0, 1) := by decide +kernel
theorem dX8_harmBySpill_1 : decode cX8_harmBySpill 1 = .ok (.tableswitch 46 1 3 #[27, 29, 33], 27) := by decide +kernel
theorem dX8_harmBySpill_28 : decode cX8_harmBySpill 28 = .ok (.iconst 0, 1) := by decide +kernel
theorem dX8_harmBySpill_29 : decode cX8_harmBySpill 29 = .ok (.ireturn, 1) := by decide +kernel
theorem dX8_harmBySpill_30 : decode cX8_harmBySpill 30 = .ok (.iconst 2, 1) := by decide +kernel
theorem dX8_harmBySpill_31 : decode cX8_harmBySpill 31 = .ok (.iload_n 1, 1) := by decide +kernel
theorem dX8_harmBySpill_32 : decode cX8_harmBySpill 32 = .ok (.imul, 1) := by decide +kernel
theorem dX8_harmBySpill_33 : decode cX8_harmBySpill 33 = .ok (.ireturn, 1) := by decide +kernel
theorem dX8_harmBySpill_34 : decode cX8_harmBySpill 34 = .ok (.iload_n 1, 1) := by decide +kernel
theorem dX8_harmBySpill_35 : decode cX8_harmBySpill 35 = .ok (.ifCond .le 10, 3) := by decide +kernel
theorem dX8_harmBySpill_38 : decode cX8_harmBySpill 38 = .ok (.iload_n 1, 1) := by decide +kernel
theorem dX8_harmBySpill_39 : decode cX8_harmBySpill 39 = .ok (.bipush 20, 2) := by decide +kernel
theorem dX8_harmBySpill_41 : decode cX8_harmBySpill 41 = .ok (.iadd, 1) := by decide +kernel
theorem dX8_harmBySpill_42 : decode cX8_harmBySpill 42 = .ok (.goto 4, 3) := by decide +kernel
theorem dX8_harmBySpill_45 : decode cX8_harmBySpill 45 = .ok (.iconst 0, 1) := by decide +kernel
theorem dX8_harmBySpill_46 : decode cX8_harmBySpill 46 = .ok (.ireturn, 1) := by decide +kernel
theorem dX8_harmBySpill_47 : decode cX8_harmBySpill 47 = .ok (.iload_n 1, 1) := by decide +kernel
theorem dX8_harmBySpill_48 : decode cX8_harmBySpill 48 = .ok (.ireturn, 1) := by decide +kernel
theorem dX8_tooWide_0 : decode cX8_tooWide 0 = .ok (.iconst 0, 1) := by decide +kernel
theorem dX8_tooWide_1 : decode cX8_tooWide 1 = .ok (.istore_n 2, 1) := by decide +kernel
theorem dX8_tooWide_2 : decode cX8_tooWide 2 = .ok (.iconst 0, 1) := by decide +kernel
theorem dX8_tooWide_3 : decode cX8_tooWide 3 = .ok (.istore_n 3, 1) := by decide +kernel
theorem dX8_tooWide_4 : decode cX8_tooWide 4 = .ok (.iload_n 3, 1) := by decide +kernel
theorem dX8_tooWide_5 : decode cX8_tooWide 5 = .ok (.aload_n 1, 1) := by decide +kernel
theorem dX8_tooWide_6 : decode cX8_tooWide 6 = .ok (.getfield 34, 3) := by decide +kernel
theorem dX8_tooWide_9 : decode cX8_tooWide 9 = .ok (.if_icmp .ge 28, 3) := by decide +kernel
theorem dX8_tooWide_12 : decode cX8_tooWide 12 = .ok (.aload_n 0, 1) := by decide +kernel
theorem dX8_tooWide_13 : decode cX8_tooWide 13 = .ok (.getfield 9, 3) := by decide +kernel
theorem dX8_tooWide_16 : decode cX8_tooWide 16 = .ok (.iload_n 3, 1) := by decide +kernel
theorem dX8_tooWide_17 : decode cX8_tooWide 17 = .ok (.iaload, 1) := by decide +kernel
theorem dX8_tooWide_18 : decode cX8_tooWide 18 = .ok (.aload_n 1, 1) := by decide +kernel
theorem dX8_tooWide_19 : decode cX8_tooWide 19 = .ok (.getfield 83, 3) := by decide +kernel
theorem dX8_tooWide_22 : decode cX8_tooWide 22 = .ok (.if_icmp .le 9, 3) := by decide +kernel
theorem dX8_tooWide_25 : decode cX8_tooWide 25 = .ok (.iload_n 2, 1) := by decide +kernel
theorem dX8_tooWide_26 : decode cX8_tooWide 26 = .ok (.iconst 1, 1) := by decide +kernel
theorem dX8_tooWide_27 : decode cX8_tooWide 27 = .ok (.iload_n 3, 1) := by decide +kernel
theorem dX8_tooWide_28 : decode cX8_tooWide 28 = .ok (.ishl, 1) := by decide +kernel
theorem dX8_tooWide_29 : decode cX8_tooWide 29 = .ok (.ior, 1) := by decide +kernel
theorem dX8_tooWide_30 : decode cX8_tooWide 30 = .ok (.istore_n 2, 1) := by decide +kernel
theorem dX8_tooWide_31 : decode cX8_tooWide 31 = .ok (.iinc 3 1, 3) := by decide +kernel
theorem dX8_tooWide_34 : decode cX8_tooWide 34 = .ok (.goto (-30), 3) := by decide +kernel
theorem dX8_tooWide_37 : decode cX8_tooWide 37 = .ok (.iload_n 2, 1) := by decide +kernel
theorem dX8_tooWide_38 : decode cX8_tooWide 38 = .ok (.ireturn, 1) := by decide +kernel
theorem dX8_slack_0 : decode cX8_slack 0 = .ok (.aload_n 1, 1) := by decide +kernel
theorem dX8_slack_1 : decode cX8_slack 1 = .ok (.getfield 86, 3) := by decide +kernel
theorem dX8_slack_4 : decode cX8_slack 4 = .ok (.iload_n 3, 1) := by decide +kernel
theorem dX8_slack_5 : decode cX8_slack 5 = .ok (.iaload, 1) := by decide +kernel
theorem dX8_slack_6 : decode cX8_slack 6 = .ok (.aload_n 2, 1) := by decide +kernel
theorem dX8_slack_7 : decode cX8_slack 7 = .ok (.getfield 89, 3) := by decide +kernel
theorem dX8_slack_10 : decode cX8_slack 10 = .ok (.iload_n 3, 1) := by decide +kernel
theorem dX8_slack_11 : decode cX8_slack 11 = .ok (.iaload, 1) := by decide +kernel
theorem dX8_slack_12 : decode cX8_slack 12 = .ok (.isub, 1) := by decide +kernel
theorem dX8_slack_13 : decode cX8_slack 13 = .ok (.aload_n 0, 1) := by decide +kernel
theorem dX8_slack_14 : decode cX8_slack 14 = .ok (.getfield 18, 3) := by decide +kernel
theorem dX8_slack_17 : decode cX8_slack 17 = .ok (.aload_n 1, 1) := by decide +kernel
theorem dX8_slack_18 : decode cX8_slack 18 = .ok (.getfield 50, 3) := by decide +kernel
theorem dX8_slack_21 : decode cX8_slack 21 = .ok (.iload_n 3, 1) := by decide +kernel
theorem dX8_slack_22 : decode cX8_slack 22 = .ok (.iaload, 1) := by decide +kernel
theorem dX8_slack_23 : decode cX8_slack 23 = .ok (.iaload, 1) := by decide +kernel
theorem dX8_slack_24 : decode cX8_slack 24 = .ok (.isub, 1) := by decide +kernel
theorem dX8_slack_25 : decode cX8_slack 25 = .ok (.ireturn, 1) := by decide +kernel
theorem dX8_bursting_0 : decode cX8_bursting 0 = .ok (.iconst 0, 1) := by decide +kernel
theorem dX8_bursting_1 : decode cX8_bursting 1 = .ok (.istore 4, 2) := by decide +kernel
theorem dX8_bursting_3 : decode cX8_bursting 3 = .ok (.iconst 0, 1) := by decide +kernel
theorem dX8_bursting_4 : decode cX8_bursting 4 = .ok (.istore 5, 2) := by decide +kernel
theorem dX8_bursting_6 : decode cX8_bursting 6 = .ok (.iload 5, 2) := by decide +kernel
theorem dX8_bursting_8 : decode cX8_bursting 8 = .ok (.aload_n 1, 1) := by decide +kernel
theorem dX8_bursting_9 : decode cX8_bursting 9 = .ok (.getfield 43, 3) := by decide +kernel
theorem dX8_bursting_12 : decode cX8_bursting 12 = .ok (.if_icmp .ge 38, 3) := by decide +kernel
theorem dX8_bursting_15 : decode cX8_bursting 15 = .ok (.iload_n 3, 1) := by decide +kernel
theorem dX8_bursting_16 : decode cX8_bursting 16 = .ok (.iload 5, 2) := by decide +kernel
theorem dX8_bursting_18 : decode cX8_bursting 18 = .ok (.invokestatic 46, 3) := by decide +kernel
theorem dX8_bursting_21 : decode cX8_bursting 21 = .ok (.ifCond .eq 23, 3) := by decide +kernel
theorem dX8_bursting_24 : decode cX8_bursting 24 = .ok (.aload_n 0, 1) := by decide +kernel
theorem dX8_bursting_25 : decode cX8_bursting 25 = .ok (.aload_n 1, 1) := by decide +kernel
theorem dX8_bursting_26 : decode cX8_bursting 26 = .ok (.aload_n 2, 1) := by decide +kernel
theorem dX8_bursting_27 : decode cX8_bursting 27 = .ok (.iload 5, 2) := by decide +kernel
theorem dX8_bursting_29 : decode cX8_bursting 29 = .ok (.invokevirtual 94, 3) := by decide +kernel
theorem dX8_bursting_32 : decode cX8_bursting 32 = .ok (.ifCond .ge 12, 3) := by decide +kernel
theorem dX8_bursting_35 : decode cX8_bursting 35 = .ok (.iload 4, 2) := by decide +kernel
theorem dX8_bursting_37 : decode cX8_bursting 37 = .ok (.iconst 1, 1) := by decide +kernel
theorem dX8_bursting_38 : decode cX8_bursting 38 = .ok (.iload 5, 2) := by decide +kernel
theorem dX8_bursting_40 : decode cX8_bursting 40 = .ok (.ishl, 1) := by decide +kernel
theorem dX8_bursting_41 : decode cX8_bursting 41 = .ok (.ior, 1) := by decide +kernel
theorem dX8_bursting_42 : decode cX8_bursting 42 = .ok (.istore 4, 2) := by decide +kernel
theorem dX8_bursting_44 : decode cX8_bursting 44 = .ok (.iinc 5 1, 3) := by decide +kernel
theorem dX8_bursting_47 : decode cX8_bursting 47 = .ok (.goto (-41), 3) := by decide +kernel
theorem dX8_bursting_50 : decode cX8_bursting 50 = .ok (.iload 4, 2) := by decide +kernel
theorem dX8_bursting_52 : decode cX8_bursting 52 = .ok (.ireturn, 1) := by decide +kernel
theorem dX8_leastFlow_0 : decode cX8_leastFlow 0 = .ok (.iconst 1, 1) := by decide +kernel
theorem dX8_leastFlow_1 : decode cX8_leastFlow 1 = .ok (.iload_n 3, 1) := by decide +kernel
theorem dX8_leastFlow_2 : decode cX8_leastFlow 2 = .ok (.iconst 1, 1) := by decide +kernel
theorem dX8_leastFlow_3 : decode cX8_leastFlow 3 = .ok (.iadd, 1) := by decide +kernel
theorem dX8_leastFlow_4 : decode cX8_leastFlow 4 = .ok (.aload_n 0, 1) := by decide +kernel
theorem dX8_leastFlow_5 : decode cX8_leastFlow 5 = .ok (.getfield 9, 3) := by decide +kernel
theorem dX8_leastFlow_8 : decode cX8_leastFlow 8 = .ok (.iload_n 2, 1) := by decide +kernel
theorem dX8_leastFlow_9 : decode cX8_leastFlow 9 = .ok (.iaload, 1) := by decide +kernel
theorem dX8_leastFlow_10 : decode cX8_leastFlow 10 = .ok (.imul, 1) := by decide +kernel
theorem dX8_leastFlow_11 : decode cX8_leastFlow 11 = .ok (.invokestatic 56, 3) := by decide +kernel
theorem dX8_leastFlow_14 : decode cX8_leastFlow 14 = .ok (.istore 4, 2) := by decide +kernel
theorem dX8_leastFlow_16 : decode cX8_leastFlow 16 = .ok (.iload 4, 2) := by decide +kernel
theorem dX8_leastFlow_18 : decode cX8_leastFlow 18 = .ok (.sipush 999, 3) := by decide +kernel
theorem dX8_leastFlow_21 : decode cX8_leastFlow 21 = .ok (.if_icmp .gt 29, 3) := by decide +kernel
theorem dX8_leastFlow_24 : decode cX8_leastFlow 24 = .ok (.aload_n 0, 1) := by decide +kernel
theorem dX8_leastFlow_25 : decode cX8_leastFlow 25 = .ok (.aload_n 1, 1) := by decide +kernel
theorem dX8_leastFlow_26 : decode cX8_leastFlow 26 = .ok (.iload 4, 2) := by decide +kernel
theorem dX8_leastFlow_28 : decode cX8_leastFlow 28 = .ok (.invokevirtual 31, 3) := by decide +kernel
theorem dX8_leastFlow_31 : decode cX8_leastFlow 31 = .ok (.aload_n 0, 1) := by decide +kernel
theorem dX8_leastFlow_32 : decode cX8_leastFlow 32 = .ok (.getfield 18, 3) := by decide +kernel
theorem dX8_leastFlow_35 : decode cX8_leastFlow 35 = .ok (.iload_n 2, 1) := by decide +kernel
theorem dX8_leastFlow_36 : decode cX8_leastFlow 36 = .ok (.iaload, 1) := by decide +kernel
theorem dX8_leastFlow_37 : decode cX8_leastFlow 37 = .ok (.iload_n 3, 1) := by decide +kernel
theorem dX8_leastFlow_38 : decode cX8_leastFlow 38 = .ok (.if_icmp .le 6, 3) := by decide +kernel
theorem dX8_leastFlow_41 : decode cX8_leastFlow 41 = .ok (.iload 4, 2) := by decide +kernel
theorem dX8_leastFlow_43 : decode cX8_leastFlow 43 = .ok (.ireturn, 1) := by decide +kernel
theorem dX8_leastFlow_44 : decode cX8_leastFlow 44 = .ok (.iinc 4 1, 3) := by decide +kernel
theorem dX8_leastFlow_47 : decode cX8_leastFlow 47 = .ok (.goto (-31), 3) := by decide +kernel
theorem dX8_leastFlow_50 : decode cX8_leastFlow 50 = .ok (.bipush (-2), 2) := by decide +kernel
theorem dX8_leastFlow_52 : decode cX8_leastFlow 52 = .ok (.ireturn, 1) := by decide +kernel
theorem dX8_safest_0 : decode cX8_safest 0 = .ok (.sipush 999, 3) := by decide +kernel
theorem dX8_safest_3 : decode cX8_safest 3 = .ok (.istore_n 2, 1) := by decide +kernel
theorem dX8_safest_4 : decode cX8_safest 4 = .ok (.iconst 0, 1) := by decide +kernel
theorem dX8_safest_5 : decode cX8_safest 5 = .ok (.istore_n 3, 1) := by decide +kernel
theorem dX8_safest_6 : decode cX8_safest 6 = .ok (.iload_n 3, 1) := by decide +kernel
theorem dX8_safest_7 : decode cX8_safest 7 = .ok (.aload_n 1, 1) := by decide +kernel
theorem dX8_safest_8 : decode cX8_safest 8 = .ok (.getfield 34, 3) := by decide +kernel
theorem dX8_safest_11 : decode cX8_safest 11 = .ok (.if_icmp .ge 31, 3) := by decide +kernel
theorem dX8_safest_14 : decode cX8_safest 14 = .ok (.iload_n 2, 1) := by decide +kernel
theorem dX8_safest_15 : decode cX8_safest 15 = .ok (.aload_n 1, 1) := by decide +kernel
theorem dX8_safest_16 : decode cX8_safest 16 = .ok (.getfield 74, 3) := by decide +kernel
theorem dX8_safest_19 : decode cX8_safest 19 = .ok (.iload_n 3, 1) := by decide +kernel
theorem dX8_safest_20 : decode cX8_safest 20 = .ok (.iaload, 1) := by decide +kernel
theorem dX8_safest_21 : decode cX8_safest 21 = .ok (.iconst 1, 1) := by decide +kernel
theorem dX8_safest_22 : decode cX8_safest 22 = .ok (.iadd, 1) := by decide +kernel
theorem dX8_safest_23 : decode cX8_safest 23 = .ok (.aload_n 0, 1) := by decide +kernel
theorem dX8_safest_24 : decode cX8_safest 24 = .ok (.getfield 9, 3) := by decide +kernel
theorem dX8_safest_27 : decode cX8_safest 27 = .ok (.iload_n 3, 1) := by decide +kernel
theorem dX8_safest_28 : decode cX8_safest 28 = .ok (.iaload, 1) := by decide +kernel
theorem dX8_safest_29 : decode cX8_safest 29 = .ok (.imul, 1) := by decide +kernel
theorem dX8_safest_30 : decode cX8_safest 30 = .ok (.iconst 1, 1) := by decide +kernel
theorem dX8_safest_31 : decode cX8_safest 31 = .ok (.isub, 1) := by decide +kernel
theorem dX8_safest_32 : decode cX8_safest 32 = .ok (.invokestatic 98, 3) := by decide +kernel
theorem dX8_safest_35 : decode cX8_safest 35 = .ok (.istore_n 2, 1) := by decide +kernel
theorem dX8_safest_36 : decode cX8_safest 36 = .ok (.iinc 3 1, 3) := by decide +kernel
theorem dX8_safest_39 : decode cX8_safest 39 = .ok (.goto (-33), 3) := by decide +kernel
theorem dX8_safest_42 : decode cX8_safest 42 = .ok (.iload_n 2, 1) := by decide +kernel
theorem dX8_safest_43 : decode cX8_safest 43 = .ok (.ireturn, 1) := by decide +kernel
theorem dX9_init_0 : decode cX9_init 0 = .ok (.aload_n 0, 1) := by decide +kernel
theorem dX9_init_1 : decode cX9_init 1 = .ok (.invokespecial 3, 3) := by decide +kernel
theorem dX9_init_4 : decode cX9_init 4 = .ok (.aload_n 0, 1) := by decide +kernel
theorem dX9_init_5 : decode cX9_init 5 = .ok (.new 9, 3) := by decide +kernel
theorem dX9_init_8 : decode cX9_init 8 = .ok (.dup, 1) := by decide +kernel
theorem dX9_init_9 : decode cX9_init 9 = .ok (.invokespecial 11, 3) := by decide +kernel
theorem dX9_init_12 : decode cX9_init 12 = .ok (.putfield 12, 3) := by decide +kernel
theorem dX9_init_15 : decode cX9_init 15 = .ok (.return_, 1) := by decide +kernel
theorem dX9_passedNow_0 : decode cX9_passedNow 0 = .ok (.aload_n 0, 1) := by decide +kernel
theorem dX9_passedNow_1 : decode cX9_passedNow 1 = .ok (.getfield 12, 3) := by decide +kernel
theorem dX9_passedNow_4 : decode cX9_passedNow 4 = .ok (.aload_n 1, 1) := by decide +kernel
theorem dX9_passedNow_5 : decode cX9_passedNow 5 = .ok (.aload_n 2, 1) := by decide +kernel
theorem dX9_passedNow_6 : decode cX9_passedNow 6 = .ok (.getfield 18, 3) := by decide +kernel
theorem dX9_passedNow_9 : decode cX9_passedNow 9 = .ok (.aload_n 2, 1) := by decide +kernel
theorem dX9_passedNow_10 : decode cX9_passedNow 10 = .ok (.getfield 24, 3) := by decide +kernel
theorem dX9_passedNow_13 : decode cX9_passedNow 13 = .ok (.invokevirtual 27, 3) := by decide +kernel
theorem dX9_passedNow_16 : decode cX9_passedNow 16 = .ok (.aload_n 0, 1) := by decide +kernel
theorem dX9_passedNow_17 : decode cX9_passedNow 17 = .ok (.aload_n 1, 1) := by decide +kernel
theorem dX9_passedNow_18 : decode cX9_passedNow 18 = .ok (.iload_n 3, 1) := by decide +kernel
theorem dX9_passedNow_19 : decode cX9_passedNow 19 = .ok (.invokevirtual 31, 3) := by decide +kernel
theorem dX9_passedNow_22 : decode cX9_passedNow 22 = .ok (.ireturn, 1) := by decide +kernel
theorem dX9_passed_0 : decode cX9_passed 0 = .ok (.iconst 0, 1) := by decide +kernel
theorem dX9_passed_1 : decode cX9_passed 1 = .ok (.istore_n 3, 1) := by decide +kernel
theorem dX9_passed_2 : decode cX9_passed 2 = .ok (.iconst 0, 1) := by decide +kernel
theorem dX9_passed_3 : decode cX9_passed 3 = .ok (.istore 4, 2) := by decide +kernel
theorem dX9_passed_5 : decode cX9_passed 5 = .ok (.iload 4, 2) := by decide +kernel
theorem dX9_passed_7 : decode cX9_passed 7 = .ok (.aload_n 1, 1) := by decide +kernel
theorem dX9_passed_8 : decode cX9_passed 8 = .ok (.getfield 35, 3) := by decide +kernel
theorem dX9_passed_11 : decode cX9_passed 11 = .ok (.if_icmp .ge 54, 3) := by decide +kernel
theorem dX9_passed_14 : decode cX9_passed 14 = .ok (.aload_n 0, 1) := by decide +kernel
theorem dX9_passed_15 : decode cX9_passed 15 = .ok (.getfield 12, 3) := by decide +kernel
theorem dX9_passed_18 : decode cX9_passed 18 = .ok (.getfield 40, 3) := by decide +kernel
theorem dX9_passed_21 : decode cX9_passed 21 = .ok (.iload 4, 2) := by decide +kernel
theorem dX9_passed_23 : decode cX9_passed 23 = .ok (.iaload, 1) := by decide +kernel
theorem dX9_passed_24 : decode cX9_passed 24 = .ok (.aload_n 1, 1) := by decide +kernel
theorem dX9_passed_25 : decode cX9_passed 25 = .ok (.getfield 44, 3) := by decide +kernel
theorem dX9_passed_28 : decode cX9_passed 28 = .ok (.iload_n 2, 1) := by decide +kernel
theorem dX9_passed_29 : decode cX9_passed 29 = .ok (.iaload, 1) := by decide +kernel
theorem dX9_passed_30 : decode cX9_passed 30 = .ok (.if_icmp .lt 29, 3) := by decide +kernel
theorem dX9_passed_33 : decode cX9_passed 33 = .ok (.aload_n 0, 1) := by decide +kernel
theorem dX9_passed_34 : decode cX9_passed 34 = .ok (.getfield 12, 3) := by decide +kernel
theorem dX9_passed_37 : decode cX9_passed 37 = .ok (.getfield 47, 3) := by decide +kernel
theorem dX9_passed_40 : decode cX9_passed 40 = .ok (.iload 4, 2) := by decide +kernel
theorem dX9_passed_42 : decode cX9_passed 42 = .ok (.iaload, 1) := by decide +kernel
theorem dX9_passed_43 : decode cX9_passed 43 = .ok (.aload_n 1, 1) := by decide +kernel
theorem dX9_passed_44 : decode cX9_passed 44 = .ok (.getfield 50, 3) := by decide +kernel
theorem dX9_passed_47 : decode cX9_passed 47 = .ok (.iload_n 2, 1) := by decide +kernel
theorem dX9_passed_48 : decode cX9_passed 48 = .ok (.iaload, 1) := by decide +kernel
theorem dX9_passed_49 : decode cX9_passed 49 = .ok (.if_icmp .lt 10, 3) := by decide +kernel
theorem dX9_passed_52 : decode cX9_passed 52 = .ok (.iload_n 3, 1) := by decide +kernel
theorem dX9_passed_53 : decode cX9_passed 53 = .ok (.iconst 1, 1) := by decide +kernel
theorem dX9_passed_54 : decode cX9_passed 54 = .ok (.iload 4, 2) := by decide +kernel
theorem dX9_passed_56 : decode cX9_passed 56 = .ok (.ishl, 1) := by decide +kernel
theorem dX9_passed_57 : decode cX9_passed 57 = .ok (.ior, 1) := by decide +kernel
theorem dX9_passed_58 : decode cX9_passed 58 = .ok (.istore_n 3, 1) := by decide +kernel
theorem dX9_passed_59 : decode cX9_passed 59 = .ok (.iinc 4 1, 3) := by decide +kernel
theorem dX9_passed_62 : decode cX9_passed 62 = .ok (.goto (-57), 3) := by decide +kernel
theorem dX9_passed_65 : decode cX9_passed 65 = .ok (.iload_n 3, 1) := by decide +kernel
theorem dX9_passed_66 : decode cX9_passed 66 = .ok (.ireturn, 1) := by decide +kernel
theorem dX9_farthest_0 : decode cX9_farthest 0 = .ok (.aload_n 0, 1) := by decide +kernel
theorem dX9_farthest_1 : decode cX9_farthest 1 = .ok (.getfield 12, 3) := by decide +kernel
theorem dX9_farthest_4 : decode cX9_farthest 4 = .ok (.aload_n 1, 1) := by decide +kernel
theorem dX9_farthest_5 : decode cX9_farthest 5 = .ok (.aload_n 2, 1) := by decide +kernel
theorem dX9_farthest_6 : decode cX9_farthest 6 = .ok (.getfield 18, 3) := by decide +kernel
theorem dX9_farthest_9 : decode cX9_farthest 9 = .ok (.aload_n 2, 1) := by decide +kernel
