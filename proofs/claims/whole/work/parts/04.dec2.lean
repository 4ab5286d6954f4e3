theorem dX12_readLine_42 : decode cX12_readLine 42 = .ok (.invokevirtual 197, 3) := by decide +kernel
theorem dX12_readLine_45 : decode cX12_readLine 45 = .ok (.goto 72, 3) := by decide +kernel
theorem dX12_readLine_48 : decode cX12_readLine 48 = .ok (.aload_n 0, 1) := by decide +kernel
theorem dX12_readLine_49 : decode cX12_readLine 49 = .ok (.ldc 144, 2) := by decide +kernel
theorem dX12_readLine_51 : decode cX12_readLine 51 = .ok (.invokevirtual 118, 3) := by decide +kernel
theorem dX12_readLine_54 : decode cX12_readLine 54 = .ok (.ifCond .eq 10, 3) := by decide +kernel
theorem dX12_readLine_57 : decode cX12_readLine 57 = .ok (.aload_n 0, 1) := by decide +kernel
theorem dX12_readLine_58 : decode cX12_readLine 58 = .ok (.invokevirtual 200, 3) := by decide +kernel
theorem dX12_readLine_61 : decode cX12_readLine 61 = .ok (.goto 56, 3) := by decide +kernel
theorem dX12_readLine_64 : decode cX12_readLine 64 = .ok (.aload_n 0, 1) := by decide +kernel
theorem dX12_readLine_65 : decode cX12_readLine 65 = .ok (.ldc 146, 2) := by decide +kernel
theorem dX12_readLine_67 : decode cX12_readLine 67 = .ok (.invokevirtual 118, 3) := by decide +kernel
theorem dX12_readLine_70 : decode cX12_readLine 70 = .ok (.ifCond .eq 10, 3) := by decide +kernel
theorem dX12_readLine_73 : decode cX12_readLine 73 = .ok (.aload_n 0, 1) := by decide +kernel
theorem dX12_readLine_74 : decode cX12_readLine 74 = .ok (.invokevirtual 203, 3) := by decide +kernel
theorem dX12_readLine_77 : decode cX12_readLine 77 = .ok (.goto 40, 3) := by decide +kernel
theorem dX12_readLine_80 : decode cX12_readLine 80 = .ok (.aload_n 0, 1) := by decide +kernel
theorem dX12_readLine_81 : decode cX12_readLine 81 = .ok (.ldc 148, 2) := by decide +kernel
theorem dX12_readLine_83 : decode cX12_readLine 83 = .ok (.invokevirtual 118, 3) := by decide +kernel
theorem dX12_readLine_86 : decode cX12_readLine 86 = .ok (.ifCond .eq 10, 3) := by decide +kernel
theorem dX12_readLine_89 : decode cX12_readLine 89 = .ok (.aload_n 0, 1) := by decide +kernel
theorem dX12_readLine_90 : decode cX12_readLine 90 = .ok (.invokevirtual 206, 3) := by decide +kernel
theorem dX12_readLine_93 : decode cX12_readLine 93 = .ok (.goto 24, 3) := by decide +kernel
theorem dX12_readLine_96 : decode cX12_readLine 96 = .ok (.aload_n 0, 1) := by decide +kernel
theorem dX12_readLine_97 : decode cX12_readLine 97 = .ok (.ldc 150, 2) := by decide +kernel
theorem dX12_readLine_99 : decode cX12_readLine 99 = .ok (.invokevirtual 118, 3) := by decide +kernel
theorem dX12_readLine_102 : decode cX12_readLine 102 = .ok (.ifCond .eq 10, 3) := by decide +kernel
theorem dX12_readLine_105 : decode cX12_readLine 105 = .ok (.aload_n 0, 1) := by decide +kernel
theorem dX12_readLine_106 : decode cX12_readLine 106 = .ok (.invokevirtual 209, 3) := by decide +kernel
theorem dX12_readLine_109 : decode cX12_readLine 109 = .ok (.goto 8, 3) := by decide +kernel
theorem dX12_readLine_112 : decode cX12_readLine 112 = .ok (.aload_n 0, 1) := by decide +kernel
theorem dX12_readLine_113 : decode cX12_readLine 113 = .ok (.iconst 1, 1) := by decide +kernel
theorem dX12_readLine_114 : decode cX12_readLine 114 = .ok (.invokevirtual 122, 3) := by decide +kernel
theorem dX12_readLine_117 : decode cX12_readLine 117 = .ok (.return_, 1) := by decide +kernel
theorem dX12_readRiver_0 : decode cX12_readRiver 0 = .ok (.aload_n 0, 1) := by decide +kernel
theorem dX12_readRiver_1 : decode cX12_readRiver 1 = .ok (.getfield 152, 3) := by decide +kernel
theorem dX12_readRiver_4 : decode cX12_readRiver 4 = .ok (.getfield 156, 3) := by decide +kernel
theorem dX12_readRiver_7 : decode cX12_readRiver 7 = .ok (.ifCond .le 8, 3) := by decide +kernel
theorem dX12_readRiver_10 : decode cX12_readRiver 10 = .ok (.aload_n 0, 1) := by decide +kernel
theorem dX12_readRiver_11 : decode cX12_readRiver 11 = .ok (.iconst 3, 1) := by decide +kernel
theorem dX12_readRiver_12 : decode cX12_readRiver 12 = .ok (.invokevirtual 122, 3) := by decide +kernel
theorem dX12_readRiver_15 : decode cX12_readRiver 15 = .ok (.aload_n 0, 1) := by decide +kernel
theorem dX12_readRiver_16 : decode cX12_readRiver 16 = .ok (.invokevirtual 115, 3) := by decide +kernel
theorem dX12_readRiver_19 : decode cX12_readRiver 19 = .ok (.aload_n 0, 1) := by decide +kernel
theorem dX12_readRiver_20 : decode cX12_readRiver 20 = .ok (.ldc 212, 2) := by decide +kernel
theorem dX12_readRiver_22 : decode cX12_readRiver 22 = .ok (.iconst 1, 1) := by decide +kernel
theorem dX12_readRiver_23 : decode cX12_readRiver 23 = .ok (.sipush 900, 3) := by decide +kernel
theorem dX12_readRiver_26 : decode cX12_readRiver 26 = .ok (.invokevirtual 213, 3) := by decide +kernel
theorem dX12_readRiver_29 : decode cX12_readRiver 29 = .ok (.istore_n 1, 1) := by decide +kernel
theorem dX12_readRiver_30 : decode cX12_readRiver 30 = .ok (.aload_n 0, 1) := by decide +kernel
theorem dX12_readRiver_31 : decode cX12_readRiver 31 = .ok (.ldc 217, 2) := by decide +kernel
theorem dX12_readRiver_33 : decode cX12_readRiver 33 = .ok (.iconst 2, 1) := by decide +kernel
theorem dX12_readRiver_34 : decode cX12_readRiver 34 = .ok (.bipush 40, 2) := by decide +kernel
theorem dX12_readRiver_36 : decode cX12_readRiver 36 = .ok (.invokevirtual 213, 3) := by decide +kernel
theorem dX12_readRiver_39 : decode cX12_readRiver 39 = .ok (.istore_n 2, 1) := by decide +kernel
theorem dX12_readRiver_40 : decode cX12_readRiver 40 = .ok (.aload_n 0, 1) := by decide +kernel
theorem dX12_readRiver_41 : decode cX12_readRiver 41 = .ok (.getfield 79, 3) := by decide +kernel
theorem dX12_readRiver_44 : decode cX12_readRiver 44 = .ok (.iconst 5, 1) := by decide +kernel
theorem dX12_readRiver_45 : decode cX12_readRiver 45 = .ok (.if_icmp .ne 4, 3) := by decide +kernel
theorem dX12_readRiver_48 : decode cX12_readRiver 48 = .ok (.return_, 1) := by decide +kernel
theorem dX12_readRiver_49 : decode cX12_readRiver 49 = .ok (.aload_n 0, 1) := by decide +kernel
theorem dX12_readRiver_50 : decode cX12_readRiver 50 = .ok (.getfield 152, 3) := by decide +kernel
theorem dX12_readRiver_53 : decode cX12_readRiver 53 = .ok (.iload_n 1, 1) := by decide +kernel
theorem dX12_readRiver_54 : decode cX12_readRiver 54 = .ok (.putfield 156, 3) := by decide +kernel
theorem dX12_readRiver_57 : decode cX12_readRiver 57 = .ok (.aload_n 0, 1) := by decide +kernel
theorem dX12_readRiver_58 : decode cX12_readRiver 58 = .ok (.getfield 152, 3) := by decide +kernel
theorem dX12_readRiver_61 : decode cX12_readRiver 61 = .ok (.iload_n 2, 1) := by decide +kernel
theorem dX12_readRiver_62 : decode cX12_readRiver 62 = .ok (.putfield 218, 3) := by decide +kernel
theorem dX12_readRiver_65 : decode cX12_readRiver 65 = .ok (.return_, 1) := by decide +kernel
theorem dX12_readKind_0 : decode cX12_readKind 0 = .ok (.aload_n 0, 1) := by decide +kernel
theorem dX12_readKind_1 : decode cX12_readKind 1 = .ok (.ldc 220, 2) := by decide +kernel
theorem dX12_readKind_3 : decode cX12_readKind 3 = .ok (.invokevirtual 118, 3) := by decide +kernel
theorem dX12_readKind_6 : decode cX12_readKind 6 = .ok (.ifCond .eq 7, 3) := by decide +kernel
theorem dX12_readKind_9 : decode cX12_readKind 9 = .ok (.iconst 0, 1) := by decide +kernel
theorem dX12_readKind_10 : decode cX12_readKind 10 = .ok (.goto 43, 3) := by decide +kernel
theorem dX12_readKind_13 : decode cX12_readKind 13 = .ok (.aload_n 0, 1) := by decide +kernel
theorem dX12_readKind_14 : decode cX12_readKind 14 = .ok (.ldc 222, 2) := by decide +kernel
theorem dX12_readKind_16 : decode cX12_readKind 16 = .ok (.invokevirtual 118, 3) := by decide +kernel
theorem dX12_readKind_19 : decode cX12_readKind 19 = .ok (.ifCond .eq 7, 3) := by decide +kernel
theorem dX12_readKind_22 : decode cX12_readKind 22 = .ok (.iconst 1, 1) := by decide +kernel
theorem dX12_readKind_23 : decode cX12_readKind 23 = .ok (.goto 30, 3) := by decide +kernel
theorem dX12_readKind_26 : decode cX12_readKind 26 = .ok (.aload_n 0, 1) := by decide +kernel
theorem dX12_readKind_27 : decode cX12_readKind 27 = .ok (.ldc 224, 2) := by decide +kernel
theorem dX12_readKind_29 : decode cX12_readKind 29 = .ok (.invokevirtual 118, 3) := by decide +kernel
theorem dX12_readKind_32 : decode cX12_readKind 32 = .ok (.ifCond .eq 7, 3) := by decide +kernel
theorem dX12_readKind_35 : decode cX12_readKind 35 = .ok (.iconst 2, 1) := by decide +kernel
theorem dX12_readKind_36 : decode cX12_readKind 36 = .ok (.goto 17, 3) := by decide +kernel
theorem dX12_readKind_39 : decode cX12_readKind 39 = .ok (.aload_n 0, 1) := by decide +kernel
theorem dX12_readKind_40 : decode cX12_readKind 40 = .ok (.ldc 226, 2) := by decide +kernel
theorem dX12_readKind_42 : decode cX12_readKind 42 = .ok (.invokevirtual 118, 3) := by decide +kernel
theorem dX12_readKind_45 : decode cX12_readKind 45 = .ok (.ifCond .eq 7, 3) := by decide +kernel
theorem dX12_readKind_48 : decode cX12_readKind 48 = .ok (.iconst 3, 1) := by decide +kernel
theorem dX12_readKind_49 : decode cX12_readKind 49 = .ok (.goto 4, 3) := by decide +kernel
theorem dX12_readKind_52 : decode cX12_readKind 52 = .ok (.iconst (-1), 1) := by decide +kernel
theorem dX12_readKind_53 : decode cX12_readKind 53 = .ok (.istore_n 1, 1) := by decide +kernel
theorem dX12_readKind_54 : decode cX12_readKind 54 = .ok (.iload_n 1, 1) := by decide +kernel
theorem dX12_readKind_55 : decode cX12_readKind 55 = .ok (.iconst (-1), 1) := by decide +kernel
theorem dX12_readKind_56 : decode cX12_readKind 56 = .ok (.if_icmp .ne 8, 3) := by decide +kernel
theorem dX12_readKind_59 : decode cX12_readKind 59 = .ok (.aload_n 0, 1) := by decide +kernel
theorem dX12_readKind_60 : decode cX12_readKind 60 = .ok (.iconst 1, 1) := by decide +kernel
theorem dX12_readKind_61 : decode cX12_readKind 61 = .ok (.invokevirtual 122, 3) := by decide +kernel
theorem dX12_readKind_64 : decode cX12_readKind 64 = .ok (.aload_n 0, 1) := by decide +kernel
theorem dX12_readKind_65 : decode cX12_readKind 65 = .ok (.invokevirtual 115, 3) := by decide +kernel
theorem dX12_readKind_68 : decode cX12_readKind 68 = .ok (.iload_n 1, 1) := by decide +kernel
theorem dX12_readKind_69 : decode cX12_readKind 69 = .ok (.ireturn, 1) := by decide +kernel
theorem dX12_readReach_0 : decode cX12_readReach 0 = .ok (.aload_n 0, 1) := by decide +kernel
theorem dX12_readReach_1 : decode cX12_readReach 1 = .ok (.aload_n 0, 1) := by decide +kernel
theorem dX12_readReach_2 : decode cX12_readReach 2 = .ok (.getfield 152, 3) := by decide +kernel
theorem dX12_readReach_5 : decode cX12_readReach 5 = .ok (.getfield 188, 3) := by decide +kernel
theorem dX12_readReach_8 : decode cX12_readReach 8 = .ok (.bipush 6, 2) := by decide +kernel
theorem dX12_readReach_10 : decode cX12_readReach 10 = .ok (.invokevirtual 228, 3) := by decide +kernel
theorem dX12_readReach_13 : decode cX12_readReach 13 = .ok (.aload_n 0, 1) := by decide +kernel
theorem dX12_readReach_14 : decode cX12_readReach 14 = .ok (.invokevirtual 232, 3) := by decide +kernel
theorem dX12_readReach_17 : decode cX12_readReach 17 = .ok (.lstore_n 1, 1) := by decide +kernel
theorem dX12_readReach_18 : decode cX12_readReach 18 = .ok (.aload_n 0, 1) := by decide +kernel
theorem dX12_readReach_19 : decode cX12_readReach 19 = .ok (.invokevirtual 236, 3) := by decide +kernel
theorem dX12_readReach_22 : decode cX12_readReach 22 = .ok (.istore_n 3, 1) := by decide +kernel
theorem dX12_readReach_23 : decode cX12_readReach 23 = .ok (.aload_n 0, 1) := by decide +kernel
theorem dX12_readReach_24 : decode cX12_readReach 24 = .ok (.ldc 239, 2) := by decide +kernel
theorem dX12_readReach_26 : decode cX12_readReach 26 = .ok (.iconst 3, 1) := by decide +kernel
theorem dX12_readReach_27 : decode cX12_readReach 27 = .ok (.bipush 40, 2) := by decide +kernel
theorem dX12_readReach_29 : decode cX12_readReach 29 = .ok (.invokevirtual 213, 3) := by decide +kernel
theorem dX12_readReach_32 : decode cX12_readReach 32 = .ok (.istore 4, 2) := by decide +kernel
theorem dX12_readReach_34 : decode cX12_readReach 34 = .ok (.aload_n 0, 1) := by decide +kernel
theorem dX12_readReach_35 : decode cX12_readReach 35 = .ok (.ldc 241, 2) := by decide +kernel
theorem dX12_readReach_37 : decode cX12_readReach 37 = .ok (.iconst 1, 1) := by decide +kernel
theorem dX12_readReach_38 : decode cX12_readReach 38 = .ok (.bipush 99, 2) := by decide +kernel
theorem dX12_readReach_40 : decode cX12_readReach 40 = .ok (.invokevirtual 213, 3) := by decide +kernel
theorem dX12_readReach_43 : decode cX12_readReach 43 = .ok (.istore 5, 2) := by decide +kernel
theorem dX12_readReach_45 : decode cX12_readReach 45 = .ok (.aload_n 0, 1) := by decide +kernel
theorem dX12_readReach_46 : decode cX12_readReach 46 = .ok (.getfield 79, 3) := by decide +kernel
theorem dX12_readReach_49 : decode cX12_readReach 49 = .ok (.iconst 5, 1) := by decide +kernel
theorem dX12_readReach_50 : decode cX12_readReach 50 = .ok (.if_icmp .ne 4, 3) := by decide +kernel
theorem dX12_readReach_53 : decode cX12_readReach 53 = .ok (.return_, 1) := by decide +kernel
theorem dX12_readReach_54 : decode cX12_readReach 54 = .ok (.aload_n 0, 1) := by decide +kernel
theorem dX12_readReach_55 : decode cX12_readReach 55 = .ok (.getfield 152, 3) := by decide +kernel
theorem dX12_readReach_58 : decode cX12_readReach 58 = .ok (.getfield 188, 3) := by decide +kernel
theorem dX12_readReach_61 : decode cX12_readReach 61 = .ok (.istore 6, 2) := by decide +kernel
theorem dX12_readReach_63 : decode cX12_readReach 63 = .ok (.aload_n 0, 1) := by decide +kernel
theorem dX12_readReach_64 : decode cX12_readReach 64 = .ok (.lload_n 1, 1) := by decide +kernel
theorem dX12_readReach_65 : decode cX12_readReach 65 = .ok (.iconst 0, 1) := by decide +kernel
theorem dX12_readReach_66 : decode cX12_readReach 66 = .ok (.iload 6, 2) := by decide +kernel
theorem dX12_readReach_68 : decode cX12_readReach 68 = .ok (.invokevirtual 243, 3) := by decide +kernel
theorem dX12_readReach_71 : decode cX12_readReach 71 = .ok (.aload_n 0, 1) := by decide +kernel
theorem dX12_readReach_72 : decode cX12_readReach 72 = .ok (.getfield 152, 3) := by decide +kernel
theorem dX12_readReach_75 : decode cX12_readReach 75 = .ok (.getfield 246, 3) := by decide +kernel
theorem dX12_readReach_78 : decode cX12_readReach 78 = .ok (.iload 6, 2) := by decide +kernel
theorem dX12_readReach_80 : decode cX12_readReach 80 = .ok (.iload_n 3, 1) := by decide +kernel
theorem dX12_readReach_81 : decode cX12_readReach 81 = .ok (.iastore, 1) := by decide +kernel
theorem dX12_readReach_82 : decode cX12_readReach 82 = .ok (.aload_n 0, 1) := by decide +kernel
theorem dX12_readReach_83 : decode cX12_readReach 83 = .ok (.getfield 152, 3) := by decide +kernel
theorem dX12_readReach_86 : decode cX12_readReach 86 = .ok (.getfield 249, 3) := by decide +kernel
theorem dX12_readReach_89 : decode cX12_readReach 89 = .ok (.iload 6, 2) := by decide +kernel
theorem dX12_readReach_91 : decode cX12_readReach 91 = .ok (.iload 4, 2) := by decide +kernel
theorem dX12_readReach_93 : decode cX12_readReach 93 = .ok (.iastore, 1) := by decide +kernel
theorem dX12_readReach_94 : decode cX12_readReach 94 = .ok (.aload_n 0, 1) := by decide +kernel
theorem dX12_readReach_95 : decode cX12_readReach 95 = .ok (.getfield 152, 3) := by decide +kernel
theorem dX12_readReach_98 : decode cX12_readReach 98 = .ok (.getfield 251, 3) := by decide +kernel
theorem dX12_readReach_101 : decode cX12_readReach 101 = .ok (.iload 6, 2) := by decide +kernel
theorem dX12_readReach_103 : decode cX12_readReach 103 = .ok (.iload 5, 2) := by decide +kernel
theorem dX12_readReach_105 : decode cX12_readReach 105 = .ok (.iastore, 1) := by decide +kernel
theorem dX12_readReach_106 : decode cX12_readReach 106 = .ok (.aload_n 0, 1) := by decide +kernel
theorem dX12_readReach_107 : decode cX12_readReach 107 = .ok (.getfield 152, 3) := by decide +kernel
theorem dX12_readReach_110 : decode cX12_readReach 110 = .ok (.getfield 253, 3) := by decide +kernel
theorem dX12_readReach_113 : decode cX12_readReach 113 = .ok (.iload 6, 2) := by decide +kernel
theorem dX12_readReach_115 : decode cX12_readReach 115 = .ok (.iconst (-1), 1) := by decide +kernel
theorem dX12_readReach_116 : decode cX12_readReach 116 = .ok (.iastore, 1) := by decide +kernel
theorem dX12_readReach_117 : decode cX12_readReach 117 = .ok (.aload_n 0, 1) := by decide +kernel
theorem dX12_readReach_118 : decode cX12_readReach 118 = .ok (.getfield 152, 3) := by decide +kernel
theorem dX12_readReach_121 : decode cX12_readReach 121 = .ok (.dup, 1) := by decide +kernel
theorem dX12_readReach_122 : decode cX12_readReach 122 = .ok (.getfield 188, 3) := by decide +kernel
theorem dX12_readReach_125 : decode cX12_readReach 125 = .ok (.iconst 1, 1) := by decide +kernel
theorem dX12_readReach_126 : decode cX12_readReach 126 = .ok (.iadd, 1) := by decide +kernel
theorem dX12_readReach_127 : decode cX12_readReach 127 = .ok (.putfield 188, 3) := by decide +kernel
theorem dX12_readReach_130 : decode cX12_readReach 130 = .ok (.return_, 1) := by decide +kernel
theorem dX12_readRope_0 : decode cX12_readRope 0 = .ok (.aload_n 0, 1) := by decide +kernel
theorem dX12_readRope_1 : decode cX12_readRope 1 = .ok (.aload_n 0, 1) := by decide +kernel
theorem dX12_readRope_2 : decode cX12_readRope 2 = .ok (.getfield 152, 3) := by decide +kernel
theorem dX12_readRope_5 : decode cX12_readRope 5 = .ok (.getfield 255, 3) := by decide +kernel
theorem dX12_readRope_8 : decode cX12_readRope 8 = .ok (.bipush 7, 2) := by decide +kernel
theorem dX12_readRope_10 : decode cX12_readRope 10 = .ok (.invokevirtual 228, 3) := by decide +kernel
theorem dX12_readRope_13 : decode cX12_readRope 13 = .ok (.aload_n 0, 1) := by decide +kernel
theorem dX12_readRope_14 : decode cX12_readRope 14 = .ok (.invokevirtual 232, 3) := by decide +kernel
theorem dX12_readRope_17 : decode cX12_readRope 17 = .ok (.lstore_n 1, 1) := by decide +kernel
theorem dX12_readRope_18 : decode cX12_readRope 18 = .ok (.aload_n 0, 1) := by decide +kernel
theorem dX12_readRope_19 : decode cX12_readRope 19 = .ok (.ldc_w 258, 3) := by decide +kernel
theorem dX12_readRope_22 : decode cX12_readRope 22 = .ok (.invokevirtual 130, 3) := by decide +kernel
theorem dX12_readRope_25 : decode cX12_readRope 25 = .ok (.aload_n 0, 1) := by decide +kernel
theorem dX12_readRope_26 : decode cX12_readRope 26 = .ok (.iconst 0, 1) := by decide +kernel
theorem dX12_readRope_27 : decode cX12_readRope 27 = .ok (.invokevirtual 260, 3) := by decide +kernel
theorem dX12_readRope_30 : decode cX12_readRope 30 = .ok (.istore_n 3, 1) := by decide +kernel
theorem dX12_readRope_31 : decode cX12_readRope 31 = .ok (.aload_n 0, 1) := by decide +kernel
theorem dX12_readRope_32 : decode cX12_readRope 32 = .ok (.invokevirtual 115, 3) := by decide +kernel
theorem dX12_readRope_35 : decode cX12_readRope 35 = .ok (.aload_n 0, 1) := by decide +kernel
theorem dX12_readRope_36 : decode cX12_readRope 36 = .ok (.ldc_w 263, 3) := by decide +kernel
theorem dX12_readRope_39 : decode cX12_readRope 39 = .ok (.iconst 1, 1) := by decide +kernel
theorem dX12_readRope_40 : decode cX12_readRope 40 = .ok (.bipush 9, 2) := by decide +kernel
theorem dX12_readRope_42 : decode cX12_readRope 42 = .ok (.invokevirtual 213, 3) := by decide +kernel
theorem dX12_readRope_45 : decode cX12_readRope 45 = .ok (.istore 4, 2) := by decide +kernel
theorem dX12_readRope_47 : decode cX12_readRope 47 = .ok (.aload_n 0, 1) := by decide +kernel
theorem dX12_readRope_48 : decode cX12_readRope 48 = .ok (.ldc_w 265, 3) := by decide +kernel
theorem dX12_readRope_51 : decode cX12_readRope 51 = .ok (.iconst 1, 1) := by decide +kernel
theorem dX12_readRope_52 : decode cX12_readRope 52 = .ok (.bipush 99, 2) := by decide +kernel
theorem dX12_readRope_54 : decode cX12_readRope 54 = .ok (.invokevirtual 213, 3) := by decide +kernel
theorem dX12_readRope_57 : decode cX12_readRope 57 = .ok (.istore 5, 2) := by decide +kernel
theorem dX12_readRope_59 : decode cX12_readRope 59 = .ok (.aload_n 0, 1) := by decide +kernel
theorem dX12_readRope_60 : decode cX12_readRope 60 = .ok (.getfield 79, 3) := by decide +kernel
theorem dX12_readRope_63 : decode cX12_readRope 63 = .ok (.iconst 5, 1) := by decide +kernel
theorem dX12_readRope_64 : decode cX12_readRope 64 = .ok (.if_icmp .ne 4, 3) := by decide +kernel
theorem dX12_readRope_67 : decode cX12_readRope 67 = .ok (.return_, 1) := by decide +kernel
theorem dX12_readRope_68 : decode cX12_readRope 68 = .ok (.aload_n 0, 1) := by decide +kernel
theorem dX12_readRope_69 : decode cX12_readRope 69 = .ok (.getfield 152, 3) := by decide +kernel
theorem dX12_readRope_72 : decode cX12_readRope 72 = .ok (.getfield 255, 3) := by decide +kernel
theorem dX12_readRope_75 : decode cX12_readRope 75 = .ok (.istore 6, 2) := by decide +kernel
theorem dX12_readRope_77 : decode cX12_readRope 77 = .ok (.aload_n 0, 1) := by decide +kernel
theorem dX12_readRope_78 : decode cX12_readRope 78 = .ok (.lload_n 1, 1) := by decide +kernel
theorem dX12_readRope_79 : decode cX12_readRope 79 = .ok (.iconst 1, 1) := by decide +kernel
theorem dX12_readRope_80 : decode cX12_readRope 80 = .ok (.iload 6, 2) := by decide +kernel
theorem dX12_readRope_82 : decode cX12_readRope 82 = .ok (.invokevirtual 243, 3) := by decide +kernel
theorem dX12_readRope_85 : decode cX12_readRope 85 = .ok (.aload_n 0, 1) := by decide +kernel
theorem dX12_readRope_86 : decode cX12_readRope 86 = .ok (.getfield 152, 3) := by decide +kernel
theorem dX12_readRope_89 : decode cX12_readRope 89 = .ok (.getfield 267, 3) := by decide +kernel
theorem dX12_readRope_92 : decode cX12_readRope 92 = .ok (.iload 6, 2) := by decide +kernel
theorem dX12_readRope_94 : decode cX12_readRope 94 = .ok (.iload_n 3, 1) := by decide +kernel
theorem dX12_readRope_95 : decode cX12_readRope 95 = .ok (.iastore, 1) := by decide +kernel
theorem dX12_readRope_96 : decode cX12_readRope 96 = .ok (.aload_n 0, 1) := by decide +kernel
theorem dX12_readRope_97 : decode cX12_readRope 97 = .ok (.getfield 152, 3) := by decide +kernel
theorem dX12_readRope_100 : decode cX12_readRope 100 = .ok (.getfield 269, 3) := by decide +kernel
theorem dX12_readRope_103 : decode cX12_readRope 103 = .ok (.iload 6, 2) := by decide +kernel
theorem dX12_readRope_105 : decode cX12_readRope 105 = .ok (.iload 4, 2) := by decide +kernel
theorem dX12_readRope_107 : decode cX12_readRope 107 = .ok (.iastore, 1) := by decide +kernel
theorem dX12_readRope_108 : decode cX12_readRope 108 = .ok (.aload_n 0, 1) := by decide +kernel
theorem dX12_readRope_109 : decode cX12_readRope 109 = .ok (.getfield 152, 3) := by decide +kernel
theorem dX12_readRope_112 : decode cX12_readRope 112 = .ok (.getfield 271, 3) := by decide +kernel
theorem dX12_readRope_115 : decode cX12_readRope 115 = .ok (.iload 6, 2) := by decide +kernel
theorem dX12_readRope_117 : decode cX12_readRope 117 = .ok (.iload 5, 2) := by decide +kernel
theorem dX12_readRope_119 : decode cX12_readRope 119 = .ok (.iastore, 1) := by decide +kernel
theorem dX12_readRope_120 : decode cX12_readRope 120 = .ok (.aload_n 0, 1) := by decide +kernel
theorem dX12_readRope_121 : decode cX12_readRope 121 = .ok (.getfield 152, 3) := by decide +kernel
theorem dX12_readRope_124 : decode cX12_readRope 124 = .ok (.dup, 1) := by decide +kernel
theorem dX12_readRope_125 : decode cX12_readRope 125 = .ok (.getfield 255, 3) := by decide +kernel
theorem dX12_readRope_128 : decode cX12_readRope 128 = .ok (.iconst 1, 1) := by decide +kernel
theorem dX12_readRope_129 : decode cX12_readRope 129 = .ok (.iadd, 1) := by decide +kernel
theorem dX12_readRope_130 : decode cX12_readRope 130 = .ok (.putfield 255, 3) := by decide +kernel
theorem dX12_readRope_133 : decode cX12_readRope 133 = .ok (.return_, 1) := by decide +kernel
theorem dX12_readLoose_0 : decode cX12_readLoose 0 = .ok (.aload_n 0, 1) := by decide +kernel
theorem dX12_readLoose_1 : decode cX12_readLoose 1 = .ok (.iconst 0, 1) := by decide +kernel
theorem dX12_readLoose_2 : decode cX12_readLoose 2 = .ok (.iconst 1, 1) := by decide +kernel
theorem dX12_readLoose_3 : decode cX12_readLoose 3 = .ok (.invokevirtual 228, 3) := by decide +kernel
theorem dX12_readLoose_6 : decode cX12_readLoose 6 = .ok (.aload_n 0, 1) := by decide +kernel
theorem dX12_readLoose_7 : decode cX12_readLoose 7 = .ok (.iconst 1, 1) := by decide +kernel
theorem dX12_readLoose_8 : decode cX12_readLoose 8 = .ok (.invokevirtual 260, 3) := by decide +kernel
theorem dX12_readLoose_11 : decode cX12_readLoose 11 = .ok (.istore_n 1, 1) := by decide +kernel
theorem dX12_readLoose_12 : decode cX12_readLoose 12 = .ok (.aload_n 0, 1) := by decide +kernel
theorem dX12_readLoose_13 : decode cX12_readLoose 13 = .ok (.getfield 79, 3) := by decide +kernel
theorem dX12_readLoose_16 : decode cX12_readLoose 16 = .ok (.iconst 5, 1) := by decide +kernel
theorem dX12_readLoose_17 : decode cX12_readLoose 17 = .ok (.if_icmp .eq 22, 3) := by decide +kernel
theorem dX12_readLoose_20 : decode cX12_readLoose 20 = .ok (.aload_n 0, 1) := by decide +kernel
theorem dX12_readLoose_21 : decode cX12_readLoose 21 = .ok (.getfield 152, 3) := by decide +kernel
theorem dX12_readLoose_24 : decode cX12_readLoose 24 = .ok (.getfield 273, 3) := by decide +kernel
theorem dX12_readLoose_27 : decode cX12_readLoose 27 = .ok (.iload_n 1, 1) := by decide +kernel
theorem dX12_readLoose_28 : decode cX12_readLoose 28 = .ok (.invokestatic 275, 3) := by decide +kernel
theorem dX12_readLoose_31 : decode cX12_readLoose 31 = .ok (.ifCond .eq 8, 3) := by decide +kernel
theorem dX12_readLoose_34 : decode cX12_readLoose 34 = .ok (.aload_n 0, 1) := by decide +kernel
theorem dX12_readLoose_35 : decode cX12_readLoose 35 = .ok (.iconst 3, 1) := by decide +kernel
theorem dX12_readLoose_36 : decode cX12_readLoose 36 = .ok (.invokevirtual 122, 3) := by decide +kernel
theorem dX12_readLoose_39 : decode cX12_readLoose 39 = .ok (.aload_n 0, 1) := by decide +kernel
theorem dX12_readLoose_40 : decode cX12_readLoose 40 = .ok (.invokevirtual 115, 3) := by decide +kernel
theorem dX12_readLoose_43 : decode cX12_readLoose 43 = .ok (.aload_n 0, 1) := by decide +kernel
theorem dX12_readLoose_44 : decode cX12_readLoose 44 = .ok (.getfield 79, 3) := by decide +kernel
theorem dX12_readLoose_47 : decode cX12_readLoose 47 = .ok (.iconst 5, 1) := by decide +kernel
theorem dX12_readLoose_48 : decode cX12_readLoose 48 = .ok (.if_icmp .eq 18, 3) := by decide +kernel
theorem dX12_readLoose_51 : decode cX12_readLoose 51 = .ok (.aload_n 0, 1) := by decide +kernel
theorem dX12_readLoose_52 : decode cX12_readLoose 52 = .ok (.getfield 152, 3) := by decide +kernel
theorem dX12_readLoose_55 : decode cX12_readLoose 55 = .ok (.dup, 1) := by decide +kernel
theorem dX12_readLoose_56 : decode cX12_readLoose 56 = .ok (.getfield 273, 3) := by decide +kernel
theorem dX12_readLoose_59 : decode cX12_readLoose 59 = .ok (.iconst 1, 1) := by decide +kernel
theorem dX12_readLoose_60 : decode cX12_readLoose 60 = .ok (.iload_n 1, 1) := by decide +kernel
theorem dX12_readLoose_61 : decode cX12_readLoose 61 = .ok (.ishl, 1) := by decide +kernel
theorem dX12_readLoose_62 : decode cX12_readLoose 62 = .ok (.ior, 1) := by decide +kernel
theorem dX12_readLoose_63 : decode cX12_readLoose 63 = .ok (.putfield 273, 3) := by decide +kernel
theorem dX12_readLoose_66 : decode cX12_readLoose 66 = .ok (.return_, 1) := by decide +kernel
theorem dX12_readHand_0 : decode cX12_readHand 0 = .ok (.aload_n 0, 1) := by decide +kernel
theorem dX12_readHand_1 : decode cX12_readHand 1 = .ok (.aload_n 0, 1) := by decide +kernel
theorem dX12_readHand_2 : decode cX12_readHand 2 = .ok (.getfield 152, 3) := by decide +kernel
theorem dX12_readHand_5 : decode cX12_readHand 5 = .ok (.getfield 279, 3) := by decide +kernel
theorem dX12_readHand_8 : decode cX12_readHand 8 = .ok (.bipush 6, 2) := by decide +kernel
theorem dX12_readHand_10 : decode cX12_readHand 10 = .ok (.invokevirtual 228, 3) := by decide +kernel
theorem dX12_readHand_13 : decode cX12_readHand 13 = .ok (.aload_n 0, 1) := by decide +kernel
theorem dX12_readHand_14 : decode cX12_readHand 14 = .ok (.invokevirtual 232, 3) := by decide +kernel
theorem dX12_readHand_17 : decode cX12_readHand 17 = .ok (.lstore_n 1, 1) := by decide +kernel
theorem dX12_readHand_18 : decode cX12_readHand 18 = .ok (.aload_n 0, 1) := by decide +kernel
theorem dX12_readHand_19 : decode cX12_readHand 19 = .ok (.ldc_w 282, 3) := by decide +kernel
theorem dX12_readHand_22 : decode cX12_readHand 22 = .ok (.iconst 1, 1) := by decide +kernel
theorem dX12_readHand_23 : decode cX12_readHand 23 = .ok (.bipush 99, 2) := by decide +kernel
theorem dX12_readHand_25 : decode cX12_readHand 25 = .ok (.invokevirtual 213, 3) := by decide +kernel
theorem dX12_readHand_28 : decode cX12_readHand 28 = .ok (.istore_n 3, 1) := by decide +kernel
theorem dX12_readHand_29 : decode cX12_readHand 29 = .ok (.aload_n 0, 1) := by decide +kernel
theorem dX12_readHand_30 : decode cX12_readHand 30 = .ok (.getfield 79, 3) := by decide +kernel
theorem dX12_readHand_33 : decode cX12_readHand 33 = .ok (.iconst 5, 1) := by decide +kernel
theorem dX12_readHand_34 : decode cX12_readHand 34 = .ok (.if_icmp .ne 4, 3) := by decide +kernel
theorem dX12_readHand_37 : decode cX12_readHand 37 = .ok (.return_, 1) := by decide +kernel
theorem dX12_readHand_38 : decode cX12_readHand 38 = .ok (.aload_n 0, 1) := by decide +kernel
theorem dX12_readHand_39 : decode cX12_readHand 39 = .ok (.lload_n 1, 1) := by decide +kernel
theorem dX12_readHand_40 : decode cX12_readHand 40 = .ok (.iconst 2, 1) := by decide +kernel
theorem dX12_readHand_41 : decode cX12_readHand 41 = .ok (.aload_n 0, 1) := by decide +kernel
theorem dX12_readHand_42 : decode cX12_readHand 42 = .ok (.getfield 152, 3) := by decide +kernel
theorem dX12_readHand_45 : decode cX12_readHand 45 = .ok (.getfield 279, 3) := by decide +kernel
theorem dX12_readHand_48 : decode cX12_readHand 48 = .ok (.invokevirtual 243, 3) := by decide +kernel
theorem dX12_readHand_51 : decode cX12_readHand 51 = .ok (.aload_n 0, 1) := by decide +kernel
theorem dX12_readHand_52 : decode cX12_readHand 52 = .ok (.getfield 152, 3) := by decide +kernel
theorem dX12_readHand_55 : decode cX12_readHand 55 = .ok (.getfield 284, 3) := by decide +kernel
theorem dX12_readHand_58 : decode cX12_readHand 58 = .ok (.aload_n 0, 1) := by decide +kernel
theorem dX12_readHand_59 : decode cX12_readHand 59 = .ok (.getfield 152, 3) := by decide +kernel
theorem dX12_readHand_62 : decode cX12_readHand 62 = .ok (.getfield 279, 3) := by decide +kernel
theorem dX12_readHand_65 : decode cX12_readHand 65 = .ok (.iload_n 3, 1) := by decide +kernel
theorem dX12_readHand_66 : decode cX12_readHand 66 = .ok (.iastore, 1) := by decide +kernel
theorem dX12_readHand_67 : decode cX12_readHand 67 = .ok (.aload_n 0, 1) := by decide +kernel
theorem dX12_readHand_68 : decode cX12_readHand 68 = .ok (.getfield 152, 3) := by decide +kernel
theorem dX12_readHand_71 : decode cX12_readHand 71 = .ok (.dup, 1) := by decide +kernel
theorem dX12_readHand_72 : decode cX12_readHand 72 = .ok (.getfield 279, 3) := by decide +kernel
theorem dX12_readHand_75 : decode cX12_readHand 75 = .ok (.iconst 1, 1) := by decide +kernel
theorem dX12_readHand_76 : decode cX12_readHand 76 = .ok (.iadd, 1) := by decide +kernel
theorem dX12_readHand_77 : decode cX12_readHand 77 = .ok (.putfield 279, 3) := by decide +kernel
theorem dX12_readHand_80 : decode cX12_readHand 80 = .ok (.return_, 1) := by decide +kernel
theorem dX12_readBoat_0 : decode cX12_readBoat 0 = .ok (.aload_n 0, 1) := by decide +kernel
theorem dX12_readBoat_1 : decode cX12_readBoat 1 = .ok (.aload_n 0, 1) := by decide +kernel
theorem dX12_readBoat_2 : decode cX12_readBoat 2 = .ok (.getfield 152, 3) := by decide +kernel
theorem dX12_readBoat_5 : decode cX12_readBoat 5 = .ok (.getfield 286, 3) := by decide +kernel
theorem dX12_readBoat_8 : decode cX12_readBoat 8 = .ok (.iconst 5, 1) := by decide +kernel
theorem dX12_readBoat_9 : decode cX12_readBoat 9 = .ok (.invokevirtual 228, 3) := by decide +kernel
theorem dX12_readBoat_12 : decode cX12_readBoat 12 = .ok (.aload_n 0, 1) := by decide +kernel
theorem dX12_readBoat_13 : decode cX12_readBoat 13 = .ok (.invokevirtual 232, 3) := by decide +kernel
theorem dX12_readBoat_16 : decode cX12_readBoat 16 = .ok (.lstore_n 1, 1) := by decide +kernel
theorem dX12_readBoat_17 : decode cX12_readBoat 17 = .ok (.aload_n 0, 1) := by decide +kernel
theorem dX12_readBoat_18 : decode cX12_readBoat 18 = .ok (.ldc 239, 2) := by decide +kernel
theorem dX12_readBoat_20 : decode cX12_readBoat 20 = .ok (.iconst 1, 1) := by decide +kernel
theorem dX12_readBoat_21 : decode cX12_readBoat 21 = .ok (.bipush 30, 2) := by decide +kernel
theorem dX12_readBoat_23 : decode cX12_readBoat 23 = .ok (.invokevirtual 213, 3) := by decide +kernel
theorem dX12_readBoat_26 : decode cX12_readBoat 26 = .ok (.istore_n 3, 1) := by decide +kernel
theorem dX12_readBoat_27 : decode cX12_readBoat 27 = .ok (.aload_n 0, 1) := by decide +kernel
theorem dX12_readBoat_28 : decode cX12_readBoat 28 = .ok (.ldc_w 289, 3) := by decide +kernel
theorem dX12_readBoat_31 : decode cX12_readBoat 31 = .ok (.iconst 0, 1) := by decide +kernel
theorem dX12_readBoat_32 : decode cX12_readBoat 32 = .ok (.bipush 60, 2) := by decide +kernel
theorem dX12_readBoat_34 : decode cX12_readBoat 34 = .ok (.invokevirtual 213, 3) := by decide +kernel
theorem dX12_readBoat_37 : decode cX12_readBoat 37 = .ok (.istore 4, 2) := by decide +kernel
theorem dX12_readBoat_39 : decode cX12_readBoat 39 = .ok (.aload_n 0, 1) := by decide +kernel
theorem dX12_readBoat_40 : decode cX12_readBoat 40 = .ok (.getfield 79, 3) := by decide +kernel
theorem dX12_readBoat_43 : decode cX12_readBoat 43 = .ok (.iconst 5, 1) := by decide +kernel
theorem dX12_readBoat_44 : decode cX12_readBoat 44 = .ok (.if_icmp .ne 4, 3) := by decide +kernel
theorem dX12_readBoat_47 : decode cX12_readBoat 47 = .ok (.return_, 1) := by decide +kernel
theorem dX12_readBoat_48 : decode cX12_readBoat 48 = .ok (.aload_n 0, 1) := by decide +kernel
theorem dX12_readBoat_49 : decode cX12_readBoat 49 = .ok (.lload_n 1, 1) := by decide +kernel
theorem dX12_readBoat_50 : decode cX12_readBoat 50 = .ok (.iconst 2, 1) := by decide +kernel
theorem dX12_readBoat_51 : decode cX12_readBoat 51 = .ok (.aload_n 0, 1) := by decide +kernel
theorem dX12_readBoat_52 : decode cX12_readBoat 52 = .ok (.getfield 152, 3) := by decide +kernel
theorem dX12_readBoat_55 : decode cX12_readBoat 55 = .ok (.getfield 286, 3) := by decide +kernel
theorem dX12_readBoat_58 : decode cX12_readBoat 58 = .ok (.invokevirtual 243, 3) := by decide +kernel
theorem dX12_readBoat_61 : decode cX12_readBoat 61 = .ok (.aload_n 0, 1) := by decide +kernel
theorem dX12_readBoat_62 : decode cX12_readBoat 62 = .ok (.getfield 152, 3) := by decide +kernel
theorem dX12_readBoat_65 : decode cX12_readBoat 65 = .ok (.getfield 291, 3) := by decide +kernel
theorem dX12_readBoat_68 : decode cX12_readBoat 68 = .ok (.aload_n 0, 1) := by decide +kernel
theorem dX12_readBoat_69 : decode cX12_readBoat 69 = .ok (.getfield 152, 3) := by decide +kernel
theorem dX12_readBoat_72 : decode cX12_readBoat 72 = .ok (.getfield 286, 3) := by decide +kernel
theorem dX12_readBoat_75 : decode cX12_readBoat 75 = .ok (.iload_n 3, 1) := by decide +kernel
theorem dX12_readBoat_76 : decode cX12_readBoat 76 = .ok (.iastore, 1) := by decide +kernel
theorem dX12_readBoat_77 : decode cX12_readBoat 77 = .ok (.aload_n 0, 1) := by decide +kernel
theorem dX12_readBoat_78 : decode cX12_readBoat 78 = .ok (.getfield 152, 3) := by decide +kernel
theorem dX12_readBoat_81 : decode cX12_readBoat 81 = .ok (.getfield 294, 3) := by decide +kernel
theorem dX12_readBoat_84 : decode cX12_readBoat 84 = .ok (.aload_n 0, 1) := by decide +kernel
theorem dX12_readBoat_85 : decode cX12_readBoat 85 = .ok (.getfield 152, 3) := by decide +kernel
theorem dX12_readBoat_88 : decode cX12_readBoat 88 = .ok (.getfield 286, 3) := by decide +kernel
theorem dX12_readBoat_91 : decode cX12_readBoat 91 = .ok (.iload 4, 2) := by decide +kernel
theorem dX12_readBoat_93 : decode cX12_readBoat 93 = .ok (.iastore, 1) := by decide +kernel
theorem dX12_readBoat_94 : decode cX12_readBoat 94 = .ok (.aload_n 0, 1) := by decide +kernel
theorem dX12_readBoat_95 : decode cX12_readBoat 95 = .ok (.getfield 152, 3) := by decide +kernel
theorem dX12_readBoat_98 : decode cX12_readBoat 98 = .ok (.dup, 1) := by decide +kernel
theorem dX12_readBoat_99 : decode cX12_readBoat 99 = .ok (.getfield 286, 3) := by decide +kernel
theorem dX12_readBoat_102 : decode cX12_readBoat 102 = .ok (.iconst 1, 1) := by decide +kernel
theorem dX12_readBoat_103 : decode cX12_readBoat 103 = .ok (.iadd, 1) := by decide +kernel
theorem dX12_readBoat_104 : decode cX12_readBoat 104 = .ok (.putfield 286, 3) := by decide +kernel
theorem dX12_readBoat_107 : decode cX12_readBoat 107 = .ok (.return_, 1) := by decide +kernel
theorem dX12_readMud_0 : decode cX12_readMud 0 = .ok (.aload_n 0, 1) := by decide +kernel
theorem dX12_readMud_1 : decode cX12_readMud 1 = .ok (.iconst 0, 1) := by decide +kernel
theorem dX12_readMud_2 : decode cX12_readMud 2 = .ok (.iconst 1, 1) := by decide +kernel
theorem dX12_readMud_3 : decode cX12_readMud 3 = .ok (.invokevirtual 228, 3) := by decide +kernel
theorem dX12_readMud_6 : decode cX12_readMud 6 = .ok (.aload_n 0, 1) := by decide +kernel
theorem dX12_readMud_7 : decode cX12_readMud 7 = .ok (.iconst 0, 1) := by decide +kernel
theorem dX12_readMud_8 : decode cX12_readMud 8 = .ok (.invokevirtual 260, 3) := by decide +kernel
theorem dX12_readMud_11 : decode cX12_readMud 11 = .ok (.istore_n 1, 1) := by decide +kernel
theorem dX12_readMud_12 : decode cX12_readMud 12 = .ok (.aload_n 0, 1) := by decide +kernel
theorem dX12_readMud_13 : decode cX12_readMud 13 = .ok (.getfield 79, 3) := by decide +kernel
theorem dX12_readMud_16 : decode cX12_readMud 16 = .ok (.iconst 5, 1) := by decide +kernel
theorem dX12_readMud_17 : decode cX12_readMud 17 = .ok (.if_icmp .eq 21, 3) := by decide +kernel
theorem dX12_readMud_20 : decode cX12_readMud 20 = .ok (.aload_n 0, 1) := by decide +kernel
theorem dX12_readMud_21 : decode cX12_readMud 21 = .ok (.getfield 152, 3) := by decide +kernel
theorem dX12_readMud_24 : decode cX12_readMud 24 = .ok (.getfield 253, 3) := by decide +kernel
theorem dX12_readMud_27 : decode cX12_readMud 27 = .ok (.iload_n 1, 1) := by decide +kernel
theorem dX12_readMud_28 : decode cX12_readMud 28 = .ok (.iaload, 1) := by decide +kernel
theorem dX12_readMud_29 : decode cX12_readMud 29 = .ok (.iconst (-1), 1) := by decide +kernel
theorem dX12_readMud_30 : decode cX12_readMud 30 = .ok (.if_icmp .eq 8, 3) := by decide +kernel
theorem dX12_readMud_33 : decode cX12_readMud 33 = .ok (.aload_n 0, 1) := by decide +kernel
theorem dX12_readMud_34 : decode cX12_readMud 34 = .ok (.iconst 3, 1) := by decide +kernel
theorem dX12_readMud_35 : decode cX12_readMud 35 = .ok (.invokevirtual 122, 3) := by decide +kernel
theorem dX12_readMud_38 : decode cX12_readMud 38 = .ok (.aload_n 0, 1) := by decide +kernel
theorem dX12_readMud_39 : decode cX12_readMud 39 = .ok (.invokevirtual 115, 3) := by decide +kernel
theorem dX12_readMud_42 : decode cX12_readMud 42 = .ok (.aload_n 0, 1) := by decide +kernel
theorem dX12_readMud_43 : decode cX12_readMud 43 = .ok (.ldc_w 289, 3) := by decide +kernel
theorem dX12_readMud_46 : decode cX12_readMud 46 = .ok (.iconst 0, 1) := by decide +kernel
theorem dX12_readMud_47 : decode cX12_readMud 47 = .ok (.sipush 900, 3) := by decide +kernel
theorem dX12_readMud_50 : decode cX12_readMud 50 = .ok (.invokevirtual 213, 3) := by decide +kernel
theorem dX12_readMud_53 : decode cX12_readMud 53 = .ok (.istore_n 2, 1) := by decide +kernel
theorem dX12_readMud_54 : decode cX12_readMud 54 = .ok (.aload_n 0, 1) := by decide +kernel
theorem dX12_readMud_55 : decode cX12_readMud 55 = .ok (.getfield 79, 3) := by decide +kernel
theorem dX12_readMud_58 : decode cX12_readMud 58 = .ok (.iconst 5, 1) := by decide +kernel
theorem dX12_readMud_59 : decode cX12_readMud 59 = .ok (.if_icmp .ne 4, 3) := by decide +kernel
theorem dX12_readMud_62 : decode cX12_readMud 62 = .ok (.return_, 1) := by decide +kernel
theorem dX12_readMud_63 : decode cX12_readMud 63 = .ok (.aload_n 0, 1) := by decide +kernel
theorem dX12_readMud_64 : decode cX12_readMud 64 = .ok (.getfield 152, 3) := by decide +kernel
theorem dX12_readMud_67 : decode cX12_readMud 67 = .ok (.getfield 253, 3) := by decide +kernel
theorem dX12_readMud_70 : decode cX12_readMud 70 = .ok (.iload_n 1, 1) := by decide +kernel
theorem dX12_readMud_71 : decode cX12_readMud 71 = .ok (.iload_n 2, 1) := by decide +kernel
theorem dX12_readMud_72 : decode cX12_readMud 72 = .ok (.iastore, 1) := by decide +kernel
theorem dX12_readMud_73 : decode cX12_readMud 73 = .ok (.aload_n 0, 1) := by decide +kernel
theorem dX12_readMud_74 : decode cX12_readMud 74 = .ok (.getfield 152, 3) := by decide +kernel
theorem dX12_readMud_77 : decode cX12_readMud 77 = .ok (.dup, 1) := by decide +kernel
theorem dX12_readMud_78 : decode cX12_readMud 78 = .ok (.getfield 297, 3) := by decide +kernel
theorem dX12_readMud_81 : decode cX12_readMud 81 = .ok (.iconst 1, 1) := by decide +kernel
theorem dX12_readMud_82 : decode cX12_readMud 82 = .ok (.iadd, 1) := by decide +kernel
theorem dX12_readMud_83 : decode cX12_readMud 83 = .ok (.putfield 297, 3) := by decide +kernel
theorem dX12_readMud_86 : decode cX12_readMud 86 = .ok (.return_, 1) := by decide +kernel
theorem dX12_feed_0 : decode cX12_feed 0 = .ok (.aload_n 0, 1) := by decide +kernel
theorem dX12_feed_1 : decode cX12_feed 1 = .ok (.iconst 0, 1) := by decide +kernel
theorem dX12_feed_2 : decode cX12_feed 2 = .ok (.putfield 51, 3) := by decide +kernel
theorem dX12_feed_5 : decode cX12_feed 5 = .ok (.aload_n 0, 1) := by decide +kernel
theorem dX12_feed_6 : decode cX12_feed 6 = .ok (.getfield 300, 3) := by decide +kernel
theorem dX12_feed_9 : decode cX12_feed 9 = .ok (.bipush 20, 2) := by decide +kernel
theorem dX12_feed_11 : decode cX12_feed 11 = .ok (.iadd, 1) := by decide +kernel
theorem dX12_feed_12 : decode cX12_feed 12 = .ok (.sipush 900, 3) := by decide +kernel
theorem dX12_feed_15 : decode cX12_feed 15 = .ok (.if_icmp .le 5, 3) := by decide +kernel
theorem dX12_feed_18 : decode cX12_feed 18 = .ok (.iconst (-1), 1) := by decide +kernel
theorem dX12_feed_19 : decode cX12_feed 19 = .ok (.ireturn, 1) := by decide +kernel
theorem dX12_feed_20 : decode cX12_feed 20 = .ok (.iconst 0, 1) := by decide +kernel
theorem dX12_feed_21 : decode cX12_feed 21 = .ok (.istore 6, 2) := by decide +kernel
theorem dX12_feed_23 : decode cX12_feed 23 = .ok (.iload 6, 2) := by decide +kernel
theorem dX12_feed_25 : decode cX12_feed 25 = .ok (.bipush 20, 2) := by decide +kernel
theorem dX12_feed_27 : decode cX12_feed 27 = .ok (.if_icmp .ge 90, 3) := by decide +kernel
theorem dX12_feed_30 : decode cX12_feed 30 = .ok (.iload 6, 2) := by decide +kernel
theorem dX12_feed_32 : decode cX12_feed 32 = .ok (.iconst 4, 1) := by decide +kernel
theorem dX12_feed_33 : decode cX12_feed 33 = .ok (.if_icmp .ge 7, 3) := by decide +kernel
theorem dX12_feed_36 : decode cX12_feed 36 = .ok (.iload_n 1, 1) := by decide +kernel
theorem dX12_feed_37 : decode cX12_feed 37 = .ok (.goto 39, 3) := by decide +kernel
theorem dX12_feed_40 : decode cX12_feed 40 = .ok (.iload 6, 2) := by decide +kernel
theorem dX12_feed_42 : decode cX12_feed 42 = .ok (.bipush 8, 2) := by decide +kernel
theorem dX12_feed_44 : decode cX12_feed 44 = .ok (.if_icmp .ge 7, 3) := by decide +kernel
theorem dX12_feed_47 : decode cX12_feed 47 = .ok (.iload_n 2, 1) := by decide +kernel
theorem dX12_feed_48 : decode cX12_feed 48 = .ok (.goto 28, 3) := by decide +kernel
theorem dX12_feed_51 : decode cX12_feed 51 = .ok (.iload 6, 2) := by decide +kernel
theorem dX12_feed_53 : decode cX12_feed 53 = .ok (.bipush 12, 2) := by decide +kernel
theorem dX12_feed_55 : decode cX12_feed 55 = .ok (.if_icmp .ge 7, 3) := by decide +kernel
theorem dX12_feed_58 : decode cX12_feed 58 = .ok (.iload_n 3, 1) := by decide +kernel
theorem dX12_feed_59 : decode cX12_feed 59 = .ok (.goto 17, 3) := by decide +kernel
theorem dX12_feed_62 : decode cX12_feed 62 = .ok (.iload 6, 2) := by decide +kernel
theorem dX12_feed_64 : decode cX12_feed 64 = .ok (.bipush 16, 2) := by decide +kernel
theorem dX12_feed_66 : decode cX12_feed 66 = .ok (.if_icmp .ge 8, 3) := by decide +kernel
theorem dX12_feed_69 : decode cX12_feed 69 = .ok (.iload 4, 2) := by decide +kernel
theorem dX12_feed_71 : decode cX12_feed 71 = .ok (.goto 5, 3) := by decide +kernel
theorem dX12_feed_74 : decode cX12_feed 74 = .ok (.iload 5, 2) := by decide +kernel
theorem dX12_feed_76 : decode cX12_feed 76 = .ok (.istore 7, 2) := by decide +kernel
theorem dX12_feed_78 : decode cX12_feed 78 = .ok (.aload_n 0, 1) := by decide +kernel
theorem dX12_feed_79 : decode cX12_feed 79 = .ok (.getfield 13, 3) := by decide +kernel
theorem dX12_feed_82 : decode cX12_feed 82 = .ok (.aload_n 0, 1) := by decide +kernel
theorem dX12_feed_83 : decode cX12_feed 83 = .ok (.getfield 300, 3) := by decide +kernel
theorem dX12_feed_86 : decode cX12_feed 86 = .ok (.iload 7, 2) := by decide +kernel
theorem dX12_feed_88 : decode cX12_feed 88 = .ok (.bipush 24, 2) := by decide +kernel
theorem dX12_feed_90 : decode cX12_feed 90 = .ok (.bipush 8, 2) := by decide +kernel
theorem dX12_feed_92 : decode cX12_feed 92 = .ok (.iload 6, 2) := by decide +kernel
theorem dX12_feed_94 : decode cX12_feed 94 = .ok (.iconst 4, 1) := by decide +kernel
theorem dX12_feed_95 : decode cX12_feed 95 = .ok (.irem, 1) := by decide +kernel
theorem dX12_feed_96 : decode cX12_feed 96 = .ok (.imul, 1) := by decide +kernel
theorem dX12_feed_97 : decode cX12_feed 97 = .ok (.isub, 1) := by decide +kernel
theorem dX12_feed_98 : decode cX12_feed 98 = .ok (.ishr, 1) := by decide +kernel
theorem dX12_feed_99 : decode cX12_feed 99 = .ok (.i2b, 1) := by decide +kernel
theorem dX12_feed_100 : decode cX12_feed 100 = .ok (.bastore, 1) := by decide +kernel
theorem dX12_feed_101 : decode cX12_feed 101 = .ok (.aload_n 0, 1) := by decide +kernel
theorem dX12_feed_102 : decode cX12_feed 102 = .ok (.dup, 1) := by decide +kernel
theorem dX12_feed_103 : decode cX12_feed 103 = .ok (.getfield 300, 3) := by decide +kernel
theorem dX12_feed_106 : decode cX12_feed 106 = .ok (.iconst 1, 1) := by decide +kernel
theorem dX12_feed_107 : decode cX12_feed 107 = .ok (.iadd, 1) := by decide +kernel
theorem dX12_feed_108 : decode cX12_feed 108 = .ok (.putfield 300, 3) := by decide +kernel
theorem dX12_feed_111 : decode cX12_feed 111 = .ok (.iinc 6 1, 3) := by decide +kernel
theorem dX12_feed_114 : decode cX12_feed 114 = .ok (.goto (-91), 3) := by decide +kernel
theorem dX12_feed_117 : decode cX12_feed 117 = .ok (.aload_n 0, 1) := by decide +kernel
theorem dX12_feed_118 : decode cX12_feed 118 = .ok (.getfield 300, 3) := by decide +kernel
theorem dX12_feed_121 : decode cX12_feed 121 = .ok (.ireturn, 1) := by decide +kernel
theorem dX12_river_0 : decode cX12_river 0 = .ok (.aload_n 0, 1) := by decide +kernel
theorem dX12_river_1 : decode cX12_river 1 = .ok (.iconst 0, 1) := by decide +kernel
theorem dX12_river_2 : decode cX12_river 2 = .ok (.putfield 51, 3) := by decide +kernel
theorem dX12_river_5 : decode cX12_river 5 = .ok (.iload_n 1, 1) := by decide +kernel
theorem dX12_river_6 : decode cX12_river 6 = .ok (.ifCond .lt 11, 3) := by decide +kernel
theorem dX12_river_9 : decode cX12_river 9 = .ok (.iload_n 1, 1) := by decide +kernel
theorem dX12_river_10 : decode cX12_river 10 = .ok (.aload_n 0, 1) := by decide +kernel
theorem dX12_river_11 : decode cX12_river 11 = .ok (.getfield 300, 3) := by decide +kernel
theorem dX12_river_14 : decode cX12_river 14 = .ok (.if_icmp .le 9, 3) := by decide +kernel
theorem dX12_river_17 : decode cX12_river 17 = .ok (.aload_n 0, 1) := by decide +kernel
theorem dX12_river_18 : decode cX12_river 18 = .ok (.iconst 2, 1) := by decide +kernel
theorem dX12_river_19 : decode cX12_river 19 = .ok (.invokevirtual 57, 3) := by decide +kernel
theorem dX12_river_22 : decode cX12_river 22 = .ok (.ireturn, 1) := by decide +kernel
theorem dX12_river_23 : decode cX12_river 23 = .ok (.aload_n 0, 1) := by decide +kernel
theorem dX12_river_24 : decode cX12_river 24 = .ok (.iload_n 1, 1) := by decide +kernel
theorem dX12_river_25 : decode cX12_river 25 = .ok (.putfield 64, 3) := by decide +kernel
theorem dX12_river_28 : decode cX12_river 28 = .ok (.aload_n 0, 1) := by decide +kernel
theorem dX12_river_29 : decode cX12_river 29 = .ok (.iconst 0, 1) := by decide +kernel
theorem dX12_river_30 : decode cX12_river 30 = .ok (.putfield 300, 3) := by decide +kernel
theorem dX12_river_33 : decode cX12_river 33 = .ok (.aload_n 0, 1) := by decide +kernel
theorem dX12_river_34 : decode cX12_river 34 = .ok (.iconst 0, 1) := by decide +kernel
theorem dX12_river_35 : decode cX12_river 35 = .ok (.putfield 82, 3) := by decide +kernel
theorem dX12_river_38 : decode cX12_river 38 = .ok (.aload_n 0, 1) := by decide +kernel
theorem dX12_river_39 : decode cX12_river 39 = .ok (.iconst 0, 1) := by decide +kernel
theorem dX12_river_40 : decode cX12_river 40 = .ok (.putfield 105, 3) := by decide +kernel
theorem dX12_river_43 : decode cX12_river 43 = .ok (.aload_n 0, 1) := by decide +kernel
theorem dX12_river_44 : decode cX12_river 44 = .ok (.new 157, 3) := by decide +kernel
theorem dX12_river_47 : decode cX12_river 47 = .ok (.dup, 1) := by decide +kernel
theorem dX12_river_48 : decode cX12_river 48 = .ok (.invokespecial 303, 3) := by decide +kernel
theorem dX12_river_51 : decode cX12_river 51 = .ok (.putfield 152, 3) := by decide +kernel
theorem dX12_river_54 : decode cX12_river 54 = .ok (.aload_n 0, 1) := by decide +kernel
theorem dX12_river_55 : decode cX12_river 55 = .ok (.iconst 0, 1) := by decide +kernel
theorem dX12_river_56 : decode cX12_river 56 = .ok (.putfield 79, 3) := by decide +kernel
theorem dX12_river_59 : decode cX12_river 59 = .ok (.aload_n 0, 1) := by decide +kernel
theorem dX12_river_60 : decode cX12_river 60 = .ok (.invokevirtual 115, 3) := by decide +kernel
theorem dX12_river_63 : decode cX12_river 63 = .ok (.aload_n 0, 1) := by decide +kernel
theorem dX12_river_64 : decode cX12_river 64 = .ok (.invokevirtual 304, 3) := by decide +kernel
theorem dX12_river_67 : decode cX12_river 67 = .ok (.aload_n 0, 1) := by decide +kernel
theorem dX12_river_68 : decode cX12_river 68 = .ok (.getfield 105, 3) := by decide +kernel
theorem dX12_river_71 : decode cX12_river 71 = .ok (.ifCond .le 18, 3) := by decide +kernel
theorem dX12_river_74 : decode cX12_river 74 = .ok (.aload_n 0, 1) := by decide +kernel
theorem dX12_river_75 : decode cX12_river 75 = .ok (.iconst 4, 1) := by decide +kernel
theorem dX12_river_76 : decode cX12_river 76 = .ok (.putfield 54, 3) := by decide +kernel
theorem dX12_river_79 : decode cX12_river 79 = .ok (.aload_n 0, 1) := by decide +kernel
theorem dX12_river_80 : decode cX12_river 80 = .ok (.aload_n 0, 1) := by decide +kernel
theorem dX12_river_81 : decode cX12_river 81 = .ok (.getfield 108, 3) := by decide +kernel
theorem dX12_river_84 : decode cX12_river 84 = .ok (.putfield 9, 3) := by decide +kernel
theorem dX12_river_87 : decode cX12_river 87 = .ok (.iconst (-1), 1) := by decide +kernel
theorem dX12_river_88 : decode cX12_river 88 = .ok (.ireturn, 1) := by decide +kernel
theorem dX12_river_89 : decode cX12_river 89 = .ok (.aload_n 0, 1) := by decide +kernel
theorem dX12_river_90 : decode cX12_river 90 = .ok (.aload_n 0, 1) := by decide +kernel
theorem dX12_river_91 : decode cX12_river 91 = .ok (.getfield 152, 3) := by decide +kernel
theorem dX12_river_94 : decode cX12_river 94 = .ok (.putfield 307, 3) := by decide +kernel
theorem dX12_river_97 : decode cX12_river 97 = .ok (.iconst 0, 1) := by decide +kernel
theorem dX12_river_98 : decode cX12_river 98 = .ok (.istore_n 2, 1) := by decide +kernel
theorem dX12_river_99 : decode cX12_river 99 = .ok (.iload_n 2, 1) := by decide +kernel
theorem dX12_river_100 : decode cX12_river 100 = .ok (.bipush 16, 2) := by decide +kernel
theorem dX12_river_102 : decode cX12_river 102 = .ok (.if_icmp .ge 16, 3) := by decide +kernel
theorem dX12_river_105 : decode cX12_river 105 = .ok (.aload_n 0, 1) := by decide +kernel
theorem dX12_river_106 : decode cX12_river 106 = .ok (.getfield 17, 3) := by decide +kernel
theorem dX12_river_109 : decode cX12_river 109 = .ok (.iload_n 2, 1) := by decide +kernel
theorem dX12_river_110 : decode cX12_river 110 = .ok (.iconst 0, 1) := by decide +kernel
theorem dX12_river_111 : decode cX12_river 111 = .ok (.iastore, 1) := by decide +kernel
theorem dX12_river_112 : decode cX12_river 112 = .ok (.iinc 2 1, 3) := by decide +kernel
theorem dX12_river_115 : decode cX12_river 115 = .ok (.goto (-16), 3) := by decide +kernel
theorem dX12_river_118 : decode cX12_river 118 = .ok (.iconst 0, 1) := by decide +kernel
theorem dX12_river_119 : decode cX12_river 119 = .ok (.istore_n 2, 1) := by decide +kernel
theorem dX12_river_120 : decode cX12_river 120 = .ok (.iload_n 2, 1) := by decide +kernel
theorem dX12_river_121 : decode cX12_river 121 = .ok (.aload_n 0, 1) := by decide +kernel
theorem dX12_river_122 : decode cX12_river 122 = .ok (.getfield 307, 3) := by decide +kernel
theorem dX12_river_125 : decode cX12_river 125 = .ok (.getfield 255, 3) := by decide +kernel
theorem dX12_river_128 : decode cX12_river 128 = .ok (.if_icmp .ge 36, 3) := by decide +kernel
theorem dX12_river_131 : decode cX12_river 131 = .ok (.aload_n 0, 1) := by decide +kernel
theorem dX12_river_132 : decode cX12_river 132 = .ok (.getfield 17, 3) := by decide +kernel
theorem dX12_river_135 : decode cX12_river 135 = .ok (.iconst 0, 1) := by decide +kernel
theorem dX12_river_136 : decode cX12_river 136 = .ok (.iload_n 2, 1) := by decide +kernel
theorem dX12_river_137 : decode cX12_river 137 = .ok (.iadd, 1) := by decide +kernel
theorem dX12_river_138 : decode cX12_river 138 = .ok (.aload_n 0, 1) := by decide +kernel
theorem dX12_river_139 : decode cX12_river 139 = .ok (.getfield 307, 3) := by decide +kernel
theorem dX12_river_142 : decode cX12_river 142 = .ok (.getfield 273, 3) := by decide +kernel
theorem dX12_river_145 : decode cX12_river 145 = .ok (.iload_n 2, 1) := by decide +kernel
theorem dX12_river_146 : decode cX12_river 146 = .ok (.invokestatic 275, 3) := by decide +kernel
theorem dX12_river_149 : decode cX12_river 149 = .ok (.ifCond .eq 7, 3) := by decide +kernel
theorem dX12_river_152 : decode cX12_river 152 = .ok (.iconst 0, 1) := by decide +kernel
theorem dX12_river_153 : decode cX12_river 153 = .ok (.goto 4, 3) := by decide +kernel
theorem dX12_river_156 : decode cX12_river 156 = .ok (.iconst 1, 1) := by decide +kernel
theorem dX12_river_157 : decode cX12_river 157 = .ok (.iastore, 1) := by decide +kernel
theorem dX12_river_158 : decode cX12_river 158 = .ok (.iinc 2 1, 3) := by decide +kernel
theorem dX12_river_161 : decode cX12_river 161 = .ok (.goto (-41), 3) := by decide +kernel
theorem dX12_river_164 : decode cX12_river 164 = .ok (.aload_n 0, 1) := by decide +kernel
theorem dX12_river_165 : decode cX12_river 165 = .ok (.getfield 17, 3) := by decide +kernel
theorem dX12_river_168 : decode cX12_river 168 = .ok (.bipush 14, 2) := by decide +kernel
theorem dX12_river_170 : decode cX12_river 170 = .ok (.aload_n 0, 1) := by decide +kernel
theorem dX12_river_171 : decode cX12_river 171 = .ok (.getfield 307, 3) := by decide +kernel
theorem dX12_river_174 : decode cX12_river 174 = .ok (.getfield 156, 3) := by decide +kernel
theorem dX12_river_177 : decode cX12_river 177 = .ok (.iastore, 1) := by decide +kernel
theorem dX12_river_178 : decode cX12_river 178 = .ok (.aload_n 0, 1) := by decide +kernel
theorem dX12_river_179 : decode cX12_river 179 = .ok (.iconst 0, 1) := by decide +kernel
theorem dX12_river_180 : decode cX12_river 180 = .ok (.putfield 309, 3) := by decide +kernel
theorem dX12_river_183 : decode cX12_river 183 = .ok (.aload_n 0, 1) := by decide +kernel
theorem dX12_river_184 : decode cX12_river 184 = .ok (.iconst 0, 1) := by decide +kernel
theorem dX12_river_185 : decode cX12_river 185 = .ok (.putfield 312, 3) := by decide +kernel
theorem dX12_river_188 : decode cX12_river 188 = .ok (.aload_n 0, 1) := by decide +kernel
theorem dX12_river_189 : decode cX12_river 189 = .ok (.aload_n 0, 1) := by decide +kernel
theorem dX12_river_190 : decode cX12_river 190 = .ok (.getfield 307, 3) := by decide +kernel
theorem dX12_river_193 : decode cX12_river 193 = .ok (.getfield 188, 3) := by decide +kernel
theorem dX12_river_196 : decode cX12_river 196 = .ok (.invokevirtual 61, 3) := by decide +kernel
theorem dX12_river_199 : decode cX12_river 199 = .ok (.ireturn, 1) := by decide +kernel
theorem dX12_fault_0 : decode cX12_fault 0 = .ok (.aload_n 0, 1) := by decide +kernel
theorem dX12_fault_1 : decode cX12_fault 1 = .ok (.iconst 0, 1) := by decide +kernel
theorem dX12_fault_2 : decode cX12_fault 2 = .ok (.putfield 51, 3) := by decide +kernel
theorem dX12_fault_5 : decode cX12_fault 5 = .ok (.aload_n 0, 1) := by decide +kernel
theorem dX12_fault_6 : decode cX12_fault 6 = .ok (.getfield 105, 3) := by decide +kernel
theorem dX12_fault_9 : decode cX12_fault 9 = .ok (.ireturn, 1) := by decide +kernel
theorem dX12_where_0 : decode cX12_where 0 = .ok (.aload_n 0, 1) := by decide +kernel
theorem dX12_where_1 : decode cX12_where 1 = .ok (.iconst 0, 1) := by decide +kernel
theorem dX12_where_2 : decode cX12_where 2 = .ok (.putfield 51, 3) := by decide +kernel
theorem dX12_where_5 : decode cX12_where 5 = .ok (.aload_n 0, 1) := by decide +kernel
theorem dX12_where_6 : decode cX12_where 6 = .ok (.getfield 9, 3) := by decide +kernel
theorem dX12_where_9 : decode cX12_where 9 = .ok (.ireturn, 1) := by decide +kernel
theorem dX12_tries_0 : decode cX12_tries 0 = .ok (.iconst 0, 1) := by decide +kernel
theorem dX12_tries_1 : decode cX12_tries 1 = .ok (.istore_n 1, 1) := by decide +kernel
theorem dX12_tries_2 : decode cX12_tries 2 = .ok (.iload_n 1, 1) := by decide +kernel
theorem dX12_tries_3 : decode cX12_tries 3 = .ok (.bipush 16, 2) := by decide +kernel
theorem dX12_tries_5 : decode cX12_tries 5 = .ok (.if_icmp .ge 21, 3) := by decide +kernel
theorem dX12_tries_8 : decode cX12_tries 8 = .ok (.aload_n 0, 1) := by decide +kernel
theorem dX12_tries_9 : decode cX12_tries 9 = .ok (.getfield 21, 3) := by decide +kernel
theorem dX12_tries_12 : decode cX12_tries 12 = .ok (.iload_n 1, 1) := by decide +kernel
theorem dX12_tries_13 : decode cX12_tries 13 = .ok (.aload_n 0, 1) := by decide +kernel
theorem dX12_tries_14 : decode cX12_tries 14 = .ok (.getfield 17, 3) := by decide +kernel
theorem dX12_tries_17 : decode cX12_tries 17 = .ok (.iload_n 1, 1) := by decide +kernel
theorem dX12_tries_18 : decode cX12_tries 18 = .ok (.iaload, 1) := by decide +kernel
theorem dX12_tries_19 : decode cX12_tries 19 = .ok (.iastore, 1) := by decide +kernel
theorem dX12_tries_20 : decode cX12_tries 20 = .ok (.iinc 1 1, 3) := by decide +kernel
theorem dX12_tries_23 : decode cX12_tries 23 = .ok (.goto (-21), 3) := by decide +kernel
theorem dX12_tries_26 : decode cX12_tries 26 = .ok (.return_, 1) := by decide +kernel
theorem dX12_isReach_0 : decode cX12_isReach 0 = .ok (.aload_n 0, 1) := by decide +kernel
theorem dX12_isReach_1 : decode cX12_isReach 1 = .ok (.getfield 307, 3) := by decide +kernel
theorem dX12_isReach_4 : decode cX12_isReach 4 = .ok (.ifnull 22, 3) := by decide +kernel
theorem dX12_isReach_7 : decode cX12_isReach 7 = .ok (.iload_n 1, 1) := by decide +kernel
theorem dX12_isReach_8 : decode cX12_isReach 8 = .ok (.ifCond .lt 18, 3) := by decide +kernel
theorem dX12_isReach_11 : decode cX12_isReach 11 = .ok (.iload_n 1, 1) := by decide +kernel
theorem dX12_isReach_12 : decode cX12_isReach 12 = .ok (.aload_n 0, 1) := by decide +kernel
theorem dX12_isReach_13 : decode cX12_isReach 13 = .ok (.getfield 307, 3) := by decide +kernel
theorem dX12_isReach_16 : decode cX12_isReach 16 = .ok (.getfield 188, 3) := by decide +kernel
theorem dX12_isReach_19 : decode cX12_isReach 19 = .ok (.if_icmp .ge 7, 3) := by decide +kernel
theorem dX12_isReach_22 : decode cX12_isReach 22 = .ok (.iconst 1, 1) := by decide +kernel
theorem dX12_isReach_23 : decode cX12_isReach 23 = .ok (.goto 4, 3) := by decide +kernel
theorem dX12_isReach_26 : decode cX12_isReach 26 = .ok (.iconst 0, 1) := by decide +kernel
theorem dX12_isReach_27 : decode cX12_isReach 27 = .ok (.ireturn, 1) := by decide +kernel
theorem dX12_isRope_0 : decode cX12_isRope 0 = .ok (.aload_n 0, 1) := by decide +kernel
theorem dX12_isRope_1 : decode cX12_isRope 1 = .ok (.getfield 307, 3) := by decide +kernel
theorem dX12_isRope_4 : decode cX12_isRope 4 = .ok (.ifnull 22, 3) := by decide +kernel
theorem dX12_isRope_7 : decode cX12_isRope 7 = .ok (.iload_n 1, 1) := by decide +kernel
theorem dX12_isRope_8 : decode cX12_isRope 8 = .ok (.ifCond .lt 18, 3) := by decide +kernel
theorem dX12_isRope_11 : decode cX12_isRope 11 = .ok (.iload_n 1, 1) := by decide +kernel
theorem dX12_isRope_12 : decode cX12_isRope 12 = .ok (.aload_n 0, 1) := by decide +kernel
theorem dX12_isRope_13 : decode cX12_isRope 13 = .ok (.getfield 307, 3) := by decide +kernel
theorem dX12_isRope_16 : decode cX12_isRope 16 = .ok (.getfield 255, 3) := by decide +kernel
theorem dX12_isRope_19 : decode cX12_isRope 19 = .ok (.if_icmp .ge 7, 3) := by decide +kernel
theorem dX12_isRope_22 : decode cX12_isRope 22 = .ok (.iconst 1, 1) := by decide +kernel
theorem dX12_isRope_23 : decode cX12_isRope 23 = .ok (.goto 4, 3) := by decide +kernel
theorem dX12_isRope_26 : decode cX12_isRope 26 = .ok (.iconst 0, 1) := by decide +kernel
theorem dX12_isRope_27 : decode cX12_isRope 27 = .ok (.ireturn, 1) := by decide +kernel
theorem dX12_isBoat_0 : decode cX12_isBoat 0 = .ok (.aload_n 0, 1) := by decide +kernel
theorem dX12_isBoat_1 : decode cX12_isBoat 1 = .ok (.getfield 307, 3) := by decide +kernel
theorem dX12_isBoat_4 : decode cX12_isBoat 4 = .ok (.ifnull 22, 3) := by decide +kernel
theorem dX12_isBoat_7 : decode cX12_isBoat 7 = .ok (.iload_n 1, 1) := by decide +kernel
theorem dX12_isBoat_8 : decode cX12_isBoat 8 = .ok (.ifCond .lt 18, 3) := by decide +kernel
theorem dX12_isBoat_11 : decode cX12_isBoat 11 = .ok (.iload_n 1, 1) := by decide +kernel
theorem dX12_isBoat_12 : decode cX12_isBoat 12 = .ok (.aload_n 0, 1) := by decide +kernel
theorem dX12_isBoat_13 : decode cX12_isBoat 13 = .ok (.getfield 307, 3) := by decide +kernel
theorem dX12_isBoat_16 : decode cX12_isBoat 16 = .ok (.getfield 286, 3) := by decide +kernel
theorem dX12_isBoat_19 : decode cX12_isBoat 19 = .ok (.if_icmp .ge 7, 3) := by decide +kernel
theorem dX12_isBoat_22 : decode cX12_isBoat 22 = .ok (.iconst 1, 1) := by decide +kernel
theorem dX12_isBoat_23 : decode cX12_isBoat 23 = .ok (.goto 4, 3) := by decide +kernel
theorem dX12_isBoat_26 : decode cX12_isBoat 26 = .ok (.iconst 0, 1) := by decide +kernel
theorem dX12_isBoat_27 : decode cX12_isBoat 27 = .ok (.ireturn, 1) := by decide +kernel
theorem dX12_ropesIn_0 : decode cX12_ropesIn 0 = .ok (.iconst 0, 1) := by decide +kernel
theorem dX12_ropesIn_1 : decode cX12_ropesIn 1 = .ok (.istore_n 3, 1) := by decide +kernel
theorem dX12_ropesIn_2 : decode cX12_ropesIn 2 = .ok (.iconst 0, 1) := by decide +kernel
theorem dX12_ropesIn_3 : decode cX12_ropesIn 3 = .ok (.istore 4, 2) := by decide +kernel
theorem dX12_ropesIn_5 : decode cX12_ropesIn 5 = .ok (.iload 4, 2) := by decide +kernel
theorem dX12_ropesIn_7 : decode cX12_ropesIn 7 = .ok (.aload_n 0, 1) := by decide +kernel
theorem dX12_ropesIn_8 : decode cX12_ropesIn 8 = .ok (.getfield 307, 3) := by decide +kernel
theorem dX12_ropesIn_11 : decode cX12_ropesIn 11 = .ok (.getfield 255, 3) := by decide +kernel
theorem dX12_ropesIn_14 : decode cX12_ropesIn 14 = .ok (.if_icmp .ge 30, 3) := by decide +kernel
theorem dX12_ropesIn_17 : decode cX12_ropesIn 17 = .ok (.iload_n 3, 1) := by decide +kernel
theorem dX12_ropesIn_18 : decode cX12_ropesIn 18 = .ok (.aload_n 1, 1) := by decide +kernel
theorem dX12_ropesIn_19 : decode cX12_ropesIn 19 = .ok (.iconst 0, 1) := by decide +kernel
theorem dX12_ropesIn_20 : decode cX12_ropesIn 20 = .ok (.iload 4, 2) := by decide +kernel
theorem dX12_ropesIn_22 : decode cX12_ropesIn 22 = .ok (.iadd, 1) := by decide +kernel
theorem dX12_ropesIn_23 : decode cX12_ropesIn 23 = .ok (.iaload, 1) := by decide +kernel
theorem dX12_ropesIn_24 : decode cX12_ropesIn 24 = .ok (.iload_n 2, 1) := by decide +kernel
theorem dX12_ropesIn_25 : decode cX12_ropesIn 25 = .ok (.if_icmp .ne 10, 3) := by decide +kernel
theorem dX12_ropesIn_28 : decode cX12_ropesIn 28 = .ok (.iconst 1, 1) := by decide +kernel
theorem dX12_ropesIn_29 : decode cX12_ropesIn 29 = .ok (.iload 4, 2) := by decide +kernel
theorem dX12_ropesIn_31 : decode cX12_ropesIn 31 = .ok (.ishl, 1) := by decide +kernel
theorem dX12_ropesIn_32 : decode cX12_ropesIn 32 = .ok (.goto 4, 3) := by decide +kernel
theorem dX12_ropesIn_35 : decode cX12_ropesIn 35 = .ok (.iconst 0, 1) := by decide +kernel
theorem dX12_ropesIn_36 : decode cX12_ropesIn 36 = .ok (.ior, 1) := by decide +kernel
theorem dX12_ropesIn_37 : decode cX12_ropesIn 37 = .ok (.istore_n 3, 1) := by decide +kernel
theorem dX12_ropesIn_38 : decode cX12_ropesIn 38 = .ok (.iinc 4 1, 3) := by decide +kernel
theorem dX12_ropesIn_41 : decode cX12_ropesIn 41 = .ok (.goto (-36), 3) := by decide +kernel
theorem dX12_ropesIn_44 : decode cX12_ropesIn 44 = .ok (.iload_n 3, 1) := by decide +kernel
theorem dX12_ropesIn_45 : decode cX12_ropesIn 45 = .ok (.ireturn, 1) := by decide +kernel
theorem dX12_lacedNow_0 : decode cX12_lacedNow 0 = .ok (.aload_n 0, 1) := by decide +kernel
theorem dX12_lacedNow_1 : decode cX12_lacedNow 1 = .ok (.aload_n 0, 1) := by decide +kernel
theorem dX12_lacedNow_2 : decode cX12_lacedNow 2 = .ok (.getfield 17, 3) := by decide +kernel
theorem dX12_lacedNow_5 : decode cX12_lacedNow 5 = .ok (.iconst 1, 1) := by decide +kernel
theorem dX12_lacedNow_6 : decode cX12_lacedNow 6 = .ok (.invokevirtual 315, 3) := by decide +kernel
theorem dX12_lacedNow_9 : decode cX12_lacedNow 9 = .ok (.ireturn, 1) := by decide +kernel
theorem dX12_widthBy_0 : decode cX12_widthBy 0 = .ok (.aload_n 0, 1) := by decide +kernel
theorem dX12_widthBy_1 : decode cX12_widthBy 1 = .ok (.getfield 307, 3) := by decide +kernel
theorem dX12_widthBy_4 : decode cX12_widthBy 4 = .ok (.getfield 249, 3) := by decide +kernel
theorem dX12_widthBy_7 : decode cX12_widthBy 7 = .ok (.iload_n 1, 1) := by decide +kernel
theorem dX12_widthBy_8 : decode cX12_widthBy 8 = .ok (.iaload, 1) := by decide +kernel
theorem dX12_widthBy_9 : decode cX12_widthBy 9 = .ok (.istore_n 3, 1) := by decide +kernel
theorem dX12_widthBy_10 : decode cX12_widthBy 10 = .ok (.iconst 0, 1) := by decide +kernel
theorem dX12_widthBy_11 : decode cX12_widthBy 11 = .ok (.istore 4, 2) := by decide +kernel
theorem dX12_widthBy_13 : decode cX12_widthBy 13 = .ok (.iload 4, 2) := by decide +kernel
theorem dX12_widthBy_15 : decode cX12_widthBy 15 = .ok (.aload_n 0, 1) := by decide +kernel
theorem dX12_widthBy_16 : decode cX12_widthBy 16 = .ok (.getfield 307, 3) := by decide +kernel
theorem dX12_widthBy_19 : decode cX12_widthBy 19 = .ok (.getfield 255, 3) := by decide +kernel
theorem dX12_widthBy_22 : decode cX12_widthBy 22 = .ok (.if_icmp .ge 45, 3) := by decide +kernel
theorem dX12_widthBy_25 : decode cX12_widthBy 25 = .ok (.iload_n 2, 1) := by decide +kernel
theorem dX12_widthBy_26 : decode cX12_widthBy 26 = .ok (.iload 4, 2) := by decide +kernel
theorem dX12_widthBy_28 : decode cX12_widthBy 28 = .ok (.invokestatic 275, 3) := by decide +kernel
theorem dX12_widthBy_31 : decode cX12_widthBy 31 = .ok (.ifCond .eq 30, 3) := by decide +kernel
theorem dX12_widthBy_34 : decode cX12_widthBy 34 = .ok (.aload_n 0, 1) := by decide +kernel
theorem dX12_widthBy_35 : decode cX12_widthBy 35 = .ok (.getfield 307, 3) := by decide +kernel
theorem dX12_widthBy_38 : decode cX12_widthBy 38 = .ok (.getfield 267, 3) := by decide +kernel
theorem dX12_widthBy_41 : decode cX12_widthBy 41 = .ok (.iload 4, 2) := by decide +kernel
theorem dX12_widthBy_43 : decode cX12_widthBy 43 = .ok (.iaload, 1) := by decide +kernel
theorem dX12_widthBy_44 : decode cX12_widthBy 44 = .ok (.iload_n 1, 1) := by decide +kernel
theorem dX12_widthBy_45 : decode cX12_widthBy 45 = .ok (.if_icmp .ne 16, 3) := by decide +kernel
theorem dX12_widthBy_48 : decode cX12_widthBy 48 = .ok (.iload_n 3, 1) := by decide +kernel
theorem dX12_widthBy_49 : decode cX12_widthBy 49 = .ok (.aload_n 0, 1) := by decide +kernel
theorem dX12_widthBy_50 : decode cX12_widthBy 50 = .ok (.getfield 307, 3) := by decide +kernel
theorem dX12_widthBy_53 : decode cX12_widthBy 53 = .ok (.getfield 269, 3) := by decide +kernel
theorem dX12_widthBy_56 : decode cX12_widthBy 56 = .ok (.iload 4, 2) := by decide +kernel
theorem dX12_widthBy_58 : decode cX12_widthBy 58 = .ok (.iaload, 1) := by decide +kernel
theorem dX12_widthBy_59 : decode cX12_widthBy 59 = .ok (.isub, 1) := by decide +kernel
theorem dX12_widthBy_60 : decode cX12_widthBy 60 = .ok (.istore_n 3, 1) := by decide +kernel
theorem dX12_widthBy_61 : decode cX12_widthBy 61 = .ok (.iinc 4 1, 3) := by decide +kernel
theorem dX12_widthBy_64 : decode cX12_widthBy 64 = .ok (.goto (-51), 3) := by decide +kernel
theorem dX12_widthBy_67 : decode cX12_widthBy 67 = .ok (.iload_n 3, 1) := by decide +kernel
theorem dX12_widthBy_68 : decode cX12_widthBy 68 = .ok (.ireturn, 1) := by decide +kernel
theorem dX12_runs_0 : decode cX12_runs 0 = .ok (.aload_n 0, 1) := by decide +kernel
theorem dX12_runs_1 : decode cX12_runs 1 = .ok (.iload_n 1, 1) := by decide +kernel
theorem dX12_runs_2 : decode cX12_runs 2 = .ok (.iload_n 2, 1) := by decide +kernel
theorem dX12_runs_3 : decode cX12_runs 3 = .ok (.iconst 0, 1) := by decide +kernel
theorem dX12_runs_4 : decode cX12_runs 4 = .ok (.iconst 0, 1) := by decide +kernel
theorem dX12_runs_5 : decode cX12_runs 5 = .ok (.invokevirtual 319, 3) := by decide +kernel
theorem dX12_runs_8 : decode cX12_runs 8 = .ok (.return_, 1) := by decide +kernel
theorem dX12_runsPulled_0 : decode cX12_runsPulled 0 = .ok (.aload_n 0, 1) := by decide +kernel
theorem dX12_runsPulled_1 : decode cX12_runsPulled 1 = .ok (.iload_n 2, 1) := by decide +kernel
theorem dX12_runsPulled_2 : decode cX12_runsPulled 2 = .ok (.putfield 323, 3) := by decide +kernel
theorem dX12_runsPulled_5 : decode cX12_runsPulled 5 = .ok (.iconst 0, 1) := by decide +kernel
theorem dX12_runsPulled_6 : decode cX12_runsPulled 6 = .ok (.istore 5, 2) := by decide +kernel
theorem dX12_runsPulled_8 : decode cX12_runsPulled 8 = .ok (.iload 5, 2) := by decide +kernel
theorem dX12_runsPulled_10 : decode cX12_runsPulled 10 = .ok (.aload_n 0, 1) := by decide +kernel
theorem dX12_runsPulled_11 : decode cX12_runsPulled 11 = .ok (.getfield 307, 3) := by decide +kernel
theorem dX12_runsPulled_14 : decode cX12_runsPulled 14 = .ok (.getfield 188, 3) := by decide +kernel
theorem dX12_runsPulled_17 : decode cX12_runsPulled 17 = .ok (.if_icmp .ge 206, 3) := by decide +kernel
theorem dX12_runsPulled_20 : decode cX12_runsPulled 20 = .ok (.aload_n 0, 1) := by decide +kernel
theorem dX12_runsPulled_21 : decode cX12_runsPulled 21 = .ok (.iload 5, 2) := by decide +kernel
theorem dX12_runsPulled_23 : decode cX12_runsPulled 23 = .ok (.iload_n 1, 1) := by decide +kernel
theorem dX12_runsPulled_24 : decode cX12_runsPulled 24 = .ok (.invokevirtual 326, 3) := by decide +kernel
theorem dX12_runsPulled_27 : decode cX12_runsPulled 27 = .ok (.iload 5, 2) := by decide +kernel
theorem dX12_runsPulled_29 : decode cX12_runsPulled 29 = .ok (.ifCond .ne 7, 3) := by decide +kernel
theorem dX12_runsPulled_32 : decode cX12_runsPulled 32 = .ok (.iload_n 3, 1) := by decide +kernel
theorem dX12_runsPulled_33 : decode cX12_runsPulled 33 = .ok (.goto 4, 3) := by decide +kernel
theorem dX12_runsPulled_36 : decode cX12_runsPulled 36 = .ok (.iconst 0, 1) := by decide +kernel
theorem dX12_runsPulled_37 : decode cX12_runsPulled 37 = .ok (.isub, 1) := by decide +kernel
theorem dX12_runsPulled_38 : decode cX12_runsPulled 38 = .ok (.iload 5, 2) := by decide +kernel
theorem dX12_runsPulled_40 : decode cX12_runsPulled 40 = .ok (.aload_n 0, 1) := by decide +kernel
theorem dX12_runsPulled_41 : decode cX12_runsPulled 41 = .ok (.getfield 307, 3) := by decide +kernel
theorem dX12_runsPulled_44 : decode cX12_runsPulled 44 = .ok (.getfield 188, 3) := by decide +kernel
theorem dX12_runsPulled_47 : decode cX12_runsPulled 47 = .ok (.iconst 1, 1) := by decide +kernel
theorem dX12_runsPulled_48 : decode cX12_runsPulled 48 = .ok (.isub, 1) := by decide +kernel
theorem dX12_runsPulled_49 : decode cX12_runsPulled 49 = .ok (.if_icmp .ne 8, 3) := by decide +kernel
theorem dX12_runsPulled_52 : decode cX12_runsPulled 52 = .ok (.iload 4, 2) := by decide +kernel
theorem dX12_runsPulled_54 : decode cX12_runsPulled 54 = .ok (.goto 4, 3) := by decide +kernel
theorem dX12_runsPulled_57 : decode cX12_runsPulled 57 = .ok (.iconst 0, 1) := by decide +kernel
theorem dX12_runsPulled_58 : decode cX12_runsPulled 58 = .ok (.isub, 1) := by decide +kernel
theorem dX12_runsPulled_59 : decode cX12_runsPulled 59 = .ok (.istore 6, 2) := by decide +kernel
theorem dX12_runsPulled_61 : decode cX12_runsPulled 61 = .ok (.aload_n 0, 1) := by decide +kernel
theorem dX12_runsPulled_62 : decode cX12_runsPulled 62 = .ok (.getfield 30, 3) := by decide +kernel
theorem dX12_runsPulled_65 : decode cX12_runsPulled 65 = .ok (.iload 5, 2) := by decide +kernel
theorem dX12_runsPulled_67 : decode cX12_runsPulled 67 = .ok (.iload 6, 2) := by decide +kernel
theorem dX12_runsPulled_69 : decode cX12_runsPulled 69 = .ok (.iconst 1, 1) := by decide +kernel
theorem dX12_runsPulled_70 : decode cX12_runsPulled 70 = .ok (.if_icmp .le 8, 3) := by decide +kernel
theorem dX12_runsPulled_73 : decode cX12_runsPulled 73 = .ok (.iload 6, 2) := by decide +kernel
theorem dX12_runsPulled_75 : decode cX12_runsPulled 75 = .ok (.goto 4, 3) := by decide +kernel
theorem dX12_runsPulled_78 : decode cX12_runsPulled 78 = .ok (.iconst 1, 1) := by decide +kernel
theorem dX12_runsPulled_79 : decode cX12_runsPulled 79 = .ok (.iastore, 1) := by decide +kernel
theorem dX12_runsPulled_80 : decode cX12_runsPulled 80 = .ok (.aload_n 0, 1) := by decide +kernel
theorem dX12_runsPulled_81 : decode cX12_runsPulled 81 = .ok (.getfield 33, 3) := by decide +kernel
theorem dX12_runsPulled_84 : decode cX12_runsPulled 84 = .ok (.iload 5, 2) := by decide +kernel
theorem dX12_runsPulled_86 : decode cX12_runsPulled 86 = .ok (.aload_n 0, 1) := by decide +kernel
theorem dX12_runsPulled_87 : decode cX12_runsPulled 87 = .ok (.getfield 323, 3) := by decide +kernel
theorem dX12_runsPulled_90 : decode cX12_runsPulled 90 = .ok (.iastore, 1) := by decide +kernel
theorem dX12_runsPulled_91 : decode cX12_runsPulled 91 = .ok (.aload_n 0, 1) := by decide +kernel
theorem dX12_runsPulled_92 : decode cX12_runsPulled 92 = .ok (.getfield 36, 3) := by decide +kernel
theorem dX12_runsPulled_95 : decode cX12_runsPulled 95 = .ok (.iload 5, 2) := by decide +kernel
theorem dX12_runsPulled_97 : decode cX12_runsPulled 97 = .ok (.aload_n 0, 1) := by decide +kernel
theorem dX12_runsPulled_98 : decode cX12_runsPulled 98 = .ok (.getfield 323, 3) := by decide +kernel
theorem dX12_runsPulled_101 : decode cX12_runsPulled 101 = .ok (.aload_n 0, 1) := by decide +kernel
theorem dX12_runsPulled_102 : decode cX12_runsPulled 102 = .ok (.getfield 30, 3) := by decide +kernel
theorem dX12_runsPulled_105 : decode cX12_runsPulled 105 = .ok (.iload 5, 2) := by decide +kernel
theorem dX12_runsPulled_107 : decode cX12_runsPulled 107 = .ok (.iaload, 1) := by decide +kernel
theorem dX12_runsPulled_108 : decode cX12_runsPulled 108 = .ok (.idiv, 1) := by decide +kernel
theorem dX12_runsPulled_109 : decode cX12_runsPulled 109 = .ok (.iastore, 1) := by decide +kernel
theorem dX12_runsPulled_110 : decode cX12_runsPulled 110 = .ok (.aload_n 0, 1) := by decide +kernel
theorem dX12_runsPulled_111 : decode cX12_runsPulled 111 = .ok (.getfield 39, 3) := by decide +kernel
theorem dX12_runsPulled_114 : decode cX12_runsPulled 114 = .ok (.iload 5, 2) := by decide +kernel
theorem dX12_runsPulled_116 : decode cX12_runsPulled 116 = .ok (.aload_n 0, 1) := by decide +kernel
theorem dX12_runsPulled_117 : decode cX12_runsPulled 117 = .ok (.getfield 36, 3) := by decide +kernel
theorem dX12_runsPulled_120 : decode cX12_runsPulled 120 = .ok (.iload 5, 2) := by decide +kernel
theorem dX12_runsPulled_122 : decode cX12_runsPulled 122 = .ok (.iaload, 1) := by decide +kernel
theorem dX12_runsPulled_123 : decode cX12_runsPulled 123 = .ok (.aload_n 0, 1) := by decide +kernel
theorem dX12_runsPulled_124 : decode cX12_runsPulled 124 = .ok (.getfield 307, 3) := by decide +kernel
theorem dX12_runsPulled_127 : decode cX12_runsPulled 127 = .ok (.getfield 251, 3) := by decide +kernel
theorem dX12_runsPulled_130 : decode cX12_runsPulled 130 = .ok (.iload 5, 2) := by decide +kernel
theorem dX12_runsPulled_132 : decode cX12_runsPulled 132 = .ok (.iaload, 1) := by decide +kernel
theorem dX12_runsPulled_133 : decode cX12_runsPulled 133 = .ok (.if_icmp .le 32, 3) := by decide +kernel
theorem dX12_runsPulled_136 : decode cX12_runsPulled 136 = .ok (.aload_n 0, 1) := by decide +kernel
theorem dX12_runsPulled_137 : decode cX12_runsPulled 137 = .ok (.getfield 36, 3) := by decide +kernel
theorem dX12_runsPulled_140 : decode cX12_runsPulled 140 = .ok (.iload 5, 2) := by decide +kernel
theorem dX12_runsPulled_142 : decode cX12_runsPulled 142 = .ok (.iaload, 1) := by decide +kernel
theorem dX12_runsPulled_143 : decode cX12_runsPulled 143 = .ok (.aload_n 0, 1) := by decide +kernel
theorem dX12_runsPulled_144 : decode cX12_runsPulled 144 = .ok (.getfield 307, 3) := by decide +kernel
theorem dX12_runsPulled_147 : decode cX12_runsPulled 147 = .ok (.getfield 251, 3) := by decide +kernel
theorem dX12_runsPulled_150 : decode cX12_runsPulled 150 = .ok (.iload 5, 2) := by decide +kernel
theorem dX12_runsPulled_152 : decode cX12_runsPulled 152 = .ok (.iaload, 1) := by decide +kernel
theorem dX12_runsPulled_153 : decode cX12_runsPulled 153 = .ok (.isub, 1) := by decide +kernel
theorem dX12_runsPulled_154 : decode cX12_runsPulled 154 = .ok (.aload_n 0, 1) := by decide +kernel
theorem dX12_runsPulled_155 : decode cX12_runsPulled 155 = .ok (.getfield 30, 3) := by decide +kernel
theorem dX12_runsPulled_158 : decode cX12_runsPulled 158 = .ok (.iload 5, 2) := by decide +kernel
theorem dX12_runsPulled_160 : decode cX12_runsPulled 160 = .ok (.iaload, 1) := by decide +kernel
theorem dX12_runsPulled_161 : decode cX12_runsPulled 161 = .ok (.imul, 1) := by decide +kernel
theorem dX12_runsPulled_162 : decode cX12_runsPulled 162 = .ok (.goto 4, 3) := by decide +kernel
theorem dX12_runsPulled_165 : decode cX12_runsPulled 165 = .ok (.iconst 0, 1) := by decide +kernel
theorem dX12_runsPulled_166 : decode cX12_runsPulled 166 = .ok (.iastore, 1) := by decide +kernel
theorem dX12_runsPulled_167 : decode cX12_runsPulled 167 = .ok (.aload_n 0, 1) := by decide +kernel
theorem dX12_runsPulled_168 : decode cX12_runsPulled 168 = .ok (.dup, 1) := by decide +kernel
theorem dX12_runsPulled_169 : decode cX12_runsPulled 169 = .ok (.getfield 323, 3) := by decide +kernel
theorem dX12_runsPulled_172 : decode cX12_runsPulled 172 = .ok (.aload_n 0, 1) := by decide +kernel
theorem dX12_runsPulled_173 : decode cX12_runsPulled 173 = .ok (.getfield 307, 3) := by decide +kernel
theorem dX12_runsPulled_176 : decode cX12_runsPulled 176 = .ok (.getfield 246, 3) := by decide +kernel
theorem dX12_runsPulled_179 : decode cX12_runsPulled 179 = .ok (.iload 5, 2) := by decide +kernel
theorem dX12_runsPulled_181 : decode cX12_runsPulled 181 = .ok (.iaload, 1) := by decide +kernel
theorem dX12_runsPulled_182 : decode cX12_runsPulled 182 = .ok (.iconst 1, 1) := by decide +kernel
theorem dX12_runsPulled_183 : decode cX12_runsPulled 183 = .ok (.if_icmp .ne 23, 3) := by decide +kernel
theorem dX12_runsPulled_186 : decode cX12_runsPulled 186 = .ok (.aload_n 0, 1) := by decide +kernel
theorem dX12_runsPulled_187 : decode cX12_runsPulled 187 = .ok (.getfield 39, 3) := by decide +kernel
theorem dX12_runsPulled_190 : decode cX12_runsPulled 190 = .ok (.iload 5, 2) := by decide +kernel
theorem dX12_runsPulled_192 : decode cX12_runsPulled 192 = .ok (.iaload, 1) := by decide +kernel
theorem dX12_runsPulled_193 : decode cX12_runsPulled 193 = .ok (.aload_n 0, 1) := by decide +kernel
theorem dX12_runsPulled_194 : decode cX12_runsPulled 194 = .ok (.getfield 39, 3) := by decide +kernel
theorem dX12_runsPulled_197 : decode cX12_runsPulled 197 = .ok (.iload 5, 2) := by decide +kernel
theorem dX12_runsPulled_199 : decode cX12_runsPulled 199 = .ok (.iaload, 1) := by decide +kernel
theorem dX12_runsPulled_200 : decode cX12_runsPulled 200 = .ok (.iconst 2, 1) := by decide +kernel
theorem dX12_runsPulled_201 : decode cX12_runsPulled 201 = .ok (.idiv, 1) := by decide +kernel
theorem dX12_runsPulled_202 : decode cX12_runsPulled 202 = .ok (.isub, 1) := by decide +kernel
theorem dX12_runsPulled_203 : decode cX12_runsPulled 203 = .ok (.goto 10, 3) := by decide +kernel
theorem dX12_runsPulled_206 : decode cX12_runsPulled 206 = .ok (.aload_n 0, 1) := by decide +kernel
theorem dX12_runsPulled_207 : decode cX12_runsPulled 207 = .ok (.getfield 39, 3) := by decide +kernel
theorem dX12_runsPulled_210 : decode cX12_runsPulled 210 = .ok (.iload 5, 2) := by decide +kernel
theorem dX12_runsPulled_212 : decode cX12_runsPulled 212 = .ok (.iaload, 1) := by decide +kernel
theorem dX12_runsPulled_213 : decode cX12_runsPulled 213 = .ok (.isub, 1) := by decide +kernel
theorem dX12_runsPulled_214 : decode cX12_runsPulled 214 = .ok (.putfield 323, 3) := by decide +kernel
theorem dX12_runsPulled_217 : decode cX12_runsPulled 217 = .ok (.iinc 5 1, 3) := by decide +kernel
theorem dX12_runsPulled_220 : decode cX12_runsPulled 220 = .ok (.goto (-212), 3) := by decide +kernel
theorem dX12_runsPulled_223 : decode cX12_runsPulled 223 = .ok (.return_, 1) := by decide +kernel
theorem dX12_runsNow_0 : decode cX12_runsNow 0 = .ok (.aload_n 0, 1) := by decide +kernel
theorem dX12_runsNow_1 : decode cX12_runsNow 1 = .ok (.aload_n 0, 1) := by decide +kernel
theorem dX12_runsNow_2 : decode cX12_runsNow 2 = .ok (.invokevirtual 329, 3) := by decide +kernel
theorem dX12_runsNow_5 : decode cX12_runsNow 5 = .ok (.aload_n 0, 1) := by decide +kernel
theorem dX12_runsNow_6 : decode cX12_runsNow 6 = .ok (.getfield 17, 3) := by decide +kernel
theorem dX12_runsNow_9 : decode cX12_runsNow 9 = .ok (.bipush 14, 2) := by decide +kernel
theorem dX12_runsNow_11 : decode cX12_runsNow 11 = .ok (.iaload, 1) := by decide +kernel
theorem dX12_runsNow_12 : decode cX12_runsNow 12 = .ok (.invokevirtual 332, 3) := by decide +kernel
theorem dX12_runsNow_15 : decode cX12_runsNow 15 = .ok (.return_, 1) := by decide +kernel
theorem dX12_harmAt_0 : decode cX12_harmAt 0 = .ok (.aload_n 0, 1) := by decide +kernel
theorem dX12_harmAt_1 : decode cX12_harmAt 1 = .ok (.getfield 307, 3) := by decide +kernel
theorem dX12_harmAt_4 : decode cX12_harmAt 4 = .ok (.getfield 246, 3) := by decide +kernel
theorem dX12_harmAt_7 : decode cX12_harmAt 7 = .ok (.iload_n 1, 1) := by decide +kernel
theorem dX12_harmAt_8 : decode cX12_harmAt 8 = .ok (.iaload, 1) := by decide +kernel
theorem dX12_harmAt_9 : decode cX12_harmAt 9 = .ok (.tableswitch 61 1 3 #[27, 29, 38], 27) := by decide +kernel
theorem dX12_harmAt_36 : decode cX12_harmAt 36 = .ok (.iconst 0, 1) := by decide +kernel
theorem dX12_harmAt_37 : decode cX12_harmAt 37 = .ok (.ireturn, 1) := by decide +kernel
theorem dX12_harmAt_38 : decode cX12_harmAt 38 = .ok (.iconst 2, 1) := by decide +kernel
theorem dX12_harmAt_39 : decode cX12_harmAt 39 = .ok (.aload_n 0, 1) := by decide +kernel
theorem dX12_harmAt_40 : decode cX12_harmAt 40 = .ok (.getfield 39, 3) := by decide +kernel
theorem dX12_harmAt_43 : decode cX12_harmAt 43 = .ok (.iload_n 1, 1) := by decide +kernel
theorem dX12_harmAt_44 : decode cX12_harmAt 44 = .ok (.iaload, 1) := by decide +kernel
theorem dX12_harmAt_45 : decode cX12_harmAt 45 = .ok (.imul, 1) := by decide +kernel
theorem dX12_harmAt_46 : decode cX12_harmAt 46 = .ok (.ireturn, 1) := by decide +kernel
theorem dX12_harmAt_47 : decode cX12_harmAt 47 = .ok (.aload_n 0, 1) := by decide +kernel
theorem dX12_harmAt_48 : decode cX12_harmAt 48 = .ok (.getfield 39, 3) := by decide +kernel
theorem dX12_harmAt_51 : decode cX12_harmAt 51 = .ok (.iload_n 1, 1) := by decide +kernel
theorem dX12_harmAt_52 : decode cX12_harmAt 52 = .ok (.iaload, 1) := by decide +kernel
theorem dX12_harmAt_53 : decode cX12_harmAt 53 = .ok (.ifCond .le 15, 3) := by decide +kernel
theorem dX12_harmAt_56 : decode cX12_harmAt 56 = .ok (.aload_n 0, 1) := by decide +kernel
theorem dX12_harmAt_57 : decode cX12_harmAt 57 = .ok (.getfield 39, 3) := by decide +kernel
theorem dX12_harmAt_60 : decode cX12_harmAt 60 = .ok (.iload_n 1, 1) := by decide +kernel
theorem dX12_harmAt_61 : decode cX12_harmAt 61 = .ok (.iaload, 1) := by decide +kernel
theorem dX12_harmAt_62 : decode cX12_harmAt 62 = .ok (.bipush 20, 2) := by decide +kernel
theorem dX12_harmAt_64 : decode cX12_harmAt 64 = .ok (.iadd, 1) := by decide +kernel
theorem dX12_harmAt_65 : decode cX12_harmAt 65 = .ok (.goto 4, 3) := by decide +kernel
theorem dX12_harmAt_68 : decode cX12_harmAt 68 = .ok (.iconst 0, 1) := by decide +kernel
theorem dX12_harmAt_69 : decode cX12_harmAt 69 = .ok (.ireturn, 1) := by decide +kernel
theorem dX12_harmAt_70 : decode cX12_harmAt 70 = .ok (.aload_n 0, 1) := by decide +kernel
theorem dX12_harmAt_71 : decode cX12_harmAt 71 = .ok (.getfield 39, 3) := by decide +kernel
theorem dX12_harmAt_74 : decode cX12_harmAt 74 = .ok (.iload_n 1, 1) := by decide +kernel
theorem dX12_harmAt_75 : decode cX12_harmAt 75 = .ok (.iaload, 1) := by decide +kernel
theorem dX12_harmAt_76 : decode cX12_harmAt 76 = .ok (.ireturn, 1) := by decide +kernel
theorem dX12_allHarm_0 : decode cX12_allHarm 0 = .ok (.iconst 0, 1) := by decide +kernel
theorem dX12_allHarm_1 : decode cX12_allHarm 1 = .ok (.istore_n 1, 1) := by decide +kernel
theorem dX12_allHarm_2 : decode cX12_allHarm 2 = .ok (.iconst 0, 1) := by decide +kernel
theorem dX12_allHarm_3 : decode cX12_allHarm 3 = .ok (.istore_n 2, 1) := by decide +kernel
theorem dX12_allHarm_4 : decode cX12_allHarm 4 = .ok (.iload_n 2, 1) := by decide +kernel
theorem dX12_allHarm_5 : decode cX12_allHarm 5 = .ok (.aload_n 0, 1) := by decide +kernel
theorem dX12_allHarm_6 : decode cX12_allHarm 6 = .ok (.getfield 307, 3) := by decide +kernel
theorem dX12_allHarm_9 : decode cX12_allHarm 9 = .ok (.getfield 188, 3) := by decide +kernel
theorem dX12_allHarm_12 : decode cX12_allHarm 12 = .ok (.if_icmp .ge 17, 3) := by decide +kernel
theorem dX12_allHarm_15 : decode cX12_allHarm 15 = .ok (.iload_n 1, 1) := by decide +kernel
theorem dX12_allHarm_16 : decode cX12_allHarm 16 = .ok (.aload_n 0, 1) := by decide +kernel
theorem dX12_allHarm_17 : decode cX12_allHarm 17 = .ok (.iload_n 2, 1) := by decide +kernel
theorem dX12_allHarm_18 : decode cX12_allHarm 18 = .ok (.invokevirtual 335, 3) := by decide +kernel
theorem dX12_allHarm_21 : decode cX12_allHarm 21 = .ok (.iadd, 1) := by decide +kernel
theorem dX12_allHarm_22 : decode cX12_allHarm 22 = .ok (.istore_n 1, 1) := by decide +kernel
theorem dX12_allHarm_23 : decode cX12_allHarm 23 = .ok (.iinc 2 1, 3) := by decide +kernel
theorem dX12_allHarm_26 : decode cX12_allHarm 26 = .ok (.goto (-22), 3) := by decide +kernel
theorem dX12_allHarm_29 : decode cX12_allHarm 29 = .ok (.iload_n 1, 1) := by decide +kernel
theorem dX12_allHarm_30 : decode cX12_allHarm 30 = .ok (.ireturn, 1) := by decide +kernel
theorem dX12_spilling_0 : decode cX12_spilling 0 = .ok (.iconst 0, 1) := by decide +kernel
theorem dX12_spilling_1 : decode cX12_spilling 1 = .ok (.istore_n 1, 1) := by decide +kernel
theorem dX12_spilling_2 : decode cX12_spilling 2 = .ok (.iconst 0, 1) := by decide +kernel
theorem dX12_spilling_3 : decode cX12_spilling 3 = .ok (.istore_n 2, 1) := by decide +kernel
theorem dX12_spilling_4 : decode cX12_spilling 4 = .ok (.iload_n 2, 1) := by decide +kernel
theorem dX12_spilling_5 : decode cX12_spilling 5 = .ok (.aload_n 0, 1) := by decide +kernel
theorem dX12_spilling_6 : decode cX12_spilling 6 = .ok (.getfield 307, 3) := by decide +kernel
theorem dX12_spilling_9 : decode cX12_spilling 9 = .ok (.getfield 188, 3) := by decide +kernel
theorem dX12_spilling_12 : decode cX12_spilling 12 = .ok (.if_icmp .ge 28, 3) := by decide +kernel
theorem dX12_spilling_15 : decode cX12_spilling 15 = .ok (.iload_n 1, 1) := by decide +kernel
theorem dX12_spilling_16 : decode cX12_spilling 16 = .ok (.aload_n 0, 1) := by decide +kernel
theorem dX12_spilling_17 : decode cX12_spilling 17 = .ok (.getfield 39, 3) := by decide +kernel
theorem dX12_spilling_20 : decode cX12_spilling 20 = .ok (.iload_n 2, 1) := by decide +kernel
theorem dX12_spilling_21 : decode cX12_spilling 21 = .ok (.iaload, 1) := by decide +kernel
theorem dX12_spilling_22 : decode cX12_spilling 22 = .ok (.ifCond .le 9, 3) := by decide +kernel
theorem dX12_spilling_25 : decode cX12_spilling 25 = .ok (.iconst 1, 1) := by decide +kernel
theorem dX12_spilling_26 : decode cX12_spilling 26 = .ok (.iload_n 2, 1) := by decide +kernel
theorem dX12_spilling_27 : decode cX12_spilling 27 = .ok (.ishl, 1) := by decide +kernel
theorem dX12_spilling_28 : decode cX12_spilling 28 = .ok (.goto 4, 3) := by decide +kernel
theorem dX12_spilling_31 : decode cX12_spilling 31 = .ok (.iconst 0, 1) := by decide +kernel
theorem dX12_spilling_32 : decode cX12_spilling 32 = .ok (.ior, 1) := by decide +kernel
theorem dX12_spilling_33 : decode cX12_spilling 33 = .ok (.istore_n 1, 1) := by decide +kernel
theorem dX12_spilling_34 : decode cX12_spilling 34 = .ok (.iinc 2 1, 3) := by decide +kernel
theorem dX12_spilling_37 : decode cX12_spilling 37 = .ok (.goto (-33), 3) := by decide +kernel
theorem dX12_spilling_40 : decode cX12_spilling 40 = .ok (.iload_n 1, 1) := by decide +kernel
theorem dX12_spilling_41 : decode cX12_spilling 41 = .ok (.ireturn, 1) := by decide +kernel
theorem dX12_unlawful_0 : decode cX12_unlawful 0 = .ok (.iconst 0, 1) := by decide +kernel
theorem dX12_unlawful_1 : decode cX12_unlawful 1 = .ok (.istore_n 1, 1) := by decide +kernel
theorem dX12_unlawful_2 : decode cX12_unlawful 2 = .ok (.iconst 0, 1) := by decide +kernel
theorem dX12_unlawful_3 : decode cX12_unlawful 3 = .ok (.istore_n 2, 1) := by decide +kernel
theorem dX12_unlawful_4 : decode cX12_unlawful 4 = .ok (.iload_n 2, 1) := by decide +kernel
theorem dX12_unlawful_5 : decode cX12_unlawful 5 = .ok (.aload_n 0, 1) := by decide +kernel
theorem dX12_unlawful_6 : decode cX12_unlawful 6 = .ok (.getfield 307, 3) := by decide +kernel
theorem dX12_unlawful_9 : decode cX12_unlawful 9 = .ok (.getfield 188, 3) := by decide +kernel
theorem dX12_unlawful_12 : decode cX12_unlawful 12 = .ok (.if_icmp .ge 35, 3) := by decide +kernel
theorem dX12_unlawful_15 : decode cX12_unlawful 15 = .ok (.iload_n 1, 1) := by decide +kernel
theorem dX12_unlawful_16 : decode cX12_unlawful 16 = .ok (.aload_n 0, 1) := by decide +kernel
theorem dX12_unlawful_17 : decode cX12_unlawful 17 = .ok (.getfield 30, 3) := by decide +kernel
theorem dX12_unlawful_20 : decode cX12_unlawful 20 = .ok (.iload_n 2, 1) := by decide +kernel
theorem dX12_unlawful_21 : decode cX12_unlawful 21 = .ok (.iaload, 1) := by decide +kernel
theorem dX12_unlawful_22 : decode cX12_unlawful 22 = .ok (.aload_n 0, 1) := by decide +kernel
theorem dX12_unlawful_23 : decode cX12_unlawful 23 = .ok (.getfield 307, 3) := by decide +kernel
theorem dX12_unlawful_26 : decode cX12_unlawful 26 = .ok (.getfield 218, 3) := by decide +kernel
theorem dX12_unlawful_29 : decode cX12_unlawful 29 = .ok (.if_icmp .le 9, 3) := by decide +kernel
theorem dX12_unlawful_32 : decode cX12_unlawful 32 = .ok (.iconst 1, 1) := by decide +kernel
theorem dX12_unlawful_33 : decode cX12_unlawful 33 = .ok (.iload_n 2, 1) := by decide +kernel
theorem dX12_unlawful_34 : decode cX12_unlawful 34 = .ok (.ishl, 1) := by decide +kernel
theorem dX12_unlawful_35 : decode cX12_unlawful 35 = .ok (.goto 4, 3) := by decide +kernel
theorem dX12_unlawful_38 : decode cX12_unlawful 38 = .ok (.iconst 0, 1) := by decide +kernel
theorem dX12_unlawful_39 : decode cX12_unlawful 39 = .ok (.ior, 1) := by decide +kernel
theorem dX12_unlawful_40 : decode cX12_unlawful 40 = .ok (.istore_n 1, 1) := by decide +kernel
theorem dX12_unlawful_41 : decode cX12_unlawful 41 = .ok (.iinc 2 1, 3) := by decide +kernel
theorem dX12_unlawful_44 : decode cX12_unlawful 44 = .ok (.goto (-40), 3) := by decide +kernel
theorem dX12_unlawful_47 : decode cX12_unlawful 47 = .ok (.iload_n 1, 1) := by decide +kernel
theorem dX12_unlawful_48 : decode cX12_unlawful 48 = .ok (.ireturn, 1) := by decide +kernel
theorem dX12_bursting_0 : decode cX12_bursting 0 = .ok (.iconst 0, 1) := by decide +kernel
theorem dX12_bursting_1 : decode cX12_bursting 1 = .ok (.istore_n 3, 1) := by decide +kernel
theorem dX12_bursting_2 : decode cX12_bursting 2 = .ok (.iconst 0, 1) := by decide +kernel
theorem dX12_bursting_3 : decode cX12_bursting 3 = .ok (.istore 4, 2) := by decide +kernel
theorem dX12_bursting_5 : decode cX12_bursting 5 = .ok (.iload 4, 2) := by decide +kernel
theorem dX12_bursting_7 : decode cX12_bursting 7 = .ok (.aload_n 0, 1) := by decide +kernel
theorem dX12_bursting_8 : decode cX12_bursting 8 = .ok (.getfield 307, 3) := by decide +kernel
theorem dX12_bursting_11 : decode cX12_bursting 11 = .ok (.getfield 255, 3) := by decide +kernel
theorem dX12_bursting_14 : decode cX12_bursting 14 = .ok (.if_icmp .ge 65, 3) := by decide +kernel
theorem dX12_bursting_17 : decode cX12_bursting 17 = .ok (.iload_n 3, 1) := by decide +kernel
theorem dX12_bursting_18 : decode cX12_bursting 18 = .ok (.iload_n 2, 1) := by decide +kernel
theorem dX12_bursting_19 : decode cX12_bursting 19 = .ok (.iload 4, 2) := by decide +kernel
theorem dX12_bursting_21 : decode cX12_bursting 21 = .ok (.invokestatic 275, 3) := by decide +kernel
theorem dX12_bursting_24 : decode cX12_bursting 24 = .ok (.ifCond .eq 46, 3) := by decide +kernel
theorem dX12_bursting_27 : decode cX12_bursting 27 = .ok (.aload_n 0, 1) := by decide +kernel
theorem dX12_bursting_28 : decode cX12_bursting 28 = .ok (.getfield 36, 3) := by decide +kernel
theorem dX12_bursting_31 : decode cX12_bursting 31 = .ok (.aload_n 0, 1) := by decide +kernel
theorem dX12_bursting_32 : decode cX12_bursting 32 = .ok (.getfield 307, 3) := by decide +kernel
theorem dX12_bursting_35 : decode cX12_bursting 35 = .ok (.getfield 267, 3) := by decide +kernel
theorem dX12_bursting_38 : decode cX12_bursting 38 = .ok (.iload 4, 2) := by decide +kernel
theorem dX12_bursting_40 : decode cX12_bursting 40 = .ok (.iaload, 1) := by decide +kernel
theorem dX12_bursting_41 : decode cX12_bursting 41 = .ok (.iaload, 1) := by decide +kernel
theorem dX12_bursting_42 : decode cX12_bursting 42 = .ok (.aload_n 0, 1) := by decide +kernel
theorem dX12_bursting_43 : decode cX12_bursting 43 = .ok (.getfield 307, 3) := by decide +kernel
theorem dX12_bursting_46 : decode cX12_bursting 46 = .ok (.getfield 271, 3) := by decide +kernel
theorem dX12_bursting_49 : decode cX12_bursting 49 = .ok (.iload 4, 2) := by decide +kernel
theorem dX12_bursting_51 : decode cX12_bursting 51 = .ok (.iaload, 1) := by decide +kernel
theorem dX12_bursting_52 : decode cX12_bursting 52 = .ok (.aload_n 1, 1) := by decide +kernel
theorem dX12_bursting_53 : decode cX12_bursting 53 = .ok (.bipush 7, 2) := by decide +kernel
theorem dX12_bursting_55 : decode cX12_bursting 55 = .ok (.iload 4, 2) := by decide +kernel
theorem dX12_bursting_57 : decode cX12_bursting 57 = .ok (.iadd, 1) := by decide +kernel
theorem dX12_bursting_58 : decode cX12_bursting 58 = .ok (.iaload, 1) := by decide +kernel
theorem dX12_bursting_59 : decode cX12_bursting 59 = .ok (.isub, 1) := by decide +kernel
theorem dX12_bursting_60 : decode cX12_bursting 60 = .ok (.if_icmp .le 10, 3) := by decide +kernel
theorem dX12_bursting_63 : decode cX12_bursting 63 = .ok (.iconst 1, 1) := by decide +kernel
theorem dX12_bursting_64 : decode cX12_bursting 64 = .ok (.iload 4, 2) := by decide +kernel
theorem dX12_bursting_66 : decode cX12_bursting 66 = .ok (.ishl, 1) := by decide +kernel
theorem dX12_bursting_67 : decode cX12_bursting 67 = .ok (.goto 4, 3) := by decide +kernel
theorem dX12_bursting_70 : decode cX12_bursting 70 = .ok (.iconst 0, 1) := by decide +kernel
theorem dX12_bursting_71 : decode cX12_bursting 71 = .ok (.ior, 1) := by decide +kernel
theorem dX12_bursting_72 : decode cX12_bursting 72 = .ok (.istore_n 3, 1) := by decide +kernel
theorem dX12_bursting_73 : decode cX12_bursting 73 = .ok (.iinc 4 1, 3) := by decide +kernel
theorem dX12_bursting_76 : decode cX12_bursting 76 = .ok (.goto (-71), 3) := by decide +kernel
theorem dX12_bursting_79 : decode cX12_bursting 79 = .ok (.iload_n 3, 1) := by decide +kernel
theorem dX12_bursting_80 : decode cX12_bursting 80 = .ok (.ireturn, 1) := by decide +kernel
theorem dX12_reach_0 : decode cX12_reach 0 = .ok (.aload_n 0, 1) := by decide +kernel
theorem dX12_reach_1 : decode cX12_reach 1 = .ok (.iconst 0, 1) := by decide +kernel
theorem dX12_reach_2 : decode cX12_reach 2 = .ok (.putfield 51, 3) := by decide +kernel
theorem dX12_reach_5 : decode cX12_reach 5 = .ok (.aload_n 0, 1) := by decide +kernel
theorem dX12_reach_6 : decode cX12_reach 6 = .ok (.iload_n 1, 1) := by decide +kernel
theorem dX12_reach_7 : decode cX12_reach 7 = .ok (.invokevirtual 338, 3) := by decide +kernel
theorem dX12_reach_10 : decode cX12_reach 10 = .ok (.ifCond .eq 13, 3) := by decide +kernel
theorem dX12_reach_13 : decode cX12_reach 13 = .ok (.iload_n 2, 1) := by decide +kernel
theorem dX12_reach_14 : decode cX12_reach 14 = .ok (.iconst 0, 1) := by decide +kernel
theorem dX12_reach_15 : decode cX12_reach 15 = .ok (.bipush 7, 2) := by decide +kernel
theorem dX12_reach_17 : decode cX12_reach 17 = .ok (.invokestatic 126, 3) := by decide +kernel
theorem dX12_reach_20 : decode cX12_reach 20 = .ok (.ifCond .ne 9, 3) := by decide +kernel
theorem dX12_reach_23 : decode cX12_reach 23 = .ok (.aload_n 0, 1) := by decide +kernel
theorem dX12_reach_24 : decode cX12_reach 24 = .ok (.iconst 1, 1) := by decide +kernel
theorem dX12_reach_25 : decode cX12_reach 25 = .ok (.invokevirtual 57, 3) := by decide +kernel
theorem dX12_reach_28 : decode cX12_reach 28 = .ok (.ireturn, 1) := by decide +kernel
theorem dX12_reach_29 : decode cX12_reach 29 = .ok (.aload_n 0, 1) := by decide +kernel
theorem dX12_reach_30 : decode cX12_reach 30 = .ok (.invokevirtual 341, 3) := by decide +kernel
theorem dX12_reach_33 : decode cX12_reach 33 = .ok (.iload_n 2, 1) := by decide +kernel
theorem dX12_reach_34 : decode cX12_reach 34 = .ok (.tableswitch 128 0 6 #[42, 56, 70, 84, 95, 106, 117], 42) := by decide +kernel
theorem dX12_reach_76 : decode cX12_reach 76 = .ok (.aload_n 0, 1) := by decide +kernel
theorem dX12_reach_77 : decode cX12_reach 77 = .ok (.aload_n 0, 1) := by decide +kernel
theorem dX12_reach_78 : decode cX12_reach 78 = .ok (.getfield 307, 3) := by decide +kernel
theorem dX12_reach_81 : decode cX12_reach 81 = .ok (.getfield 246, 3) := by decide +kernel
theorem dX12_reach_84 : decode cX12_reach 84 = .ok (.iload_n 1, 1) := by decide +kernel
theorem dX12_reach_85 : decode cX12_reach 85 = .ok (.iaload, 1) := by decide +kernel
theorem dX12_reach_86 : decode cX12_reach 86 = .ok (.invokevirtual 61, 3) := by decide +kernel
theorem dX12_reach_89 : decode cX12_reach 89 = .ok (.ireturn, 1) := by decide +kernel
theorem dX12_reach_90 : decode cX12_reach 90 = .ok (.aload_n 0, 1) := by decide +kernel
theorem dX12_reach_91 : decode cX12_reach 91 = .ok (.aload_n 0, 1) := by decide +kernel
theorem dX12_reach_92 : decode cX12_reach 92 = .ok (.getfield 307, 3) := by decide +kernel
theorem dX12_reach_95 : decode cX12_reach 95 = .ok (.getfield 249, 3) := by decide +kernel
theorem dX12_reach_98 : decode cX12_reach 98 = .ok (.iload_n 1, 1) := by decide +kernel
theorem dX12_reach_99 : decode cX12_reach 99 = .ok (.iaload, 1) := by decide +kernel
theorem dX12_reach_100 : decode cX12_reach 100 = .ok (.invokevirtual 61, 3) := by decide +kernel
theorem dX12_reach_103 : decode cX12_reach 103 = .ok (.ireturn, 1) := by decide +kernel
theorem dX12_reach_104 : decode cX12_reach 104 = .ok (.aload_n 0, 1) := by decide +kernel
theorem dX12_reach_105 : decode cX12_reach 105 = .ok (.aload_n 0, 1) := by decide +kernel
theorem dX12_reach_106 : decode cX12_reach 106 = .ok (.getfield 307, 3) := by decide +kernel
theorem dX12_reach_109 : decode cX12_reach 109 = .ok (.getfield 251, 3) := by decide +kernel
theorem dX12_reach_112 : decode cX12_reach 112 = .ok (.iload_n 1, 1) := by decide +kernel
theorem dX12_reach_113 : decode cX12_reach 113 = .ok (.iaload, 1) := by decide +kernel
theorem dX12_reach_114 : decode cX12_reach 114 = .ok (.invokevirtual 61, 3) := by decide +kernel
theorem dX12_reach_117 : decode cX12_reach 117 = .ok (.ireturn, 1) := by decide +kernel
theorem dX12_reach_118 : decode cX12_reach 118 = .ok (.aload_n 0, 1) := by decide +kernel
theorem dX12_reach_119 : decode cX12_reach 119 = .ok (.aload_n 0, 1) := by decide +kernel
theorem dX12_reach_120 : decode cX12_reach 120 = .ok (.getfield 30, 3) := by decide +kernel
theorem dX12_reach_123 : decode cX12_reach 123 = .ok (.iload_n 1, 1) := by decide +kernel
theorem dX12_reach_124 : decode cX12_reach 124 = .ok (.iaload, 1) := by decide +kernel
theorem dX12_reach_125 : decode cX12_reach 125 = .ok (.invokevirtual 61, 3) := by decide +kernel
theorem dX12_reach_128 : decode cX12_reach 128 = .ok (.ireturn, 1) := by decide +kernel
theorem dX12_reach_129 : decode cX12_reach 129 = .ok (.aload_n 0, 1) := by decide +kernel
theorem dX12_reach_130 : decode cX12_reach 130 = .ok (.aload_n 0, 1) := by decide +kernel
theorem dX12_reach_131 : decode cX12_reach 131 = .ok (.getfield 33, 3) := by decide +kernel
theorem dX12_reach_134 : decode cX12_reach 134 = .ok (.iload_n 1, 1) := by decide +kernel
theorem dX12_reach_135 : decode cX12_reach 135 = .ok (.iaload, 1) := by decide +kernel
theorem dX12_reach_136 : decode cX12_reach 136 = .ok (.invokevirtual 61, 3) := by decide +kernel
theorem dX12_reach_139 : decode cX12_reach 139 = .ok (.ireturn, 1) := by decide +kernel
theorem dX12_reach_140 : decode cX12_reach 140 = .ok (.aload_n 0, 1) := by decide +kernel
theorem dX12_reach_141 : decode cX12_reach 141 = .ok (.aload_n 0, 1) := by decide +kernel
theorem dX12_reach_142 : decode cX12_reach 142 = .ok (.getfield 36, 3) := by decide +kernel
theorem dX12_reach_145 : decode cX12_reach 145 = .ok (.iload_n 1, 1) := by decide +kernel
theorem dX12_reach_146 : decode cX12_reach 146 = .ok (.iaload, 1) := by decide +kernel
theorem dX12_reach_147 : decode cX12_reach 147 = .ok (.invokevirtual 61, 3) := by decide +kernel
theorem dX12_reach_150 : decode cX12_reach 150 = .ok (.ireturn, 1) := by decide +kernel
theorem dX12_reach_151 : decode cX12_reach 151 = .ok (.aload_n 0, 1) := by decide +kernel
theorem dX12_reach_152 : decode cX12_reach 152 = .ok (.aload_n 0, 1) := by decide +kernel
theorem dX12_reach_153 : decode cX12_reach 153 = .ok (.getfield 39, 3) := by decide +kernel
theorem dX12_reach_156 : decode cX12_reach 156 = .ok (.iload_n 1, 1) := by decide +kernel
theorem dX12_reach_157 : decode cX12_reach 157 = .ok (.iaload, 1) := by decide +kernel
theorem dX12_reach_158 : decode cX12_reach 158 = .ok (.invokevirtual 61, 3) := by decide +kernel
theorem dX12_reach_161 : decode cX12_reach 161 = .ok (.ireturn, 1) := by decide +kernel
theorem dX12_reach_162 : decode cX12_reach 162 = .ok (.aload_n 0, 1) := by decide +kernel
theorem dX12_reach_163 : decode cX12_reach 163 = .ok (.aload_n 0, 1) := by decide +kernel
theorem dX12_reach_164 : decode cX12_reach 164 = .ok (.iload_n 1, 1) := by decide +kernel
theorem dX12_reach_165 : decode cX12_reach 165 = .ok (.invokevirtual 335, 3) := by decide +kernel
theorem dX12_reach_168 : decode cX12_reach 168 = .ok (.invokevirtual 61, 3) := by decide +kernel
theorem dX12_reach_171 : decode cX12_reach 171 = .ok (.ireturn, 1) := by decide +kernel
theorem dX12_rope_0 : decode cX12_rope 0 = .ok (.aload_n 0, 1) := by decide +kernel
theorem dX12_rope_1 : decode cX12_rope 1 = .ok (.iconst 0, 1) := by decide +kernel
theorem dX12_rope_2 : decode cX12_rope 2 = .ok (.putfield 51, 3) := by decide +kernel
theorem dX12_rope_5 : decode cX12_rope 5 = .ok (.aload_n 0, 1) := by decide +kernel
theorem dX12_rope_6 : decode cX12_rope 6 = .ok (.iload_n 1, 1) := by decide +kernel
theorem dX12_rope_7 : decode cX12_rope 7 = .ok (.invokevirtual 344, 3) := by decide +kernel
theorem dX12_rope_10 : decode cX12_rope 10 = .ok (.ifCond .eq 12, 3) := by decide +kernel
theorem dX12_rope_13 : decode cX12_rope 13 = .ok (.iload_n 2, 1) := by decide +kernel
theorem dX12_rope_14 : decode cX12_rope 14 = .ok (.iconst 0, 1) := by decide +kernel
theorem dX12_rope_15 : decode cX12_rope 15 = .ok (.iconst 5, 1) := by decide +kernel
theorem dX12_rope_16 : decode cX12_rope 16 = .ok (.invokestatic 126, 3) := by decide +kernel
theorem dX12_rope_19 : decode cX12_rope 19 = .ok (.ifCond .ne 9, 3) := by decide +kernel
theorem dX12_rope_22 : decode cX12_rope 22 = .ok (.aload_n 0, 1) := by decide +kernel
theorem dX12_rope_23 : decode cX12_rope 23 = .ok (.iconst 1, 1) := by decide +kernel
theorem dX12_rope_24 : decode cX12_rope 24 = .ok (.invokevirtual 57, 3) := by decide +kernel
theorem dX12_rope_27 : decode cX12_rope 27 = .ok (.ireturn, 1) := by decide +kernel
theorem dX12_rope_28 : decode cX12_rope 28 = .ok (.iload_n 2, 1) := by decide +kernel
theorem dX12_rope_29 : decode cX12_rope 29 = .ok (.tableswitch 104 0 4 #[35, 49, 63, 77, 90], 35) := by decide +kernel
theorem dX12_rope_64 : decode cX12_rope 64 = .ok (.aload_n 0, 1) := by decide +kernel
theorem dX12_rope_65 : decode cX12_rope 65 = .ok (.aload_n 0, 1) := by decide +kernel
theorem dX12_rope_66 : decode cX12_rope 66 = .ok (.getfield 307, 3) := by decide +kernel
theorem dX12_rope_69 : decode cX12_rope 69 = .ok (.getfield 267, 3) := by decide +kernel
theorem dX12_rope_72 : decode cX12_rope 72 = .ok (.iload_n 1, 1) := by decide +kernel
theorem dX12_rope_73 : decode cX12_rope 73 = .ok (.iaload, 1) := by decide +kernel
theorem dX12_rope_74 : decode cX12_rope 74 = .ok (.invokevirtual 61, 3) := by decide +kernel
theorem dX12_rope_77 : decode cX12_rope 77 = .ok (.ireturn, 1) := by decide +kernel
theorem dX12_rope_78 : decode cX12_rope 78 = .ok (.aload_n 0, 1) := by decide +kernel
theorem dX12_rope_79 : decode cX12_rope 79 = .ok (.aload_n 0, 1) := by decide +kernel
theorem dX12_rope_80 : decode cX12_rope 80 = .ok (.getfield 307, 3) := by decide +kernel
theorem dX12_rope_83 : decode cX12_rope 83 = .ok (.getfield 269, 3) := by decide +kernel
theorem dX12_rope_86 : decode cX12_rope 86 = .ok (.iload_n 1, 1) := by decide +kernel
theorem dX12_rope_87 : decode cX12_rope 87 = .ok (.iaload, 1) := by decide +kernel
theorem dX12_rope_88 : decode cX12_rope 88 = .ok (.invokevirtual 61, 3) := by decide +kernel
theorem dX12_rope_91 : decode cX12_rope 91 = .ok (.ireturn, 1) := by decide +kernel
theorem dX12_rope_92 : decode cX12_rope 92 = .ok (.aload_n 0, 1) := by decide +kernel
theorem dX12_rope_93 : decode cX12_rope 93 = .ok (.aload_n 0, 1) := by decide +kernel
theorem dX12_rope_94 : decode cX12_rope 94 = .ok (.getfield 307, 3) := by decide +kernel
theorem dX12_rope_97 : decode cX12_rope 97 = .ok (.getfield 271, 3) := by decide +kernel
theorem dX12_rope_100 : decode cX12_rope 100 = .ok (.iload_n 1, 1) := by decide +kernel
theorem dX12_rope_101 : decode cX12_rope 101 = .ok (.iaload, 1) := by decide +kernel
theorem dX12_rope_102 : decode cX12_rope 102 = .ok (.invokevirtual 61, 3) := by decide +kernel
theorem dX12_rope_105 : decode cX12_rope 105 = .ok (.ireturn, 1) := by decide +kernel
theorem dX12_rope_106 : decode cX12_rope 106 = .ok (.aload_n 0, 1) := by decide +kernel
theorem dX12_rope_107 : decode cX12_rope 107 = .ok (.aload_n 0, 1) := by decide +kernel
theorem dX12_rope_108 : decode cX12_rope 108 = .ok (.getfield 17, 3) := by decide +kernel
theorem dX12_rope_111 : decode cX12_rope 111 = .ok (.iconst 0, 1) := by decide +kernel
theorem dX12_rope_112 : decode cX12_rope 112 = .ok (.iload_n 1, 1) := by decide +kernel
theorem dX12_rope_113 : decode cX12_rope 113 = .ok (.iadd, 1) := by decide +kernel
theorem dX12_rope_114 : decode cX12_rope 114 = .ok (.iaload, 1) := by decide +kernel
theorem dX12_rope_115 : decode cX12_rope 115 = .ok (.invokevirtual 61, 3) := by decide +kernel
theorem dX12_rope_118 : decode cX12_rope 118 = .ok (.ireturn, 1) := by decide +kernel
theorem dX12_rope_119 : decode cX12_rope 119 = .ok (.aload_n 0, 1) := by decide +kernel
theorem dX12_rope_120 : decode cX12_rope 120 = .ok (.aload_n 0, 1) := by decide +kernel
theorem dX12_rope_121 : decode cX12_rope 121 = .ok (.getfield 17, 3) := by decide +kernel
theorem dX12_rope_124 : decode cX12_rope 124 = .ok (.bipush 7, 2) := by decide +kernel
theorem dX12_rope_126 : decode cX12_rope 126 = .ok (.iload_n 1, 1) := by decide +kernel
theorem dX12_rope_127 : decode cX12_rope 127 = .ok (.iadd, 1) := by decide +kernel
theorem dX12_rope_128 : decode cX12_rope 128 = .ok (.iaload, 1) := by decide +kernel
theorem dX12_rope_129 : decode cX12_rope 129 = .ok (.invokevirtual 61, 3) := by decide +kernel
theorem dX12_rope_132 : decode cX12_rope 132 = .ok (.ireturn, 1) := by decide +kernel
theorem dX12_rope_133 : decode cX12_rope 133 = .ok (.aload_n 0, 1) := by decide +kernel
theorem dX12_rope_134 : decode cX12_rope 134 = .ok (.invokevirtual 341, 3) := by decide +kernel
theorem dX12_rope_137 : decode cX12_rope 137 = .ok (.aload_n 0, 1) := by decide +kernel
theorem dX12_rope_138 : decode cX12_rope 138 = .ok (.aload_n 0, 1) := by decide +kernel
theorem dX12_rope_139 : decode cX12_rope 139 = .ok (.aload_n 0, 1) := by decide +kernel
theorem dX12_rope_140 : decode cX12_rope 140 = .ok (.getfield 17, 3) := by decide +kernel
theorem dX12_rope_143 : decode cX12_rope 143 = .ok (.aload_n 0, 1) := by decide +kernel
theorem dX12_rope_144 : decode cX12_rope 144 = .ok (.invokevirtual 329, 3) := by decide +kernel
theorem dX12_rope_147 : decode cX12_rope 147 = .ok (.invokevirtual 347, 3) := by decide +kernel
theorem dX12_rope_150 : decode cX12_rope 150 = .ok (.iload_n 1, 1) := by decide +kernel
theorem dX12_rope_151 : decode cX12_rope 151 = .ok (.invokestatic 275, 3) := by decide +kernel
theorem dX12_rope_154 : decode cX12_rope 154 = .ok (.ifCond .eq 7, 3) := by decide +kernel
theorem dX12_rope_157 : decode cX12_rope 157 = .ok (.iconst 1, 1) := by decide +kernel
theorem dX12_rope_158 : decode cX12_rope 158 = .ok (.goto 4, 3) := by decide +kernel
theorem dX12_rope_161 : decode cX12_rope 161 = .ok (.iconst 0, 1) := by decide +kernel
theorem dX12_rope_162 : decode cX12_rope 162 = .ok (.invokevirtual 61, 3) := by decide +kernel
theorem dX12_rope_165 : decode cX12_rope 165 = .ok (.ireturn, 1) := by decide +kernel
theorem dX12_below_0 : decode cX12_below 0 = .ok (.aload_n 0, 1) := by decide +kernel
theorem dX12_below_1 : decode cX12_below 1 = .ok (.iconst 0, 1) := by decide +kernel
theorem dX12_below_2 : decode cX12_below 2 = .ok (.putfield 51, 3) := by decide +kernel
theorem dX12_below_5 : decode cX12_below 5 = .ok (.aload_n 0, 1) := by decide +kernel
theorem dX12_below_6 : decode cX12_below 6 = .ok (.getfield 307, 3) := by decide +kernel
theorem dX12_below_9 : decode cX12_below 9 = .ok (.ifnonnull 9, 3) := by decide +kernel
theorem dX12_below_12 : decode cX12_below 12 = .ok (.aload_n 0, 1) := by decide +kernel
theorem dX12_below_13 : decode cX12_below 13 = .ok (.iconst 1, 1) := by decide +kernel
theorem dX12_below_14 : decode cX12_below 14 = .ok (.invokevirtual 57, 3) := by decide +kernel
theorem dX12_below_17 : decode cX12_below 17 = .ok (.ireturn, 1) := by decide +kernel
theorem dX12_below_18 : decode cX12_below 18 = .ok (.aload_n 0, 1) := by decide +kernel
theorem dX12_below_19 : decode cX12_below 19 = .ok (.invokevirtual 341, 3) := by decide +kernel
theorem dX12_below_22 : decode cX12_below 22 = .ok (.aload_n 0, 1) := by decide +kernel
theorem dX12_below_23 : decode cX12_below 23 = .ok (.aload_n 0, 1) := by decide +kernel
theorem dX12_below_24 : decode cX12_below 24 = .ok (.getfield 323, 3) := by decide +kernel
theorem dX12_below_27 : decode cX12_below 27 = .ok (.invokevirtual 61, 3) := by decide +kernel
theorem dX12_below_30 : decode cX12_below 30 = .ok (.ireturn, 1) := by decide +kernel
theorem dX12_harm_0 : decode cX12_harm 0 = .ok (.aload_n 0, 1) := by decide +kernel
theorem dX12_harm_1 : decode cX12_harm 1 = .ok (.iconst 0, 1) := by decide +kernel
theorem dX12_harm_2 : decode cX12_harm 2 = .ok (.putfield 51, 3) := by decide +kernel
theorem dX12_harm_5 : decode cX12_harm 5 = .ok (.aload_n 0, 1) := by decide +kernel
theorem dX12_harm_6 : decode cX12_harm 6 = .ok (.getfield 307, 3) := by decide +kernel
theorem dX12_harm_9 : decode cX12_harm 9 = .ok (.ifnonnull 9, 3) := by decide +kernel
theorem dX12_harm_12 : decode cX12_harm 12 = .ok (.aload_n 0, 1) := by decide +kernel
theorem dX12_harm_13 : decode cX12_harm 13 = .ok (.iconst 1, 1) := by decide +kernel
theorem dX12_harm_14 : decode cX12_harm 14 = .ok (.invokevirtual 57, 3) := by decide +kernel
theorem dX12_harm_17 : decode cX12_harm 17 = .ok (.ireturn, 1) := by decide +kernel
theorem dX12_harm_18 : decode cX12_harm 18 = .ok (.aload_n 0, 1) := by decide +kernel
theorem dX12_harm_19 : decode cX12_harm 19 = .ok (.invokevirtual 341, 3) := by decide +kernel
theorem dX12_harm_22 : decode cX12_harm 22 = .ok (.aload_n 0, 1) := by decide +kernel
theorem dX12_harm_23 : decode cX12_harm 23 = .ok (.aload_n 0, 1) := by decide +kernel
theorem dX12_harm_24 : decode cX12_harm 24 = .ok (.invokevirtual 350, 3) := by decide +kernel
theorem dX12_harm_27 : decode cX12_harm 27 = .ok (.invokevirtual 61, 3) := by decide +kernel
theorem dX12_harm_30 : decode cX12_harm 30 = .ok (.ireturn, 1) := by decide +kernel
theorem dX12_spills_0 : decode cX12_spills 0 = .ok (.aload_n 0, 1) := by decide +kernel
theorem dX12_spills_1 : decode cX12_spills 1 = .ok (.iconst 0, 1) := by decide +kernel
theorem dX12_spills_2 : decode cX12_spills 2 = .ok (.putfield 51, 3) := by decide +kernel
theorem dX12_spills_5 : decode cX12_spills 5 = .ok (.aload_n 0, 1) := by decide +kernel
theorem dX12_spills_6 : decode cX12_spills 6 = .ok (.getfield 307, 3) := by decide +kernel
theorem dX12_spills_9 : decode cX12_spills 9 = .ok (.ifnonnull 9, 3) := by decide +kernel
theorem dX12_spills_12 : decode cX12_spills 12 = .ok (.aload_n 0, 1) := by decide +kernel
theorem dX12_spills_13 : decode cX12_spills 13 = .ok (.iconst 1, 1) := by decide +kernel
theorem dX12_spills_14 : decode cX12_spills 14 = .ok (.invokevirtual 57, 3) := by decide +kernel
theorem dX12_spills_17 : decode cX12_spills 17 = .ok (.ireturn, 1) := by decide +kernel
theorem dX12_spills_18 : decode cX12_spills 18 = .ok (.aload_n 0, 1) := by decide +kernel
theorem dX12_spills_19 : decode cX12_spills 19 = .ok (.invokevirtual 341, 3) := by decide +kernel
theorem dX12_spills_22 : decode cX12_spills 22 = .ok (.aload_n 0, 1) := by decide +kernel
theorem dX12_spills_23 : decode cX12_spills 23 = .ok (.aload_n 0, 1) := by decide +kernel
theorem dX12_spills_24 : decode cX12_spills 24 = .ok (.invokevirtual 353, 3) := by decide +kernel
theorem dX12_spills_27 : decode cX12_spills 27 = .ok (.invokevirtual 61, 3) := by decide +kernel
theorem dX12_spills_30 : decode cX12_spills 30 = .ok (.ireturn, 1) := by decide +kernel
theorem dX12_outOfLaw_0 : decode cX12_outOfLaw 0 = .ok (.aload_n 0, 1) := by decide +kernel
theorem dX12_outOfLaw_1 : decode cX12_outOfLaw 1 = .ok (.iconst 0, 1) := by decide +kernel
theorem dX12_outOfLaw_2 : decode cX12_outOfLaw 2 = .ok (.putfield 51, 3) := by decide +kernel
theorem dX12_outOfLaw_5 : decode cX12_outOfLaw 5 = .ok (.aload_n 0, 1) := by decide +kernel
theorem dX12_outOfLaw_6 : decode cX12_outOfLaw 6 = .ok (.getfield 307, 3) := by decide +kernel
theorem dX12_outOfLaw_9 : decode cX12_outOfLaw 9 = .ok (.ifnonnull 9, 3) := by decide +kernel
theorem dX12_outOfLaw_12 : decode cX12_outOfLaw 12 = .ok (.aload_n 0, 1) := by decide +kernel
theorem dX12_outOfLaw_13 : decode cX12_outOfLaw 13 = .ok (.iconst 1, 1) := by decide +kernel
theorem dX12_outOfLaw_14 : decode cX12_outOfLaw 14 = .ok (.invokevirtual 57, 3) := by decide +kernel
theorem dX12_outOfLaw_17 : decode cX12_outOfLaw 17 = .ok (.ireturn, 1) := by decide +kernel
theorem dX12_outOfLaw_18 : decode cX12_outOfLaw 18 = .ok (.aload_n 0, 1) := by decide +kernel
theorem dX12_outOfLaw_19 : decode cX12_outOfLaw 19 = .ok (.invokevirtual 341, 3) := by decide +kernel
theorem dX12_outOfLaw_22 : decode cX12_outOfLaw 22 = .ok (.aload_n 0, 1) := by decide +kernel
theorem dX12_outOfLaw_23 : decode cX12_outOfLaw 23 = .ok (.aload_n 0, 1) := by decide +kernel
theorem dX12_outOfLaw_24 : decode cX12_outOfLaw 24 = .ok (.invokevirtual 356, 3) := by decide +kernel
theorem dX12_outOfLaw_27 : decode cX12_outOfLaw 27 = .ok (.invokevirtual 61, 3) := by decide +kernel
theorem dX12_outOfLaw_30 : decode cX12_outOfLaw 30 = .ok (.ireturn, 1) := by decide +kernel
theorem dX12_narrowest_0 : decode cX12_narrowest 0 = .ok (.aload_n 0, 1) := by decide +kernel
theorem dX12_narrowest_1 : decode cX12_narrowest 1 = .ok (.iconst 0, 1) := by decide +kernel
theorem dX12_narrowest_2 : decode cX12_narrowest 2 = .ok (.putfield 51, 3) := by decide +kernel
theorem dX12_narrowest_5 : decode cX12_narrowest 5 = .ok (.aload_n 0, 1) := by decide +kernel
theorem dX12_narrowest_6 : decode cX12_narrowest 6 = .ok (.getfield 307, 3) := by decide +kernel
theorem dX12_narrowest_9 : decode cX12_narrowest 9 = .ok (.ifnonnull 9, 3) := by decide +kernel
theorem dX12_narrowest_12 : decode cX12_narrowest 12 = .ok (.aload_n 0, 1) := by decide +kernel
theorem dX12_narrowest_13 : decode cX12_narrowest 13 = .ok (.iconst 1, 1) := by decide +kernel
theorem dX12_narrowest_14 : decode cX12_narrowest 14 = .ok (.invokevirtual 57, 3) := by decide +kernel
theorem dX12_narrowest_17 : decode cX12_narrowest 17 = .ok (.ireturn, 1) := by decide +kernel
theorem dX12_narrowest_18 : decode cX12_narrowest 18 = .ok (.aload_n 0, 1) := by decide +kernel
theorem dX12_narrowest_19 : decode cX12_narrowest 19 = .ok (.invokevirtual 341, 3) := by decide +kernel
theorem dX12_narrowest_22 : decode cX12_narrowest 22 = .ok (.iconst 0, 1) := by decide +kernel
theorem dX12_narrowest_23 : decode cX12_narrowest 23 = .ok (.istore_n 1, 1) := by decide +kernel
theorem dX12_narrowest_24 : decode cX12_narrowest 24 = .ok (.iconst 1, 1) := by decide +kernel
theorem dX12_narrowest_25 : decode cX12_narrowest 25 = .ok (.istore_n 2, 1) := by decide +kernel
theorem dX12_narrowest_26 : decode cX12_narrowest 26 = .ok (.iload_n 2, 1) := by decide +kernel
theorem dX12_narrowest_27 : decode cX12_narrowest 27 = .ok (.aload_n 0, 1) := by decide +kernel
theorem dX12_narrowest_28 : decode cX12_narrowest 28 = .ok (.getfield 307, 3) := by decide +kernel
theorem dX12_narrowest_31 : decode cX12_narrowest 31 = .ok (.getfield 188, 3) := by decide +kernel
theorem dX12_narrowest_34 : decode cX12_narrowest 34 = .ok (.if_icmp .ge 26, 3) := by decide +kernel
theorem dX12_narrowest_37 : decode cX12_narrowest 37 = .ok (.aload_n 0, 1) := by decide +kernel
theorem dX12_narrowest_38 : decode cX12_narrowest 38 = .ok (.getfield 30, 3) := by decide +kernel
theorem dX12_narrowest_41 : decode cX12_narrowest 41 = .ok (.iload_n 2, 1) := by decide +kernel
theorem dX12_narrowest_42 : decode cX12_narrowest 42 = .ok (.iaload, 1) := by decide +kernel
theorem dX12_narrowest_43 : decode cX12_narrowest 43 = .ok (.aload_n 0, 1) := by decide +kernel
theorem dX12_narrowest_44 : decode cX12_narrowest 44 = .ok (.getfield 30, 3) := by decide +kernel
theorem dX12_narrowest_47 : decode cX12_narrowest 47 = .ok (.iload_n 1, 1) := by decide +kernel
theorem dX12_narrowest_48 : decode cX12_narrowest 48 = .ok (.iaload, 1) := by decide +kernel
theorem dX12_narrowest_49 : decode cX12_narrowest 49 = .ok (.if_icmp .ge 5, 3) := by decide +kernel
theorem dX12_narrowest_52 : decode cX12_narrowest 52 = .ok (.iload_n 2, 1) := by decide +kernel
theorem dX12_narrowest_53 : decode cX12_narrowest 53 = .ok (.istore_n 1, 1) := by decide +kernel
theorem dX12_narrowest_54 : decode cX12_narrowest 54 = .ok (.iinc 2 1, 3) := by decide +kernel
theorem dX12_narrowest_57 : decode cX12_narrowest 57 = .ok (.goto (-31), 3) := by decide +kernel
theorem dX12_narrowest_60 : decode cX12_narrowest 60 = .ok (.aload_n 0, 1) := by decide +kernel
theorem dX12_narrowest_61 : decode cX12_narrowest 61 = .ok (.iload_n 1, 1) := by decide +kernel
theorem dX12_narrowest_62 : decode cX12_narrowest 62 = .ok (.invokevirtual 61, 3) := by decide +kernel
theorem dX12_narrowest_65 : decode cX12_narrowest 65 = .ok (.ireturn, 1) := by decide +kernel
theorem dX12_worn_0 : decode cX12_worn 0 = .ok (.aload_n 0, 1) := by decide +kernel
theorem dX12_worn_1 : decode cX12_worn 1 = .ok (.iconst 0, 1) := by decide +kernel
theorem dX12_worn_2 : decode cX12_worn 2 = .ok (.putfield 51, 3) := by decide +kernel
theorem dX12_worn_5 : decode cX12_worn 5 = .ok (.aload_n 0, 1) := by decide +kernel
theorem dX12_worn_6 : decode cX12_worn 6 = .ok (.getfield 307, 3) := by decide +kernel
theorem dX12_worn_9 : decode cX12_worn 9 = .ok (.ifnonnull 9, 3) := by decide +kernel
theorem dX12_worn_12 : decode cX12_worn 12 = .ok (.aload_n 0, 1) := by decide +kernel
theorem dX12_worn_13 : decode cX12_worn 13 = .ok (.iconst 1, 1) := by decide +kernel
theorem dX12_worn_14 : decode cX12_worn 14 = .ok (.invokevirtual 57, 3) := by decide +kernel
theorem dX12_worn_17 : decode cX12_worn 17 = .ok (.ireturn, 1) := by decide +kernel
theorem dX12_worn_18 : decode cX12_worn 18 = .ok (.aload_n 0, 1) := by decide +kernel
theorem dX12_worn_19 : decode cX12_worn 19 = .ok (.invokevirtual 341, 3) := by decide +kernel
theorem dX12_worn_22 : decode cX12_worn 22 = .ok (.bipush (-2), 2) := by decide +kernel
theorem dX12_worn_24 : decode cX12_worn 24 = .ok (.istore_n 1, 1) := by decide +kernel
theorem dX12_worn_25 : decode cX12_worn 25 = .ok (.iconst 0, 1) := by decide +kernel
theorem dX12_worn_26 : decode cX12_worn 26 = .ok (.istore_n 2, 1) := by decide +kernel
theorem dX12_worn_27 : decode cX12_worn 27 = .ok (.iconst 0, 1) := by decide +kernel
theorem dX12_worn_28 : decode cX12_worn 28 = .ok (.istore_n 3, 1) := by decide +kernel
theorem dX12_worn_29 : decode cX12_worn 29 = .ok (.iload_n 3, 1) := by decide +kernel
theorem dX12_worn_30 : decode cX12_worn 30 = .ok (.aload_n 0, 1) := by decide +kernel
theorem dX12_worn_31 : decode cX12_worn 31 = .ok (.getfield 307, 3) := by decide +kernel
theorem dX12_worn_34 : decode cX12_worn 34 = .ok (.getfield 255, 3) := by decide +kernel
theorem dX12_worn_37 : decode cX12_worn 37 = .ok (.if_icmp .ge 77, 3) := by decide +kernel
theorem dX12_worn_40 : decode cX12_worn 40 = .ok (.aload_n 0, 1) := by decide +kernel
theorem dX12_worn_41 : decode cX12_worn 41 = .ok (.getfield 307, 3) := by decide +kernel
theorem dX12_worn_44 : decode cX12_worn 44 = .ok (.getfield 271, 3) := by decide +kernel
theorem dX12_worn_47 : decode cX12_worn 47 = .ok (.iload_n 3, 1) := by decide +kernel
theorem dX12_worn_48 : decode cX12_worn 48 = .ok (.iaload, 1) := by decide +kernel
theorem dX12_worn_49 : decode cX12_worn 49 = .ok (.aload_n 0, 1) := by decide +kernel
theorem dX12_worn_50 : decode cX12_worn 50 = .ok (.getfield 17, 3) := by decide +kernel
theorem dX12_worn_53 : decode cX12_worn 53 = .ok (.bipush 7, 2) := by decide +kernel
theorem dX12_worn_55 : decode cX12_worn 55 = .ok (.iload_n 3, 1) := by decide +kernel
theorem dX12_worn_56 : decode cX12_worn 56 = .ok (.iadd, 1) := by decide +kernel
theorem dX12_worn_57 : decode cX12_worn 57 = .ok (.iaload, 1) := by decide +kernel
theorem dX12_worn_58 : decode cX12_worn 58 = .ok (.isub, 1) := by decide +kernel
theorem dX12_worn_59 : decode cX12_worn 59 = .ok (.aload_n 0, 1) := by decide +kernel
theorem dX12_worn_60 : decode cX12_worn 60 = .ok (.getfield 36, 3) := by decide +kernel
theorem dX12_worn_63 : decode cX12_worn 63 = .ok (.aload_n 0, 1) := by decide +kernel
theorem dX12_worn_64 : decode cX12_worn 64 = .ok (.getfield 307, 3) := by decide +kernel
theorem dX12_worn_67 : decode cX12_worn 67 = .ok (.getfield 267, 3) := by decide +kernel
theorem dX12_worn_70 : decode cX12_worn 70 = .ok (.iload_n 3, 1) := by decide +kernel
theorem dX12_worn_71 : decode cX12_worn 71 = .ok (.iaload, 1) := by decide +kernel
theorem dX12_worn_72 : decode cX12_worn 72 = .ok (.iaload, 1) := by decide +kernel
theorem dX12_worn_73 : decode cX12_worn 73 = .ok (.isub, 1) := by decide +kernel
theorem dX12_worn_74 : decode cX12_worn 74 = .ok (.istore 4, 2) := by decide +kernel
theorem dX12_worn_76 : decode cX12_worn 76 = .ok (.aload_n 0, 1) := by decide +kernel
theorem dX12_worn_77 : decode cX12_worn 77 = .ok (.getfield 17, 3) := by decide +kernel
theorem dX12_worn_80 : decode cX12_worn 80 = .ok (.iconst 0, 1) := by decide +kernel
theorem dX12_worn_81 : decode cX12_worn 81 = .ok (.iload_n 3, 1) := by decide +kernel
theorem dX12_worn_82 : decode cX12_worn 82 = .ok (.iadd, 1) := by decide +kernel
theorem dX12_worn_83 : decode cX12_worn 83 = .ok (.iaload, 1) := by decide +kernel
theorem dX12_worn_84 : decode cX12_worn 84 = .ok (.iconst 1, 1) := by decide +kernel
theorem dX12_worn_85 : decode cX12_worn 85 = .ok (.if_icmp .ne 23, 3) := by decide +kernel
theorem dX12_worn_88 : decode cX12_worn 88 = .ok (.iload_n 1, 1) := by decide +kernel
theorem dX12_worn_89 : decode cX12_worn 89 = .ok (.bipush (-2), 2) := by decide +kernel
theorem dX12_worn_91 : decode cX12_worn 91 = .ok (.if_icmp .eq 12, 3) := by decide +kernel
theorem dX12_worn_94 : decode cX12_worn 94 = .ok (.iload 4, 2) := by decide +kernel
theorem dX12_worn_96 : decode cX12_worn 96 = .ok (.iload_n 2, 1) := by decide +kernel
theorem dX12_worn_97 : decode cX12_worn 97 = .ok (.if_icmp .lt 6, 3) := by decide +kernel
theorem dX12_worn_100 : decode cX12_worn 100 = .ok (.goto 8, 3) := by decide +kernel
theorem dX12_worn_103 : decode cX12_worn 103 = .ok (.iload_n 3, 1) := by decide +kernel
theorem dX12_worn_104 : decode cX12_worn 104 = .ok (.istore_n 1, 1) := by decide +kernel
theorem dX12_worn_105 : decode cX12_worn 105 = .ok (.iload 4, 2) := by decide +kernel
theorem dX12_worn_107 : decode cX12_worn 107 = .ok (.istore_n 2, 1) := by decide +kernel
theorem dX12_worn_108 : decode cX12_worn 108 = .ok (.iinc 3 1, 3) := by decide +kernel
theorem dX12_worn_111 : decode cX12_worn 111 = .ok (.goto (-82), 3) := by decide +kernel
theorem dX12_worn_114 : decode cX12_worn 114 = .ok (.aload_n 0, 1) := by decide +kernel
theorem dX12_worn_115 : decode cX12_worn 115 = .ok (.iload_n 1, 1) := by decide +kernel
theorem dX12_worn_116 : decode cX12_worn 116 = .ok (.invokevirtual 61, 3) := by decide +kernel
theorem dX12_worn_119 : decode cX12_worn 119 = .ok (.ireturn, 1) := by decide +kernel
theorem dX12_spilt_0 : decode cX12_spilt 0 = .ok (.aload_n 0, 1) := by decide +kernel
theorem dX12_spilt_1 : decode cX12_spilt 1 = .ok (.iconst 0, 1) := by decide +kernel
theorem dX12_spilt_2 : decode cX12_spilt 2 = .ok (.putfield 51, 3) := by decide +kernel
theorem dX12_spilt_5 : decode cX12_spilt 5 = .ok (.aload_n 0, 1) := by decide +kernel
theorem dX12_spilt_6 : decode cX12_spilt 6 = .ok (.getfield 307, 3) := by decide +kernel
theorem dX12_spilt_9 : decode cX12_spilt 9 = .ok (.ifnonnull 9, 3) := by decide +kernel
theorem dX12_spilt_12 : decode cX12_spilt 12 = .ok (.aload_n 0, 1) := by decide +kernel
theorem dX12_spilt_13 : decode cX12_spilt 13 = .ok (.iconst 1, 1) := by decide +kernel
theorem dX12_spilt_14 : decode cX12_spilt 14 = .ok (.invokevirtual 57, 3) := by decide +kernel
theorem dX12_spilt_17 : decode cX12_spilt 17 = .ok (.ireturn, 1) := by decide +kernel
theorem dX12_spilt_18 : decode cX12_spilt 18 = .ok (.aload_n 0, 1) := by decide +kernel
theorem dX12_spilt_19 : decode cX12_spilt 19 = .ok (.invokevirtual 341, 3) := by decide +kernel
theorem dX12_spilt_22 : decode cX12_spilt 22 = .ok (.aload_n 0, 1) := by decide +kernel
theorem dX12_spilt_23 : decode cX12_spilt 23 = .ok (.aload_n 0, 1) := by decide +kernel
theorem dX12_spilt_24 : decode cX12_spilt 24 = .ok (.getfield 17, 3) := by decide +kernel
theorem dX12_spilt_27 : decode cX12_spilt 27 = .ok (.bipush 14, 2) := by decide +kernel
theorem dX12_spilt_29 : decode cX12_spilt 29 = .ok (.iaload, 1) := by decide +kernel
theorem dX12_spilt_30 : decode cX12_spilt 30 = .ok (.aload_n 0, 1) := by decide +kernel
theorem dX12_spilt_31 : decode cX12_spilt 31 = .ok (.getfield 323, 3) := by decide +kernel
theorem dX12_spilt_34 : decode cX12_spilt 34 = .ok (.isub, 1) := by decide +kernel
theorem dX12_spilt_35 : decode cX12_spilt 35 = .ok (.invokevirtual 61, 3) := by decide +kernel
theorem dX12_spilt_38 : decode cX12_spilt 38 = .ok (.ireturn, 1) := by decide +kernel
theorem dX12_asks_0 : decode cX12_asks 0 = .ok (.iload_n 1, 1) := by decide +kernel
theorem dX12_asks_1 : decode cX12_asks 1 = .ok (.ifCond .ne 5, 3) := by decide +kernel
theorem dX12_asks_4 : decode cX12_asks 4 = .ok (.iconst 1, 1) := by decide +kernel
theorem dX12_asks_5 : decode cX12_asks 5 = .ok (.ireturn, 1) := by decide +kernel
theorem dX12_asks_6 : decode cX12_asks 6 = .ok (.iload_n 2, 1) := by decide +kernel
theorem dX12_asks_7 : decode cX12_asks 7 = .ok (.iconst 1, 1) := by decide +kernel
theorem dX12_asks_8 : decode cX12_asks 8 = .ok (.sipush 999, 3) := by decide +kernel
theorem dX12_asks_11 : decode cX12_asks 11 = .ok (.invokestatic 126, 3) := by decide +kernel
theorem dX12_asks_14 : decode cX12_asks 14 = .ok (.ifCond .ne 5, 3) := by decide +kernel
theorem dX12_asks_17 : decode cX12_asks 17 = .ok (.iconst 2, 1) := by decide +kernel
theorem dX12_asks_18 : decode cX12_asks 18 = .ok (.ireturn, 1) := by decide +kernel
theorem dX12_asks_19 : decode cX12_asks 19 = .ok (.aload_n 0, 1) := by decide +kernel
theorem dX12_asks_20 : decode cX12_asks 20 = .ok (.aload_n 0, 1) := by decide +kernel
theorem dX12_asks_21 : decode cX12_asks 21 = .ok (.invokevirtual 329, 3) := by decide +kernel
theorem dX12_asks_24 : decode cX12_asks 24 = .ok (.iload_n 2, 1) := by decide +kernel
theorem dX12_asks_25 : decode cX12_asks 25 = .ok (.invokevirtual 332, 3) := by decide +kernel
theorem dX12_asks_28 : decode cX12_asks 28 = .ok (.iconst 0, 1) := by decide +kernel
theorem dX12_asks_29 : decode cX12_asks 29 = .ok (.ireturn, 1) := by decide +kernel
theorem dX12_depthBy_0 : decode cX12_depthBy 0 = .ok (.aload_n 0, 1) := by decide +kernel
theorem dX12_depthBy_1 : decode cX12_depthBy 1 = .ok (.iconst 0, 1) := by decide +kernel
theorem dX12_depthBy_2 : decode cX12_depthBy 2 = .ok (.putfield 51, 3) := by decide +kernel
theorem dX12_depthBy_5 : decode cX12_depthBy 5 = .ok (.aload_n 0, 1) := by decide +kernel
theorem dX12_depthBy_6 : decode cX12_depthBy 6 = .ok (.aload_n 0, 1) := by decide +kernel
theorem dX12_depthBy_7 : decode cX12_depthBy 7 = .ok (.iload_n 1, 1) := by decide +kernel
theorem dX12_depthBy_8 : decode cX12_depthBy 8 = .ok (.invokevirtual 338, 3) := by decide +kernel
theorem dX12_depthBy_11 : decode cX12_depthBy 11 = .ok (.iload_n 2, 1) := by decide +kernel
theorem dX12_depthBy_12 : decode cX12_depthBy 12 = .ok (.invokevirtual 359, 3) := by decide +kernel
theorem dX12_depthBy_15 : decode cX12_depthBy 15 = .ok (.istore_n 3, 1) := by decide +kernel
theorem dX12_depthBy_16 : decode cX12_depthBy 16 = .ok (.iload_n 3, 1) := by decide +kernel
theorem dX12_depthBy_17 : decode cX12_depthBy 17 = .ok (.ifCond .le 11, 3) := by decide +kernel
theorem dX12_depthBy_20 : decode cX12_depthBy 20 = .ok (.aload_n 0, 1) := by decide +kernel
theorem dX12_depthBy_21 : decode cX12_depthBy 21 = .ok (.iload_n 3, 1) := by decide +kernel
theorem dX12_depthBy_22 : decode cX12_depthBy 22 = .ok (.invokevirtual 57, 3) := by decide +kernel
theorem dX12_depthBy_25 : decode cX12_depthBy 25 = .ok (.goto 13, 3) := by decide +kernel
theorem dX12_depthBy_28 : decode cX12_depthBy 28 = .ok (.aload_n 0, 1) := by decide +kernel
theorem dX12_depthBy_29 : decode cX12_depthBy 29 = .ok (.aload_n 0, 1) := by decide +kernel
theorem dX12_depthBy_30 : decode cX12_depthBy 30 = .ok (.getfield 36, 3) := by decide +kernel
theorem dX12_depthBy_33 : decode cX12_depthBy 33 = .ok (.iload_n 1, 1) := by decide +kernel
theorem dX12_depthBy_34 : decode cX12_depthBy 34 = .ok (.iaload, 1) := by decide +kernel
theorem dX12_depthBy_35 : decode cX12_depthBy 35 = .ok (.invokevirtual 61, 3) := by decide +kernel
theorem dX12_depthBy_38 : decode cX12_depthBy 38 = .ok (.ireturn, 1) := by decide +kernel
theorem dX12_harmBy_0 : decode cX12_harmBy 0 = .ok (.aload_n 0, 1) := by decide +kernel
theorem dX12_harmBy_1 : decode cX12_harmBy 1 = .ok (.iconst 0, 1) := by decide +kernel
theorem dX12_harmBy_2 : decode cX12_harmBy 2 = .ok (.putfield 51, 3) := by decide +kernel
theorem dX12_harmBy_5 : decode cX12_harmBy 5 = .ok (.aload_n 0, 1) := by decide +kernel
theorem dX12_harmBy_6 : decode cX12_harmBy 6 = .ok (.aload_n 0, 1) := by decide +kernel
theorem dX12_harmBy_7 : decode cX12_harmBy 7 = .ok (.getfield 307, 3) := by decide +kernel
theorem dX12_harmBy_10 : decode cX12_harmBy 10 = .ok (.ifnull 7, 3) := by decide +kernel
theorem dX12_harmBy_13 : decode cX12_harmBy 13 = .ok (.iconst 1, 1) := by decide +kernel
theorem dX12_harmBy_14 : decode cX12_harmBy 14 = .ok (.goto 4, 3) := by decide +kernel
theorem dX12_harmBy_17 : decode cX12_harmBy 17 = .ok (.iconst 0, 1) := by decide +kernel
theorem dX12_harmBy_18 : decode cX12_harmBy 18 = .ok (.iload_n 1, 1) := by decide +kernel
theorem dX12_harmBy_19 : decode cX12_harmBy 19 = .ok (.invokevirtual 359, 3) := by decide +kernel
theorem dX12_harmBy_22 : decode cX12_harmBy 22 = .ok (.istore_n 2, 1) := by decide +kernel
theorem dX12_harmBy_23 : decode cX12_harmBy 23 = .ok (.iload_n 2, 1) := by decide +kernel
theorem dX12_harmBy_24 : decode cX12_harmBy 24 = .ok (.ifCond .le 11, 3) := by decide +kernel
theorem dX12_harmBy_27 : decode cX12_harmBy 27 = .ok (.aload_n 0, 1) := by decide +kernel
theorem dX12_harmBy_28 : decode cX12_harmBy 28 = .ok (.iload_n 2, 1) := by decide +kernel
theorem dX12_harmBy_29 : decode cX12_harmBy 29 = .ok (.invokevirtual 57, 3) := by decide +kernel
theorem dX12_harmBy_32 : decode cX12_harmBy 32 = .ok (.goto 11, 3) := by decide +kernel
theorem dX12_harmBy_35 : decode cX12_harmBy 35 = .ok (.aload_n 0, 1) := by decide +kernel
theorem dX12_harmBy_36 : decode cX12_harmBy 36 = .ok (.aload_n 0, 1) := by decide +kernel
theorem dX12_harmBy_37 : decode cX12_harmBy 37 = .ok (.invokevirtual 350, 3) := by decide +kernel
theorem dX12_harmBy_40 : decode cX12_harmBy 40 = .ok (.invokevirtual 61, 3) := by decide +kernel
theorem dX12_harmBy_43 : decode cX12_harmBy 43 = .ok (.ireturn, 1) := by decide +kernel
theorem dX12_bursts_0 : decode cX12_bursts 0 = .ok (.aload_n 0, 1) := by decide +kernel
theorem dX12_bursts_1 : decode cX12_bursts 1 = .ok (.iconst 0, 1) := by decide +kernel
theorem dX12_bursts_2 : decode cX12_bursts 2 = .ok (.putfield 51, 3) := by decide +kernel
theorem dX12_bursts_5 : decode cX12_bursts 5 = .ok (.aload_n 0, 1) := by decide +kernel
theorem dX12_bursts_6 : decode cX12_bursts 6 = .ok (.aload_n 0, 1) := by decide +kernel
theorem dX12_bursts_7 : decode cX12_bursts 7 = .ok (.getfield 307, 3) := by decide +kernel
theorem dX12_bursts_10 : decode cX12_bursts 10 = .ok (.ifnull 7, 3) := by decide +kernel
theorem dX12_bursts_13 : decode cX12_bursts 13 = .ok (.iconst 1, 1) := by decide +kernel
theorem dX12_bursts_14 : decode cX12_bursts 14 = .ok (.goto 4, 3) := by decide +kernel
theorem dX12_bursts_17 : decode cX12_bursts 17 = .ok (.iconst 0, 1) := by decide +kernel
theorem dX12_bursts_18 : decode cX12_bursts 18 = .ok (.iload_n 1, 1) := by decide +kernel
theorem dX12_bursts_19 : decode cX12_bursts 19 = .ok (.invokevirtual 359, 3) := by decide +kernel
theorem dX12_bursts_22 : decode cX12_bursts 22 = .ok (.istore_n 2, 1) := by decide +kernel
theorem dX12_bursts_23 : decode cX12_bursts 23 = .ok (.iload_n 2, 1) := by decide +kernel
theorem dX12_bursts_24 : decode cX12_bursts 24 = .ok (.ifCond .le 11, 3) := by decide +kernel
theorem dX12_bursts_27 : decode cX12_bursts 27 = .ok (.aload_n 0, 1) := by decide +kernel
theorem dX12_bursts_28 : decode cX12_bursts 28 = .ok (.iload_n 2, 1) := by decide +kernel
theorem dX12_bursts_29 : decode cX12_bursts 29 = .ok (.invokevirtual 57, 3) := by decide +kernel
theorem dX12_bursts_32 : decode cX12_bursts 32 = .ok (.goto 19, 3) := by decide +kernel
theorem dX12_bursts_35 : decode cX12_bursts 35 = .ok (.aload_n 0, 1) := by decide +kernel
theorem dX12_bursts_36 : decode cX12_bursts 36 = .ok (.aload_n 0, 1) := by decide +kernel
theorem dX12_bursts_37 : decode cX12_bursts 37 = .ok (.aload_n 0, 1) := by decide +kernel
theorem dX12_bursts_38 : decode cX12_bursts 38 = .ok (.getfield 17, 3) := by decide +kernel
theorem dX12_bursts_41 : decode cX12_bursts 41 = .ok (.aload_n 0, 1) := by decide +kernel
theorem dX12_bursts_42 : decode cX12_bursts 42 = .ok (.invokevirtual 329, 3) := by decide +kernel
theorem dX12_bursts_45 : decode cX12_bursts 45 = .ok (.invokevirtual 347, 3) := by decide +kernel
theorem dX12_bursts_48 : decode cX12_bursts 48 = .ok (.invokevirtual 61, 3) := by decide +kernel
theorem dX12_bursts_51 : decode cX12_bursts 51 = .ok (.ireturn, 1) := by decide +kernel
theorem dX12_burstsAt_0 : decode cX12_burstsAt 0 = .ok (.aload_n 0, 1) := by decide +kernel
theorem dX12_burstsAt_1 : decode cX12_burstsAt 1 = .ok (.iconst 0, 1) := by decide +kernel
theorem dX12_burstsAt_2 : decode cX12_burstsAt 2 = .ok (.putfield 51, 3) := by decide +kernel
theorem dX12_burstsAt_5 : decode cX12_burstsAt 5 = .ok (.aload_n 0, 1) := by decide +kernel
theorem dX12_burstsAt_6 : decode cX12_burstsAt 6 = .ok (.iload_n 1, 1) := by decide +kernel
theorem dX12_burstsAt_7 : decode cX12_burstsAt 7 = .ok (.invokevirtual 344, 3) := by decide +kernel
theorem dX12_burstsAt_10 : decode cX12_burstsAt 10 = .ok (.ifCond .ne 9, 3) := by decide +kernel
theorem dX12_burstsAt_13 : decode cX12_burstsAt 13 = .ok (.aload_n 0, 1) := by decide +kernel
theorem dX12_burstsAt_14 : decode cX12_burstsAt 14 = .ok (.iconst 1, 1) := by decide +kernel
theorem dX12_burstsAt_15 : decode cX12_burstsAt 15 = .ok (.invokevirtual 57, 3) := by decide +kernel
theorem dX12_burstsAt_18 : decode cX12_burstsAt 18 = .ok (.ireturn, 1) := by decide +kernel
theorem dX12_burstsAt_19 : decode cX12_burstsAt 19 = .ok (.aload_n 0, 1) := by decide +kernel
theorem dX12_burstsAt_20 : decode cX12_burstsAt 20 = .ok (.getfield 17, 3) := by decide +kernel
theorem dX12_burstsAt_23 : decode cX12_burstsAt 23 = .ok (.iconst 0, 1) := by decide +kernel
theorem dX12_burstsAt_24 : decode cX12_burstsAt 24 = .ok (.iload_n 1, 1) := by decide +kernel
theorem dX12_burstsAt_25 : decode cX12_burstsAt 25 = .ok (.iadd, 1) := by decide +kernel
theorem dX12_burstsAt_26 : decode cX12_burstsAt 26 = .ok (.iaload, 1) := by decide +kernel
theorem dX12_burstsAt_27 : decode cX12_burstsAt 27 = .ok (.iconst 1, 1) := by decide +kernel
theorem dX12_burstsAt_28 : decode cX12_burstsAt 28 = .ok (.if_icmp .eq 9, 3) := by decide +kernel
theorem dX12_burstsAt_31 : decode cX12_burstsAt 31 = .ok (.aload_n 0, 1) := by decide +kernel
theorem dX12_burstsAt_32 : decode cX12_burstsAt 32 = .ok (.iconst 5, 1) := by decide +kernel
theorem dX12_burstsAt_33 : decode cX12_burstsAt 33 = .ok (.invokevirtual 57, 3) := by decide +kernel
theorem dX12_burstsAt_36 : decode cX12_burstsAt 36 = .ok (.ireturn, 1) := by decide +kernel
theorem dX12_burstsAt_37 : decode cX12_burstsAt 37 = .ok (.iconst 1, 1) := by decide +kernel
theorem dX12_burstsAt_38 : decode cX12_burstsAt 38 = .ok (.istore_n 2, 1) := by decide +kernel
theorem dX12_burstsAt_39 : decode cX12_burstsAt 39 = .ok (.iload_n 2, 1) := by decide +kernel
theorem dX12_burstsAt_40 : decode cX12_burstsAt 40 = .ok (.sipush 999, 3) := by decide +kernel
theorem dX12_burstsAt_43 : decode cX12_burstsAt 43 = .ok (.if_icmp .gt 43, 3) := by decide +kernel
theorem dX12_burstsAt_46 : decode cX12_burstsAt 46 = .ok (.aload_n 0, 1) := by decide +kernel
theorem dX12_burstsAt_47 : decode cX12_burstsAt 47 = .ok (.aload_n 0, 1) := by decide +kernel
theorem dX12_burstsAt_48 : decode cX12_burstsAt 48 = .ok (.invokevirtual 329, 3) := by decide +kernel
theorem dX12_burstsAt_51 : decode cX12_burstsAt 51 = .ok (.iload_n 2, 1) := by decide +kernel
theorem dX12_burstsAt_52 : decode cX12_burstsAt 52 = .ok (.invokevirtual 332, 3) := by decide +kernel
theorem dX12_burstsAt_55 : decode cX12_burstsAt 55 = .ok (.aload_n 0, 1) := by decide +kernel
theorem dX12_burstsAt_56 : decode cX12_burstsAt 56 = .ok (.aload_n 0, 1) := by decide +kernel
theorem dX12_burstsAt_57 : decode cX12_burstsAt 57 = .ok (.getfield 17, 3) := by decide +kernel
theorem dX12_burstsAt_60 : decode cX12_burstsAt 60 = .ok (.aload_n 0, 1) := by decide +kernel
theorem dX12_burstsAt_61 : decode cX12_burstsAt 61 = .ok (.invokevirtual 329, 3) := by decide +kernel
theorem dX12_burstsAt_64 : decode cX12_burstsAt 64 = .ok (.invokevirtual 347, 3) := by decide +kernel
theorem dX12_burstsAt_67 : decode cX12_burstsAt 67 = .ok (.iload_n 1, 1) := by decide +kernel
theorem dX12_burstsAt_68 : decode cX12_burstsAt 68 = .ok (.invokestatic 275, 3) := by decide +kernel
theorem dX12_burstsAt_71 : decode cX12_burstsAt 71 = .ok (.ifCond .eq 9, 3) := by decide +kernel
theorem dX12_burstsAt_74 : decode cX12_burstsAt 74 = .ok (.aload_n 0, 1) := by decide +kernel
theorem dX12_burstsAt_75 : decode cX12_burstsAt 75 = .ok (.iload_n 2, 1) := by decide +kernel
theorem dX12_burstsAt_76 : decode cX12_burstsAt 76 = .ok (.invokevirtual 61, 3) := by decide +kernel
theorem dX12_burstsAt_79 : decode cX12_burstsAt 79 = .ok (.ireturn, 1) := by decide +kernel
theorem dX12_burstsAt_80 : decode cX12_burstsAt 80 = .ok (.iinc 2 1, 3) := by decide +kernel
theorem dX12_burstsAt_83 : decode cX12_burstsAt 83 = .ok (.goto (-44), 3) := by decide +kernel
theorem dX12_burstsAt_86 : decode cX12_burstsAt 86 = .ok (.aload_n 0, 1) := by decide +kernel
theorem dX12_burstsAt_87 : decode cX12_burstsAt 87 = .ok (.bipush (-2), 2) := by decide +kernel
theorem dX12_burstsAt_89 : decode cX12_burstsAt 89 = .ok (.invokevirtual 61, 3) := by decide +kernel
theorem dX12_burstsAt_92 : decode cX12_burstsAt 92 = .ok (.ireturn, 1) := by decide +kernel
theorem dX12_spillsAt_0 : decode cX12_spillsAt 0 = .ok (.aload_n 0, 1) := by decide +kernel
theorem dX12_spillsAt_1 : decode cX12_spillsAt 1 = .ok (.iconst 0, 1) := by decide +kernel
theorem dX12_spillsAt_2 : decode cX12_spillsAt 2 = .ok (.putfield 51, 3) := by decide +kernel
theorem dX12_spillsAt_5 : decode cX12_spillsAt 5 = .ok (.aload_n 0, 1) := by decide +kernel
theorem dX12_spillsAt_6 : decode cX12_spillsAt 6 = .ok (.iload_n 1, 1) := by decide +kernel
theorem dX12_spillsAt_7 : decode cX12_spillsAt 7 = .ok (.invokevirtual 338, 3) := by decide +kernel
theorem dX12_spillsAt_10 : decode cX12_spillsAt 10 = .ok (.ifCond .ne 9, 3) := by decide +kernel
theorem dX12_spillsAt_13 : decode cX12_spillsAt 13 = .ok (.aload_n 0, 1) := by decide +kernel
theorem dX12_spillsAt_14 : decode cX12_spillsAt 14 = .ok (.iconst 1, 1) := by decide +kernel
theorem dX12_spillsAt_15 : decode cX12_spillsAt 15 = .ok (.invokevirtual 57, 3) := by decide +kernel
theorem dX12_spillsAt_18 : decode cX12_spillsAt 18 = .ok (.ireturn, 1) := by decide +kernel
theorem dX12_spillsAt_19 : decode cX12_spillsAt 19 = .ok (.iconst 1, 1) := by decide +kernel
theorem dX12_spillsAt_20 : decode cX12_spillsAt 20 = .ok (.istore_n 2, 1) := by decide +kernel
theorem dX12_spillsAt_21 : decode cX12_spillsAt 21 = .ok (.iload_n 2, 1) := by decide +kernel
theorem dX12_spillsAt_22 : decode cX12_spillsAt 22 = .ok (.sipush 999, 3) := by decide +kernel
theorem dX12_spillsAt_25 : decode cX12_spillsAt 25 = .ok (.if_icmp .gt 33, 3) := by decide +kernel
theorem dX12_spillsAt_28 : decode cX12_spillsAt 28 = .ok (.aload_n 0, 1) := by decide +kernel
theorem dX12_spillsAt_29 : decode cX12_spillsAt 29 = .ok (.aload_n 0, 1) := by decide +kernel
theorem dX12_spillsAt_30 : decode cX12_spillsAt 30 = .ok (.invokevirtual 329, 3) := by decide +kernel
theorem dX12_spillsAt_33 : decode cX12_spillsAt 33 = .ok (.iload_n 2, 1) := by decide +kernel
theorem dX12_spillsAt_34 : decode cX12_spillsAt 34 = .ok (.invokevirtual 332, 3) := by decide +kernel
theorem dX12_spillsAt_37 : decode cX12_spillsAt 37 = .ok (.aload_n 0, 1) := by decide +kernel
theorem dX12_spillsAt_38 : decode cX12_spillsAt 38 = .ok (.getfield 39, 3) := by decide +kernel
theorem dX12_spillsAt_41 : decode cX12_spillsAt 41 = .ok (.iload_n 1, 1) := by decide +kernel
theorem dX12_spillsAt_42 : decode cX12_spillsAt 42 = .ok (.iaload, 1) := by decide +kernel
theorem dX12_spillsAt_43 : decode cX12_spillsAt 43 = .ok (.ifCond .le 9, 3) := by decide +kernel
theorem dX12_spillsAt_46 : decode cX12_spillsAt 46 = .ok (.aload_n 0, 1) := by decide +kernel
theorem dX12_spillsAt_47 : decode cX12_spillsAt 47 = .ok (.iload_n 2, 1) := by decide +kernel
theorem dX12_spillsAt_48 : decode cX12_spillsAt 48 = .ok (.invokevirtual 61, 3) := by decide +kernel
theorem dX12_spillsAt_51 : decode cX12_spillsAt 51 = .ok (.ireturn, 1) := by decide +kernel
theorem dX12_spillsAt_52 : decode cX12_spillsAt 52 = .ok (.iinc 2 1, 3) := by decide +kernel
theorem dX12_spillsAt_55 : decode cX12_spillsAt 55 = .ok (.goto (-34), 3) := by decide +kernel
theorem dX12_spillsAt_58 : decode cX12_spillsAt 58 = .ok (.aload_n 0, 1) := by decide +kernel
theorem dX12_spillsAt_59 : decode cX12_spillsAt 59 = .ok (.bipush (-2), 2) := by decide +kernel
theorem dX12_spillsAt_61 : decode cX12_spillsAt 61 = .ok (.invokevirtual 61, 3) := by decide +kernel
theorem dX12_spillsAt_64 : decode cX12_spillsAt 64 = .ok (.ireturn, 1) := by decide +kernel
theorem dX12_safeFlow_0 : decode cX12_safeFlow 0 = .ok (.aload_n 0, 1) := by decide +kernel
theorem dX12_safeFlow_1 : decode cX12_safeFlow 1 = .ok (.iconst 0, 1) := by decide +kernel
theorem dX12_safeFlow_2 : decode cX12_safeFlow 2 = .ok (.putfield 51, 3) := by decide +kernel
theorem dX12_safeFlow_5 : decode cX12_safeFlow 5 = .ok (.aload_n 0, 1) := by decide +kernel
theorem dX12_safeFlow_6 : decode cX12_safeFlow 6 = .ok (.getfield 307, 3) := by decide +kernel
theorem dX12_safeFlow_9 : decode cX12_safeFlow 9 = .ok (.ifnonnull 9, 3) := by decide +kernel
theorem dX12_safeFlow_12 : decode cX12_safeFlow 12 = .ok (.aload_n 0, 1) := by decide +kernel
theorem dX12_safeFlow_13 : decode cX12_safeFlow 13 = .ok (.iconst 1, 1) := by decide +kernel
theorem dX12_safeFlow_14 : decode cX12_safeFlow 14 = .ok (.invokevirtual 57, 3) := by decide +kernel
theorem dX12_safeFlow_17 : decode cX12_safeFlow 17 = .ok (.ireturn, 1) := by decide +kernel
theorem dX12_safeFlow_18 : decode cX12_safeFlow 18 = .ok (.sipush 999, 3) := by decide +kernel
theorem dX12_safeFlow_21 : decode cX12_safeFlow 21 = .ok (.istore_n 1, 1) := by decide +kernel
theorem dX12_safeFlow_22 : decode cX12_safeFlow 22 = .ok (.iload_n 1, 1) := by decide +kernel
theorem dX12_safeFlow_23 : decode cX12_safeFlow 23 = .ok (.ifCond .le 31, 3) := by decide +kernel
theorem dX12_safeFlow_26 : decode cX12_safeFlow 26 = .ok (.aload_n 0, 1) := by decide +kernel
theorem dX12_safeFlow_27 : decode cX12_safeFlow 27 = .ok (.aload_n 0, 1) := by decide +kernel
theorem dX12_safeFlow_28 : decode cX12_safeFlow 28 = .ok (.invokevirtual 329, 3) := by decide +kernel
theorem dX12_safeFlow_31 : decode cX12_safeFlow 31 = .ok (.iload_n 1, 1) := by decide +kernel
theorem dX12_safeFlow_32 : decode cX12_safeFlow 32 = .ok (.invokevirtual 332, 3) := by decide +kernel
theorem dX12_safeFlow_35 : decode cX12_safeFlow 35 = .ok (.aload_n 0, 1) := by decide +kernel
theorem dX12_safeFlow_36 : decode cX12_safeFlow 36 = .ok (.invokevirtual 353, 3) := by decide +kernel
theorem dX12_safeFlow_39 : decode cX12_safeFlow 39 = .ok (.ifCond .ne 9, 3) := by decide +kernel
theorem dX12_safeFlow_42 : decode cX12_safeFlow 42 = .ok (.aload_n 0, 1) := by decide +kernel
theorem dX12_safeFlow_43 : decode cX12_safeFlow 43 = .ok (.iload_n 1, 1) := by decide +kernel
theorem dX12_safeFlow_44 : decode cX12_safeFlow 44 = .ok (.invokevirtual 61, 3) := by decide +kernel
theorem dX12_safeFlow_47 : decode cX12_safeFlow 47 = .ok (.ireturn, 1) := by decide +kernel
theorem dX12_safeFlow_48 : decode cX12_safeFlow 48 = .ok (.iinc 1 (-1), 3) := by decide +kernel
theorem dX12_safeFlow_51 : decode cX12_safeFlow 51 = .ok (.goto (-29), 3) := by decide +kernel
theorem dX12_safeFlow_54 : decode cX12_safeFlow 54 = .ok (.aload_n 0, 1) := by decide +kernel
theorem dX12_safeFlow_55 : decode cX12_safeFlow 55 = .ok (.iconst 0, 1) := by decide +kernel
theorem dX12_safeFlow_56 : decode cX12_safeFlow 56 = .ok (.invokevirtual 61, 3) := by decide +kernel
theorem dX12_safeFlow_59 : decode cX12_safeFlow 59 = .ok (.ireturn, 1) := by decide +kernel
theorem dX12_laceLength_0 : decode cX12_laceLength 0 = .ok (.iconst 0, 1) := by decide +kernel
theorem dX12_laceLength_1 : decode cX12_laceLength 1 = .ok (.istore_n 2, 1) := by decide +kernel
theorem dX12_laceLength_2 : decode cX12_laceLength 2 = .ok (.iconst 0, 1) := by decide +kernel
theorem dX12_laceLength_3 : decode cX12_laceLength 3 = .ok (.istore_n 3, 1) := by decide +kernel
theorem dX12_laceLength_4 : decode cX12_laceLength 4 = .ok (.iconst 0, 1) := by decide +kernel
theorem dX12_laceLength_5 : decode cX12_laceLength 5 = .ok (.istore 4, 2) := by decide +kernel
theorem dX12_laceLength_7 : decode cX12_laceLength 7 = .ok (.iload 4, 2) := by decide +kernel
theorem dX12_laceLength_9 : decode cX12_laceLength 9 = .ok (.aload_n 0, 1) := by decide +kernel
theorem dX12_laceLength_10 : decode cX12_laceLength 10 = .ok (.getfield 307, 3) := by decide +kernel
theorem dX12_laceLength_13 : decode cX12_laceLength 13 = .ok (.getfield 255, 3) := by decide +kernel
theorem dX12_laceLength_16 : decode cX12_laceLength 16 = .ok (.if_icmp .ge 71, 3) := by decide +kernel
theorem dX12_laceLength_19 : decode cX12_laceLength 19 = .ok (.iload_n 1, 1) := by decide +kernel
theorem dX12_laceLength_20 : decode cX12_laceLength 20 = .ok (.iload 4, 2) := by decide +kernel
theorem dX12_laceLength_22 : decode cX12_laceLength 22 = .ok (.invokestatic 275, 3) := by decide +kernel
theorem dX12_laceLength_25 : decode cX12_laceLength 25 = .ok (.ifCond .eq 56, 3) := by decide +kernel
theorem dX12_laceLength_28 : decode cX12_laceLength 28 = .ok (.iload_n 2, 1) := by decide +kernel
theorem dX12_laceLength_29 : decode cX12_laceLength 29 = .ok (.aload_n 0, 1) := by decide +kernel
theorem dX12_laceLength_30 : decode cX12_laceLength 30 = .ok (.getfield 307, 3) := by decide +kernel
theorem dX12_laceLength_33 : decode cX12_laceLength 33 = .ok (.getfield 267, 3) := by decide +kernel
theorem dX12_laceLength_36 : decode cX12_laceLength 36 = .ok (.iload 4, 2) := by decide +kernel
theorem dX12_laceLength_38 : decode cX12_laceLength 38 = .ok (.iaload, 1) := by decide +kernel
theorem dX12_laceLength_39 : decode cX12_laceLength 39 = .ok (.invokestatic 275, 3) := by decide +kernel
theorem dX12_laceLength_42 : decode cX12_laceLength 42 = .ok (.ifCond .eq 6, 3) := by decide +kernel
theorem dX12_laceLength_45 : decode cX12_laceLength 45 = .ok (.goto 36, 3) := by decide +kernel
theorem dX12_laceLength_48 : decode cX12_laceLength 48 = .ok (.iload_n 2, 1) := by decide +kernel
theorem dX12_laceLength_49 : decode cX12_laceLength 49 = .ok (.iconst 1, 1) := by decide +kernel
theorem dX12_laceLength_50 : decode cX12_laceLength 50 = .ok (.aload_n 0, 1) := by decide +kernel
theorem dX12_laceLength_51 : decode cX12_laceLength 51 = .ok (.getfield 307, 3) := by decide +kernel
theorem dX12_laceLength_54 : decode cX12_laceLength 54 = .ok (.getfield 267, 3) := by decide +kernel
theorem dX12_laceLength_57 : decode cX12_laceLength 57 = .ok (.iload 4, 2) := by decide +kernel
theorem dX12_laceLength_59 : decode cX12_laceLength 59 = .ok (.iaload, 1) := by decide +kernel
theorem dX12_laceLength_60 : decode cX12_laceLength 60 = .ok (.ishl, 1) := by decide +kernel
theorem dX12_laceLength_61 : decode cX12_laceLength 61 = .ok (.ior, 1) := by decide +kernel
theorem dX12_laceLength_62 : decode cX12_laceLength 62 = .ok (.istore_n 2, 1) := by decide +kernel
theorem dX12_laceLength_63 : decode cX12_laceLength 63 = .ok (.iload_n 3, 1) := by decide +kernel
theorem dX12_laceLength_64 : decode cX12_laceLength 64 = .ok (.aload_n 0, 1) := by decide +kernel
theorem dX12_laceLength_65 : decode cX12_laceLength 65 = .ok (.getfield 30, 3) := by decide +kernel
theorem dX12_laceLength_68 : decode cX12_laceLength 68 = .ok (.aload_n 0, 1) := by decide +kernel
theorem dX12_laceLength_69 : decode cX12_laceLength 69 = .ok (.getfield 307, 3) := by decide +kernel
theorem dX12_laceLength_72 : decode cX12_laceLength 72 = .ok (.getfield 267, 3) := by decide +kernel
theorem dX12_laceLength_75 : decode cX12_laceLength 75 = .ok (.iload 4, 2) := by decide +kernel
theorem dX12_laceLength_77 : decode cX12_laceLength 77 = .ok (.iaload, 1) := by decide +kernel
theorem dX12_laceLength_78 : decode cX12_laceLength 78 = .ok (.iaload, 1) := by decide +kernel
theorem dX12_laceLength_79 : decode cX12_laceLength 79 = .ok (.iadd, 1) := by decide +kernel
theorem dX12_laceLength_80 : decode cX12_laceLength 80 = .ok (.istore_n 3, 1) := by decide +kernel
theorem dX12_laceLength_81 : decode cX12_laceLength 81 = .ok (.iinc 4 1, 3) := by decide +kernel
theorem dX12_laceLength_84 : decode cX12_laceLength 84 = .ok (.goto (-77), 3) := by decide +kernel
theorem dX12_laceLength_87 : decode cX12_laceLength 87 = .ok (.iload_n 3, 1) := by decide +kernel
theorem dX12_laceLength_88 : decode cX12_laceLength 88 = .ok (.ireturn, 1) := by decide +kernel
theorem dX12_isLacing_0 : decode cX12_isLacing 0 = .ok (.aload_n 0, 1) := by decide +kernel
theorem dX12_isLacing_1 : decode cX12_isLacing 1 = .ok (.iload_n 1, 1) := by decide +kernel
theorem dX12_isLacing_2 : decode cX12_isLacing 2 = .ok (.aload_n 0, 1) := by decide +kernel
theorem dX12_isLacing_3 : decode cX12_isLacing 3 = .ok (.getfield 17, 3) := by decide +kernel
theorem dX12_isLacing_6 : decode cX12_isLacing 6 = .ok (.bipush 14, 2) := by decide +kernel
theorem dX12_isLacing_8 : decode cX12_isLacing 8 = .ok (.iaload, 1) := by decide +kernel
theorem dX12_isLacing_9 : decode cX12_isLacing 9 = .ok (.invokevirtual 332, 3) := by decide +kernel
theorem dX12_isLacing_12 : decode cX12_isLacing 12 = .ok (.aload_n 0, 1) := by decide +kernel
theorem dX12_isLacing_13 : decode cX12_isLacing 13 = .ok (.invokevirtual 356, 3) := by decide +kernel
theorem dX12_isLacing_16 : decode cX12_isLacing 16 = .ok (.ifCond .ne 26, 3) := by decide +kernel
theorem dX12_isLacing_19 : decode cX12_isLacing 19 = .ok (.aload_n 0, 1) := by decide +kernel
theorem dX12_isLacing_20 : decode cX12_isLacing 20 = .ok (.invokevirtual 353, 3) := by decide +kernel
theorem dX12_isLacing_23 : decode cX12_isLacing 23 = .ok (.ifCond .ne 19, 3) := by decide +kernel
theorem dX12_isLacing_26 : decode cX12_isLacing 26 = .ok (.aload_n 0, 1) := by decide +kernel
theorem dX12_isLacing_27 : decode cX12_isLacing 27 = .ok (.aload_n 0, 1) := by decide +kernel
theorem dX12_isLacing_28 : decode cX12_isLacing 28 = .ok (.getfield 17, 3) := by decide +kernel
theorem dX12_isLacing_31 : decode cX12_isLacing 31 = .ok (.iload_n 1, 1) := by decide +kernel
theorem dX12_isLacing_32 : decode cX12_isLacing 32 = .ok (.invokevirtual 347, 3) := by decide +kernel
theorem dX12_isLacing_35 : decode cX12_isLacing 35 = .ok (.ifCond .ne 7, 3) := by decide +kernel
theorem dX12_isLacing_38 : decode cX12_isLacing 38 = .ok (.iconst 1, 1) := by decide +kernel
theorem dX12_isLacing_39 : decode cX12_isLacing 39 = .ok (.goto 4, 3) := by decide +kernel
theorem dX12_isLacing_42 : decode cX12_isLacing 42 = .ok (.iconst 0, 1) := by decide +kernel
theorem dX12_isLacing_43 : decode cX12_isLacing 43 = .ok (.ireturn, 1) := by decide +kernel
theorem dX12_laces_0 : decode cX12_laces 0 = .ok (.aload_n 0, 1) := by decide +kernel
theorem dX12_laces_1 : decode cX12_laces 1 = .ok (.aload_n 0, 1) := by decide +kernel
theorem dX12_laces_2 : decode cX12_laces 2 = .ok (.getfield 17, 3) := by decide +kernel
theorem dX12_laces_5 : decode cX12_laces 5 = .ok (.iconst 2, 1) := by decide +kernel
theorem dX12_laces_6 : decode cX12_laces 6 = .ok (.invokevirtual 315, 3) := by decide +kernel
theorem dX12_laces_9 : decode cX12_laces 9 = .ok (.istore_n 1, 1) := by decide +kernel
theorem dX12_laces_10 : decode cX12_laces 10 = .ok (.aload_n 0, 1) := by decide +kernel
theorem dX12_laces_11 : decode cX12_laces 11 = .ok (.bipush (-2), 2) := by decide +kernel
theorem dX12_laces_13 : decode cX12_laces 13 = .ok (.putfield 363, 3) := by decide +kernel
theorem dX12_laces_16 : decode cX12_laces 16 = .ok (.aload_n 0, 1) := by decide +kernel
theorem dX12_laces_17 : decode cX12_laces 17 = .ok (.bipush (-2), 2) := by decide +kernel
theorem dX12_laces_19 : decode cX12_laces 19 = .ok (.putfield 366, 3) := by decide +kernel
theorem dX12_laces_22 : decode cX12_laces 22 = .ok (.aload_n 0, 1) := by decide +kernel
theorem dX12_laces_23 : decode cX12_laces 23 = .ok (.bipush (-2), 2) := by decide +kernel
theorem dX12_laces_25 : decode cX12_laces 25 = .ok (.putfield 369, 3) := by decide +kernel
theorem dX12_laces_28 : decode cX12_laces 28 = .ok (.aload_n 0, 1) := by decide +kernel
theorem dX12_laces_29 : decode cX12_laces 29 = .ok (.iconst 0, 1) := by decide +kernel
theorem dX12_laces_30 : decode cX12_laces 30 = .ok (.putfield 372, 3) := by decide +kernel
theorem dX12_laces_33 : decode cX12_laces 33 = .ok (.iconst 0, 1) := by decide +kernel
theorem dX12_laces_34 : decode cX12_laces 34 = .ok (.istore_n 2, 1) := by decide +kernel
theorem dX12_laces_35 : decode cX12_laces 35 = .ok (.iload_n 2, 1) := by decide +kernel
theorem dX12_laces_36 : decode cX12_laces 36 = .ok (.iconst 1, 1) := by decide +kernel
theorem dX12_laces_37 : decode cX12_laces 37 = .ok (.aload_n 0, 1) := by decide +kernel
theorem dX12_laces_38 : decode cX12_laces 38 = .ok (.getfield 307, 3) := by decide +kernel
theorem dX12_laces_41 : decode cX12_laces 41 = .ok (.getfield 255, 3) := by decide +kernel
theorem dX12_laces_44 : decode cX12_laces 44 = .ok (.ishl, 1) := by decide +kernel
theorem dX12_laces_45 : decode cX12_laces 45 = .ok (.if_icmp .ge 100, 3) := by decide +kernel
theorem dX12_laces_48 : decode cX12_laces 48 = .ok (.iload_n 2, 1) := by decide +kernel
theorem dX12_laces_49 : decode cX12_laces 49 = .ok (.iload_n 1, 1) := by decide +kernel
theorem dX12_laces_50 : decode cX12_laces 50 = .ok (.iand, 1) := by decide +kernel
theorem dX12_laces_51 : decode cX12_laces 51 = .ok (.ifCond .ne 88, 3) := by decide +kernel
theorem dX12_laces_54 : decode cX12_laces 54 = .ok (.aload_n 0, 1) := by decide +kernel
theorem dX12_laces_55 : decode cX12_laces 55 = .ok (.iload_n 2, 1) := by decide +kernel
theorem dX12_laces_56 : decode cX12_laces 56 = .ok (.invokevirtual 375, 3) := by decide +kernel
theorem dX12_laces_59 : decode cX12_laces 59 = .ok (.ifCond .ne 6, 3) := by decide +kernel
theorem dX12_laces_62 : decode cX12_laces 62 = .ok (.goto 77, 3) := by decide +kernel
theorem dX12_laces_65 : decode cX12_laces 65 = .ok (.aload_n 0, 1) := by decide +kernel
theorem dX12_laces_66 : decode cX12_laces 66 = .ok (.dup, 1) := by decide +kernel
theorem dX12_laces_67 : decode cX12_laces 67 = .ok (.getfield 372, 3) := by decide +kernel
theorem dX12_laces_70 : decode cX12_laces 70 = .ok (.iconst 1, 1) := by decide +kernel
theorem dX12_laces_71 : decode cX12_laces 71 = .ok (.iadd, 1) := by decide +kernel
theorem dX12_laces_72 : decode cX12_laces 72 = .ok (.putfield 372, 3) := by decide +kernel
theorem dX12_laces_75 : decode cX12_laces 75 = .ok (.aload_n 0, 1) := by decide +kernel
theorem dX12_laces_76 : decode cX12_laces 76 = .ok (.getfield 363, 3) := by decide +kernel
theorem dX12_laces_79 : decode cX12_laces 79 = .ok (.bipush (-2), 2) := by decide +kernel
theorem dX12_laces_81 : decode cX12_laces 81 = .ok (.if_icmp .eq 17, 3) := by decide +kernel
theorem dX12_laces_84 : decode cX12_laces 84 = .ok (.iload_n 2, 1) := by decide +kernel
theorem dX12_laces_85 : decode cX12_laces 85 = .ok (.invokestatic 378, 3) := by decide +kernel
theorem dX12_laces_88 : decode cX12_laces 88 = .ok (.aload_n 0, 1) := by decide +kernel
theorem dX12_laces_89 : decode cX12_laces 89 = .ok (.getfield 363, 3) := by decide +kernel
theorem dX12_laces_92 : decode cX12_laces 92 = .ok (.invokestatic 378, 3) := by decide +kernel
theorem dX12_laces_95 : decode cX12_laces 95 = .ok (.if_icmp .ge 8, 3) := by decide +kernel
theorem dX12_laces_98 : decode cX12_laces 98 = .ok (.aload_n 0, 1) := by decide +kernel
theorem dX12_laces_99 : decode cX12_laces 99 = .ok (.iload_n 2, 1) := by decide +kernel
theorem dX12_laces_100 : decode cX12_laces 100 = .ok (.putfield 363, 3) := by decide +kernel
theorem dX12_laces_103 : decode cX12_laces 103 = .ok (.aload_n 0, 1) := by decide +kernel
theorem dX12_laces_104 : decode cX12_laces 104 = .ok (.iload_n 2, 1) := by decide +kernel
theorem dX12_laces_105 : decode cX12_laces 105 = .ok (.invokevirtual 381, 3) := by decide +kernel
theorem dX12_laces_108 : decode cX12_laces 108 = .ok (.istore_n 3, 1) := by decide +kernel
theorem dX12_laces_109 : decode cX12_laces 109 = .ok (.aload_n 0, 1) := by decide +kernel
theorem dX12_laces_110 : decode cX12_laces 110 = .ok (.getfield 366, 3) := by decide +kernel
theorem dX12_laces_113 : decode cX12_laces 113 = .ok (.bipush (-2), 2) := by decide +kernel
theorem dX12_laces_115 : decode cX12_laces 115 = .ok (.if_icmp .eq 14, 3) := by decide +kernel
theorem dX12_laces_118 : decode cX12_laces 118 = .ok (.iload_n 3, 1) := by decide +kernel
theorem dX12_laces_119 : decode cX12_laces 119 = .ok (.aload_n 0, 1) := by decide +kernel
theorem dX12_laces_120 : decode cX12_laces 120 = .ok (.getfield 369, 3) := by decide +kernel
theorem dX12_laces_123 : decode cX12_laces 123 = .ok (.if_icmp .lt 6, 3) := by decide +kernel
theorem dX12_laces_126 : decode cX12_laces 126 = .ok (.goto 13, 3) := by decide +kernel
theorem dX12_laces_129 : decode cX12_laces 129 = .ok (.aload_n 0, 1) := by decide +kernel
theorem dX12_laces_130 : decode cX12_laces 130 = .ok (.iload_n 2, 1) := by decide +kernel
theorem dX12_laces_131 : decode cX12_laces 131 = .ok (.putfield 366, 3) := by decide +kernel
theorem dX12_laces_134 : decode cX12_laces 134 = .ok (.aload_n 0, 1) := by decide +kernel
theorem dX12_laces_135 : decode cX12_laces 135 = .ok (.iload_n 3, 1) := by decide +kernel
theorem dX12_laces_136 : decode cX12_laces 136 = .ok (.putfield 369, 3) := by decide +kernel
theorem dX12_laces_139 : decode cX12_laces 139 = .ok (.iinc 2 1, 3) := by decide +kernel
theorem dX12_laces_142 : decode cX12_laces 142 = .ok (.goto (-107), 3) := by decide +kernel
theorem dX12_laces_145 : decode cX12_laces 145 = .ok (.return_, 1) := by decide +kernel
theorem dX12_lacing_0 : decode cX12_lacing 0 = .ok (.aload_n 0, 1) := by decide +kernel
theorem dX12_lacing_1 : decode cX12_lacing 1 = .ok (.iconst 0, 1) := by decide +kernel
theorem dX12_lacing_2 : decode cX12_lacing 2 = .ok (.putfield 51, 3) := by decide +kernel
theorem dX12_lacing_5 : decode cX12_lacing 5 = .ok (.aload_n 0, 1) := by decide +kernel
theorem dX12_lacing_6 : decode cX12_lacing 6 = .ok (.getfield 307, 3) := by decide +kernel
theorem dX12_lacing_9 : decode cX12_lacing 9 = .ok (.ifnonnull 9, 3) := by decide +kernel
theorem dX12_lacing_12 : decode cX12_lacing 12 = .ok (.aload_n 0, 1) := by decide +kernel
theorem dX12_lacing_13 : decode cX12_lacing 13 = .ok (.iconst 1, 1) := by decide +kernel
theorem dX12_lacing_14 : decode cX12_lacing 14 = .ok (.invokevirtual 57, 3) := by decide +kernel
theorem dX12_lacing_17 : decode cX12_lacing 17 = .ok (.ireturn, 1) := by decide +kernel
theorem dX12_lacing_18 : decode cX12_lacing 18 = .ok (.aload_n 0, 1) := by decide +kernel
theorem dX12_lacing_19 : decode cX12_lacing 19 = .ok (.invokevirtual 384, 3) := by decide +kernel
theorem dX12_lacing_22 : decode cX12_lacing 22 = .ok (.aload_n 0, 1) := by decide +kernel
theorem dX12_lacing_23 : decode cX12_lacing 23 = .ok (.aload_n 0, 1) := by decide +kernel
theorem dX12_lacing_24 : decode cX12_lacing 24 = .ok (.getfield 363, 3) := by decide +kernel
theorem dX12_lacing_27 : decode cX12_lacing 27 = .ok (.invokevirtual 61, 3) := by decide +kernel
theorem dX12_lacing_30 : decode cX12_lacing 30 = .ok (.ireturn, 1) := by decide +kernel
theorem dX12_length_0 : decode cX12_length 0 = .ok (.aload_n 0, 1) := by decide +kernel
theorem dX12_length_1 : decode cX12_length 1 = .ok (.iconst 0, 1) := by decide +kernel
theorem dX12_length_2 : decode cX12_length 2 = .ok (.putfield 51, 3) := by decide +kernel
theorem dX12_length_5 : decode cX12_length 5 = .ok (.aload_n 0, 1) := by decide +kernel
theorem dX12_length_6 : decode cX12_length 6 = .ok (.getfield 307, 3) := by decide +kernel
theorem dX12_length_9 : decode cX12_length 9 = .ok (.ifnonnull 9, 3) := by decide +kernel
theorem dX12_length_12 : decode cX12_length 12 = .ok (.aload_n 0, 1) := by decide +kernel
theorem dX12_length_13 : decode cX12_length 13 = .ok (.iconst 1, 1) := by decide +kernel
theorem dX12_length_14 : decode cX12_length 14 = .ok (.invokevirtual 57, 3) := by decide +kernel
theorem dX12_length_17 : decode cX12_length 17 = .ok (.ireturn, 1) := by decide +kernel
theorem dX12_length_18 : decode cX12_length 18 = .ok (.aload_n 0, 1) := by decide +kernel
theorem dX12_length_19 : decode cX12_length 19 = .ok (.invokevirtual 384, 3) := by decide +kernel
theorem dX12_length_22 : decode cX12_length 22 = .ok (.aload_n 0, 1) := by decide +kernel
theorem dX12_length_23 : decode cX12_length 23 = .ok (.aload_n 0, 1) := by decide +kernel
theorem dX12_length_24 : decode cX12_length 24 = .ok (.getfield 366, 3) := by decide +kernel
theorem dX12_length_27 : decode cX12_length 27 = .ok (.invokevirtual 61, 3) := by decide +kernel
theorem dX12_length_30 : decode cX12_length 30 = .ok (.ireturn, 1) := by decide +kernel
theorem dX12_lengthSum_0 : decode cX12_lengthSum 0 = .ok (.aload_n 0, 1) := by decide +kernel
theorem dX12_lengthSum_1 : decode cX12_lengthSum 1 = .ok (.iconst 0, 1) := by decide +kernel
theorem dX12_lengthSum_2 : decode cX12_lengthSum 2 = .ok (.putfield 51, 3) := by decide +kernel
theorem dX12_lengthSum_5 : decode cX12_lengthSum 5 = .ok (.aload_n 0, 1) := by decide +kernel
theorem dX12_lengthSum_6 : decode cX12_lengthSum 6 = .ok (.getfield 307, 3) := by decide +kernel
theorem dX12_lengthSum_9 : decode cX12_lengthSum 9 = .ok (.ifnonnull 9, 3) := by decide +kernel
theorem dX12_lengthSum_12 : decode cX12_lengthSum 12 = .ok (.aload_n 0, 1) := by decide +kernel
theorem dX12_lengthSum_13 : decode cX12_lengthSum 13 = .ok (.iconst 1, 1) := by decide +kernel
theorem dX12_lengthSum_14 : decode cX12_lengthSum 14 = .ok (.invokevirtual 57, 3) := by decide +kernel
theorem dX12_lengthSum_17 : decode cX12_lengthSum 17 = .ok (.ireturn, 1) := by decide +kernel
theorem dX12_lengthSum_18 : decode cX12_lengthSum 18 = .ok (.aload_n 0, 1) := by decide +kernel
theorem dX12_lengthSum_19 : decode cX12_lengthSum 19 = .ok (.invokevirtual 384, 3) := by decide +kernel
theorem dX12_lengthSum_22 : decode cX12_lengthSum 22 = .ok (.aload_n 0, 1) := by decide +kernel
theorem dX12_lengthSum_23 : decode cX12_lengthSum 23 = .ok (.aload_n 0, 1) := by decide +kernel
theorem dX12_lengthSum_24 : decode cX12_lengthSum 24 = .ok (.getfield 369, 3) := by decide +kernel
theorem dX12_lengthSum_27 : decode cX12_lengthSum 27 = .ok (.invokevirtual 61, 3) := by decide +kernel
theorem dX12_lengthSum_30 : decode cX12_lengthSum 30 = .ok (.ireturn, 1) := by decide +kernel
theorem dX12_lacings_0 : decode cX12_lacings 0 = .ok (.aload_n 0, 1) := by decide +kernel
theorem dX12_lacings_1 : decode cX12_lacings 1 = .ok (.iconst 0, 1) := by decide +kernel
theorem dX12_lacings_2 : decode cX12_lacings 2 = .ok (.putfield 51, 3) := by decide +kernel
theorem dX12_lacings_5 : decode cX12_lacings 5 = .ok (.aload_n 0, 1) := by decide +kernel
theorem dX12_lacings_6 : decode cX12_lacings 6 = .ok (.getfield 307, 3) := by decide +kernel
theorem dX12_lacings_9 : decode cX12_lacings 9 = .ok (.ifnonnull 9, 3) := by decide +kernel
theorem dX12_lacings_12 : decode cX12_lacings 12 = .ok (.aload_n 0, 1) := by decide +kernel
theorem dX12_lacings_13 : decode cX12_lacings 13 = .ok (.iconst 1, 1) := by decide +kernel
theorem dX12_lacings_14 : decode cX12_lacings 14 = .ok (.invokevirtual 57, 3) := by decide +kernel
theorem dX12_lacings_17 : decode cX12_lacings 17 = .ok (.ireturn, 1) := by decide +kernel
theorem dX12_lacings_18 : decode cX12_lacings 18 = .ok (.aload_n 0, 1) := by decide +kernel
theorem dX12_lacings_19 : decode cX12_lacings 19 = .ok (.invokevirtual 384, 3) := by decide +kernel
theorem dX12_lacings_22 : decode cX12_lacings 22 = .ok (.aload_n 0, 1) := by decide +kernel
theorem dX12_lacings_23 : decode cX12_lacings 23 = .ok (.aload_n 0, 1) := by decide +kernel
theorem dX12_lacings_24 : decode cX12_lacings 24 = .ok (.getfield 372, 3) := by decide +kernel
theorem dX12_lacings_27 : decode cX12_lacings 27 = .ok (.invokevirtual 61, 3) := by decide +kernel
theorem dX12_lacings_30 : decode cX12_lacings 30 = .ok (.ireturn, 1) := by decide +kernel
theorem dX12_changes_0 : decode cX12_changes 0 = .ok (.aload_n 0, 1) := by decide +kernel
theorem dX12_changes_1 : decode cX12_changes 1 = .ok (.invokevirtual 329, 3) := by decide +kernel
theorem dX12_changes_4 : decode cX12_changes 4 = .ok (.istore_n 1, 1) := by decide +kernel
theorem dX12_changes_5 : decode cX12_changes 5 = .ok (.bipush (-2), 2) := by decide +kernel
theorem dX12_changes_7 : decode cX12_changes 7 = .ok (.istore_n 2, 1) := by decide +kernel
theorem dX12_changes_8 : decode cX12_changes 8 = .ok (.aload_n 0, 1) := by decide +kernel
theorem dX12_changes_9 : decode cX12_changes 9 = .ok (.invokevirtual 341, 3) := by decide +kernel
theorem dX12_changes_12 : decode cX12_changes 12 = .ok (.aload_n 0, 1) := by decide +kernel
theorem dX12_changes_13 : decode cX12_changes 13 = .ok (.invokevirtual 350, 3) := by decide +kernel
theorem dX12_changes_16 : decode cX12_changes 16 = .ok (.istore_n 3, 1) := by decide +kernel
theorem dX12_changes_17 : decode cX12_changes 17 = .ok (.aload_n 0, 1) := by decide +kernel
theorem dX12_changes_18 : decode cX12_changes 18 = .ok (.bipush (-2), 2) := by decide +kernel
theorem dX12_changes_20 : decode cX12_changes 20 = .ok (.putfield 387, 3) := by decide +kernel
theorem dX12_changes_23 : decode cX12_changes 23 = .ok (.iconst 0, 1) := by decide +kernel
theorem dX12_changes_24 : decode cX12_changes 24 = .ok (.istore 4, 2) := by decide +kernel
theorem dX12_changes_26 : decode cX12_changes 26 = .ok (.iload 4, 2) := by decide +kernel
theorem dX12_changes_28 : decode cX12_changes 28 = .ok (.aload_n 0, 1) := by decide +kernel
theorem dX12_changes_29 : decode cX12_changes 29 = .ok (.getfield 307, 3) := by decide +kernel
theorem dX12_changes_32 : decode cX12_changes 32 = .ok (.getfield 255, 3) := by decide +kernel
theorem dX12_changes_35 : decode cX12_changes 35 = .ok (.if_icmp .ge 66, 3) := by decide +kernel
theorem dX12_changes_38 : decode cX12_changes 38 = .ok (.aload_n 0, 1) := by decide +kernel
theorem dX12_changes_39 : decode cX12_changes 39 = .ok (.getfield 17, 3) := by decide +kernel
theorem dX12_changes_42 : decode cX12_changes 42 = .ok (.iconst 0, 1) := by decide +kernel
theorem dX12_changes_43 : decode cX12_changes 43 = .ok (.iload 4, 2) := by decide +kernel
theorem dX12_changes_45 : decode cX12_changes 45 = .ok (.iadd, 1) := by decide +kernel
theorem dX12_changes_46 : decode cX12_changes 46 = .ok (.iaload, 1) := by decide +kernel
theorem dX12_changes_47 : decode cX12_changes 47 = .ok (.iconst 2, 1) := by decide +kernel
theorem dX12_changes_48 : decode cX12_changes 48 = .ok (.if_icmp .ne 6, 3) := by decide +kernel
theorem dX12_changes_51 : decode cX12_changes 51 = .ok (.goto 44, 3) := by decide +kernel
theorem dX12_changes_54 : decode cX12_changes 54 = .ok (.aload_n 0, 1) := by decide +kernel
theorem dX12_changes_55 : decode cX12_changes 55 = .ok (.iload_n 1, 1) := by decide +kernel
theorem dX12_changes_56 : decode cX12_changes 56 = .ok (.iconst 1, 1) := by decide +kernel
theorem dX12_changes_57 : decode cX12_changes 57 = .ok (.iload 4, 2) := by decide +kernel
theorem dX12_changes_59 : decode cX12_changes 59 = .ok (.ishl, 1) := by decide +kernel
theorem dX12_changes_60 : decode cX12_changes 60 = .ok (.ixor, 1) := by decide +kernel
theorem dX12_changes_61 : decode cX12_changes 61 = .ok (.aload_n 0, 1) := by decide +kernel
theorem dX12_changes_62 : decode cX12_changes 62 = .ok (.getfield 17, 3) := by decide +kernel
theorem dX12_changes_65 : decode cX12_changes 65 = .ok (.bipush 14, 2) := by decide +kernel
theorem dX12_changes_67 : decode cX12_changes 67 = .ok (.iaload, 1) := by decide +kernel
theorem dX12_changes_68 : decode cX12_changes 68 = .ok (.invokevirtual 332, 3) := by decide +kernel
theorem dX12_changes_71 : decode cX12_changes 71 = .ok (.aload_n 0, 1) := by decide +kernel
theorem dX12_changes_72 : decode cX12_changes 72 = .ok (.invokevirtual 350, 3) := by decide +kernel
theorem dX12_changes_75 : decode cX12_changes 75 = .ok (.iload_n 3, 1) := by decide +kernel
theorem dX12_changes_76 : decode cX12_changes 76 = .ok (.if_icmp .lt 6, 3) := by decide +kernel
theorem dX12_changes_79 : decode cX12_changes 79 = .ok (.goto 16, 3) := by decide +kernel
theorem dX12_changes_82 : decode cX12_changes 82 = .ok (.aload_n 0, 1) := by decide +kernel
theorem dX12_changes_83 : decode cX12_changes 83 = .ok (.invokevirtual 350, 3) := by decide +kernel
theorem dX12_changes_86 : decode cX12_changes 86 = .ok (.istore_n 3, 1) := by decide +kernel
theorem dX12_changes_87 : decode cX12_changes 87 = .ok (.aload_n 0, 1) := by decide +kernel
theorem dX12_changes_88 : decode cX12_changes 88 = .ok (.iload_n 3, 1) := by decide +kernel
theorem dX12_changes_89 : decode cX12_changes 89 = .ok (.putfield 387, 3) := by decide +kernel
theorem dX12_changes_92 : decode cX12_changes 92 = .ok (.iload 4, 2) := by decide +kernel
theorem dX12_changes_94 : decode cX12_changes 94 = .ok (.istore_n 2, 1) := by decide +kernel
theorem dX12_changes_95 : decode cX12_changes 95 = .ok (.iinc 4 1, 3) := by decide +kernel
theorem dX12_changes_98 : decode cX12_changes 98 = .ok (.goto (-72), 3) := by decide +kernel
theorem dX12_changes_101 : decode cX12_changes 101 = .ok (.iload_n 2, 1) := by decide +kernel
theorem dX12_changes_102 : decode cX12_changes 102 = .ok (.ireturn, 1) := by decide +kernel
theorem dX12_bestChange_0 : decode cX12_bestChange 0 = .ok (.aload_n 0, 1) := by decide +kernel
theorem dX12_bestChange_1 : decode cX12_bestChange 1 = .ok (.iconst 0, 1) := by decide +kernel
theorem dX12_bestChange_2 : decode cX12_bestChange 2 = .ok (.putfield 51, 3) := by decide +kernel
theorem dX12_bestChange_5 : decode cX12_bestChange 5 = .ok (.aload_n 0, 1) := by decide +kernel
theorem dX12_bestChange_6 : decode cX12_bestChange 6 = .ok (.getfield 307, 3) := by decide +kernel
theorem dX12_bestChange_9 : decode cX12_bestChange 9 = .ok (.ifnonnull 11, 3) := by decide +kernel
theorem dX12_bestChange_12 : decode cX12_bestChange 12 = .ok (.aload_n 0, 1) := by decide +kernel
theorem dX12_bestChange_13 : decode cX12_bestChange 13 = .ok (.iconst 1, 1) := by decide +kernel
theorem dX12_bestChange_14 : decode cX12_bestChange 14 = .ok (.invokevirtual 57, 3) := by decide +kernel
theorem dX12_bestChange_17 : decode cX12_bestChange 17 = .ok (.goto 11, 3) := by decide +kernel
theorem dX12_bestChange_20 : decode cX12_bestChange 20 = .ok (.aload_n 0, 1) := by decide +kernel
theorem dX12_bestChange_21 : decode cX12_bestChange 21 = .ok (.aload_n 0, 1) := by decide +kernel
theorem dX12_bestChange_22 : decode cX12_bestChange 22 = .ok (.invokevirtual 390, 3) := by decide +kernel
theorem dX12_bestChange_25 : decode cX12_bestChange 25 = .ok (.invokevirtual 61, 3) := by decide +kernel
theorem dX12_bestChange_28 : decode cX12_bestChange 28 = .ok (.ireturn, 1) := by decide +kernel
theorem dX12_changeHarm_0 : decode cX12_changeHarm 0 = .ok (.aload_n 0, 1) := by decide +kernel
theorem dX12_changeHarm_1 : decode cX12_changeHarm 1 = .ok (.iconst 0, 1) := by decide +kernel
theorem dX12_changeHarm_2 : decode cX12_changeHarm 2 = .ok (.putfield 51, 3) := by decide +kernel
theorem dX12_changeHarm_5 : decode cX12_changeHarm 5 = .ok (.aload_n 0, 1) := by decide +kernel
theorem dX12_changeHarm_6 : decode cX12_changeHarm 6 = .ok (.getfield 307, 3) := by decide +kernel
theorem dX12_changeHarm_9 : decode cX12_changeHarm 9 = .ok (.ifnonnull 9, 3) := by decide +kernel
theorem dX12_changeHarm_12 : decode cX12_changeHarm 12 = .ok (.aload_n 0, 1) := by decide +kernel
theorem dX12_changeHarm_13 : decode cX12_changeHarm 13 = .ok (.iconst 1, 1) := by decide +kernel
theorem dX12_changeHarm_14 : decode cX12_changeHarm 14 = .ok (.invokevirtual 57, 3) := by decide +kernel
theorem dX12_changeHarm_17 : decode cX12_changeHarm 17 = .ok (.ireturn, 1) := by decide +kernel
theorem dX12_changeHarm_18 : decode cX12_changeHarm 18 = .ok (.aload_n 0, 1) := by decide +kernel
theorem dX12_changeHarm_19 : decode cX12_changeHarm 19 = .ok (.invokevirtual 390, 3) := by decide +kernel
theorem dX12_changeHarm_22 : decode cX12_changeHarm 22 = .ok (.pop, 1) := by decide +kernel
theorem dX12_changeHarm_23 : decode cX12_changeHarm 23 = .ok (.aload_n 0, 1) := by decide +kernel
theorem dX12_changeHarm_24 : decode cX12_changeHarm 24 = .ok (.aload_n 0, 1) := by decide +kernel
theorem dX12_changeHarm_25 : decode cX12_changeHarm 25 = .ok (.getfield 387, 3) := by decide +kernel
theorem dX12_changeHarm_28 : decode cX12_changeHarm 28 = .ok (.invokevirtual 61, 3) := by decide +kernel
theorem dX12_changeHarm_31 : decode cX12_changeHarm 31 = .ok (.ireturn, 1) := by decide +kernel
theorem dX12_passing_0 : decode cX12_passing 0 = .ok (.iconst 0, 1) := by decide +kernel
theorem dX12_passing_1 : decode cX12_passing 1 = .ok (.istore_n 2, 1) := by decide +kernel
theorem dX12_passing_2 : decode cX12_passing 2 = .ok (.iconst 0, 1) := by decide +kernel
theorem dX12_passing_3 : decode cX12_passing 3 = .ok (.istore_n 3, 1) := by decide +kernel
theorem dX12_passing_4 : decode cX12_passing 4 = .ok (.iload_n 3, 1) := by decide +kernel
theorem dX12_passing_5 : decode cX12_passing 5 = .ok (.aload_n 0, 1) := by decide +kernel
theorem dX12_passing_6 : decode cX12_passing 6 = .ok (.getfield 307, 3) := by decide +kernel
theorem dX12_passing_9 : decode cX12_passing 9 = .ok (.getfield 188, 3) := by decide +kernel
theorem dX12_passing_12 : decode cX12_passing 12 = .ok (.if_icmp .ge 55, 3) := by decide +kernel
theorem dX12_passing_15 : decode cX12_passing 15 = .ok (.iload_n 2, 1) := by decide +kernel
theorem dX12_passing_16 : decode cX12_passing 16 = .ok (.aload_n 0, 1) := by decide +kernel
theorem dX12_passing_17 : decode cX12_passing 17 = .ok (.getfield 30, 3) := by decide +kernel
theorem dX12_passing_20 : decode cX12_passing 20 = .ok (.iload_n 3, 1) := by decide +kernel
theorem dX12_passing_21 : decode cX12_passing 21 = .ok (.iaload, 1) := by decide +kernel
theorem dX12_passing_22 : decode cX12_passing 22 = .ok (.aload_n 0, 1) := by decide +kernel
theorem dX12_passing_23 : decode cX12_passing 23 = .ok (.getfield 307, 3) := by decide +kernel
theorem dX12_passing_26 : decode cX12_passing 26 = .ok (.getfield 291, 3) := by decide +kernel
theorem dX12_passing_29 : decode cX12_passing 29 = .ok (.iload_n 1, 1) := by decide +kernel
theorem dX12_passing_30 : decode cX12_passing 30 = .ok (.iaload, 1) := by decide +kernel
theorem dX12_passing_31 : decode cX12_passing 31 = .ok (.if_icmp .lt 27, 3) := by decide +kernel
theorem dX12_passing_34 : decode cX12_passing 34 = .ok (.aload_n 0, 1) := by decide +kernel
theorem dX12_passing_35 : decode cX12_passing 35 = .ok (.getfield 36, 3) := by decide +kernel
theorem dX12_passing_38 : decode cX12_passing 38 = .ok (.iload_n 3, 1) := by decide +kernel
theorem dX12_passing_39 : decode cX12_passing 39 = .ok (.iaload, 1) := by decide +kernel
theorem dX12_passing_40 : decode cX12_passing 40 = .ok (.aload_n 0, 1) := by decide +kernel
theorem dX12_passing_41 : decode cX12_passing 41 = .ok (.getfield 307, 3) := by decide +kernel
theorem dX12_passing_44 : decode cX12_passing 44 = .ok (.getfield 294, 3) := by decide +kernel
theorem dX12_passing_47 : decode cX12_passing 47 = .ok (.iload_n 1, 1) := by decide +kernel
theorem dX12_passing_48 : decode cX12_passing 48 = .ok (.iaload, 1) := by decide +kernel
theorem dX12_passing_49 : decode cX12_passing 49 = .ok (.if_icmp .lt 9, 3) := by decide +kernel
theorem dX12_passing_52 : decode cX12_passing 52 = .ok (.iconst 1, 1) := by decide +kernel
theorem dX12_passing_53 : decode cX12_passing 53 = .ok (.iload_n 3, 1) := by decide +kernel
theorem dX12_passing_54 : decode cX12_passing 54 = .ok (.ishl, 1) := by decide +kernel
theorem dX12_passing_55 : decode cX12_passing 55 = .ok (.goto 4, 3) := by decide +kernel
theorem dX12_passing_58 : decode cX12_passing 58 = .ok (.iconst 0, 1) := by decide +kernel
theorem dX12_passing_59 : decode cX12_passing 59 = .ok (.ior, 1) := by decide +kernel
theorem dX12_passing_60 : decode cX12_passing 60 = .ok (.istore_n 2, 1) := by decide +kernel
theorem dX12_passing_61 : decode cX12_passing 61 = .ok (.iinc 3 1, 3) := by decide +kernel
theorem dX12_passing_64 : decode cX12_passing 64 = .ok (.goto (-60), 3) := by decide +kernel
theorem dX12_passing_67 : decode cX12_passing 67 = .ok (.iload_n 2, 1) := by decide +kernel
theorem dX12_passing_68 : decode cX12_passing 68 = .ok (.ireturn, 1) := by decide +kernel
theorem dX12_allReaches_0 : decode cX12_allReaches 0 = .ok (.iconst 1, 1) := by decide +kernel
theorem dX12_allReaches_1 : decode cX12_allReaches 1 = .ok (.aload_n 0, 1) := by decide +kernel
theorem dX12_allReaches_2 : decode cX12_allReaches 2 = .ok (.getfield 307, 3) := by decide +kernel
theorem dX12_allReaches_5 : decode cX12_allReaches 5 = .ok (.getfield 188, 3) := by decide +kernel
theorem dX12_allReaches_8 : decode cX12_allReaches 8 = .ok (.ishl, 1) := by decide +kernel
theorem dX12_allReaches_9 : decode cX12_allReaches 9 = .ok (.iconst 1, 1) := by decide +kernel
theorem dX12_allReaches_10 : decode cX12_allReaches 10 = .ok (.isub, 1) := by decide +kernel
theorem dX12_allReaches_11 : decode cX12_allReaches 11 = .ok (.ireturn, 1) := by decide +kernel
theorem dX12_passes_0 : decode cX12_passes 0 = .ok (.aload_n 0, 1) := by decide +kernel
theorem dX12_passes_1 : decode cX12_passes 1 = .ok (.iconst 0, 1) := by decide +kernel
theorem dX12_passes_2 : decode cX12_passes 2 = .ok (.putfield 51, 3) := by decide +kernel
theorem dX12_passes_5 : decode cX12_passes 5 = .ok (.aload_n 0, 1) := by decide +kernel
theorem dX12_passes_6 : decode cX12_passes 6 = .ok (.iload_n 1, 1) := by decide +kernel
theorem dX12_passes_7 : decode cX12_passes 7 = .ok (.invokevirtual 393, 3) := by decide +kernel
theorem dX12_passes_10 : decode cX12_passes 10 = .ok (.ifCond .ne 9, 3) := by decide +kernel
theorem dX12_passes_13 : decode cX12_passes 13 = .ok (.aload_n 0, 1) := by decide +kernel
theorem dX12_passes_14 : decode cX12_passes 14 = .ok (.iconst 1, 1) := by decide +kernel
theorem dX12_passes_15 : decode cX12_passes 15 = .ok (.invokevirtual 57, 3) := by decide +kernel
theorem dX12_passes_18 : decode cX12_passes 18 = .ok (.ireturn, 1) := by decide +kernel
theorem dX12_passes_19 : decode cX12_passes 19 = .ok (.aload_n 0, 1) := by decide +kernel
theorem dX12_passes_20 : decode cX12_passes 20 = .ok (.invokevirtual 341, 3) := by decide +kernel
theorem dX12_passes_23 : decode cX12_passes 23 = .ok (.aload_n 0, 1) := by decide +kernel
theorem dX12_passes_24 : decode cX12_passes 24 = .ok (.aload_n 0, 1) := by decide +kernel
theorem dX12_passes_25 : decode cX12_passes 25 = .ok (.iload_n 1, 1) := by decide +kernel
theorem dX12_passes_26 : decode cX12_passes 26 = .ok (.invokevirtual 396, 3) := by decide +kernel
theorem dX12_passes_29 : decode cX12_passes 29 = .ok (.invokevirtual 61, 3) := by decide +kernel
theorem dX12_passes_32 : decode cX12_passes 32 = .ok (.ireturn, 1) := by decide +kernel
theorem dX12_stuck_0 : decode cX12_stuck 0 = .ok (.aload_n 0, 1) := by decide +kernel
theorem dX12_stuck_1 : decode cX12_stuck 1 = .ok (.iconst 0, 1) := by decide +kernel
theorem dX12_stuck_2 : decode cX12_stuck 2 = .ok (.putfield 51, 3) := by decide +kernel
theorem dX12_stuck_5 : decode cX12_stuck 5 = .ok (.aload_n 0, 1) := by decide +kernel
theorem dX12_stuck_6 : decode cX12_stuck 6 = .ok (.iload_n 1, 1) := by decide +kernel
theorem dX12_stuck_7 : decode cX12_stuck 7 = .ok (.invokevirtual 393, 3) := by decide +kernel
theorem dX12_stuck_10 : decode cX12_stuck 10 = .ok (.ifCond .ne 9, 3) := by decide +kernel
theorem dX12_stuck_13 : decode cX12_stuck 13 = .ok (.aload_n 0, 1) := by decide +kernel
theorem dX12_stuck_14 : decode cX12_stuck 14 = .ok (.iconst 1, 1) := by decide +kernel
theorem dX12_stuck_15 : decode cX12_stuck 15 = .ok (.invokevirtual 57, 3) := by decide +kernel
theorem dX12_stuck_18 : decode cX12_stuck 18 = .ok (.ireturn, 1) := by decide +kernel
theorem dX12_stuck_19 : decode cX12_stuck 19 = .ok (.aload_n 0, 1) := by decide +kernel
theorem dX12_stuck_20 : decode cX12_stuck 20 = .ok (.invokevirtual 341, 3) := by decide +kernel
theorem dX12_stuck_23 : decode cX12_stuck 23 = .ok (.aload_n 0, 1) := by decide +kernel
theorem dX12_stuck_24 : decode cX12_stuck 24 = .ok (.iload_n 1, 1) := by decide +kernel
theorem dX12_stuck_25 : decode cX12_stuck 25 = .ok (.invokevirtual 396, 3) := by decide +kernel
theorem dX12_stuck_28 : decode cX12_stuck 28 = .ok (.istore_n 2, 1) := by decide +kernel
theorem dX12_stuck_29 : decode cX12_stuck 29 = .ok (.iconst 0, 1) := by decide +kernel
theorem dX12_stuck_30 : decode cX12_stuck 30 = .ok (.istore_n 3, 1) := by decide +kernel
theorem dX12_stuck_31 : decode cX12_stuck 31 = .ok (.iload_n 3, 1) := by decide +kernel
theorem dX12_stuck_32 : decode cX12_stuck 32 = .ok (.aload_n 0, 1) := by decide +kernel
theorem dX12_stuck_33 : decode cX12_stuck 33 = .ok (.getfield 307, 3) := by decide +kernel
theorem dX12_stuck_36 : decode cX12_stuck 36 = .ok (.getfield 188, 3) := by decide +kernel
theorem dX12_stuck_39 : decode cX12_stuck 39 = .ok (.if_icmp .ge 23, 3) := by decide +kernel
theorem dX12_stuck_42 : decode cX12_stuck 42 = .ok (.iload_n 2, 1) := by decide +kernel
theorem dX12_stuck_43 : decode cX12_stuck 43 = .ok (.iload_n 3, 1) := by decide +kernel
theorem dX12_stuck_44 : decode cX12_stuck 44 = .ok (.invokestatic 275, 3) := by decide +kernel
theorem dX12_stuck_47 : decode cX12_stuck 47 = .ok (.ifCond .ne 9, 3) := by decide +kernel
theorem dX12_stuck_50 : decode cX12_stuck 50 = .ok (.aload_n 0, 1) := by decide +kernel
theorem dX12_stuck_51 : decode cX12_stuck 51 = .ok (.iload_n 3, 1) := by decide +kernel
theorem dX12_stuck_52 : decode cX12_stuck 52 = .ok (.invokevirtual 61, 3) := by decide +kernel
theorem dX12_stuck_55 : decode cX12_stuck 55 = .ok (.ireturn, 1) := by decide +kernel
theorem dX12_stuck_56 : decode cX12_stuck 56 = .ok (.iinc 3 1, 3) := by decide +kernel
theorem dX12_stuck_59 : decode cX12_stuck 59 = .ok (.goto (-28), 3) := by decide +kernel
theorem dX12_stuck_62 : decode cX12_stuck 62 = .ok (.aload_n 0, 1) := by decide +kernel
theorem dX12_stuck_63 : decode cX12_stuck 63 = .ok (.bipush (-2), 2) := by decide +kernel
theorem dX12_stuck_65 : decode cX12_stuck 65 = .ok (.invokevirtual 61, 3) := by decide +kernel
theorem dX12_stuck_68 : decode cX12_stuck 68 = .ok (.ireturn, 1) := by decide +kernel
theorem dX12_letThrough_0 : decode cX12_letThrough 0 = .ok (.aload_n 0, 1) := by decide +kernel
theorem dX12_letThrough_1 : decode cX12_letThrough 1 = .ok (.iconst 0, 1) := by decide +kernel
theorem dX12_letThrough_2 : decode cX12_letThrough 2 = .ok (.putfield 51, 3) := by decide +kernel
theorem dX12_letThrough_5 : decode cX12_letThrough 5 = .ok (.aload_n 0, 1) := by decide +kernel
theorem dX12_letThrough_6 : decode cX12_letThrough 6 = .ok (.iload_n 1, 1) := by decide +kernel
theorem dX12_letThrough_7 : decode cX12_letThrough 7 = .ok (.invokevirtual 393, 3) := by decide +kernel
theorem dX12_letThrough_10 : decode cX12_letThrough 10 = .ok (.ifCond .ne 9, 3) := by decide +kernel
theorem dX12_letThrough_13 : decode cX12_letThrough 13 = .ok (.aload_n 0, 1) := by decide +kernel
theorem dX12_letThrough_14 : decode cX12_letThrough 14 = .ok (.iconst 1, 1) := by decide +kernel
theorem dX12_letThrough_15 : decode cX12_letThrough 15 = .ok (.invokevirtual 57, 3) := by decide +kernel
theorem dX12_letThrough_18 : decode cX12_letThrough 18 = .ok (.ireturn, 1) := by decide +kernel
theorem dX12_letThrough_19 : decode cX12_letThrough 19 = .ok (.aload_n 0, 1) := by decide +kernel
theorem dX12_letThrough_20 : decode cX12_letThrough 20 = .ok (.invokevirtual 329, 3) := by decide +kernel
theorem dX12_letThrough_23 : decode cX12_letThrough 23 = .ok (.istore_n 2, 1) := by decide +kernel
theorem dX12_letThrough_24 : decode cX12_letThrough 24 = .ok (.bipush (-2), 2) := by decide +kernel
theorem dX12_letThrough_26 : decode cX12_letThrough 26 = .ok (.istore_n 3, 1) := by decide +kernel
theorem dX12_letThrough_27 : decode cX12_letThrough 27 = .ok (.iconst 0, 1) := by decide +kernel
theorem dX12_letThrough_28 : decode cX12_letThrough 28 = .ok (.istore 4, 2) := by decide +kernel
theorem dX12_letThrough_30 : decode cX12_letThrough 30 = .ok (.iload 4, 2) := by decide +kernel
theorem dX12_letThrough_32 : decode cX12_letThrough 32 = .ok (.iload_n 2, 1) := by decide +kernel
theorem dX12_letThrough_33 : decode cX12_letThrough 33 = .ok (.if_icmp .gt 71, 3) := by decide +kernel
theorem dX12_letThrough_36 : decode cX12_letThrough 36 = .ok (.iload 4, 2) := by decide +kernel
theorem dX12_letThrough_38 : decode cX12_letThrough 38 = .ok (.iload_n 2, 1) := by decide +kernel
theorem dX12_letThrough_39 : decode cX12_letThrough 39 = .ok (.iconst (-1), 1) := by decide +kernel
theorem dX12_letThrough_40 : decode cX12_letThrough 40 = .ok (.ixor, 1) := by decide +kernel
theorem dX12_letThrough_41 : decode cX12_letThrough 41 = .ok (.iand, 1) := by decide +kernel
theorem dX12_letThrough_42 : decode cX12_letThrough 42 = .ok (.ifCond .ne 56, 3) := by decide +kernel
theorem dX12_letThrough_45 : decode cX12_letThrough 45 = .ok (.iload_n 3, 1) := by decide +kernel
theorem dX12_letThrough_46 : decode cX12_letThrough 46 = .ok (.bipush (-2), 2) := by decide +kernel
theorem dX12_letThrough_48 : decode cX12_letThrough 48 = .ok (.if_icmp .eq 18, 3) := by decide +kernel
theorem dX12_letThrough_51 : decode cX12_letThrough 51 = .ok (.iload 4, 2) := by decide +kernel
theorem dX12_letThrough_53 : decode cX12_letThrough 53 = .ok (.invokestatic 378, 3) := by decide +kernel
theorem dX12_letThrough_56 : decode cX12_letThrough 56 = .ok (.iload_n 3, 1) := by decide +kernel
theorem dX12_letThrough_57 : decode cX12_letThrough 57 = .ok (.invokestatic 378, 3) := by decide +kernel
theorem dX12_letThrough_60 : decode cX12_letThrough 60 = .ok (.if_icmp .lt 6, 3) := by decide +kernel
theorem dX12_letThrough_63 : decode cX12_letThrough 63 = .ok (.goto 35, 3) := by decide +kernel
theorem dX12_letThrough_66 : decode cX12_letThrough 66 = .ok (.aload_n 0, 1) := by decide +kernel
theorem dX12_letThrough_67 : decode cX12_letThrough 67 = .ok (.iload_n 2, 1) := by decide +kernel
theorem dX12_letThrough_68 : decode cX12_letThrough 68 = .ok (.iload 4, 2) := by decide +kernel
theorem dX12_letThrough_70 : decode cX12_letThrough 70 = .ok (.iconst (-1), 1) := by decide +kernel
theorem dX12_letThrough_71 : decode cX12_letThrough 71 = .ok (.ixor, 1) := by decide +kernel
theorem dX12_letThrough_72 : decode cX12_letThrough 72 = .ok (.iand, 1) := by decide +kernel
theorem dX12_letThrough_73 : decode cX12_letThrough 73 = .ok (.aload_n 0, 1) := by decide +kernel
theorem dX12_letThrough_74 : decode cX12_letThrough 74 = .ok (.getfield 17, 3) := by decide +kernel
theorem dX12_letThrough_77 : decode cX12_letThrough 77 = .ok (.bipush 14, 2) := by decide +kernel
theorem dX12_letThrough_79 : decode cX12_letThrough 79 = .ok (.iaload, 1) := by decide +kernel
theorem dX12_letThrough_80 : decode cX12_letThrough 80 = .ok (.invokevirtual 332, 3) := by decide +kernel
theorem dX12_letThrough_83 : decode cX12_letThrough 83 = .ok (.aload_n 0, 1) := by decide +kernel
theorem dX12_letThrough_84 : decode cX12_letThrough 84 = .ok (.iload_n 1, 1) := by decide +kernel
theorem dX12_letThrough_85 : decode cX12_letThrough 85 = .ok (.invokevirtual 396, 3) := by decide +kernel
theorem dX12_letThrough_88 : decode cX12_letThrough 88 = .ok (.aload_n 0, 1) := by decide +kernel
theorem dX12_letThrough_89 : decode cX12_letThrough 89 = .ok (.invokevirtual 399, 3) := by decide +kernel
theorem dX12_letThrough_92 : decode cX12_letThrough 92 = .ok (.if_icmp .ne 6, 3) := by decide +kernel
theorem dX12_letThrough_95 : decode cX12_letThrough 95 = .ok (.iload 4, 2) := by decide +kernel
theorem dX12_letThrough_97 : decode cX12_letThrough 97 = .ok (.istore_n 3, 1) := by decide +kernel
theorem dX12_letThrough_98 : decode cX12_letThrough 98 = .ok (.iinc 4 1, 3) := by decide +kernel
theorem dX12_letThrough_101 : decode cX12_letThrough 101 = .ok (.goto (-71), 3) := by decide +kernel
theorem dX12_letThrough_104 : decode cX12_letThrough 104 = .ok (.aload_n 0, 1) := by decide +kernel
theorem dX12_letThrough_105 : decode cX12_letThrough 105 = .ok (.iload_n 3, 1) := by decide +kernel
theorem dX12_letThrough_106 : decode cX12_letThrough 106 = .ok (.invokevirtual 61, 3) := by decide +kernel
theorem dX12_letThrough_109 : decode cX12_letThrough 109 = .ok (.ireturn, 1) := by decide +kernel
theorem dX12_bestBoat_0 : decode cX12_bestBoat 0 = .ok (.aload_n 0, 1) := by decide +kernel
theorem dX12_bestBoat_1 : decode cX12_bestBoat 1 = .ok (.iconst 0, 1) := by decide +kernel
theorem dX12_bestBoat_2 : decode cX12_bestBoat 2 = .ok (.putfield 51, 3) := by decide +kernel
theorem dX12_bestBoat_5 : decode cX12_bestBoat 5 = .ok (.aload_n 0, 1) := by decide +kernel
theorem dX12_bestBoat_6 : decode cX12_bestBoat 6 = .ok (.getfield 307, 3) := by decide +kernel
theorem dX12_bestBoat_9 : decode cX12_bestBoat 9 = .ok (.ifnonnull 9, 3) := by decide +kernel
theorem dX12_bestBoat_12 : decode cX12_bestBoat 12 = .ok (.aload_n 0, 1) := by decide +kernel
theorem dX12_bestBoat_13 : decode cX12_bestBoat 13 = .ok (.iconst 1, 1) := by decide +kernel
theorem dX12_bestBoat_14 : decode cX12_bestBoat 14 = .ok (.invokevirtual 57, 3) := by decide +kernel
theorem dX12_bestBoat_17 : decode cX12_bestBoat 17 = .ok (.ireturn, 1) := by decide +kernel
theorem dX12_bestBoat_18 : decode cX12_bestBoat 18 = .ok (.aload_n 0, 1) := by decide +kernel
theorem dX12_bestBoat_19 : decode cX12_bestBoat 19 = .ok (.invokevirtual 341, 3) := by decide +kernel
theorem dX12_bestBoat_22 : decode cX12_bestBoat 22 = .ok (.bipush (-2), 2) := by decide +kernel
theorem dX12_bestBoat_24 : decode cX12_bestBoat 24 = .ok (.istore_n 1, 1) := by decide +kernel
theorem dX12_bestBoat_25 : decode cX12_bestBoat 25 = .ok (.iconst 0, 1) := by decide +kernel
theorem dX12_bestBoat_26 : decode cX12_bestBoat 26 = .ok (.istore_n 2, 1) := by decide +kernel
theorem dX12_bestBoat_27 : decode cX12_bestBoat 27 = .ok (.iload_n 2, 1) := by decide +kernel
theorem dX12_bestBoat_28 : decode cX12_bestBoat 28 = .ok (.aload_n 0, 1) := by decide +kernel
theorem dX12_bestBoat_29 : decode cX12_bestBoat 29 = .ok (.getfield 307, 3) := by decide +kernel
theorem dX12_bestBoat_32 : decode cX12_bestBoat 32 = .ok (.getfield 286, 3) := by decide +kernel
theorem dX12_bestBoat_35 : decode cX12_bestBoat 35 = .ok (.if_icmp .ge 36, 3) := by decide +kernel
theorem dX12_bestBoat_38 : decode cX12_bestBoat 38 = .ok (.iload_n 1, 1) := by decide +kernel
theorem dX12_bestBoat_39 : decode cX12_bestBoat 39 = .ok (.bipush (-2), 2) := by decide +kernel
theorem dX12_bestBoat_41 : decode cX12_bestBoat 41 = .ok (.if_icmp .eq 22, 3) := by decide +kernel
theorem dX12_bestBoat_44 : decode cX12_bestBoat 44 = .ok (.aload_n 0, 1) := by decide +kernel
theorem dX12_bestBoat_45 : decode cX12_bestBoat 45 = .ok (.iload_n 2, 1) := by decide +kernel
theorem dX12_bestBoat_46 : decode cX12_bestBoat 46 = .ok (.invokevirtual 396, 3) := by decide +kernel
theorem dX12_bestBoat_49 : decode cX12_bestBoat 49 = .ok (.invokestatic 378, 3) := by decide +kernel
theorem dX12_bestBoat_52 : decode cX12_bestBoat 52 = .ok (.aload_n 0, 1) := by decide +kernel
theorem dX12_bestBoat_53 : decode cX12_bestBoat 53 = .ok (.iload_n 1, 1) := by decide +kernel
theorem dX12_bestBoat_54 : decode cX12_bestBoat 54 = .ok (.invokevirtual 396, 3) := by decide +kernel
theorem dX12_bestBoat_57 : decode cX12_bestBoat 57 = .ok (.invokestatic 378, 3) := by decide +kernel
theorem dX12_bestBoat_60 : decode cX12_bestBoat 60 = .ok (.if_icmp .le 5, 3) := by decide +kernel
theorem dX12_bestBoat_63 : decode cX12_bestBoat 63 = .ok (.iload_n 2, 1) := by decide +kernel
theorem dX12_bestBoat_64 : decode cX12_bestBoat 64 = .ok (.istore_n 1, 1) := by decide +kernel
theorem dX12_bestBoat_65 : decode cX12_bestBoat 65 = .ok (.iinc 2 1, 3) := by decide +kernel
theorem dX12_bestBoat_68 : decode cX12_bestBoat 68 = .ok (.goto (-41), 3) := by decide +kernel
theorem dX12_bestBoat_71 : decode cX12_bestBoat 71 = .ok (.aload_n 0, 1) := by decide +kernel
theorem dX12_bestBoat_72 : decode cX12_bestBoat 72 = .ok (.iload_n 1, 1) := by decide +kernel
theorem dX12_bestBoat_73 : decode cX12_bestBoat 73 = .ok (.invokevirtual 61, 3) := by decide +kernel
theorem dX12_bestBoat_76 : decode cX12_bestBoat 76 = .ok (.ireturn, 1) := by decide +kernel
theorem dX12_needOf_0 : decode cX12_needOf 0 = .ok (.aload_n 0, 1) := by decide +kernel
theorem dX12_needOf_1 : decode cX12_needOf 1 = .ok (.invokevirtual 341, 3) := by decide +kernel
theorem dX12_needOf_4 : decode cX12_needOf 4 = .ok (.aload_n 0, 1) := by decide +kernel
theorem dX12_needOf_5 : decode cX12_needOf 5 = .ok (.getfield 307, 3) := by decide +kernel
theorem dX12_needOf_8 : decode cX12_needOf 8 = .ok (.getfield 269, 3) := by decide +kernel
theorem dX12_needOf_11 : decode cX12_needOf 11 = .ok (.iload_n 1, 1) := by decide +kernel
theorem dX12_needOf_12 : decode cX12_needOf 12 = .ok (.iaload, 1) := by decide +kernel
theorem dX12_needOf_13 : decode cX12_needOf 13 = .ok (.aload_n 0, 1) := by decide +kernel
theorem dX12_needOf_14 : decode cX12_needOf 14 = .ok (.getfield 36, 3) := by decide +kernel
theorem dX12_needOf_17 : decode cX12_needOf 17 = .ok (.aload_n 0, 1) := by decide +kernel
theorem dX12_needOf_18 : decode cX12_needOf 18 = .ok (.getfield 307, 3) := by decide +kernel
theorem dX12_needOf_21 : decode cX12_needOf 21 = .ok (.getfield 267, 3) := by decide +kernel
theorem dX12_needOf_24 : decode cX12_needOf 24 = .ok (.iload_n 1, 1) := by decide +kernel
theorem dX12_needOf_25 : decode cX12_needOf 25 = .ok (.iaload, 1) := by decide +kernel
theorem dX12_needOf_26 : decode cX12_needOf 26 = .ok (.iaload, 1) := by decide +kernel
theorem dX12_needOf_27 : decode cX12_needOf 27 = .ok (.imul, 1) := by decide +kernel
theorem dX12_needOf_28 : decode cX12_needOf 28 = .ok (.ireturn, 1) := by decide +kernel
theorem dX12_needs_0 : decode cX12_needs 0 = .ok (.aload_n 0, 1) := by decide +kernel
theorem dX12_needs_1 : decode cX12_needs 1 = .ok (.iconst 0, 1) := by decide +kernel
theorem dX12_needs_2 : decode cX12_needs 2 = .ok (.putfield 51, 3) := by decide +kernel
theorem dX12_needs_5 : decode cX12_needs 5 = .ok (.aload_n 0, 1) := by decide +kernel
theorem dX12_needs_6 : decode cX12_needs 6 = .ok (.iload_n 1, 1) := by decide +kernel
theorem dX12_needs_7 : decode cX12_needs 7 = .ok (.invokevirtual 344, 3) := by decide +kernel
theorem dX12_needs_10 : decode cX12_needs 10 = .ok (.ifCond .eq 15, 3) := by decide +kernel
theorem dX12_needs_13 : decode cX12_needs 13 = .ok (.aload_n 0, 1) := by decide +kernel
theorem dX12_needs_14 : decode cX12_needs 14 = .ok (.aload_n 0, 1) := by decide +kernel
theorem dX12_needs_15 : decode cX12_needs 15 = .ok (.iload_n 1, 1) := by decide +kernel
theorem dX12_needs_16 : decode cX12_needs 16 = .ok (.invokevirtual 402, 3) := by decide +kernel
theorem dX12_needs_19 : decode cX12_needs 19 = .ok (.invokevirtual 61, 3) := by decide +kernel
theorem dX12_needs_22 : decode cX12_needs 22 = .ok (.goto 8, 3) := by decide +kernel
theorem dX12_needs_25 : decode cX12_needs 25 = .ok (.aload_n 0, 1) := by decide +kernel
theorem dX12_needs_26 : decode cX12_needs 26 = .ok (.iconst 1, 1) := by decide +kernel
theorem dX12_needs_27 : decode cX12_needs 27 = .ok (.invokevirtual 57, 3) := by decide +kernel
theorem dX12_needs_30 : decode cX12_needs 30 = .ok (.ireturn, 1) := by decide +kernel
theorem dX12_strength_0 : decode cX12_strength 0 = .ok (.iconst 0, 1) := by decide +kernel
theorem dX12_strength_1 : decode cX12_strength 1 = .ok (.istore_n 2, 1) := by decide +kernel
theorem dX12_strength_2 : decode cX12_strength 2 = .ok (.iconst 0, 1) := by decide +kernel
theorem dX12_strength_3 : decode cX12_strength 3 = .ok (.istore_n 3, 1) := by decide +kernel
theorem dX12_strength_4 : decode cX12_strength 4 = .ok (.iload_n 3, 1) := by decide +kernel
theorem dX12_strength_5 : decode cX12_strength 5 = .ok (.aload_n 0, 1) := by decide +kernel
theorem dX12_strength_6 : decode cX12_strength 6 = .ok (.getfield 307, 3) := by decide +kernel
theorem dX12_strength_9 : decode cX12_strength 9 = .ok (.getfield 279, 3) := by decide +kernel
theorem dX12_strength_12 : decode cX12_strength 12 = .ok (.if_icmp .ge 33, 3) := by decide +kernel
theorem dX12_strength_15 : decode cX12_strength 15 = .ok (.iload_n 2, 1) := by decide +kernel
theorem dX12_strength_16 : decode cX12_strength 16 = .ok (.iload_n 1, 1) := by decide +kernel
theorem dX12_strength_17 : decode cX12_strength 17 = .ok (.iload_n 3, 1) := by decide +kernel
theorem dX12_strength_18 : decode cX12_strength 18 = .ok (.invokestatic 275, 3) := by decide +kernel
theorem dX12_strength_21 : decode cX12_strength 21 = .ok (.ifCond .eq 15, 3) := by decide +kernel
theorem dX12_strength_24 : decode cX12_strength 24 = .ok (.aload_n 0, 1) := by decide +kernel
theorem dX12_strength_25 : decode cX12_strength 25 = .ok (.getfield 307, 3) := by decide +kernel
theorem dX12_strength_28 : decode cX12_strength 28 = .ok (.getfield 284, 3) := by decide +kernel
theorem dX12_strength_31 : decode cX12_strength 31 = .ok (.iload_n 3, 1) := by decide +kernel
theorem dX12_strength_32 : decode cX12_strength 32 = .ok (.iaload, 1) := by decide +kernel
theorem dX12_strength_33 : decode cX12_strength 33 = .ok (.goto 4, 3) := by decide +kernel
theorem dX12_strength_36 : decode cX12_strength 36 = .ok (.iconst 0, 1) := by decide +kernel
theorem dX12_strength_37 : decode cX12_strength 37 = .ok (.iadd, 1) := by decide +kernel
theorem dX12_strength_38 : decode cX12_strength 38 = .ok (.istore_n 2, 1) := by decide +kernel
theorem dX12_strength_39 : decode cX12_strength 39 = .ok (.iinc 3 1, 3) := by decide +kernel
theorem dX12_strength_42 : decode cX12_strength 42 = .ok (.goto (-38), 3) := by decide +kernel
theorem dX12_strength_45 : decode cX12_strength 45 = .ok (.iload_n 2, 1) := by decide +kernel
theorem dX12_strength_46 : decode cX12_strength 46 = .ok (.ireturn, 1) := by decide +kernel
theorem dX12_hauls_0 : decode cX12_hauls 0 = .ok (.aload_n 0, 1) := by decide +kernel
theorem dX12_hauls_1 : decode cX12_hauls 1 = .ok (.iconst 0, 1) := by decide +kernel
theorem dX12_hauls_2 : decode cX12_hauls 2 = .ok (.putfield 51, 3) := by decide +kernel
theorem dX12_hauls_5 : decode cX12_hauls 5 = .ok (.aload_n 0, 1) := by decide +kernel
theorem dX12_hauls_6 : decode cX12_hauls 6 = .ok (.iload_n 1, 1) := by decide +kernel
theorem dX12_hauls_7 : decode cX12_hauls 7 = .ok (.invokevirtual 344, 3) := by decide +kernel
theorem dX12_hauls_10 : decode cX12_hauls 10 = .ok (.ifCond .ne 9, 3) := by decide +kernel
theorem dX12_hauls_13 : decode cX12_hauls 13 = .ok (.aload_n 0, 1) := by decide +kernel
theorem dX12_hauls_14 : decode cX12_hauls 14 = .ok (.iconst 1, 1) := by decide +kernel
theorem dX12_hauls_15 : decode cX12_hauls 15 = .ok (.invokevirtual 57, 3) := by decide +kernel
theorem dX12_hauls_18 : decode cX12_hauls 18 = .ok (.ireturn, 1) := by decide +kernel
theorem dX12_hauls_19 : decode cX12_hauls 19 = .ok (.aload_n 0, 1) := by decide +kernel
theorem dX12_hauls_20 : decode cX12_hauls 20 = .ok (.iload_n 1, 1) := by decide +kernel
theorem dX12_hauls_21 : decode cX12_hauls 21 = .ok (.invokevirtual 402, 3) := by decide +kernel
theorem dX12_hauls_24 : decode cX12_hauls 24 = .ok (.istore_n 2, 1) := by decide +kernel
theorem dX12_hauls_25 : decode cX12_hauls 25 = .ok (.bipush (-2), 2) := by decide +kernel
theorem dX12_hauls_27 : decode cX12_hauls 27 = .ok (.istore_n 3, 1) := by decide +kernel
theorem dX12_hauls_28 : decode cX12_hauls 28 = .ok (.iconst 0, 1) := by decide +kernel
theorem dX12_hauls_29 : decode cX12_hauls 29 = .ok (.istore 4, 2) := by decide +kernel
theorem dX12_hauls_31 : decode cX12_hauls 31 = .ok (.iload 4, 2) := by decide +kernel
theorem dX12_hauls_33 : decode cX12_hauls 33 = .ok (.iconst 1, 1) := by decide +kernel
theorem dX12_hauls_34 : decode cX12_hauls 34 = .ok (.aload_n 0, 1) := by decide +kernel
theorem dX12_hauls_35 : decode cX12_hauls 35 = .ok (.getfield 307, 3) := by decide +kernel
theorem dX12_hauls_38 : decode cX12_hauls 38 = .ok (.getfield 279, 3) := by decide +kernel
theorem dX12_hauls_41 : decode cX12_hauls 41 = .ok (.ishl, 1) := by decide +kernel
theorem dX12_hauls_42 : decode cX12_hauls 42 = .ok (.if_icmp .ge 40, 3) := by decide +kernel
theorem dX12_hauls_45 : decode cX12_hauls 45 = .ok (.aload_n 0, 1) := by decide +kernel
theorem dX12_hauls_46 : decode cX12_hauls 46 = .ok (.iload 4, 2) := by decide +kernel
theorem dX12_hauls_48 : decode cX12_hauls 48 = .ok (.invokevirtual 405, 3) := by decide +kernel
theorem dX12_hauls_51 : decode cX12_hauls 51 = .ok (.iload_n 2, 1) := by decide +kernel
theorem dX12_hauls_52 : decode cX12_hauls 52 = .ok (.if_icmp .lt 24, 3) := by decide +kernel
theorem dX12_hauls_55 : decode cX12_hauls 55 = .ok (.iload_n 3, 1) := by decide +kernel
theorem dX12_hauls_56 : decode cX12_hauls 56 = .ok (.bipush (-2), 2) := by decide +kernel
theorem dX12_hauls_58 : decode cX12_hauls 58 = .ok (.if_icmp .eq 15, 3) := by decide +kernel
theorem dX12_hauls_61 : decode cX12_hauls 61 = .ok (.iload 4, 2) := by decide +kernel
theorem dX12_hauls_63 : decode cX12_hauls 63 = .ok (.invokestatic 378, 3) := by decide +kernel
theorem dX12_hauls_66 : decode cX12_hauls 66 = .ok (.iload_n 3, 1) := by decide +kernel
theorem dX12_hauls_67 : decode cX12_hauls 67 = .ok (.invokestatic 378, 3) := by decide +kernel
theorem dX12_hauls_70 : decode cX12_hauls 70 = .ok (.if_icmp .ge 6, 3) := by decide +kernel
theorem dX12_hauls_73 : decode cX12_hauls 73 = .ok (.iload 4, 2) := by decide +kernel
theorem dX12_hauls_75 : decode cX12_hauls 75 = .ok (.istore_n 3, 1) := by decide +kernel
theorem dX12_hauls_76 : decode cX12_hauls 76 = .ok (.iinc 4 1, 3) := by decide +kernel
theorem dX12_hauls_79 : decode cX12_hauls 79 = .ok (.goto (-48), 3) := by decide +kernel
theorem dX12_hauls_82 : decode cX12_hauls 82 = .ok (.aload_n 0, 1) := by decide +kernel
theorem dX12_hauls_83 : decode cX12_hauls 83 = .ok (.iload_n 3, 1) := by decide +kernel
theorem dX12_hauls_84 : decode cX12_hauls 84 = .ok (.invokevirtual 61, 3) := by decide +kernel
theorem dX12_hauls_87 : decode cX12_hauls 87 = .ok (.ireturn, 1) := by decide +kernel
theorem dX12_isMud_0 : decode cX12_isMud 0 = .ok (.iconst 0, 1) := by decide +kernel
theorem dX12_isMud_1 : decode cX12_isMud 1 = .ok (.istore_n 1, 1) := by decide +kernel
theorem dX12_isMud_2 : decode cX12_isMud 2 = .ok (.iload_n 1, 1) := by decide +kernel
theorem dX12_isMud_3 : decode cX12_isMud 3 = .ok (.aload_n 0, 1) := by decide +kernel
theorem dX12_isMud_4 : decode cX12_isMud 4 = .ok (.getfield 307, 3) := by decide +kernel
theorem dX12_isMud_7 : decode cX12_isMud 7 = .ok (.getfield 188, 3) := by decide +kernel
theorem dX12_isMud_10 : decode cX12_isMud 10 = .ok (.if_icmp .ge 42, 3) := by decide +kernel
theorem dX12_isMud_13 : decode cX12_isMud 13 = .ok (.aload_n 0, 1) := by decide +kernel
theorem dX12_isMud_14 : decode cX12_isMud 14 = .ok (.getfield 307, 3) := by decide +kernel
theorem dX12_isMud_17 : decode cX12_isMud 17 = .ok (.getfield 253, 3) := by decide +kernel
theorem dX12_isMud_20 : decode cX12_isMud 20 = .ok (.iload_n 1, 1) := by decide +kernel
theorem dX12_isMud_21 : decode cX12_isMud 21 = .ok (.iaload, 1) := by decide +kernel
theorem dX12_isMud_22 : decode cX12_isMud 22 = .ok (.iconst (-1), 1) := by decide +kernel
theorem dX12_isMud_23 : decode cX12_isMud 23 = .ok (.if_icmp .eq 23, 3) := by decide +kernel
theorem dX12_isMud_26 : decode cX12_isMud 26 = .ok (.aload_n 0, 1) := by decide +kernel
theorem dX12_isMud_27 : decode cX12_isMud 27 = .ok (.getfield 307, 3) := by decide +kernel
theorem dX12_isMud_30 : decode cX12_isMud 30 = .ok (.getfield 253, 3) := by decide +kernel
theorem dX12_isMud_33 : decode cX12_isMud 33 = .ok (.iload_n 1, 1) := by decide +kernel
theorem dX12_isMud_34 : decode cX12_isMud 34 = .ok (.iaload, 1) := by decide +kernel
theorem dX12_isMud_35 : decode cX12_isMud 35 = .ok (.aload_n 0, 1) := by decide +kernel
theorem dX12_isMud_36 : decode cX12_isMud 36 = .ok (.getfield 36, 3) := by decide +kernel
theorem dX12_isMud_39 : decode cX12_isMud 39 = .ok (.iload_n 1, 1) := by decide +kernel
theorem dX12_isMud_40 : decode cX12_isMud 40 = .ok (.iaload, 1) := by decide +kernel
theorem dX12_isMud_41 : decode cX12_isMud 41 = .ok (.if_icmp .eq 5, 3) := by decide +kernel
theorem dX12_isMud_44 : decode cX12_isMud 44 = .ok (.iconst 0, 1) := by decide +kernel
theorem dX12_isMud_45 : decode cX12_isMud 45 = .ok (.ireturn, 1) := by decide +kernel
theorem dX12_isMud_46 : decode cX12_isMud 46 = .ok (.iinc 1 1, 3) := by decide +kernel
theorem dX12_isMud_49 : decode cX12_isMud 49 = .ok (.goto (-47), 3) := by decide +kernel
theorem dX12_isMud_52 : decode cX12_isMud 52 = .ok (.iconst 1, 1) := by decide +kernel
theorem dX12_isMud_53 : decode cX12_isMud 53 = .ok (.ireturn, 1) := by decide +kernel
theorem dX12_letsOut_0 : decode cX12_letsOut 0 = .ok (.aload_n 0, 1) := by decide +kernel
theorem dX12_letsOut_1 : decode cX12_letsOut 1 = .ok (.invokevirtual 329, 3) := by decide +kernel
theorem dX12_letsOut_4 : decode cX12_letsOut 4 = .ok (.istore_n 1, 1) := by decide +kernel
theorem dX12_letsOut_5 : decode cX12_letsOut 5 = .ok (.aload_n 0, 1) := by decide +kernel
theorem dX12_letsOut_6 : decode cX12_letsOut 6 = .ok (.iconst 0, 1) := by decide +kernel
theorem dX12_letsOut_7 : decode cX12_letsOut 7 = .ok (.putfield 408, 3) := by decide +kernel
theorem dX12_letsOut_10 : decode cX12_letsOut 10 = .ok (.aload_n 0, 1) := by decide +kernel
theorem dX12_letsOut_11 : decode cX12_letsOut 11 = .ok (.iconst 0, 1) := by decide +kernel
theorem dX12_letsOut_12 : decode cX12_letsOut 12 = .ok (.putfield 411, 3) := by decide +kernel
theorem dX12_letsOut_15 : decode cX12_letsOut 15 = .ok (.aload_n 0, 1) := by decide +kernel
theorem dX12_letsOut_16 : decode cX12_letsOut 16 = .ok (.iload_n 1, 1) := by decide +kernel
theorem dX12_letsOut_17 : decode cX12_letsOut 17 = .ok (.putfield 414, 3) := by decide +kernel
theorem dX12_letsOut_20 : decode cX12_letsOut 20 = .ok (.iconst 0, 1) := by decide +kernel
theorem dX12_letsOut_21 : decode cX12_letsOut 21 = .ok (.istore_n 2, 1) := by decide +kernel
theorem dX12_letsOut_22 : decode cX12_letsOut 22 = .ok (.iload_n 2, 1) := by decide +kernel
theorem dX12_letsOut_23 : decode cX12_letsOut 23 = .ok (.iload_n 1, 1) := by decide +kernel
theorem dX12_letsOut_24 : decode cX12_letsOut 24 = .ok (.if_icmp .gt 115, 3) := by decide +kernel
theorem dX12_letsOut_27 : decode cX12_letsOut 27 = .ok (.iload_n 2, 1) := by decide +kernel
theorem dX12_letsOut_28 : decode cX12_letsOut 28 = .ok (.iload_n 1, 1) := by decide +kernel
theorem dX12_letsOut_29 : decode cX12_letsOut 29 = .ok (.iconst (-1), 1) := by decide +kernel
theorem dX12_letsOut_30 : decode cX12_letsOut 30 = .ok (.ixor, 1) := by decide +kernel
theorem dX12_letsOut_31 : decode cX12_letsOut 31 = .ok (.iand, 1) := by decide +kernel
theorem dX12_letsOut_32 : decode cX12_letsOut 32 = .ok (.ifCond .eq 6, 3) := by decide +kernel
theorem dX12_letsOut_35 : decode cX12_letsOut 35 = .ok (.goto 98, 3) := by decide +kernel
theorem dX12_letsOut_38 : decode cX12_letsOut 38 = .ok (.aload_n 0, 1) := by decide +kernel
theorem dX12_letsOut_39 : decode cX12_letsOut 39 = .ok (.iload_n 1, 1) := by decide +kernel
theorem dX12_letsOut_40 : decode cX12_letsOut 40 = .ok (.iload_n 2, 1) := by decide +kernel
theorem dX12_letsOut_41 : decode cX12_letsOut 41 = .ok (.iconst (-1), 1) := by decide +kernel
theorem dX12_letsOut_42 : decode cX12_letsOut 42 = .ok (.ixor, 1) := by decide +kernel
theorem dX12_letsOut_43 : decode cX12_letsOut 43 = .ok (.iand, 1) := by decide +kernel
theorem dX12_letsOut_44 : decode cX12_letsOut 44 = .ok (.aload_n 0, 1) := by decide +kernel
theorem dX12_letsOut_45 : decode cX12_letsOut 45 = .ok (.getfield 17, 3) := by decide +kernel
theorem dX12_letsOut_48 : decode cX12_letsOut 48 = .ok (.bipush 14, 2) := by decide +kernel
theorem dX12_letsOut_50 : decode cX12_letsOut 50 = .ok (.iaload, 1) := by decide +kernel
theorem dX12_letsOut_51 : decode cX12_letsOut 51 = .ok (.invokevirtual 332, 3) := by decide +kernel
theorem dX12_letsOut_54 : decode cX12_letsOut 54 = .ok (.aload_n 0, 1) := by decide +kernel
theorem dX12_letsOut_55 : decode cX12_letsOut 55 = .ok (.invokevirtual 417, 3) := by decide +kernel
theorem dX12_letsOut_58 : decode cX12_letsOut 58 = .ok (.ifCond .ne 6, 3) := by decide +kernel
theorem dX12_letsOut_61 : decode cX12_letsOut 61 = .ok (.goto 72, 3) := by decide +kernel
theorem dX12_letsOut_64 : decode cX12_letsOut 64 = .ok (.iconst 0, 1) := by decide +kernel
theorem dX12_letsOut_65 : decode cX12_letsOut 65 = .ok (.istore_n 3, 1) := by decide +kernel
theorem dX12_letsOut_66 : decode cX12_letsOut 66 = .ok (.iload_n 3, 1) := by decide +kernel
theorem dX12_letsOut_67 : decode cX12_letsOut 67 = .ok (.aload_n 0, 1) := by decide +kernel
theorem dX12_letsOut_68 : decode cX12_letsOut 68 = .ok (.getfield 307, 3) := by decide +kernel
theorem dX12_letsOut_71 : decode cX12_letsOut 71 = .ok (.getfield 188, 3) := by decide +kernel
theorem dX12_letsOut_74 : decode cX12_letsOut 74 = .ok (.if_icmp .ge 29, 3) := by decide +kernel
theorem dX12_letsOut_77 : decode cX12_letsOut 77 = .ok (.aload_n 0, 1) := by decide +kernel
theorem dX12_letsOut_78 : decode cX12_letsOut 78 = .ok (.getfield 42, 3) := by decide +kernel
theorem dX12_letsOut_81 : decode cX12_letsOut 81 = .ok (.bipush 6, 2) := by decide +kernel
theorem dX12_letsOut_83 : decode cX12_letsOut 83 = .ok (.aload_n 0, 1) := by decide +kernel
theorem dX12_letsOut_84 : decode cX12_letsOut 84 = .ok (.getfield 408, 3) := by decide +kernel
theorem dX12_letsOut_87 : decode cX12_letsOut 87 = .ok (.imul, 1) := by decide +kernel
theorem dX12_letsOut_88 : decode cX12_letsOut 88 = .ok (.iload_n 3, 1) := by decide +kernel
theorem dX12_letsOut_89 : decode cX12_letsOut 89 = .ok (.iadd, 1) := by decide +kernel
theorem dX12_letsOut_90 : decode cX12_letsOut 90 = .ok (.aload_n 0, 1) := by decide +kernel
theorem dX12_letsOut_91 : decode cX12_letsOut 91 = .ok (.getfield 36, 3) := by decide +kernel
theorem dX12_letsOut_94 : decode cX12_letsOut 94 = .ok (.iload_n 3, 1) := by decide +kernel
theorem dX12_letsOut_95 : decode cX12_letsOut 95 = .ok (.iaload, 1) := by decide +kernel
theorem dX12_letsOut_96 : decode cX12_letsOut 96 = .ok (.iastore, 1) := by decide +kernel
theorem dX12_letsOut_97 : decode cX12_letsOut 97 = .ok (.iinc 3 1, 3) := by decide +kernel
theorem dX12_letsOut_100 : decode cX12_letsOut 100 = .ok (.goto (-34), 3) := by decide +kernel
theorem dX12_letsOut_103 : decode cX12_letsOut 103 = .ok (.aload_n 0, 1) := by decide +kernel
theorem dX12_letsOut_104 : decode cX12_letsOut 104 = .ok (.dup, 1) := by decide +kernel
theorem dX12_letsOut_105 : decode cX12_letsOut 105 = .ok (.getfield 408, 3) := by decide +kernel
theorem dX12_letsOut_108 : decode cX12_letsOut 108 = .ok (.iconst 1, 1) := by decide +kernel
theorem dX12_letsOut_109 : decode cX12_letsOut 109 = .ok (.iadd, 1) := by decide +kernel
theorem dX12_letsOut_110 : decode cX12_letsOut 110 = .ok (.putfield 408, 3) := by decide +kernel
theorem dX12_letsOut_113 : decode cX12_letsOut 113 = .ok (.aload_n 0, 1) := by decide +kernel
theorem dX12_letsOut_114 : decode cX12_letsOut 114 = .ok (.dup, 1) := by decide +kernel
theorem dX12_letsOut_115 : decode cX12_letsOut 115 = .ok (.getfield 411, 3) := by decide +kernel
theorem dX12_letsOut_118 : decode cX12_letsOut 118 = .ok (.iload_n 2, 1) := by decide +kernel
theorem dX12_letsOut_119 : decode cX12_letsOut 119 = .ok (.ior, 1) := by decide +kernel
theorem dX12_letsOut_120 : decode cX12_letsOut 120 = .ok (.putfield 411, 3) := by decide +kernel
theorem dX12_letsOut_123 : decode cX12_letsOut 123 = .ok (.aload_n 0, 1) := by decide +kernel
theorem dX12_letsOut_124 : decode cX12_letsOut 124 = .ok (.dup, 1) := by decide +kernel
theorem dX12_letsOut_125 : decode cX12_letsOut 125 = .ok (.getfield 414, 3) := by decide +kernel
theorem dX12_letsOut_128 : decode cX12_letsOut 128 = .ok (.iload_n 2, 1) := by decide +kernel
theorem dX12_letsOut_129 : decode cX12_letsOut 129 = .ok (.iand, 1) := by decide +kernel
theorem dX12_letsOut_130 : decode cX12_letsOut 130 = .ok (.putfield 414, 3) := by decide +kernel
theorem dX12_letsOut_133 : decode cX12_letsOut 133 = .ok (.iinc 2 1, 3) := by decide +kernel
theorem dX12_letsOut_136 : decode cX12_letsOut 136 = .ok (.goto (-114), 3) := by decide +kernel
theorem dX12_letsOut_139 : decode cX12_letsOut 139 = .ok (.aload_n 0, 1) := by decide +kernel
theorem dX12_letsOut_140 : decode cX12_letsOut 140 = .ok (.getfield 408, 3) := by decide +kernel
theorem dX12_letsOut_143 : decode cX12_letsOut 143 = .ok (.ifCond .ne 8, 3) := by decide +kernel
theorem dX12_letsOut_146 : decode cX12_letsOut 146 = .ok (.aload_n 0, 1) := by decide +kernel
theorem dX12_letsOut_147 : decode cX12_letsOut 147 = .ok (.iconst 0, 1) := by decide +kernel
theorem dX12_letsOut_148 : decode cX12_letsOut 148 = .ok (.putfield 414, 3) := by decide +kernel
theorem dX12_letsOut_151 : decode cX12_letsOut 151 = .ok (.return_, 1) := by decide +kernel
theorem dX12_fits_0 : decode cX12_fits 0 = .ok (.aload_n 0, 1) := by decide +kernel
theorem dX12_fits_1 : decode cX12_fits 1 = .ok (.iconst 0, 1) := by decide +kernel
theorem dX12_fits_2 : decode cX12_fits 2 = .ok (.putfield 51, 3) := by decide +kernel
theorem dX12_fits_5 : decode cX12_fits 5 = .ok (.aload_n 0, 1) := by decide +kernel
theorem dX12_fits_6 : decode cX12_fits 6 = .ok (.getfield 307, 3) := by decide +kernel
theorem dX12_fits_9 : decode cX12_fits 9 = .ok (.ifnonnull 9, 3) := by decide +kernel
theorem dX12_fits_12 : decode cX12_fits 12 = .ok (.aload_n 0, 1) := by decide +kernel
theorem dX12_fits_13 : decode cX12_fits 13 = .ok (.iconst 1, 1) := by decide +kernel
theorem dX12_fits_14 : decode cX12_fits 14 = .ok (.invokevirtual 57, 3) := by decide +kernel
theorem dX12_fits_17 : decode cX12_fits 17 = .ok (.ireturn, 1) := by decide +kernel
theorem dX12_fits_18 : decode cX12_fits 18 = .ok (.aload_n 0, 1) := by decide +kernel
theorem dX12_fits_19 : decode cX12_fits 19 = .ok (.invokevirtual 420, 3) := by decide +kernel
theorem dX12_fits_22 : decode cX12_fits 22 = .ok (.aload_n 0, 1) := by decide +kernel
theorem dX12_fits_23 : decode cX12_fits 23 = .ok (.aload_n 0, 1) := by decide +kernel
theorem dX12_fits_24 : decode cX12_fits 24 = .ok (.getfield 408, 3) := by decide +kernel
theorem dX12_fits_27 : decode cX12_fits 27 = .ok (.invokevirtual 61, 3) := by decide +kernel
theorem dX12_fits_30 : decode cX12_fits 30 = .ok (.ireturn, 1) := by decide +kernel
theorem dX12_could_0 : decode cX12_could 0 = .ok (.aload_n 0, 1) := by decide +kernel
theorem dX12_could_1 : decode cX12_could 1 = .ok (.iconst 0, 1) := by decide +kernel
theorem dX12_could_2 : decode cX12_could 2 = .ok (.putfield 51, 3) := by decide +kernel
theorem dX12_could_5 : decode cX12_could 5 = .ok (.aload_n 0, 1) := by decide +kernel
theorem dX12_could_6 : decode cX12_could 6 = .ok (.getfield 307, 3) := by decide +kernel
theorem dX12_could_9 : decode cX12_could 9 = .ok (.ifnonnull 9, 3) := by decide +kernel
theorem dX12_could_12 : decode cX12_could 12 = .ok (.aload_n 0, 1) := by decide +kernel
theorem dX12_could_13 : decode cX12_could 13 = .ok (.iconst 1, 1) := by decide +kernel
theorem dX12_could_14 : decode cX12_could 14 = .ok (.invokevirtual 57, 3) := by decide +kernel
theorem dX12_could_17 : decode cX12_could 17 = .ok (.ireturn, 1) := by decide +kernel
theorem dX12_could_18 : decode cX12_could 18 = .ok (.aload_n 0, 1) := by decide +kernel
theorem dX12_could_19 : decode cX12_could 19 = .ok (.invokevirtual 420, 3) := by decide +kernel
theorem dX12_could_22 : decode cX12_could 22 = .ok (.aload_n 0, 1) := by decide +kernel
theorem dX12_could_23 : decode cX12_could 23 = .ok (.aload_n 0, 1) := by decide +kernel
theorem dX12_could_24 : decode cX12_could 24 = .ok (.getfield 411, 3) := by decide +kernel
theorem dX12_could_27 : decode cX12_could 27 = .ok (.invokevirtual 61, 3) := by decide +kernel
theorem dX12_could_30 : decode cX12_could 30 = .ok (.ireturn, 1) := by decide +kernel
theorem dX12_surely_0 : decode cX12_surely 0 = .ok (.aload_n 0, 1) := by decide +kernel
theorem dX12_surely_1 : decode cX12_surely 1 = .ok (.iconst 0, 1) := by decide +kernel
theorem dX12_surely_2 : decode cX12_surely 2 = .ok (.putfield 51, 3) := by decide +kernel
theorem dX12_surely_5 : decode cX12_surely 5 = .ok (.aload_n 0, 1) := by decide +kernel
theorem dX12_surely_6 : decode cX12_surely 6 = .ok (.getfield 307, 3) := by decide +kernel
theorem dX12_surely_9 : decode cX12_surely 9 = .ok (.ifnonnull 9, 3) := by decide +kernel
theorem dX12_surely_12 : decode cX12_surely 12 = .ok (.aload_n 0, 1) := by decide +kernel
theorem dX12_surely_13 : decode cX12_surely 13 = .ok (.iconst 1, 1) := by decide +kernel
theorem dX12_surely_14 : decode cX12_surely 14 = .ok (.invokevirtual 57, 3) := by decide +kernel
theorem dX12_surely_17 : decode cX12_surely 17 = .ok (.ireturn, 1) := by decide +kernel
theorem dX12_surely_18 : decode cX12_surely 18 = .ok (.aload_n 0, 1) := by decide +kernel
theorem dX12_surely_19 : decode cX12_surely 19 = .ok (.invokevirtual 420, 3) := by decide +kernel
theorem dX12_surely_22 : decode cX12_surely 22 = .ok (.aload_n 0, 1) := by decide +kernel
theorem dX12_surely_23 : decode cX12_surely 23 = .ok (.aload_n 0, 1) := by decide +kernel
theorem dX12_surely_24 : decode cX12_surely 24 = .ok (.getfield 414, 3) := by decide +kernel
theorem dX12_surely_27 : decode cX12_surely 27 = .ok (.invokevirtual 61, 3) := by decide +kernel
theorem dX12_surely_30 : decode cX12_surely 30 = .ok (.ireturn, 1) := by decide +kernel
theorem dX12_leaves_0 : decode cX12_leaves 0 = .ok (.iconst 0, 1) := by decide +kernel
theorem dX12_leaves_1 : decode cX12_leaves 1 = .ok (.istore_n 2, 1) := by decide +kernel
theorem dX12_leaves_2 : decode cX12_leaves 2 = .ok (.iconst 0, 1) := by decide +kernel
theorem dX12_leaves_3 : decode cX12_leaves 3 = .ok (.istore_n 3, 1) := by decide +kernel
theorem dX12_leaves_4 : decode cX12_leaves 4 = .ok (.iload_n 3, 1) := by decide +kernel
theorem dX12_leaves_5 : decode cX12_leaves 5 = .ok (.aload_n 0, 1) := by decide +kernel
theorem dX12_leaves_6 : decode cX12_leaves 6 = .ok (.getfield 408, 3) := by decide +kernel
theorem dX12_leaves_9 : decode cX12_leaves 9 = .ok (.if_icmp .ge 75, 3) := by decide +kernel
theorem dX12_leaves_12 : decode cX12_leaves 12 = .ok (.iconst 0, 1) := by decide +kernel
theorem dX12_leaves_13 : decode cX12_leaves 13 = .ok (.istore 4, 2) := by decide +kernel
theorem dX12_leaves_15 : decode cX12_leaves 15 = .ok (.iconst 0, 1) := by decide +kernel
theorem dX12_leaves_16 : decode cX12_leaves 16 = .ok (.istore 5, 2) := by decide +kernel
theorem dX12_leaves_18 : decode cX12_leaves 18 = .ok (.iload 5, 2) := by decide +kernel
theorem dX12_leaves_20 : decode cX12_leaves 20 = .ok (.aload_n 0, 1) := by decide +kernel
theorem dX12_leaves_21 : decode cX12_leaves 21 = .ok (.getfield 408, 3) := by decide +kernel
theorem dX12_leaves_24 : decode cX12_leaves 24 = .ok (.if_icmp .ge 45, 3) := by decide +kernel
theorem dX12_leaves_27 : decode cX12_leaves 27 = .ok (.iload 4, 2) := by decide +kernel
theorem dX12_leaves_29 : decode cX12_leaves 29 = .ok (.aload_n 0, 1) := by decide +kernel
theorem dX12_leaves_30 : decode cX12_leaves 30 = .ok (.getfield 42, 3) := by decide +kernel
theorem dX12_leaves_33 : decode cX12_leaves 33 = .ok (.bipush 6, 2) := by decide +kernel
theorem dX12_leaves_35 : decode cX12_leaves 35 = .ok (.iload 5, 2) := by decide +kernel
theorem dX12_leaves_37 : decode cX12_leaves 37 = .ok (.imul, 1) := by decide +kernel
theorem dX12_leaves_38 : decode cX12_leaves 38 = .ok (.iload_n 1, 1) := by decide +kernel
theorem dX12_leaves_39 : decode cX12_leaves 39 = .ok (.iadd, 1) := by decide +kernel
theorem dX12_leaves_40 : decode cX12_leaves 40 = .ok (.iaload, 1) := by decide +kernel
theorem dX12_leaves_41 : decode cX12_leaves 41 = .ok (.aload_n 0, 1) := by decide +kernel
theorem dX12_leaves_42 : decode cX12_leaves 42 = .ok (.getfield 42, 3) := by decide +kernel
theorem dX12_leaves_45 : decode cX12_leaves 45 = .ok (.bipush 6, 2) := by decide +kernel
theorem dX12_leaves_47 : decode cX12_leaves 47 = .ok (.iload_n 3, 1) := by decide +kernel
theorem dX12_leaves_48 : decode cX12_leaves 48 = .ok (.imul, 1) := by decide +kernel
theorem dX12_leaves_49 : decode cX12_leaves 49 = .ok (.iload_n 1, 1) := by decide +kernel
theorem dX12_leaves_50 : decode cX12_leaves 50 = .ok (.iadd, 1) := by decide +kernel
theorem dX12_leaves_51 : decode cX12_leaves 51 = .ok (.iaload, 1) := by decide +kernel
theorem dX12_leaves_52 : decode cX12_leaves 52 = .ok (.if_icmp .ne 7, 3) := by decide +kernel
theorem dX12_leaves_55 : decode cX12_leaves 55 = .ok (.iconst 1, 1) := by decide +kernel
theorem dX12_leaves_56 : decode cX12_leaves 56 = .ok (.goto 4, 3) := by decide +kernel
theorem dX12_leaves_59 : decode cX12_leaves 59 = .ok (.iconst 0, 1) := by decide +kernel
theorem dX12_leaves_60 : decode cX12_leaves 60 = .ok (.iadd, 1) := by decide +kernel
theorem dX12_leaves_61 : decode cX12_leaves 61 = .ok (.istore 4, 2) := by decide +kernel
theorem dX12_leaves_63 : decode cX12_leaves 63 = .ok (.iinc 5 1, 3) := by decide +kernel
theorem dX12_leaves_66 : decode cX12_leaves 66 = .ok (.goto (-48), 3) := by decide +kernel
theorem dX12_leaves_69 : decode cX12_leaves 69 = .ok (.iload 4, 2) := by decide +kernel
theorem dX12_leaves_71 : decode cX12_leaves 71 = .ok (.iload_n 2, 1) := by decide +kernel
theorem dX12_leaves_72 : decode cX12_leaves 72 = .ok (.if_icmp .le 6, 3) := by decide +kernel
theorem dX12_leaves_75 : decode cX12_leaves 75 = .ok (.iload 4, 2) := by decide +kernel
theorem dX12_leaves_77 : decode cX12_leaves 77 = .ok (.istore_n 2, 1) := by decide +kernel
theorem dX12_leaves_78 : decode cX12_leaves 78 = .ok (.iinc 3 1, 3) := by decide +kernel
theorem dX12_leaves_81 : decode cX12_leaves 81 = .ok (.goto (-77), 3) := by decide +kernel
theorem dX12_leaves_84 : decode cX12_leaves 84 = .ok (.iload_n 2, 1) := by decide +kernel
theorem dX12_leaves_85 : decode cX12_leaves 85 = .ok (.ireturn, 1) := by decide +kernel
theorem dX12_toAsk_0 : decode cX12_toAsk 0 = .ok (.aload_n 0, 1) := by decide +kernel
theorem dX12_toAsk_1 : decode cX12_toAsk 1 = .ok (.invokevirtual 420, 3) := by decide +kernel
theorem dX12_toAsk_4 : decode cX12_toAsk 4 = .ok (.bipush (-2), 2) := by decide +kernel
theorem dX12_toAsk_6 : decode cX12_toAsk 6 = .ok (.istore_n 1, 1) := by decide +kernel
theorem dX12_toAsk_7 : decode cX12_toAsk 7 = .ok (.aload_n 0, 1) := by decide +kernel
theorem dX12_toAsk_8 : decode cX12_toAsk 8 = .ok (.bipush (-2), 2) := by decide +kernel
theorem dX12_toAsk_10 : decode cX12_toAsk 10 = .ok (.putfield 423, 3) := by decide +kernel
theorem dX12_toAsk_13 : decode cX12_toAsk 13 = .ok (.iconst 0, 1) := by decide +kernel
theorem dX12_toAsk_14 : decode cX12_toAsk 14 = .ok (.istore_n 2, 1) := by decide +kernel
theorem dX12_toAsk_15 : decode cX12_toAsk 15 = .ok (.iload_n 2, 1) := by decide +kernel
theorem dX12_toAsk_16 : decode cX12_toAsk 16 = .ok (.aload_n 0, 1) := by decide +kernel
theorem dX12_toAsk_17 : decode cX12_toAsk 17 = .ok (.getfield 307, 3) := by decide +kernel
theorem dX12_toAsk_20 : decode cX12_toAsk 20 = .ok (.getfield 188, 3) := by decide +kernel
theorem dX12_toAsk_23 : decode cX12_toAsk 23 = .ok (.if_icmp .ge 61, 3) := by decide +kernel
theorem dX12_toAsk_26 : decode cX12_toAsk 26 = .ok (.aload_n 0, 1) := by decide +kernel
theorem dX12_toAsk_27 : decode cX12_toAsk 27 = .ok (.getfield 408, 3) := by decide +kernel
theorem dX12_toAsk_30 : decode cX12_toAsk 30 = .ok (.ifCond .le 54, 3) := by decide +kernel
theorem dX12_toAsk_33 : decode cX12_toAsk 33 = .ok (.aload_n 0, 1) := by decide +kernel
theorem dX12_toAsk_34 : decode cX12_toAsk 34 = .ok (.getfield 307, 3) := by decide +kernel
theorem dX12_toAsk_37 : decode cX12_toAsk 37 = .ok (.getfield 253, 3) := by decide +kernel
theorem dX12_toAsk_40 : decode cX12_toAsk 40 = .ok (.iload_n 2, 1) := by decide +kernel
theorem dX12_toAsk_41 : decode cX12_toAsk 41 = .ok (.iaload, 1) := by decide +kernel
theorem dX12_toAsk_42 : decode cX12_toAsk 42 = .ok (.iconst (-1), 1) := by decide +kernel
theorem dX12_toAsk_43 : decode cX12_toAsk 43 = .ok (.if_icmp .ne 35, 3) := by decide +kernel
theorem dX12_toAsk_46 : decode cX12_toAsk 46 = .ok (.iload_n 1, 1) := by decide +kernel
theorem dX12_toAsk_47 : decode cX12_toAsk 47 = .ok (.bipush (-2), 2) := by decide +kernel
theorem dX12_toAsk_49 : decode cX12_toAsk 49 = .ok (.if_icmp .eq 18, 3) := by decide +kernel
theorem dX12_toAsk_52 : decode cX12_toAsk 52 = .ok (.aload_n 0, 1) := by decide +kernel
theorem dX12_toAsk_53 : decode cX12_toAsk 53 = .ok (.iload_n 2, 1) := by decide +kernel
theorem dX12_toAsk_54 : decode cX12_toAsk 54 = .ok (.invokevirtual 426, 3) := by decide +kernel
theorem dX12_toAsk_57 : decode cX12_toAsk 57 = .ok (.aload_n 0, 1) := by decide +kernel
theorem dX12_toAsk_58 : decode cX12_toAsk 58 = .ok (.getfield 423, 3) := by decide +kernel
theorem dX12_toAsk_61 : decode cX12_toAsk 61 = .ok (.if_icmp .lt 6, 3) := by decide +kernel
theorem dX12_toAsk_64 : decode cX12_toAsk 64 = .ok (.goto 14, 3) := by decide +kernel
theorem dX12_toAsk_67 : decode cX12_toAsk 67 = .ok (.iload_n 2, 1) := by decide +kernel
theorem dX12_toAsk_68 : decode cX12_toAsk 68 = .ok (.istore_n 1, 1) := by decide +kernel
theorem dX12_toAsk_69 : decode cX12_toAsk 69 = .ok (.aload_n 0, 1) := by decide +kernel
theorem dX12_toAsk_70 : decode cX12_toAsk 70 = .ok (.aload_n 0, 1) := by decide +kernel
theorem dX12_toAsk_71 : decode cX12_toAsk 71 = .ok (.iload_n 2, 1) := by decide +kernel
theorem dX12_toAsk_72 : decode cX12_toAsk 72 = .ok (.invokevirtual 426, 3) := by decide +kernel
theorem dX12_toAsk_75 : decode cX12_toAsk 75 = .ok (.putfield 423, 3) := by decide +kernel
theorem dX12_toAsk_78 : decode cX12_toAsk 78 = .ok (.iinc 2 1, 3) := by decide +kernel
theorem dX12_toAsk_81 : decode cX12_toAsk 81 = .ok (.goto (-66), 3) := by decide +kernel
theorem dX12_toAsk_84 : decode cX12_toAsk 84 = .ok (.iload_n 1, 1) := by decide +kernel
theorem dX12_toAsk_85 : decode cX12_toAsk 85 = .ok (.ireturn, 1) := by decide +kernel
theorem dX12_ask_0 : decode cX12_ask 0 = .ok (.aload_n 0, 1) := by decide +kernel
theorem dX12_ask_1 : decode cX12_ask 1 = .ok (.iconst 0, 1) := by decide +kernel
theorem dX12_ask_2 : decode cX12_ask 2 = .ok (.putfield 51, 3) := by decide +kernel
theorem dX12_ask_5 : decode cX12_ask 5 = .ok (.aload_n 0, 1) := by decide +kernel
theorem dX12_ask_6 : decode cX12_ask 6 = .ok (.getfield 307, 3) := by decide +kernel
theorem dX12_ask_9 : decode cX12_ask 9 = .ok (.ifnonnull 11, 3) := by decide +kernel
theorem dX12_ask_12 : decode cX12_ask 12 = .ok (.aload_n 0, 1) := by decide +kernel
theorem dX12_ask_13 : decode cX12_ask 13 = .ok (.iconst 1, 1) := by decide +kernel
theorem dX12_ask_14 : decode cX12_ask 14 = .ok (.invokevirtual 57, 3) := by decide +kernel
theorem dX12_ask_17 : decode cX12_ask 17 = .ok (.goto 11, 3) := by decide +kernel
theorem dX12_ask_20 : decode cX12_ask 20 = .ok (.aload_n 0, 1) := by decide +kernel
theorem dX12_ask_21 : decode cX12_ask 21 = .ok (.aload_n 0, 1) := by decide +kernel
theorem dX12_ask_22 : decode cX12_ask 22 = .ok (.invokevirtual 429, 3) := by decide +kernel
theorem dX12_ask_25 : decode cX12_ask 25 = .ok (.invokevirtual 61, 3) := by decide +kernel
theorem dX12_ask_28 : decode cX12_ask 28 = .ok (.ireturn, 1) := by decide +kernel
theorem dX12_askLeaves_0 : decode cX12_askLeaves 0 = .ok (.aload_n 0, 1) := by decide +kernel
theorem dX12_askLeaves_1 : decode cX12_askLeaves 1 = .ok (.iconst 0, 1) := by decide +kernel
theorem dX12_askLeaves_2 : decode cX12_askLeaves 2 = .ok (.putfield 51, 3) := by decide +kernel
theorem dX12_askLeaves_5 : decode cX12_askLeaves 5 = .ok (.aload_n 0, 1) := by decide +kernel
theorem dX12_askLeaves_6 : decode cX12_askLeaves 6 = .ok (.getfield 307, 3) := by decide +kernel
theorem dX12_askLeaves_9 : decode cX12_askLeaves 9 = .ok (.ifnonnull 9, 3) := by decide +kernel
theorem dX12_askLeaves_12 : decode cX12_askLeaves 12 = .ok (.aload_n 0, 1) := by decide +kernel
theorem dX12_askLeaves_13 : decode cX12_askLeaves 13 = .ok (.iconst 1, 1) := by decide +kernel
theorem dX12_askLeaves_14 : decode cX12_askLeaves 14 = .ok (.invokevirtual 57, 3) := by decide +kernel
theorem dX12_askLeaves_17 : decode cX12_askLeaves 17 = .ok (.ireturn, 1) := by decide +kernel
theorem dX12_askLeaves_18 : decode cX12_askLeaves 18 = .ok (.aload_n 0, 1) := by decide +kernel
theorem dX12_askLeaves_19 : decode cX12_askLeaves 19 = .ok (.invokevirtual 429, 3) := by decide +kernel
theorem dX12_askLeaves_22 : decode cX12_askLeaves 22 = .ok (.pop, 1) := by decide +kernel
theorem dX12_askLeaves_23 : decode cX12_askLeaves 23 = .ok (.aload_n 0, 1) := by decide +kernel
theorem dX12_askLeaves_24 : decode cX12_askLeaves 24 = .ok (.aload_n 0, 1) := by decide +kernel
theorem dX12_askLeaves_25 : decode cX12_askLeaves 25 = .ok (.getfield 423, 3) := by decide +kernel
theorem dX12_askLeaves_28 : decode cX12_askLeaves 28 = .ok (.invokevirtual 61, 3) := by decide +kernel
theorem dX12_askLeaves_31 : decode cX12_askLeaves 31 = .ok (.ireturn, 1) := by decide +kernel
theorem dX12_judge_0 : decode cX12_judge 0 = .ok (.aload_n 0, 1) := by decide +kernel
theorem dX12_judge_1 : decode cX12_judge 1 = .ok (.iconst 0, 1) := by decide +kernel
theorem dX12_judge_2 : decode cX12_judge 2 = .ok (.putfield 51, 3) := by decide +kernel
theorem dX12_judge_5 : decode cX12_judge 5 = .ok (.aload_n 0, 1) := by decide +kernel
theorem dX12_judge_6 : decode cX12_judge 6 = .ok (.getfield 307, 3) := by decide +kernel
theorem dX12_judge_9 : decode cX12_judge 9 = .ok (.ifnonnull 9, 3) := by decide +kernel
theorem dX12_judge_12 : decode cX12_judge 12 = .ok (.aload_n 0, 1) := by decide +kernel
theorem dX12_judge_13 : decode cX12_judge 13 = .ok (.iconst 1, 1) := by decide +kernel
theorem dX12_judge_14 : decode cX12_judge 14 = .ok (.invokevirtual 57, 3) := by decide +kernel
theorem dX12_judge_17 : decode cX12_judge 17 = .ok (.ireturn, 1) := by decide +kernel
theorem dX12_judge_18 : decode cX12_judge 18 = .ok (.aload_n 0, 1) := by decide +kernel
theorem dX12_judge_19 : decode cX12_judge 19 = .ok (.invokevirtual 341, 3) := by decide +kernel
theorem dX12_judge_22 : decode cX12_judge 22 = .ok (.iconst 0, 1) := by decide +kernel
theorem dX12_judge_23 : decode cX12_judge 23 = .ok (.istore_n 1, 1) := by decide +kernel
theorem dX12_judge_24 : decode cX12_judge 24 = .ok (.iload_n 1, 1) := by decide +kernel
theorem dX12_judge_25 : decode cX12_judge 25 = .ok (.aload_n 0, 1) := by decide +kernel
theorem dX12_judge_26 : decode cX12_judge 26 = .ok (.getfield 307, 3) := by decide +kernel
theorem dX12_judge_29 : decode cX12_judge 29 = .ok (.getfield 188, 3) := by decide +kernel
theorem dX12_judge_32 : decode cX12_judge 32 = .ok (.if_icmp .ge 46, 3) := by decide +kernel
theorem dX12_judge_35 : decode cX12_judge 35 = .ok (.aload_n 0, 1) := by decide +kernel
theorem dX12_judge_36 : decode cX12_judge 36 = .ok (.getfield 307, 3) := by decide +kernel
theorem dX12_judge_39 : decode cX12_judge 39 = .ok (.getfield 253, 3) := by decide +kernel
theorem dX12_judge_42 : decode cX12_judge 42 = .ok (.iload_n 1, 1) := by decide +kernel
theorem dX12_judge_43 : decode cX12_judge 43 = .ok (.iaload, 1) := by decide +kernel
theorem dX12_judge_44 : decode cX12_judge 44 = .ok (.iconst (-1), 1) := by decide +kernel
theorem dX12_judge_45 : decode cX12_judge 45 = .ok (.if_icmp .eq 27, 3) := by decide +kernel
theorem dX12_judge_48 : decode cX12_judge 48 = .ok (.aload_n 0, 1) := by decide +kernel
theorem dX12_judge_49 : decode cX12_judge 49 = .ok (.getfield 307, 3) := by decide +kernel
theorem dX12_judge_52 : decode cX12_judge 52 = .ok (.getfield 253, 3) := by decide +kernel
theorem dX12_judge_55 : decode cX12_judge 55 = .ok (.iload_n 1, 1) := by decide +kernel
theorem dX12_judge_56 : decode cX12_judge 56 = .ok (.iaload, 1) := by decide +kernel
theorem dX12_judge_57 : decode cX12_judge 57 = .ok (.aload_n 0, 1) := by decide +kernel
theorem dX12_judge_58 : decode cX12_judge 58 = .ok (.getfield 36, 3) := by decide +kernel
theorem dX12_judge_61 : decode cX12_judge 61 = .ok (.iload_n 1, 1) := by decide +kernel
theorem dX12_judge_62 : decode cX12_judge 62 = .ok (.iaload, 1) := by decide +kernel
theorem dX12_judge_63 : decode cX12_judge 63 = .ok (.if_icmp .eq 9, 3) := by decide +kernel
theorem dX12_judge_66 : decode cX12_judge 66 = .ok (.aload_n 0, 1) := by decide +kernel
theorem dX12_judge_67 : decode cX12_judge 67 = .ok (.iload_n 1, 1) := by decide +kernel
theorem dX12_judge_68 : decode cX12_judge 68 = .ok (.invokevirtual 61, 3) := by decide +kernel
theorem dX12_judge_71 : decode cX12_judge 71 = .ok (.ireturn, 1) := by decide +kernel
theorem dX12_judge_72 : decode cX12_judge 72 = .ok (.iinc 1 1, 3) := by decide +kernel
theorem dX12_judge_75 : decode cX12_judge 75 = .ok (.goto (-51), 3) := by decide +kernel
theorem dX12_judge_78 : decode cX12_judge 78 = .ok (.aload_n 0, 1) := by decide +kernel
theorem dX12_judge_79 : decode cX12_judge 79 = .ok (.bipush (-2), 2) := by decide +kernel
theorem dX12_judge_81 : decode cX12_judge 81 = .ok (.invokevirtual 61, 3) := by decide +kernel
theorem dX12_judge_84 : decode cX12_judge 84 = .ok (.ireturn, 1) := by decide +kernel
theorem dX12_areTwo_0 : decode cX12_areTwo 0 = .ok (.aload_n 0, 1) := by decide +kernel
theorem dX12_areTwo_1 : decode cX12_areTwo 1 = .ok (.getfield 307, 3) := by decide +kernel
theorem dX12_areTwo_4 : decode cX12_areTwo 4 = .ok (.ifnull 18, 3) := by decide +kernel
theorem dX12_areTwo_7 : decode cX12_areTwo 7 = .ok (.aload_n 0, 1) := by decide +kernel
theorem dX12_areTwo_8 : decode cX12_areTwo 8 = .ok (.getfield 307, 3) := by decide +kernel
theorem dX12_areTwo_11 : decode cX12_areTwo 11 = .ok (.getfield 188, 3) := by decide +kernel
theorem dX12_areTwo_14 : decode cX12_areTwo 14 = .ok (.iconst 1, 1) := by decide +kernel
theorem dX12_areTwo_15 : decode cX12_areTwo 15 = .ok (.if_icmp .le 7, 3) := by decide +kernel
theorem dX12_areTwo_18 : decode cX12_areTwo 18 = .ok (.iconst 1, 1) := by decide +kernel
theorem dX12_areTwo_19 : decode cX12_areTwo 19 = .ok (.goto 4, 3) := by decide +kernel
theorem dX12_areTwo_22 : decode cX12_areTwo 22 = .ok (.iconst 0, 1) := by decide +kernel
theorem dX12_areTwo_23 : decode cX12_areTwo 23 = .ok (.ireturn, 1) := by decide +kernel
theorem dX12_pulls_0 : decode cX12_pulls 0 = .ok (.iconst 0, 1) := by decide +kernel
theorem dX12_pulls_1 : decode cX12_pulls 1 = .ok (.istore_n 1, 1) := by decide +kernel
theorem dX12_pulls_2 : decode cX12_pulls 2 = .ok (.iload_n 1, 1) := by decide +kernel
theorem dX12_pulls_3 : decode cX12_pulls 3 = .ok (.bipush 36, 2) := by decide +kernel
theorem dX12_pulls_5 : decode cX12_pulls 5 = .ok (.if_icmp .ge 76, 3) := by decide +kernel
theorem dX12_pulls_8 : decode cX12_pulls 8 = .ok (.aload_n 0, 1) := by decide +kernel
theorem dX12_pulls_9 : decode cX12_pulls 9 = .ok (.aload_n 0, 1) := by decide +kernel
theorem dX12_pulls_10 : decode cX12_pulls 10 = .ok (.invokevirtual 329, 3) := by decide +kernel
theorem dX12_pulls_13 : decode cX12_pulls 13 = .ok (.aload_n 0, 1) := by decide +kernel
theorem dX12_pulls_14 : decode cX12_pulls 14 = .ok (.getfield 17, 3) := by decide +kernel
theorem dX12_pulls_17 : decode cX12_pulls 17 = .ok (.bipush 14, 2) := by decide +kernel
theorem dX12_pulls_19 : decode cX12_pulls 19 = .ok (.iaload, 1) := by decide +kernel
theorem dX12_pulls_20 : decode cX12_pulls 20 = .ok (.iload_n 1, 1) := by decide +kernel
theorem dX12_pulls_21 : decode cX12_pulls 21 = .ok (.bipush 6, 2) := by decide +kernel
theorem dX12_pulls_23 : decode cX12_pulls 23 = .ok (.idiv, 1) := by decide +kernel
theorem dX12_pulls_24 : decode cX12_pulls 24 = .ok (.iload_n 1, 1) := by decide +kernel
theorem dX12_pulls_25 : decode cX12_pulls 25 = .ok (.bipush 6, 2) := by decide +kernel
theorem dX12_pulls_27 : decode cX12_pulls 27 = .ok (.irem, 1) := by decide +kernel
theorem dX12_pulls_28 : decode cX12_pulls 28 = .ok (.invokevirtual 319, 3) := by decide +kernel
theorem dX12_pulls_31 : decode cX12_pulls 31 = .ok (.aload_n 0, 1) := by decide +kernel
theorem dX12_pulls_32 : decode cX12_pulls 32 = .ok (.getfield 45, 3) := by decide +kernel
theorem dX12_pulls_35 : decode cX12_pulls 35 = .ok (.iload_n 1, 1) := by decide +kernel
theorem dX12_pulls_36 : decode cX12_pulls 36 = .ok (.iconst 3, 1) := by decide +kernel
