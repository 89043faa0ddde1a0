theorem dX10_arrange_109 : decode cX10_arrange 109 = .ok (.aload_n 0, 1) := by decide +kernel
theorem dX10_arrange_110 : decode cX10_arrange 110 = .ok (.getfield 61, 3) := by decide +kernel
theorem dX10_arrange_113 : decode cX10_arrange 113 = .ok (.getfield 69, 3) := by decide +kernel
theorem dX10_arrange_116 : decode cX10_arrange 116 = .ok (.if_icmp .ge 21, 3) := by decide +kernel
theorem dX10_arrange_119 : decode cX10_arrange 119 = .ok (.aload_n 0, 1) := by decide +kernel
theorem dX10_arrange_120 : decode cX10_arrange 120 = .ok (.getfield 22, 3) := by decide +kernel
theorem dX10_arrange_123 : decode cX10_arrange 123 = .ok (.aload_n 0, 1) := by decide +kernel
theorem dX10_arrange_124 : decode cX10_arrange 124 = .ok (.getfield 15, 3) := by decide +kernel
theorem dX10_arrange_127 : decode cX10_arrange 127 = .ok (.iload_n 1, 1) := by decide +kernel
theorem dX10_arrange_128 : decode cX10_arrange 128 = .ok (.iaload, 1) := by decide +kernel
theorem dX10_arrange_129 : decode cX10_arrange 129 = .ok (.iload_n 1, 1) := by decide +kernel
theorem dX10_arrange_130 : decode cX10_arrange 130 = .ok (.iastore, 1) := by decide +kernel
theorem dX10_arrange_131 : decode cX10_arrange 131 = .ok (.iinc 1 1, 3) := by decide +kernel
theorem dX10_arrange_134 : decode cX10_arrange 134 = .ok (.goto (-26), 3) := by decide +kernel
theorem dX10_arrange_137 : decode cX10_arrange 137 = .ok (.aload_n 0, 1) := by decide +kernel
theorem dX10_arrange_138 : decode cX10_arrange 138 = .ok (.iconst 1, 1) := by decide +kernel
theorem dX10_arrange_139 : decode cX10_arrange 139 = .ok (.putfield 25, 3) := by decide +kernel
theorem dX10_arrange_142 : decode cX10_arrange 142 = .ok (.return_, 1) := by decide +kernel
theorem dX10_reckonTimes_0 : decode cX10_reckonTimes 0 = .ok (.aload_n 0, 1) := by decide +kernel
theorem dX10_reckonTimes_1 : decode cX10_reckonTimes 1 = .ok (.getfield 57, 3) := by decide +kernel
theorem dX10_reckonTimes_4 : decode cX10_reckonTimes 4 = .ok (.getfield 88, 3) := by decide +kernel
theorem dX10_reckonTimes_7 : decode cX10_reckonTimes 7 = .ok (.astore_n 2, 1) := by decide +kernel
theorem dX10_reckonTimes_8 : decode cX10_reckonTimes 8 = .ok (.aload_n 0, 1) := by decide +kernel
theorem dX10_reckonTimes_9 : decode cX10_reckonTimes 9 = .ok (.getfield 61, 3) := by decide +kernel
theorem dX10_reckonTimes_12 : decode cX10_reckonTimes 12 = .ok (.getfield 94, 3) := by decide +kernel
theorem dX10_reckonTimes_15 : decode cX10_reckonTimes 15 = .ok (.iload_n 1, 1) := by decide +kernel
theorem dX10_reckonTimes_16 : decode cX10_reckonTimes 16 = .ok (.iaload, 1) := by decide +kernel
theorem dX10_reckonTimes_17 : decode cX10_reckonTimes 17 = .ok (.istore_n 3, 1) := by decide +kernel
theorem dX10_reckonTimes_18 : decode cX10_reckonTimes 18 = .ok (.iconst 0, 1) := by decide +kernel
theorem dX10_reckonTimes_19 : decode cX10_reckonTimes 19 = .ok (.istore 4, 2) := by decide +kernel
theorem dX10_reckonTimes_21 : decode cX10_reckonTimes 21 = .ok (.iload 4, 2) := by decide +kernel
theorem dX10_reckonTimes_23 : decode cX10_reckonTimes 23 = .ok (.aload_n 2, 1) := by decide +kernel
theorem dX10_reckonTimes_24 : decode cX10_reckonTimes 24 = .ok (.getfield 97, 3) := by decide +kernel
theorem dX10_reckonTimes_27 : decode cX10_reckonTimes 27 = .ok (.iload_n 3, 1) := by decide +kernel
theorem dX10_reckonTimes_28 : decode cX10_reckonTimes 28 = .ok (.iaload, 1) := by decide +kernel
theorem dX10_reckonTimes_29 : decode cX10_reckonTimes 29 = .ok (.if_icmp .ge 114, 3) := by decide +kernel
theorem dX10_reckonTimes_32 : decode cX10_reckonTimes 32 = .ok (.aload_n 2, 1) := by decide +kernel
theorem dX10_reckonTimes_33 : decode cX10_reckonTimes 33 = .ok (.iload_n 3, 1) := by decide +kernel
theorem dX10_reckonTimes_34 : decode cX10_reckonTimes 34 = .ok (.iload 4, 2) := by decide +kernel
theorem dX10_reckonTimes_36 : decode cX10_reckonTimes 36 = .ok (.invokevirtual 102, 3) := by decide +kernel
theorem dX10_reckonTimes_39 : decode cX10_reckonTimes 39 = .ok (.istore 5, 2) := by decide +kernel
theorem dX10_reckonTimes_41 : decode cX10_reckonTimes 41 = .ok (.aload_n 2, 1) := by decide +kernel
theorem dX10_reckonTimes_42 : decode cX10_reckonTimes 42 = .ok (.getfield 105, 3) := by decide +kernel
theorem dX10_reckonTimes_45 : decode cX10_reckonTimes 45 = .ok (.iload 5, 2) := by decide +kernel
theorem dX10_reckonTimes_47 : decode cX10_reckonTimes 47 = .ok (.iaload, 1) := by decide +kernel
theorem dX10_reckonTimes_48 : decode cX10_reckonTimes 48 = .ok (.i2l, 1) := by decide +kernel
theorem dX10_reckonTimes_49 : decode cX10_reckonTimes 49 = .ok (.lstore 6, 2) := by decide +kernel
theorem dX10_reckonTimes_51 : decode cX10_reckonTimes 51 = .ok (.iconst 0, 1) := by decide +kernel
theorem dX10_reckonTimes_52 : decode cX10_reckonTimes 52 = .ok (.istore 8, 2) := by decide +kernel
theorem dX10_reckonTimes_54 : decode cX10_reckonTimes 54 = .ok (.iload 8, 2) := by decide +kernel
theorem dX10_reckonTimes_56 : decode cX10_reckonTimes 56 = .ok (.iconst 4, 1) := by decide +kernel
theorem dX10_reckonTimes_57 : decode cX10_reckonTimes 57 = .ok (.if_icmp .ge 38, 3) := by decide +kernel
theorem dX10_reckonTimes_60 : decode cX10_reckonTimes 60 = .ok (.lload 6, 2) := by decide +kernel
theorem dX10_reckonTimes_62 : decode cX10_reckonTimes 62 = .ok (.aload_n 2, 1) := by decide +kernel
theorem dX10_reckonTimes_63 : decode cX10_reckonTimes 63 = .ok (.getfield 105, 3) := by decide +kernel
theorem dX10_reckonTimes_66 : decode cX10_reckonTimes 66 = .ok (.iload 5, 2) := by decide +kernel
theorem dX10_reckonTimes_68 : decode cX10_reckonTimes 68 = .ok (.iconst 1, 1) := by decide +kernel
theorem dX10_reckonTimes_69 : decode cX10_reckonTimes 69 = .ok (.iadd, 1) := by decide +kernel
theorem dX10_reckonTimes_70 : decode cX10_reckonTimes 70 = .ok (.iload 8, 2) := by decide +kernel
theorem dX10_reckonTimes_72 : decode cX10_reckonTimes 72 = .ok (.iadd, 1) := by decide +kernel
theorem dX10_reckonTimes_73 : decode cX10_reckonTimes 73 = .ok (.iaload, 1) := by decide +kernel
theorem dX10_reckonTimes_74 : decode cX10_reckonTimes 74 = .ok (.i2l, 1) := by decide +kernel
theorem dX10_reckonTimes_75 : decode cX10_reckonTimes 75 = .ok (.aload_n 0, 1) := by decide +kernel
theorem dX10_reckonTimes_76 : decode cX10_reckonTimes 76 = .ok (.getfield 61, 3) := by decide +kernel
theorem dX10_reckonTimes_79 : decode cX10_reckonTimes 79 = .ok (.iload_n 1, 1) := by decide +kernel
theorem dX10_reckonTimes_80 : decode cX10_reckonTimes 80 = .ok (.iload 8, 2) := by decide +kernel
theorem dX10_reckonTimes_82 : decode cX10_reckonTimes 82 = .ok (.invokevirtual 108, 3) := by decide +kernel
theorem dX10_reckonTimes_85 : decode cX10_reckonTimes 85 = .ok (.lmul, 1) := by decide +kernel
theorem dX10_reckonTimes_86 : decode cX10_reckonTimes 86 = .ok (.ladd, 1) := by decide +kernel
theorem dX10_reckonTimes_87 : decode cX10_reckonTimes 87 = .ok (.lstore 6, 2) := by decide +kernel
theorem dX10_reckonTimes_89 : decode cX10_reckonTimes 89 = .ok (.iinc 8 1, 3) := by decide +kernel
theorem dX10_reckonTimes_92 : decode cX10_reckonTimes 92 = .ok (.goto (-38), 3) := by decide +kernel
theorem dX10_reckonTimes_95 : decode cX10_reckonTimes 95 = .ok (.aload_n 2, 1) := by decide +kernel
theorem dX10_reckonTimes_96 : decode cX10_reckonTimes 96 = .ok (.getfield 105, 3) := by decide +kernel
theorem dX10_reckonTimes_99 : decode cX10_reckonTimes 99 = .ok (.iload 5, 2) := by decide +kernel
theorem dX10_reckonTimes_101 : decode cX10_reckonTimes 101 = .ok (.iconst 5, 1) := by decide +kernel
theorem dX10_reckonTimes_102 : decode cX10_reckonTimes 102 = .ok (.iadd, 1) := by decide +kernel
theorem dX10_reckonTimes_103 : decode cX10_reckonTimes 103 = .ok (.iaload, 1) := by decide +kernel
theorem dX10_reckonTimes_104 : decode cX10_reckonTimes 104 = .ok (.istore 8, 2) := by decide +kernel
theorem dX10_reckonTimes_106 : decode cX10_reckonTimes 106 = .ok (.aload_n 0, 1) := by decide +kernel
theorem dX10_reckonTimes_107 : decode cX10_reckonTimes 107 = .ok (.getfield 9, 3) := by decide +kernel
theorem dX10_reckonTimes_110 : decode cX10_reckonTimes 110 = .ok (.iload_n 1, 1) := by decide +kernel
theorem dX10_reckonTimes_111 : decode cX10_reckonTimes 111 = .ok (.bipush 16, 2) := by decide +kernel
theorem dX10_reckonTimes_113 : decode cX10_reckonTimes 113 = .ok (.imul, 1) := by decide +kernel
theorem dX10_reckonTimes_114 : decode cX10_reckonTimes 114 = .ok (.iload 4, 2) := by decide +kernel
theorem dX10_reckonTimes_116 : decode cX10_reckonTimes 116 = .ok (.iadd, 1) := by decide +kernel
theorem dX10_reckonTimes_117 : decode cX10_reckonTimes 117 = .ok (.iload 8, 2) := by decide +kernel
theorem dX10_reckonTimes_119 : decode cX10_reckonTimes 119 = .ok (.iconst 1, 1) := by decide +kernel
theorem dX10_reckonTimes_120 : decode cX10_reckonTimes 120 = .ok (.if_icmp .le 14, 3) := by decide +kernel
theorem dX10_reckonTimes_123 : decode cX10_reckonTimes 123 = .ok (.lload 6, 2) := by decide +kernel
theorem dX10_reckonTimes_125 : decode cX10_reckonTimes 125 = .ok (.iload 8, 2) := by decide +kernel
theorem dX10_reckonTimes_127 : decode cX10_reckonTimes 127 = .ok (.i2l, 1) := by decide +kernel
theorem dX10_reckonTimes_128 : decode cX10_reckonTimes 128 = .ok (.invokestatic 112, 3) := by decide +kernel
theorem dX10_reckonTimes_131 : decode cX10_reckonTimes 131 = .ok (.goto 5, 3) := by decide +kernel
theorem dX10_reckonTimes_134 : decode cX10_reckonTimes 134 = .ok (.lload 6, 2) := by decide +kernel
theorem dX10_reckonTimes_136 : decode cX10_reckonTimes 136 = .ok (.lastore, 1) := by decide +kernel
theorem dX10_reckonTimes_137 : decode cX10_reckonTimes 137 = .ok (.iinc 4 1, 3) := by decide +kernel
theorem dX10_reckonTimes_140 : decode cX10_reckonTimes 140 = .ok (.goto (-119), 3) := by decide +kernel
theorem dX10_reckonTimes_143 : decode cX10_reckonTimes 143 = .ok (.return_, 1) := by decide +kernel
theorem dX10_merge_0 : decode cX10_merge 0 = .ok (.aload_n 0, 1) := by decide +kernel
theorem dX10_merge_1 : decode cX10_merge 1 = .ok (.aload_n 0, 1) := by decide +kernel
theorem dX10_merge_2 : decode cX10_merge 2 = .ok (.getfield 15, 3) := by decide +kernel
theorem dX10_merge_5 : decode cX10_merge 5 = .ok (.iload_n 2, 1) := by decide +kernel
theorem dX10_merge_6 : decode cX10_merge 6 = .ok (.iconst 1, 1) := by decide +kernel
theorem dX10_merge_7 : decode cX10_merge 7 = .ok (.isub, 1) := by decide +kernel
theorem dX10_merge_8 : decode cX10_merge 8 = .ok (.iaload, 1) := by decide +kernel
theorem dX10_merge_9 : decode cX10_merge 9 = .ok (.aload_n 0, 1) := by decide +kernel
theorem dX10_merge_10 : decode cX10_merge 10 = .ok (.getfield 15, 3) := by decide +kernel
theorem dX10_merge_13 : decode cX10_merge 13 = .ok (.iload_n 2, 1) := by decide +kernel
theorem dX10_merge_14 : decode cX10_merge 14 = .ok (.iaload, 1) := by decide +kernel
theorem dX10_merge_15 : decode cX10_merge 15 = .ok (.invokevirtual 116, 3) := by decide +kernel
theorem dX10_merge_18 : decode cX10_merge 18 = .ok (.ifCond .ne 4, 3) := by decide +kernel
theorem dX10_merge_21 : decode cX10_merge 21 = .ok (.return_, 1) := by decide +kernel
theorem dX10_merge_22 : decode cX10_merge 22 = .ok (.aload_n 0, 1) := by decide +kernel
theorem dX10_merge_23 : decode cX10_merge 23 = .ok (.getfield 15, 3) := by decide +kernel
theorem dX10_merge_26 : decode cX10_merge 26 = .ok (.iload_n 1, 1) := by decide +kernel
theorem dX10_merge_27 : decode cX10_merge 27 = .ok (.aload_n 0, 1) := by decide +kernel
theorem dX10_merge_28 : decode cX10_merge 28 = .ok (.getfield 19, 3) := by decide +kernel
theorem dX10_merge_31 : decode cX10_merge 31 = .ok (.iload_n 1, 1) := by decide +kernel
theorem dX10_merge_32 : decode cX10_merge 32 = .ok (.iload_n 3, 1) := by decide +kernel
theorem dX10_merge_33 : decode cX10_merge 33 = .ok (.iload_n 1, 1) := by decide +kernel
theorem dX10_merge_34 : decode cX10_merge 34 = .ok (.isub, 1) := by decide +kernel
theorem dX10_merge_35 : decode cX10_merge 35 = .ok (.invokestatic 120, 3) := by decide +kernel
theorem dX10_merge_38 : decode cX10_merge 38 = .ok (.iload_n 1, 1) := by decide +kernel
theorem dX10_merge_39 : decode cX10_merge 39 = .ok (.istore 4, 2) := by decide +kernel
theorem dX10_merge_41 : decode cX10_merge 41 = .ok (.iload_n 2, 1) := by decide +kernel
theorem dX10_merge_42 : decode cX10_merge 42 = .ok (.istore 5, 2) := by decide +kernel
theorem dX10_merge_44 : decode cX10_merge 44 = .ok (.iload_n 1, 1) := by decide +kernel
theorem dX10_merge_45 : decode cX10_merge 45 = .ok (.istore 6, 2) := by decide +kernel
theorem dX10_merge_47 : decode cX10_merge 47 = .ok (.iload 6, 2) := by decide +kernel
theorem dX10_merge_49 : decode cX10_merge 49 = .ok (.iload_n 3, 1) := by decide +kernel
theorem dX10_merge_50 : decode cX10_merge 50 = .ok (.if_icmp .ge 79, 3) := by decide +kernel
theorem dX10_merge_53 : decode cX10_merge 53 = .ok (.iload 5, 2) := by decide +kernel
theorem dX10_merge_55 : decode cX10_merge 55 = .ok (.iload_n 3, 1) := by decide +kernel
theorem dX10_merge_56 : decode cX10_merge 56 = .ok (.if_icmp .ge 30, 3) := by decide +kernel
theorem dX10_merge_59 : decode cX10_merge 59 = .ok (.iload 4, 2) := by decide +kernel
theorem dX10_merge_61 : decode cX10_merge 61 = .ok (.iload_n 2, 1) := by decide +kernel
theorem dX10_merge_62 : decode cX10_merge 62 = .ok (.if_icmp .ge 44, 3) := by decide +kernel
theorem dX10_merge_65 : decode cX10_merge 65 = .ok (.aload_n 0, 1) := by decide +kernel
theorem dX10_merge_66 : decode cX10_merge 66 = .ok (.aload_n 0, 1) := by decide +kernel
theorem dX10_merge_67 : decode cX10_merge 67 = .ok (.getfield 19, 3) := by decide +kernel
theorem dX10_merge_70 : decode cX10_merge 70 = .ok (.iload 4, 2) := by decide +kernel
theorem dX10_merge_72 : decode cX10_merge 72 = .ok (.iaload, 1) := by decide +kernel
theorem dX10_merge_73 : decode cX10_merge 73 = .ok (.aload_n 0, 1) := by decide +kernel
theorem dX10_merge_74 : decode cX10_merge 74 = .ok (.getfield 19, 3) := by decide +kernel
theorem dX10_merge_77 : decode cX10_merge 77 = .ok (.iload 5, 2) := by decide +kernel
theorem dX10_merge_79 : decode cX10_merge 79 = .ok (.iaload, 1) := by decide +kernel
theorem dX10_merge_80 : decode cX10_merge 80 = .ok (.invokevirtual 116, 3) := by decide +kernel
theorem dX10_merge_83 : decode cX10_merge 83 = .ok (.ifCond .ne 23, 3) := by decide +kernel
theorem dX10_merge_86 : decode cX10_merge 86 = .ok (.aload_n 0, 1) := by decide +kernel
theorem dX10_merge_87 : decode cX10_merge 87 = .ok (.getfield 15, 3) := by decide +kernel
theorem dX10_merge_90 : decode cX10_merge 90 = .ok (.iload 6, 2) := by decide +kernel
theorem dX10_merge_92 : decode cX10_merge 92 = .ok (.aload_n 0, 1) := by decide +kernel
theorem dX10_merge_93 : decode cX10_merge 93 = .ok (.getfield 19, 3) := by decide +kernel
theorem dX10_merge_96 : decode cX10_merge 96 = .ok (.iload 4, 2) := by decide +kernel
theorem dX10_merge_98 : decode cX10_merge 98 = .ok (.iaload, 1) := by decide +kernel
theorem dX10_merge_99 : decode cX10_merge 99 = .ok (.iastore, 1) := by decide +kernel
theorem dX10_merge_100 : decode cX10_merge 100 = .ok (.iinc 4 1, 3) := by decide +kernel
theorem dX10_merge_103 : decode cX10_merge 103 = .ok (.goto 20, 3) := by decide +kernel
theorem dX10_merge_106 : decode cX10_merge 106 = .ok (.aload_n 0, 1) := by decide +kernel
theorem dX10_merge_107 : decode cX10_merge 107 = .ok (.getfield 15, 3) := by decide +kernel
theorem dX10_merge_110 : decode cX10_merge 110 = .ok (.iload 6, 2) := by decide +kernel
theorem dX10_merge_112 : decode cX10_merge 112 = .ok (.aload_n 0, 1) := by decide +kernel
theorem dX10_merge_113 : decode cX10_merge 113 = .ok (.getfield 19, 3) := by decide +kernel
theorem dX10_merge_116 : decode cX10_merge 116 = .ok (.iload 5, 2) := by decide +kernel
theorem dX10_merge_118 : decode cX10_merge 118 = .ok (.iaload, 1) := by decide +kernel
theorem dX10_merge_119 : decode cX10_merge 119 = .ok (.iastore, 1) := by decide +kernel
theorem dX10_merge_120 : decode cX10_merge 120 = .ok (.iinc 5 1, 3) := by decide +kernel
theorem dX10_merge_123 : decode cX10_merge 123 = .ok (.iinc 6 1, 3) := by decide +kernel
theorem dX10_merge_126 : decode cX10_merge 126 = .ok (.goto (-79), 3) := by decide +kernel
theorem dX10_merge_129 : decode cX10_merge 129 = .ok (.return_, 1) := by decide +kernel
theorem dX10_isBehind_0 : decode cX10_isBehind 0 = .ok (.aload_n 0, 1) := by decide +kernel
theorem dX10_isBehind_1 : decode cX10_isBehind 1 = .ok (.getfield 57, 3) := by decide +kernel
theorem dX10_isBehind_4 : decode cX10_isBehind 4 = .ok (.getfield 88, 3) := by decide +kernel
theorem dX10_isBehind_7 : decode cX10_isBehind 7 = .ok (.getfield 97, 3) := by decide +kernel
theorem dX10_isBehind_10 : decode cX10_isBehind 10 = .ok (.aload_n 0, 1) := by decide +kernel
theorem dX10_isBehind_11 : decode cX10_isBehind 11 = .ok (.getfield 61, 3) := by decide +kernel
theorem dX10_isBehind_14 : decode cX10_isBehind 14 = .ok (.getfield 94, 3) := by decide +kernel
theorem dX10_isBehind_17 : decode cX10_isBehind 17 = .ok (.iload_n 1, 1) := by decide +kernel
theorem dX10_isBehind_18 : decode cX10_isBehind 18 = .ok (.iaload, 1) := by decide +kernel
theorem dX10_isBehind_19 : decode cX10_isBehind 19 = .ok (.iaload, 1) := by decide +kernel
theorem dX10_isBehind_20 : decode cX10_isBehind 20 = .ok (.istore_n 3, 1) := by decide +kernel
theorem dX10_isBehind_21 : decode cX10_isBehind 21 = .ok (.aload_n 0, 1) := by decide +kernel
theorem dX10_isBehind_22 : decode cX10_isBehind 22 = .ok (.getfield 57, 3) := by decide +kernel
theorem dX10_isBehind_25 : decode cX10_isBehind 25 = .ok (.getfield 88, 3) := by decide +kernel
theorem dX10_isBehind_28 : decode cX10_isBehind 28 = .ok (.getfield 97, 3) := by decide +kernel
theorem dX10_isBehind_31 : decode cX10_isBehind 31 = .ok (.aload_n 0, 1) := by decide +kernel
theorem dX10_isBehind_32 : decode cX10_isBehind 32 = .ok (.getfield 61, 3) := by decide +kernel
theorem dX10_isBehind_35 : decode cX10_isBehind 35 = .ok (.getfield 94, 3) := by decide +kernel
theorem dX10_isBehind_38 : decode cX10_isBehind 38 = .ok (.iload_n 2, 1) := by decide +kernel
theorem dX10_isBehind_39 : decode cX10_isBehind 39 = .ok (.iaload, 1) := by decide +kernel
theorem dX10_isBehind_40 : decode cX10_isBehind 40 = .ok (.iaload, 1) := by decide +kernel
theorem dX10_isBehind_41 : decode cX10_isBehind 41 = .ok (.istore 4, 2) := by decide +kernel
theorem dX10_isBehind_43 : decode cX10_isBehind 43 = .ok (.iload_n 3, 1) := by decide +kernel
theorem dX10_isBehind_44 : decode cX10_isBehind 44 = .ok (.iload 4, 2) := by decide +kernel
theorem dX10_isBehind_46 : decode cX10_isBehind 46 = .ok (.invokestatic 78, 3) := by decide +kernel
theorem dX10_isBehind_49 : decode cX10_isBehind 49 = .ok (.istore 5, 2) := by decide +kernel
theorem dX10_isBehind_51 : decode cX10_isBehind 51 = .ok (.iconst 0, 1) := by decide +kernel
theorem dX10_isBehind_52 : decode cX10_isBehind 52 = .ok (.istore 6, 2) := by decide +kernel
theorem dX10_isBehind_54 : decode cX10_isBehind 54 = .ok (.iload 6, 2) := by decide +kernel
theorem dX10_isBehind_56 : decode cX10_isBehind 56 = .ok (.iload 5, 2) := by decide +kernel
theorem dX10_isBehind_58 : decode cX10_isBehind 58 = .ok (.if_icmp .ge 59, 3) := by decide +kernel
theorem dX10_isBehind_61 : decode cX10_isBehind 61 = .ok (.aload_n 0, 1) := by decide +kernel
theorem dX10_isBehind_62 : decode cX10_isBehind 62 = .ok (.getfield 9, 3) := by decide +kernel
theorem dX10_isBehind_65 : decode cX10_isBehind 65 = .ok (.iload_n 1, 1) := by decide +kernel
theorem dX10_isBehind_66 : decode cX10_isBehind 66 = .ok (.bipush 16, 2) := by decide +kernel
theorem dX10_isBehind_68 : decode cX10_isBehind 68 = .ok (.imul, 1) := by decide +kernel
theorem dX10_isBehind_69 : decode cX10_isBehind 69 = .ok (.iload 6, 2) := by decide +kernel
theorem dX10_isBehind_71 : decode cX10_isBehind 71 = .ok (.iadd, 1) := by decide +kernel
theorem dX10_isBehind_72 : decode cX10_isBehind 72 = .ok (.laload, 1) := by decide +kernel
theorem dX10_isBehind_73 : decode cX10_isBehind 73 = .ok (.lstore 7, 2) := by decide +kernel
theorem dX10_isBehind_75 : decode cX10_isBehind 75 = .ok (.aload_n 0, 1) := by decide +kernel
theorem dX10_isBehind_76 : decode cX10_isBehind 76 = .ok (.getfield 9, 3) := by decide +kernel
theorem dX10_isBehind_79 : decode cX10_isBehind 79 = .ok (.iload_n 2, 1) := by decide +kernel
theorem dX10_isBehind_80 : decode cX10_isBehind 80 = .ok (.bipush 16, 2) := by decide +kernel
theorem dX10_isBehind_82 : decode cX10_isBehind 82 = .ok (.imul, 1) := by decide +kernel
theorem dX10_isBehind_83 : decode cX10_isBehind 83 = .ok (.iload 6, 2) := by decide +kernel
theorem dX10_isBehind_85 : decode cX10_isBehind 85 = .ok (.iadd, 1) := by decide +kernel
theorem dX10_isBehind_86 : decode cX10_isBehind 86 = .ok (.laload, 1) := by decide +kernel
theorem dX10_isBehind_87 : decode cX10_isBehind 87 = .ok (.lstore 9, 2) := by decide +kernel
theorem dX10_isBehind_89 : decode cX10_isBehind 89 = .ok (.lload 7, 2) := by decide +kernel
theorem dX10_isBehind_91 : decode cX10_isBehind 91 = .ok (.lload 9, 2) := by decide +kernel
theorem dX10_isBehind_93 : decode cX10_isBehind 93 = .ok (.lcmp, 1) := by decide +kernel
theorem dX10_isBehind_94 : decode cX10_isBehind 94 = .ok (.ifCond .eq 17, 3) := by decide +kernel
theorem dX10_isBehind_97 : decode cX10_isBehind 97 = .ok (.lload 7, 2) := by decide +kernel
theorem dX10_isBehind_99 : decode cX10_isBehind 99 = .ok (.lload 9, 2) := by decide +kernel
theorem dX10_isBehind_101 : decode cX10_isBehind 101 = .ok (.lcmp, 1) := by decide +kernel
theorem dX10_isBehind_102 : decode cX10_isBehind 102 = .ok (.ifCond .le 7, 3) := by decide +kernel
theorem dX10_isBehind_105 : decode cX10_isBehind 105 = .ok (.iconst 1, 1) := by decide +kernel
theorem dX10_isBehind_106 : decode cX10_isBehind 106 = .ok (.goto 4, 3) := by decide +kernel
theorem dX10_isBehind_109 : decode cX10_isBehind 109 = .ok (.iconst 0, 1) := by decide +kernel
theorem dX10_isBehind_110 : decode cX10_isBehind 110 = .ok (.ireturn, 1) := by decide +kernel
theorem dX10_isBehind_111 : decode cX10_isBehind 111 = .ok (.iinc 6 1, 3) := by decide +kernel
theorem dX10_isBehind_114 : decode cX10_isBehind 114 = .ok (.goto (-60), 3) := by decide +kernel
theorem dX10_isBehind_117 : decode cX10_isBehind 117 = .ok (.iload_n 3, 1) := by decide +kernel
theorem dX10_isBehind_118 : decode cX10_isBehind 118 = .ok (.iload 4, 2) := by decide +kernel
theorem dX10_isBehind_120 : decode cX10_isBehind 120 = .ok (.if_icmp .le 7, 3) := by decide +kernel
theorem dX10_isBehind_123 : decode cX10_isBehind 123 = .ok (.iconst 1, 1) := by decide +kernel
theorem dX10_isBehind_124 : decode cX10_isBehind 124 = .ok (.goto 4, 3) := by decide +kernel
theorem dX10_isBehind_127 : decode cX10_isBehind 127 = .ok (.iconst 0, 1) := by decide +kernel
theorem dX10_isBehind_128 : decode cX10_isBehind 128 = .ok (.ireturn, 1) := by decide +kernel
theorem dX10_isAllowed_0 : decode cX10_isAllowed 0 = .ok (.aload_n 0, 1) := by decide +kernel
theorem dX10_isAllowed_1 : decode cX10_isAllowed 1 = .ok (.getfield 45, 3) := by decide +kernel
theorem dX10_isAllowed_4 : decode cX10_isAllowed 4 = .ok (.ifCond .eq 16, 3) := by decide +kernel
theorem dX10_isAllowed_7 : decode cX10_isAllowed 7 = .ok (.aload_n 0, 1) := by decide +kernel
theorem dX10_isAllowed_8 : decode cX10_isAllowed 8 = .ok (.getfield 39, 3) := by decide +kernel
theorem dX10_isAllowed_11 : decode cX10_isAllowed 11 = .ok (.ifCond .ge 7, 3) := by decide +kernel
theorem dX10_isAllowed_14 : decode cX10_isAllowed 14 = .ok (.iconst 1, 1) := by decide +kernel
theorem dX10_isAllowed_15 : decode cX10_isAllowed 15 = .ok (.goto 4, 3) := by decide +kernel
theorem dX10_isAllowed_18 : decode cX10_isAllowed 18 = .ok (.iconst 0, 1) := by decide +kernel
theorem dX10_isAllowed_19 : decode cX10_isAllowed 19 = .ok (.ireturn, 1) := by decide +kernel
theorem dX10_isAllowed_20 : decode cX10_isAllowed 20 = .ok (.aload_n 0, 1) := by decide +kernel
theorem dX10_isAllowed_21 : decode cX10_isAllowed 21 = .ok (.invokevirtual 126, 3) := by decide +kernel
theorem dX10_isAllowed_24 : decode cX10_isAllowed 24 = .ok (.aload_n 0, 1) := by decide +kernel
theorem dX10_isAllowed_25 : decode cX10_isAllowed 25 = .ok (.getfield 65, 3) := by decide +kernel
theorem dX10_isAllowed_28 : decode cX10_isAllowed 28 = .ok (.invokevirtual 129, 3) := by decide +kernel
theorem dX10_isAllowed_31 : decode cX10_isAllowed 31 = .ok (.aload_n 0, 1) := by decide +kernel
theorem dX10_isAllowed_32 : decode cX10_isAllowed 32 = .ok (.bipush (-9), 2) := by decide +kernel
theorem dX10_isAllowed_34 : decode cX10_isAllowed 34 = .ok (.putfield 39, 3) := by decide +kernel
theorem dX10_isAllowed_37 : decode cX10_isAllowed 37 = .ok (.aload_n 0, 1) := by decide +kernel
theorem dX10_isAllowed_38 : decode cX10_isAllowed 38 = .ok (.getfield 29, 3) := by decide +kernel
theorem dX10_isAllowed_41 : decode cX10_isAllowed 41 = .ok (.iconst 0, 1) := by decide +kernel
theorem dX10_isAllowed_42 : decode cX10_isAllowed 42 = .ok (.aload_n 0, 1) := by decide +kernel
theorem dX10_isAllowed_43 : decode cX10_isAllowed 43 = .ok (.getfield 65, 3) := by decide +kernel
theorem dX10_isAllowed_46 : decode cX10_isAllowed 46 = .ok (.getfield 134, 3) := by decide +kernel
theorem dX10_isAllowed_49 : decode cX10_isAllowed 49 = .ok (.bipush (-9), 2) := by decide +kernel
theorem dX10_isAllowed_51 : decode cX10_isAllowed 51 = .ok (.invokestatic 137, 3) := by decide +kernel
theorem dX10_isAllowed_54 : decode cX10_isAllowed 54 = .ok (.aload_n 0, 1) := by decide +kernel
theorem dX10_isAllowed_55 : decode cX10_isAllowed 55 = .ok (.getfield 32, 3) := by decide +kernel
theorem dX10_isAllowed_58 : decode cX10_isAllowed 58 = .ok (.iconst 0, 1) := by decide +kernel
theorem dX10_isAllowed_59 : decode cX10_isAllowed 59 = .ok (.aload_n 0, 1) := by decide +kernel
theorem dX10_isAllowed_60 : decode cX10_isAllowed 60 = .ok (.getfield 65, 3) := by decide +kernel
theorem dX10_isAllowed_63 : decode cX10_isAllowed 63 = .ok (.getfield 134, 3) := by decide +kernel
theorem dX10_isAllowed_66 : decode cX10_isAllowed 66 = .ok (.bipush (-9), 2) := by decide +kernel
theorem dX10_isAllowed_68 : decode cX10_isAllowed 68 = .ok (.invokestatic 137, 3) := by decide +kernel
theorem dX10_isAllowed_71 : decode cX10_isAllowed 71 = .ok (.iconst 0, 1) := by decide +kernel
theorem dX10_isAllowed_72 : decode cX10_isAllowed 72 = .ok (.istore_n 1, 1) := by decide +kernel
theorem dX10_isAllowed_73 : decode cX10_isAllowed 73 = .ok (.iload_n 1, 1) := by decide +kernel
theorem dX10_isAllowed_74 : decode cX10_isAllowed 74 = .ok (.aload_n 0, 1) := by decide +kernel
theorem dX10_isAllowed_75 : decode cX10_isAllowed 75 = .ok (.getfield 61, 3) := by decide +kernel
theorem dX10_isAllowed_78 : decode cX10_isAllowed 78 = .ok (.getfield 69, 3) := by decide +kernel
theorem dX10_isAllowed_81 : decode cX10_isAllowed 81 = .ok (.if_icmp .ge 37, 3) := by decide +kernel
theorem dX10_isAllowed_84 : decode cX10_isAllowed 84 = .ok (.aload_n 0, 1) := by decide +kernel
theorem dX10_isAllowed_85 : decode cX10_isAllowed 85 = .ok (.getfield 39, 3) := by decide +kernel
theorem dX10_isAllowed_88 : decode cX10_isAllowed 88 = .ok (.ifCond .ge 30, 3) := by decide +kernel
theorem dX10_isAllowed_91 : decode cX10_isAllowed 91 = .ok (.aload_n 0, 1) := by decide +kernel
theorem dX10_isAllowed_92 : decode cX10_isAllowed 92 = .ok (.iload_n 1, 1) := by decide +kernel
theorem dX10_isAllowed_93 : decode cX10_isAllowed 93 = .ok (.invokevirtual 143, 3) := by decide +kernel
theorem dX10_isAllowed_96 : decode cX10_isAllowed 96 = .ok (.ifCond .eq 11, 3) := by decide +kernel
theorem dX10_isAllowed_99 : decode cX10_isAllowed 99 = .ok (.aload_n 0, 1) := by decide +kernel
theorem dX10_isAllowed_100 : decode cX10_isAllowed 100 = .ok (.iload_n 1, 1) := by decide +kernel
theorem dX10_isAllowed_101 : decode cX10_isAllowed 101 = .ok (.putfield 39, 3) := by decide +kernel
theorem dX10_isAllowed_104 : decode cX10_isAllowed 104 = .ok (.goto 8, 3) := by decide +kernel
theorem dX10_isAllowed_107 : decode cX10_isAllowed 107 = .ok (.aload_n 0, 1) := by decide +kernel
theorem dX10_isAllowed_108 : decode cX10_isAllowed 108 = .ok (.iload_n 1, 1) := by decide +kernel
theorem dX10_isAllowed_109 : decode cX10_isAllowed 109 = .ok (.invokevirtual 147, 3) := by decide +kernel
theorem dX10_isAllowed_112 : decode cX10_isAllowed 112 = .ok (.iinc 1 1, 3) := by decide +kernel
theorem dX10_isAllowed_115 : decode cX10_isAllowed 115 = .ok (.goto (-42), 3) := by decide +kernel
theorem dX10_isAllowed_118 : decode cX10_isAllowed 118 = .ok (.aload_n 0, 1) := by decide +kernel
theorem dX10_isAllowed_119 : decode cX10_isAllowed 119 = .ok (.getfield 39, 3) := by decide +kernel
theorem dX10_isAllowed_122 : decode cX10_isAllowed 122 = .ok (.ifCond .lt 11, 3) := by decide +kernel
theorem dX10_isAllowed_125 : decode cX10_isAllowed 125 = .ok (.aload_n 0, 1) := by decide +kernel
theorem dX10_isAllowed_126 : decode cX10_isAllowed 126 = .ok (.aload_n 0, 1) := by decide +kernel
theorem dX10_isAllowed_127 : decode cX10_isAllowed 127 = .ok (.getfield 39, 3) := by decide +kernel
theorem dX10_isAllowed_130 : decode cX10_isAllowed 130 = .ok (.invokevirtual 150, 3) := by decide +kernel
theorem dX10_isAllowed_133 : decode cX10_isAllowed 133 = .ok (.aload_n 0, 1) := by decide +kernel
theorem dX10_isAllowed_134 : decode cX10_isAllowed 134 = .ok (.iconst 1, 1) := by decide +kernel
theorem dX10_isAllowed_135 : decode cX10_isAllowed 135 = .ok (.putfield 45, 3) := by decide +kernel
theorem dX10_isAllowed_138 : decode cX10_isAllowed 138 = .ok (.aload_n 0, 1) := by decide +kernel
theorem dX10_isAllowed_139 : decode cX10_isAllowed 139 = .ok (.getfield 39, 3) := by decide +kernel
theorem dX10_isAllowed_142 : decode cX10_isAllowed 142 = .ok (.ifCond .ge 7, 3) := by decide +kernel
theorem dX10_isAllowed_145 : decode cX10_isAllowed 145 = .ok (.iconst 1, 1) := by decide +kernel
theorem dX10_isAllowed_146 : decode cX10_isAllowed 146 = .ok (.goto 4, 3) := by decide +kernel
theorem dX10_isAllowed_149 : decode cX10_isAllowed 149 = .ok (.iconst 0, 1) := by decide +kernel
theorem dX10_isAllowed_150 : decode cX10_isAllowed 150 = .ok (.ireturn, 1) := by decide +kernel
theorem dX10_isEarly_0 : decode cX10_isEarly 0 = .ok (.iload_n 1, 1) := by decide +kernel
theorem dX10_isEarly_1 : decode cX10_isEarly 1 = .ok (.iconst 3, 1) := by decide +kernel
theorem dX10_isEarly_2 : decode cX10_isEarly 2 = .ok (.imul, 1) := by decide +kernel
theorem dX10_isEarly_3 : decode cX10_isEarly 3 = .ok (.istore_n 2, 1) := by decide +kernel
theorem dX10_isEarly_4 : decode cX10_isEarly 4 = .ok (.aload_n 0, 1) := by decide +kernel
theorem dX10_isEarly_5 : decode cX10_isEarly 5 = .ok (.getfield 32, 3) := by decide +kernel
theorem dX10_isEarly_8 : decode cX10_isEarly 8 = .ok (.aload_n 0, 1) := by decide +kernel
theorem dX10_isEarly_9 : decode cX10_isEarly 9 = .ok (.getfield 65, 3) := by decide +kernel
theorem dX10_isEarly_12 : decode cX10_isEarly 12 = .ok (.getfield 153, 3) := by decide +kernel
theorem dX10_isEarly_15 : decode cX10_isEarly 15 = .ok (.iload_n 2, 1) := by decide +kernel
theorem dX10_isEarly_16 : decode cX10_isEarly 16 = .ok (.iaload, 1) := by decide +kernel
theorem dX10_isEarly_17 : decode cX10_isEarly 17 = .ok (.invokestatic 156, 3) := by decide +kernel
theorem dX10_isEarly_20 : decode cX10_isEarly 20 = .ok (.aload_n 0, 1) := by decide +kernel
theorem dX10_isEarly_21 : decode cX10_isEarly 21 = .ok (.getfield 22, 3) := by decide +kernel
theorem dX10_isEarly_24 : decode cX10_isEarly 24 = .ok (.iload_n 1, 1) := by decide +kernel
theorem dX10_isEarly_25 : decode cX10_isEarly 25 = .ok (.iaload, 1) := by decide +kernel
theorem dX10_isEarly_26 : decode cX10_isEarly 26 = .ok (.if_icmp .gt 57, 3) := by decide +kernel
theorem dX10_isEarly_29 : decode cX10_isEarly 29 = .ok (.aload_n 0, 1) := by decide +kernel
theorem dX10_isEarly_30 : decode cX10_isEarly 30 = .ok (.getfield 29, 3) := by decide +kernel
theorem dX10_isEarly_33 : decode cX10_isEarly 33 = .ok (.aload_n 0, 1) := by decide +kernel
theorem dX10_isEarly_34 : decode cX10_isEarly 34 = .ok (.getfield 65, 3) := by decide +kernel
theorem dX10_isEarly_37 : decode cX10_isEarly 37 = .ok (.getfield 153, 3) := by decide +kernel
theorem dX10_isEarly_40 : decode cX10_isEarly 40 = .ok (.iload_n 2, 1) := by decide +kernel
theorem dX10_isEarly_41 : decode cX10_isEarly 41 = .ok (.iconst 1, 1) := by decide +kernel
theorem dX10_isEarly_42 : decode cX10_isEarly 42 = .ok (.iadd, 1) := by decide +kernel
theorem dX10_isEarly_43 : decode cX10_isEarly 43 = .ok (.iaload, 1) := by decide +kernel
theorem dX10_isEarly_44 : decode cX10_isEarly 44 = .ok (.invokestatic 156, 3) := by decide +kernel
theorem dX10_isEarly_47 : decode cX10_isEarly 47 = .ok (.aload_n 0, 1) := by decide +kernel
theorem dX10_isEarly_48 : decode cX10_isEarly 48 = .ok (.getfield 22, 3) := by decide +kernel
theorem dX10_isEarly_51 : decode cX10_isEarly 51 = .ok (.iload_n 1, 1) := by decide +kernel
theorem dX10_isEarly_52 : decode cX10_isEarly 52 = .ok (.iaload, 1) := by decide +kernel
theorem dX10_isEarly_53 : decode cX10_isEarly 53 = .ok (.if_icmp .gt 30, 3) := by decide +kernel
theorem dX10_isEarly_56 : decode cX10_isEarly 56 = .ok (.aload_n 0, 1) := by decide +kernel
theorem dX10_isEarly_57 : decode cX10_isEarly 57 = .ok (.getfield 29, 3) := by decide +kernel
theorem dX10_isEarly_60 : decode cX10_isEarly 60 = .ok (.aload_n 0, 1) := by decide +kernel
theorem dX10_isEarly_61 : decode cX10_isEarly 61 = .ok (.getfield 65, 3) := by decide +kernel
theorem dX10_isEarly_64 : decode cX10_isEarly 64 = .ok (.getfield 153, 3) := by decide +kernel
theorem dX10_isEarly_67 : decode cX10_isEarly 67 = .ok (.iload_n 2, 1) := by decide +kernel
theorem dX10_isEarly_68 : decode cX10_isEarly 68 = .ok (.iconst 2, 1) := by decide +kernel
theorem dX10_isEarly_69 : decode cX10_isEarly 69 = .ok (.iadd, 1) := by decide +kernel
theorem dX10_isEarly_70 : decode cX10_isEarly 70 = .ok (.iaload, 1) := by decide +kernel
theorem dX10_isEarly_71 : decode cX10_isEarly 71 = .ok (.invokestatic 156, 3) := by decide +kernel
theorem dX10_isEarly_74 : decode cX10_isEarly 74 = .ok (.aload_n 0, 1) := by decide +kernel
theorem dX10_isEarly_75 : decode cX10_isEarly 75 = .ok (.getfield 22, 3) := by decide +kernel
theorem dX10_isEarly_78 : decode cX10_isEarly 78 = .ok (.iload_n 1, 1) := by decide +kernel
theorem dX10_isEarly_79 : decode cX10_isEarly 79 = .ok (.iaload, 1) := by decide +kernel
theorem dX10_isEarly_80 : decode cX10_isEarly 80 = .ok (.if_icmp .le 7, 3) := by decide +kernel
theorem dX10_isEarly_83 : decode cX10_isEarly 83 = .ok (.iconst 1, 1) := by decide +kernel
theorem dX10_isEarly_84 : decode cX10_isEarly 84 = .ok (.goto 4, 3) := by decide +kernel
theorem dX10_isEarly_87 : decode cX10_isEarly 87 = .ok (.iconst 0, 1) := by decide +kernel
theorem dX10_isEarly_88 : decode cX10_isEarly 88 = .ok (.ireturn, 1) := by decide +kernel
theorem dX10_latestAt_0 : decode cX10_latestAt 0 = .ok (.iload_n 1, 1) := by decide +kernel
theorem dX10_latestAt_1 : decode cX10_latestAt 1 = .ok (.ifCond .ge 8, 3) := by decide +kernel
theorem dX10_latestAt_4 : decode cX10_latestAt 4 = .ok (.bipush (-9), 2) := by decide +kernel
theorem dX10_latestAt_6 : decode cX10_latestAt 6 = .ok (.goto 6, 3) := by decide +kernel
theorem dX10_latestAt_9 : decode cX10_latestAt 9 = .ok (.aload_n 0, 1) := by decide +kernel
theorem dX10_latestAt_10 : decode cX10_latestAt 10 = .ok (.iload_n 1, 1) := by decide +kernel
theorem dX10_latestAt_11 : decode cX10_latestAt 11 = .ok (.iaload, 1) := by decide +kernel
theorem dX10_latestAt_12 : decode cX10_latestAt 12 = .ok (.ireturn, 1) := by decide +kernel
theorem dX10_remember_0 : decode cX10_remember 0 = .ok (.iconst 0, 1) := by decide +kernel
theorem dX10_remember_1 : decode cX10_remember 1 = .ok (.istore_n 2, 1) := by decide +kernel
theorem dX10_remember_2 : decode cX10_remember 2 = .ok (.iload_n 2, 1) := by decide +kernel
theorem dX10_remember_3 : decode cX10_remember 3 = .ok (.iconst 3, 1) := by decide +kernel
theorem dX10_remember_4 : decode cX10_remember 4 = .ok (.if_icmp .ge 76, 3) := by decide +kernel
theorem dX10_remember_7 : decode cX10_remember 7 = .ok (.aload_n 0, 1) := by decide +kernel
theorem dX10_remember_8 : decode cX10_remember 8 = .ok (.getfield 65, 3) := by decide +kernel
theorem dX10_remember_11 : decode cX10_remember 11 = .ok (.getfield 153, 3) := by decide +kernel
theorem dX10_remember_14 : decode cX10_remember 14 = .ok (.iload_n 1, 1) := by decide +kernel
theorem dX10_remember_15 : decode cX10_remember 15 = .ok (.iconst 3, 1) := by decide +kernel
theorem dX10_remember_16 : decode cX10_remember 16 = .ok (.imul, 1) := by decide +kernel
theorem dX10_remember_17 : decode cX10_remember 17 = .ok (.iload_n 2, 1) := by decide +kernel
theorem dX10_remember_18 : decode cX10_remember 18 = .ok (.iadd, 1) := by decide +kernel
theorem dX10_remember_19 : decode cX10_remember 19 = .ok (.iaload, 1) := by decide +kernel
theorem dX10_remember_20 : decode cX10_remember 20 = .ok (.istore_n 3, 1) := by decide +kernel
theorem dX10_remember_21 : decode cX10_remember 21 = .ok (.iload_n 3, 1) := by decide +kernel
theorem dX10_remember_22 : decode cX10_remember 22 = .ok (.ifCond .ge 6, 3) := by decide +kernel
theorem dX10_remember_25 : decode cX10_remember 25 = .ok (.goto 49, 3) := by decide +kernel
theorem dX10_remember_28 : decode cX10_remember 28 = .ok (.aload_n 0, 1) := by decide +kernel
theorem dX10_remember_29 : decode cX10_remember 29 = .ok (.getfield 32, 3) := by decide +kernel
theorem dX10_remember_32 : decode cX10_remember 32 = .ok (.iload_n 3, 1) := by decide +kernel
theorem dX10_remember_33 : decode cX10_remember 33 = .ok (.aload_n 0, 1) := by decide +kernel
theorem dX10_remember_34 : decode cX10_remember 34 = .ok (.getfield 32, 3) := by decide +kernel
theorem dX10_remember_37 : decode cX10_remember 37 = .ok (.iload_n 3, 1) := by decide +kernel
theorem dX10_remember_38 : decode cX10_remember 38 = .ok (.iaload, 1) := by decide +kernel
theorem dX10_remember_39 : decode cX10_remember 39 = .ok (.aload_n 0, 1) := by decide +kernel
theorem dX10_remember_40 : decode cX10_remember 40 = .ok (.getfield 22, 3) := by decide +kernel
theorem dX10_remember_43 : decode cX10_remember 43 = .ok (.iload_n 1, 1) := by decide +kernel
theorem dX10_remember_44 : decode cX10_remember 44 = .ok (.iaload, 1) := by decide +kernel
theorem dX10_remember_45 : decode cX10_remember 45 = .ok (.invokestatic 160, 3) := by decide +kernel
theorem dX10_remember_48 : decode cX10_remember 48 = .ok (.iastore, 1) := by decide +kernel
theorem dX10_remember_49 : decode cX10_remember 49 = .ok (.iload_n 2, 1) := by decide +kernel
theorem dX10_remember_50 : decode cX10_remember 50 = .ok (.ifCond .ne 24, 3) := by decide +kernel
theorem dX10_remember_53 : decode cX10_remember 53 = .ok (.aload_n 0, 1) := by decide +kernel
theorem dX10_remember_54 : decode cX10_remember 54 = .ok (.getfield 29, 3) := by decide +kernel
theorem dX10_remember_57 : decode cX10_remember 57 = .ok (.iload_n 3, 1) := by decide +kernel
theorem dX10_remember_58 : decode cX10_remember 58 = .ok (.aload_n 0, 1) := by decide +kernel
theorem dX10_remember_59 : decode cX10_remember 59 = .ok (.getfield 29, 3) := by decide +kernel
theorem dX10_remember_62 : decode cX10_remember 62 = .ok (.iload_n 3, 1) := by decide +kernel
theorem dX10_remember_63 : decode cX10_remember 63 = .ok (.iaload, 1) := by decide +kernel
theorem dX10_remember_64 : decode cX10_remember 64 = .ok (.aload_n 0, 1) := by decide +kernel
theorem dX10_remember_65 : decode cX10_remember 65 = .ok (.getfield 22, 3) := by decide +kernel
theorem dX10_remember_68 : decode cX10_remember 68 = .ok (.iload_n 1, 1) := by decide +kernel
theorem dX10_remember_69 : decode cX10_remember 69 = .ok (.iaload, 1) := by decide +kernel
theorem dX10_remember_70 : decode cX10_remember 70 = .ok (.invokestatic 160, 3) := by decide +kernel
theorem dX10_remember_73 : decode cX10_remember 73 = .ok (.iastore, 1) := by decide +kernel
theorem dX10_remember_74 : decode cX10_remember 74 = .ok (.iinc 2 1, 3) := by decide +kernel
theorem dX10_remember_77 : decode cX10_remember 77 = .ok (.goto (-75), 3) := by decide +kernel
theorem dX10_remember_80 : decode cX10_remember 80 = .ok (.return_, 1) := by decide +kernel
theorem dX10_findPartner_0 : decode cX10_findPartner 0 = .ok (.iconst 0, 1) := by decide +kernel
theorem dX10_findPartner_1 : decode cX10_findPartner 1 = .ok (.istore_n 2, 1) := by decide +kernel
theorem dX10_findPartner_2 : decode cX10_findPartner 2 = .ok (.iload_n 2, 1) := by decide +kernel
theorem dX10_findPartner_3 : decode cX10_findPartner 3 = .ok (.iload_n 1, 1) := by decide +kernel
theorem dX10_findPartner_4 : decode cX10_findPartner 4 = .ok (.if_icmp .ge 54, 3) := by decide +kernel
theorem dX10_findPartner_7 : decode cX10_findPartner 7 = .ok (.aload_n 0, 1) := by decide +kernel
theorem dX10_findPartner_8 : decode cX10_findPartner 8 = .ok (.getfield 22, 3) := by decide +kernel
theorem dX10_findPartner_11 : decode cX10_findPartner 11 = .ok (.iload_n 2, 1) := by decide +kernel
theorem dX10_findPartner_12 : decode cX10_findPartner 12 = .ok (.iaload, 1) := by decide +kernel
theorem dX10_findPartner_13 : decode cX10_findPartner 13 = .ok (.aload_n 0, 1) := by decide +kernel
theorem dX10_findPartner_14 : decode cX10_findPartner 14 = .ok (.getfield 22, 3) := by decide +kernel
theorem dX10_findPartner_17 : decode cX10_findPartner 17 = .ok (.iload_n 1, 1) := by decide +kernel
theorem dX10_findPartner_18 : decode cX10_findPartner 18 = .ok (.iaload, 1) := by decide +kernel
theorem dX10_findPartner_19 : decode cX10_findPartner 19 = .ok (.if_icmp .le 15, 3) := by decide +kernel
theorem dX10_findPartner_22 : decode cX10_findPartner 22 = .ok (.aload_n 0, 1) := by decide +kernel
theorem dX10_findPartner_23 : decode cX10_findPartner 23 = .ok (.getfield 65, 3) := by decide +kernel
theorem dX10_findPartner_26 : decode cX10_findPartner 26 = .ok (.iload_n 2, 1) := by decide +kernel
theorem dX10_findPartner_27 : decode cX10_findPartner 27 = .ok (.iload_n 1, 1) := by decide +kernel
theorem dX10_findPartner_28 : decode cX10_findPartner 28 = .ok (.invokevirtual 163, 3) := by decide +kernel
theorem dX10_findPartner_31 : decode cX10_findPartner 31 = .ok (.goto 5, 3) := by decide +kernel
theorem dX10_findPartner_34 : decode cX10_findPartner 34 = .ok (.bipush (-9), 2) := by decide +kernel
theorem dX10_findPartner_36 : decode cX10_findPartner 36 = .ok (.istore_n 3, 1) := by decide +kernel
theorem dX10_findPartner_37 : decode cX10_findPartner 37 = .ok (.iload_n 3, 1) := by decide +kernel
theorem dX10_findPartner_38 : decode cX10_findPartner 38 = .ok (.ifCond .lt 14, 3) := by decide +kernel
theorem dX10_findPartner_41 : decode cX10_findPartner 41 = .ok (.aload_n 0, 1) := by decide +kernel
theorem dX10_findPartner_42 : decode cX10_findPartner 42 = .ok (.iload_n 2, 1) := by decide +kernel
theorem dX10_findPartner_43 : decode cX10_findPartner 43 = .ok (.putfield 35, 3) := by decide +kernel
theorem dX10_findPartner_46 : decode cX10_findPartner 46 = .ok (.aload_n 0, 1) := by decide +kernel
theorem dX10_findPartner_47 : decode cX10_findPartner 47 = .ok (.iload_n 3, 1) := by decide +kernel
theorem dX10_findPartner_48 : decode cX10_findPartner 48 = .ok (.putfield 42, 3) := by decide +kernel
theorem dX10_findPartner_51 : decode cX10_findPartner 51 = .ok (.return_, 1) := by decide +kernel
theorem dX10_findPartner_52 : decode cX10_findPartner 52 = .ok (.iinc 2 1, 3) := by decide +kernel
theorem dX10_findPartner_55 : decode cX10_findPartner 55 = .ok (.goto (-53), 3) := by decide +kernel
theorem dX10_findPartner_58 : decode cX10_findPartner 58 = .ok (.return_, 1) := by decide +kernel
theorem dX10_partLines_0 : decode cX10_partLines 0 = .ok (.aload_n 0, 1) := by decide +kernel
theorem dX10_partLines_1 : decode cX10_partLines 1 = .ok (.getfield 54, 3) := by decide +kernel
theorem dX10_partLines_4 : decode cX10_partLines 4 = .ok (.ifCond .eq 4, 3) := by decide +kernel
theorem dX10_partLines_7 : decode cX10_partLines 7 = .ok (.return_, 1) := by decide +kernel
theorem dX10_partLines_8 : decode cX10_partLines 8 = .ok (.aload_n 0, 1) := by decide +kernel
theorem dX10_partLines_9 : decode cX10_partLines 9 = .ok (.invokevirtual 126, 3) := by decide +kernel
theorem dX10_partLines_12 : decode cX10_partLines 12 = .ok (.aload_n 0, 1) := by decide +kernel
theorem dX10_partLines_13 : decode cX10_partLines 13 = .ok (.iconst 0, 1) := by decide +kernel
theorem dX10_partLines_14 : decode cX10_partLines 14 = .ok (.putfield 51, 3) := by decide +kernel
theorem dX10_partLines_17 : decode cX10_partLines 17 = .ok (.iconst 0, 1) := by decide +kernel
theorem dX10_partLines_18 : decode cX10_partLines 18 = .ok (.istore_n 1, 1) := by decide +kernel
theorem dX10_partLines_19 : decode cX10_partLines 19 = .ok (.iconst 0, 1) := by decide +kernel
theorem dX10_partLines_20 : decode cX10_partLines 20 = .ok (.istore_n 2, 1) := by decide +kernel
theorem dX10_partLines_21 : decode cX10_partLines 21 = .ok (.iload_n 2, 1) := by decide +kernel
theorem dX10_partLines_22 : decode cX10_partLines 22 = .ok (.sipush 400, 3) := by decide +kernel
theorem dX10_partLines_25 : decode cX10_partLines 25 = .ok (.if_icmp .ge 46, 3) := by decide +kernel
theorem dX10_partLines_28 : decode cX10_partLines 28 = .ok (.iload_n 1, 1) := by decide +kernel
theorem dX10_partLines_29 : decode cX10_partLines 29 = .ok (.aload_n 0, 1) := by decide +kernel
theorem dX10_partLines_30 : decode cX10_partLines 30 = .ok (.getfield 61, 3) := by decide +kernel
theorem dX10_partLines_33 : decode cX10_partLines 33 = .ok (.getfield 69, 3) := by decide +kernel
theorem dX10_partLines_36 : decode cX10_partLines 36 = .ok (.if_icmp .ge 35, 3) := by decide +kernel
theorem dX10_partLines_39 : decode cX10_partLines 39 = .ok (.aload_n 0, 1) := by decide +kernel
theorem dX10_partLines_40 : decode cX10_partLines 40 = .ok (.getfield 48, 3) := by decide +kernel
theorem dX10_partLines_43 : decode cX10_partLines 43 = .ok (.aload_n 0, 1) := by decide +kernel
theorem dX10_partLines_44 : decode cX10_partLines 44 = .ok (.getfield 51, 3) := by decide +kernel
theorem dX10_partLines_47 : decode cX10_partLines 47 = .ok (.iload_n 1, 1) := by decide +kernel
theorem dX10_partLines_48 : decode cX10_partLines 48 = .ok (.iastore, 1) := by decide +kernel
theorem dX10_partLines_49 : decode cX10_partLines 49 = .ok (.aload_n 0, 1) := by decide +kernel
theorem dX10_partLines_50 : decode cX10_partLines 50 = .ok (.dup, 1) := by decide +kernel
theorem dX10_partLines_51 : decode cX10_partLines 51 = .ok (.getfield 51, 3) := by decide +kernel
theorem dX10_partLines_54 : decode cX10_partLines 54 = .ok (.iconst 1, 1) := by decide +kernel
theorem dX10_partLines_55 : decode cX10_partLines 55 = .ok (.iadd, 1) := by decide +kernel
theorem dX10_partLines_56 : decode cX10_partLines 56 = .ok (.putfield 51, 3) := by decide +kernel
theorem dX10_partLines_59 : decode cX10_partLines 59 = .ok (.aload_n 0, 1) := by decide +kernel
theorem dX10_partLines_60 : decode cX10_partLines 60 = .ok (.iload_n 1, 1) := by decide +kernel
theorem dX10_partLines_61 : decode cX10_partLines 61 = .ok (.invokevirtual 166, 3) := by decide +kernel
theorem dX10_partLines_64 : decode cX10_partLines 64 = .ok (.istore_n 1, 1) := by decide +kernel
theorem dX10_partLines_65 : decode cX10_partLines 65 = .ok (.iinc 2 1, 3) := by decide +kernel
theorem dX10_partLines_68 : decode cX10_partLines 68 = .ok (.goto (-47), 3) := by decide +kernel
theorem dX10_partLines_71 : decode cX10_partLines 71 = .ok (.aload_n 0, 1) := by decide +kernel
theorem dX10_partLines_72 : decode cX10_partLines 72 = .ok (.getfield 48, 3) := by decide +kernel
theorem dX10_partLines_75 : decode cX10_partLines 75 = .ok (.aload_n 0, 1) := by decide +kernel
theorem dX10_partLines_76 : decode cX10_partLines 76 = .ok (.getfield 51, 3) := by decide +kernel
theorem dX10_partLines_79 : decode cX10_partLines 79 = .ok (.aload_n 0, 1) := by decide +kernel
theorem dX10_partLines_80 : decode cX10_partLines 80 = .ok (.getfield 61, 3) := by decide +kernel
theorem dX10_partLines_83 : decode cX10_partLines 83 = .ok (.getfield 69, 3) := by decide +kernel
theorem dX10_partLines_86 : decode cX10_partLines 86 = .ok (.iastore, 1) := by decide +kernel
theorem dX10_partLines_87 : decode cX10_partLines 87 = .ok (.aload_n 0, 1) := by decide +kernel
theorem dX10_partLines_88 : decode cX10_partLines 88 = .ok (.iconst 1, 1) := by decide +kernel
theorem dX10_partLines_89 : decode cX10_partLines 89 = .ok (.putfield 54, 3) := by decide +kernel
theorem dX10_partLines_92 : decode cX10_partLines 92 = .ok (.return_, 1) := by decide +kernel
theorem dX10_endOfLine_0 : decode cX10_endOfLine 0 = .ok (.iload_n 1, 1) := by decide +kernel
theorem dX10_endOfLine_1 : decode cX10_endOfLine 1 = .ok (.iconst 1, 1) := by decide +kernel
theorem dX10_endOfLine_2 : decode cX10_endOfLine 2 = .ok (.iadd, 1) := by decide +kernel
theorem dX10_endOfLine_3 : decode cX10_endOfLine 3 = .ok (.istore_n 2, 1) := by decide +kernel
theorem dX10_endOfLine_4 : decode cX10_endOfLine 4 = .ok (.iload_n 2, 1) := by decide +kernel
theorem dX10_endOfLine_5 : decode cX10_endOfLine 5 = .ok (.aload_n 0, 1) := by decide +kernel
theorem dX10_endOfLine_6 : decode cX10_endOfLine 6 = .ok (.getfield 61, 3) := by decide +kernel
theorem dX10_endOfLine_9 : decode cX10_endOfLine 9 = .ok (.getfield 69, 3) := by decide +kernel
theorem dX10_endOfLine_12 : decode cX10_endOfLine 12 = .ok (.if_icmp .ge 18, 3) := by decide +kernel
theorem dX10_endOfLine_15 : decode cX10_endOfLine 15 = .ok (.aload_n 0, 1) := by decide +kernel
theorem dX10_endOfLine_16 : decode cX10_endOfLine 16 = .ok (.iload_n 1, 1) := by decide +kernel
theorem dX10_endOfLine_17 : decode cX10_endOfLine 17 = .ok (.iload_n 2, 1) := by decide +kernel
theorem dX10_endOfLine_18 : decode cX10_endOfLine 18 = .ok (.invokevirtual 170, 3) := by decide +kernel
theorem dX10_endOfLine_21 : decode cX10_endOfLine 21 = .ok (.ifCond .eq 9, 3) := by decide +kernel
theorem dX10_endOfLine_24 : decode cX10_endOfLine 24 = .ok (.iinc 2 1, 3) := by decide +kernel
theorem dX10_endOfLine_27 : decode cX10_endOfLine 27 = .ok (.goto (-23), 3) := by decide +kernel
theorem dX10_endOfLine_30 : decode cX10_endOfLine 30 = .ok (.iload_n 2, 1) := by decide +kernel
theorem dX10_endOfLine_31 : decode cX10_endOfLine 31 = .ok (.ireturn, 1) := by decide +kernel
theorem dX10_goesOn_0 : decode cX10_goesOn 0 = .ok (.aload_n 0, 1) := by decide +kernel
theorem dX10_goesOn_1 : decode cX10_goesOn 1 = .ok (.getfield 15, 3) := by decide +kernel
theorem dX10_goesOn_4 : decode cX10_goesOn 4 = .ok (.iload_n 2, 1) := by decide +kernel
theorem dX10_goesOn_5 : decode cX10_goesOn 5 = .ok (.iconst 1, 1) := by decide +kernel
theorem dX10_goesOn_6 : decode cX10_goesOn 6 = .ok (.isub, 1) := by decide +kernel
theorem dX10_goesOn_7 : decode cX10_goesOn 7 = .ok (.iaload, 1) := by decide +kernel
theorem dX10_goesOn_8 : decode cX10_goesOn 8 = .ok (.istore_n 3, 1) := by decide +kernel
theorem dX10_goesOn_9 : decode cX10_goesOn 9 = .ok (.aload_n 0, 1) := by decide +kernel
theorem dX10_goesOn_10 : decode cX10_goesOn 10 = .ok (.getfield 15, 3) := by decide +kernel
theorem dX10_goesOn_13 : decode cX10_goesOn 13 = .ok (.iload_n 2, 1) := by decide +kernel
theorem dX10_goesOn_14 : decode cX10_goesOn 14 = .ok (.iaload, 1) := by decide +kernel
theorem dX10_goesOn_15 : decode cX10_goesOn 15 = .ok (.istore 4, 2) := by decide +kernel
theorem dX10_goesOn_17 : decode cX10_goesOn 17 = .ok (.aload_n 0, 1) := by decide +kernel
theorem dX10_goesOn_18 : decode cX10_goesOn 18 = .ok (.getfield 61, 3) := by decide +kernel
theorem dX10_goesOn_21 : decode cX10_goesOn 21 = .ok (.getfield 94, 3) := by decide +kernel
theorem dX10_goesOn_24 : decode cX10_goesOn 24 = .ok (.iload_n 3, 1) := by decide +kernel
theorem dX10_goesOn_25 : decode cX10_goesOn 25 = .ok (.iaload, 1) := by decide +kernel
theorem dX10_goesOn_26 : decode cX10_goesOn 26 = .ok (.aload_n 0, 1) := by decide +kernel
theorem dX10_goesOn_27 : decode cX10_goesOn 27 = .ok (.getfield 61, 3) := by decide +kernel
theorem dX10_goesOn_30 : decode cX10_goesOn 30 = .ok (.getfield 94, 3) := by decide +kernel
theorem dX10_goesOn_33 : decode cX10_goesOn 33 = .ok (.iload 4, 2) := by decide +kernel
theorem dX10_goesOn_35 : decode cX10_goesOn 35 = .ok (.iaload, 1) := by decide +kernel
theorem dX10_goesOn_36 : decode cX10_goesOn 36 = .ok (.if_icmp .eq 5, 3) := by decide +kernel
theorem dX10_goesOn_39 : decode cX10_goesOn 39 = .ok (.iconst 0, 1) := by decide +kernel
theorem dX10_goesOn_40 : decode cX10_goesOn 40 = .ok (.ireturn, 1) := by decide +kernel
theorem dX10_goesOn_41 : decode cX10_goesOn 41 = .ok (.aload_n 0, 1) := by decide +kernel
theorem dX10_goesOn_42 : decode cX10_goesOn 42 = .ok (.getfield 15, 3) := by decide +kernel
theorem dX10_goesOn_45 : decode cX10_goesOn 45 = .ok (.iload_n 1, 1) := by decide +kernel
theorem dX10_goesOn_46 : decode cX10_goesOn 46 = .ok (.iaload, 1) := by decide +kernel
theorem dX10_goesOn_47 : decode cX10_goesOn 47 = .ok (.istore 5, 2) := by decide +kernel
theorem dX10_goesOn_49 : decode cX10_goesOn 49 = .ok (.aload_n 0, 1) := by decide +kernel
theorem dX10_goesOn_50 : decode cX10_goesOn 50 = .ok (.getfield 15, 3) := by decide +kernel
theorem dX10_goesOn_53 : decode cX10_goesOn 53 = .ok (.iload_n 1, 1) := by decide +kernel
theorem dX10_goesOn_54 : decode cX10_goesOn 54 = .ok (.iconst 1, 1) := by decide +kernel
theorem dX10_goesOn_55 : decode cX10_goesOn 55 = .ok (.iadd, 1) := by decide +kernel
theorem dX10_goesOn_56 : decode cX10_goesOn 56 = .ok (.iaload, 1) := by decide +kernel
theorem dX10_goesOn_57 : decode cX10_goesOn 57 = .ok (.istore 6, 2) := by decide +kernel
theorem dX10_goesOn_59 : decode cX10_goesOn 59 = .ok (.iconst 0, 1) := by decide +kernel
theorem dX10_goesOn_60 : decode cX10_goesOn 60 = .ok (.istore 7, 2) := by decide +kernel
theorem dX10_goesOn_62 : decode cX10_goesOn 62 = .ok (.iload 7, 2) := by decide +kernel
theorem dX10_goesOn_64 : decode cX10_goesOn 64 = .ok (.iconst 4, 1) := by decide +kernel
theorem dX10_goesOn_65 : decode cX10_goesOn 65 = .ok (.if_icmp .ge 40, 3) := by decide +kernel
theorem dX10_goesOn_68 : decode cX10_goesOn 68 = .ok (.aload_n 0, 1) := by decide +kernel
theorem dX10_goesOn_69 : decode cX10_goesOn 69 = .ok (.getfield 61, 3) := by decide +kernel
theorem dX10_goesOn_72 : decode cX10_goesOn 72 = .ok (.iload_n 3, 1) := by decide +kernel
theorem dX10_goesOn_73 : decode cX10_goesOn 73 = .ok (.iload 4, 2) := by decide +kernel
theorem dX10_goesOn_75 : decode cX10_goesOn 75 = .ok (.iload 7, 2) := by decide +kernel
theorem dX10_goesOn_77 : decode cX10_goesOn 77 = .ok (.invokevirtual 173, 3) := by decide +kernel
theorem dX10_goesOn_80 : decode cX10_goesOn 80 = .ok (.aload_n 0, 1) := by decide +kernel
theorem dX10_goesOn_81 : decode cX10_goesOn 81 = .ok (.getfield 61, 3) := by decide +kernel
theorem dX10_goesOn_84 : decode cX10_goesOn 84 = .ok (.iload 5, 2) := by decide +kernel
theorem dX10_goesOn_86 : decode cX10_goesOn 86 = .ok (.iload 6, 2) := by decide +kernel
theorem dX10_goesOn_88 : decode cX10_goesOn 88 = .ok (.iload 7, 2) := by decide +kernel
theorem dX10_goesOn_90 : decode cX10_goesOn 90 = .ok (.invokevirtual 173, 3) := by decide +kernel
theorem dX10_goesOn_93 : decode cX10_goesOn 93 = .ok (.lcmp, 1) := by decide +kernel
theorem dX10_goesOn_94 : decode cX10_goesOn 94 = .ok (.ifCond .eq 5, 3) := by decide +kernel
theorem dX10_goesOn_97 : decode cX10_goesOn 97 = .ok (.iconst 0, 1) := by decide +kernel
theorem dX10_goesOn_98 : decode cX10_goesOn 98 = .ok (.ireturn, 1) := by decide +kernel
theorem dX10_goesOn_99 : decode cX10_goesOn 99 = .ok (.iinc 7 1, 3) := by decide +kernel
theorem dX10_goesOn_102 : decode cX10_goesOn 102 = .ok (.goto (-40), 3) := by decide +kernel
theorem dX10_goesOn_105 : decode cX10_goesOn 105 = .ok (.iconst 1, 1) := by decide +kernel
theorem dX10_goesOn_106 : decode cX10_goesOn 106 = .ok (.ireturn, 1) := by decide +kernel
theorem dX11_init_0 : decode cX11_init 0 = .ok (.aload_n 0, 1) := by decide +kernel
theorem dX11_init_1 : decode cX11_init 1 = .ok (.invokespecial 1, 3) := by decide +kernel
theorem dX11_init_4 : decode cX11_init 4 = .ok (.aload_n 0, 1) := by decide +kernel
theorem dX11_init_5 : decode cX11_init 5 = .ok (.new 7, 3) := by decide +kernel
theorem dX11_init_8 : decode cX11_init 8 = .ok (.dup, 1) := by decide +kernel
theorem dX11_init_9 : decode cX11_init 9 = .ok (.invokespecial 9, 3) := by decide +kernel
theorem dX11_init_12 : decode cX11_init 12 = .ok (.putfield 10, 3) := by decide +kernel
theorem dX11_init_15 : decode cX11_init 15 = .ok (.aload_n 0, 1) := by decide +kernel
theorem dX11_init_16 : decode cX11_init 16 = .ok (.new 16, 3) := by decide +kernel
theorem dX11_init_19 : decode cX11_init 19 = .ok (.dup, 1) := by decide +kernel
theorem dX11_init_20 : decode cX11_init 20 = .ok (.invokespecial 18, 3) := by decide +kernel
theorem dX11_init_23 : decode cX11_init 23 = .ok (.putfield 19, 3) := by decide +kernel
theorem dX11_init_26 : decode cX11_init 26 = .ok (.aload_n 0, 1) := by decide +kernel
theorem dX11_init_27 : decode cX11_init 27 = .ok (.new 23, 3) := by decide +kernel
theorem dX11_init_30 : decode cX11_init 30 = .ok (.dup, 1) := by decide +kernel
theorem dX11_init_31 : decode cX11_init 31 = .ok (.invokespecial 25, 3) := by decide +kernel
theorem dX11_init_34 : decode cX11_init 34 = .ok (.putfield 26, 3) := by decide +kernel
theorem dX11_init_37 : decode cX11_init 37 = .ok (.aload_n 0, 1) := by decide +kernel
theorem dX11_init_38 : decode cX11_init 38 = .ok (.bipush 8, 2) := by decide +kernel
theorem dX11_init_40 : decode cX11_init 40 = .ok (.anewarray 30, 3) := by decide +kernel
theorem dX11_init_43 : decode cX11_init 43 = .ok (.putfield 32, 3) := by decide +kernel
theorem dX11_init_46 : decode cX11_init 46 = .ok (.aload_n 0, 1) := by decide +kernel
theorem dX11_init_47 : decode cX11_init 47 = .ok (.iconst 0, 1) := by decide +kernel
theorem dX11_init_48 : decode cX11_init 48 = .ok (.putfield 36, 3) := by decide +kernel
theorem dX11_init_51 : decode cX11_init 51 = .ok (.aload_n 0, 1) := by decide +kernel
theorem dX11_init_52 : decode cX11_init 52 = .ok (.new 40, 3) := by decide +kernel
theorem dX11_init_55 : decode cX11_init 55 = .ok (.dup, 1) := by decide +kernel
theorem dX11_init_56 : decode cX11_init 56 = .ok (.aload_n 0, 1) := by decide +kernel
theorem dX11_init_57 : decode cX11_init 57 = .ok (.getfield 19, 3) := by decide +kernel
theorem dX11_init_60 : decode cX11_init 60 = .ok (.invokespecial 42, 3) := by decide +kernel
theorem dX11_init_63 : decode cX11_init 63 = .ok (.putfield 45, 3) := by decide +kernel
theorem dX11_init_66 : decode cX11_init 66 = .ok (.aload_n 0, 1) := by decide +kernel
theorem dX11_init_67 : decode cX11_init 67 = .ok (.new 49, 3) := by decide +kernel
theorem dX11_init_70 : decode cX11_init 70 = .ok (.dup, 1) := by decide +kernel
theorem dX11_init_71 : decode cX11_init 71 = .ok (.aload_n 0, 1) := by decide +kernel
theorem dX11_init_72 : decode cX11_init 72 = .ok (.getfield 10, 3) := by decide +kernel
theorem dX11_init_75 : decode cX11_init 75 = .ok (.aload_n 0, 1) := by decide +kernel
theorem dX11_init_76 : decode cX11_init 76 = .ok (.getfield 19, 3) := by decide +kernel
theorem dX11_init_79 : decode cX11_init 79 = .ok (.invokespecial 51, 3) := by decide +kernel
theorem dX11_init_82 : decode cX11_init 82 = .ok (.putfield 54, 3) := by decide +kernel
theorem dX11_init_85 : decode cX11_init 85 = .ok (.aload_n 0, 1) := by decide +kernel
theorem dX11_init_86 : decode cX11_init 86 = .ok (.new 58, 3) := by decide +kernel
theorem dX11_init_89 : decode cX11_init 89 = .ok (.dup, 1) := by decide +kernel
theorem dX11_init_90 : decode cX11_init 90 = .ok (.aload_n 0, 1) := by decide +kernel
theorem dX11_init_91 : decode cX11_init 91 = .ok (.getfield 10, 3) := by decide +kernel
theorem dX11_init_94 : decode cX11_init 94 = .ok (.aload_n 0, 1) := by decide +kernel
theorem dX11_init_95 : decode cX11_init 95 = .ok (.getfield 19, 3) := by decide +kernel
theorem dX11_init_98 : decode cX11_init 98 = .ok (.aload_n 0, 1) := by decide +kernel
theorem dX11_init_99 : decode cX11_init 99 = .ok (.getfield 54, 3) := by decide +kernel
theorem dX11_init_102 : decode cX11_init 102 = .ok (.invokespecial 60, 3) := by decide +kernel
theorem dX11_init_105 : decode cX11_init 105 = .ok (.putfield 63, 3) := by decide +kernel
theorem dX11_init_108 : decode cX11_init 108 = .ok (.aload_n 0, 1) := by decide +kernel
theorem dX11_init_109 : decode cX11_init 109 = .ok (.new 67, 3) := by decide +kernel
theorem dX11_init_112 : decode cX11_init 112 = .ok (.dup, 1) := by decide +kernel
theorem dX11_init_113 : decode cX11_init 113 = .ok (.aload_n 0, 1) := by decide +kernel
theorem dX11_init_114 : decode cX11_init 114 = .ok (.getfield 19, 3) := by decide +kernel
theorem dX11_init_117 : decode cX11_init 117 = .ok (.aload_n 0, 1) := by decide +kernel
theorem dX11_init_118 : decode cX11_init 118 = .ok (.getfield 54, 3) := by decide +kernel
theorem dX11_init_121 : decode cX11_init 121 = .ok (.aload_n 0, 1) := by decide +kernel
theorem dX11_init_122 : decode cX11_init 122 = .ok (.getfield 63, 3) := by decide +kernel
theorem dX11_init_125 : decode cX11_init 125 = .ok (.invokespecial 69, 3) := by decide +kernel
theorem dX11_init_128 : decode cX11_init 128 = .ok (.putfield 72, 3) := by decide +kernel
theorem dX11_init_131 : decode cX11_init 131 = .ok (.aload_n 0, 1) := by decide +kernel
theorem dX11_init_132 : decode cX11_init 132 = .ok (.new 76, 3) := by decide +kernel
theorem dX11_init_135 : decode cX11_init 135 = .ok (.dup, 1) := by decide +kernel
theorem dX11_init_136 : decode cX11_init 136 = .ok (.aload_n 0, 1) := by decide +kernel
theorem dX11_init_137 : decode cX11_init 137 = .ok (.getfield 45, 3) := by decide +kernel
theorem dX11_init_140 : decode cX11_init 140 = .ok (.aload_n 0, 1) := by decide +kernel
theorem dX11_init_141 : decode cX11_init 141 = .ok (.getfield 54, 3) := by decide +kernel
theorem dX11_init_144 : decode cX11_init 144 = .ok (.aload_n 0, 1) := by decide +kernel
theorem dX11_init_145 : decode cX11_init 145 = .ok (.getfield 63, 3) := by decide +kernel
theorem dX11_init_148 : decode cX11_init 148 = .ok (.invokespecial 78, 3) := by decide +kernel
theorem dX11_init_151 : decode cX11_init 151 = .ok (.putfield 81, 3) := by decide +kernel
theorem dX11_init_154 : decode cX11_init 154 = .ok (.aload_n 0, 1) := by decide +kernel
theorem dX11_init_155 : decode cX11_init 155 = .ok (.new 85, 3) := by decide +kernel
theorem dX11_init_158 : decode cX11_init 158 = .ok (.dup, 1) := by decide +kernel
theorem dX11_init_159 : decode cX11_init 159 = .ok (.invokespecial 87, 3) := by decide +kernel
theorem dX11_init_162 : decode cX11_init 162 = .ok (.putfield 88, 3) := by decide +kernel
theorem dX11_init_165 : decode cX11_init 165 = .ok (.aload_n 0, 1) := by decide +kernel
theorem dX11_init_166 : decode cX11_init 166 = .ok (.lconst 0, 1) := by decide +kernel
theorem dX11_init_167 : decode cX11_init 167 = .ok (.putfield 92, 3) := by decide +kernel
theorem dX11_init_170 : decode cX11_init 170 = .ok (.aload_n 0, 1) := by decide +kernel
theorem dX11_init_171 : decode cX11_init 171 = .ok (.iconst 0, 1) := by decide +kernel
theorem dX11_init_172 : decode cX11_init 172 = .ok (.putfield 96, 3) := by decide +kernel
theorem dX11_init_175 : decode cX11_init 175 = .ok (.aload_n 0, 1) := by decide +kernel
theorem dX11_init_176 : decode cX11_init 176 = .ok (.bipush 6, 2) := by decide +kernel
theorem dX11_init_178 : decode cX11_init 178 = .ok (.newarray .int, 2) := by decide +kernel
theorem dX11_init_180 : decode cX11_init 180 = .ok (.putfield 99, 3) := by decide +kernel
theorem dX11_init_183 : decode cX11_init 183 = .ok (.aload_n 0, 1) := by decide +kernel
theorem dX11_init_184 : decode cX11_init 184 = .ok (.iconst 0, 1) := by decide +kernel
theorem dX11_init_185 : decode cX11_init 185 = .ok (.putfield 103, 3) := by decide +kernel
theorem dX11_init_188 : decode cX11_init 188 = .ok (.aload_n 0, 1) := by decide +kernel
theorem dX11_init_189 : decode cX11_init 189 = .ok (.bipush (-9), 2) := by decide +kernel
theorem dX11_init_191 : decode cX11_init 191 = .ok (.putfield 106, 3) := by decide +kernel
theorem dX11_init_194 : decode cX11_init 194 = .ok (.aload_n 0, 1) := by decide +kernel
theorem dX11_init_195 : decode cX11_init 195 = .ok (.iconst 4, 1) := by decide +kernel
theorem dX11_init_196 : decode cX11_init 196 = .ok (.newarray .long, 2) := by decide +kernel
theorem dX11_init_198 : decode cX11_init 198 = .ok (.putfield 109, 3) := by decide +kernel
theorem dX11_init_201 : decode cX11_init 201 = .ok (.return_, 1) := by decide +kernel
theorem dX11_size_0 : decode cX11_size 0 = .ok (.iload_n 1, 1) := by decide +kernel
theorem dX11_size_1 : decode cX11_size 1 = .ok (.iconst 0, 1) := by decide +kernel
theorem dX11_size_2 : decode cX11_size 2 = .ok (.iconst 2, 1) := by decide +kernel
theorem dX11_size_3 : decode cX11_size 3 = .ok (.invokestatic 113, 3) := by decide +kernel
theorem dX11_size_6 : decode cX11_size 6 = .ok (.ifCond .eq 16, 3) := by decide +kernel
theorem dX11_size_9 : decode cX11_size 9 = .ok (.iload_n 2, 1) := by decide +kernel
theorem dX11_size_10 : decode cX11_size 10 = .ok (.sipush (-400), 3) := by decide +kernel
theorem dX11_size_13 : decode cX11_size 13 = .ok (.sipush 400, 3) := by decide +kernel
theorem dX11_size_16 : decode cX11_size 16 = .ok (.invokestatic 113, 3) := by decide +kernel
theorem dX11_size_19 : decode cX11_size 19 = .ok (.ifCond .ne 7, 3) := by decide +kernel
theorem dX11_size_22 : decode cX11_size 22 = .ok (.sipush (-1000), 3) := by decide +kernel
theorem dX11_size_25 : decode cX11_size 25 = .ok (.ireturn, 1) := by decide +kernel
theorem dX11_size_26 : decode cX11_size 26 = .ok (.aload_n 0, 1) := by decide +kernel
theorem dX11_size_27 : decode cX11_size 27 = .ok (.getfield 10, 3) := by decide +kernel
theorem dX11_size_30 : decode cX11_size 30 = .ok (.getfield 117, 3) := by decide +kernel
theorem dX11_size_33 : decode cX11_size 33 = .ok (.iload_n 1, 1) := by decide +kernel
theorem dX11_size_34 : decode cX11_size 34 = .ok (.iaload, 1) := by decide +kernel
theorem dX11_size_35 : decode cX11_size 35 = .ok (.istore_n 3, 1) := by decide +kernel
theorem dX11_size_36 : decode cX11_size 36 = .ok (.aload_n 0, 1) := by decide +kernel
theorem dX11_size_37 : decode cX11_size 37 = .ok (.getfield 10, 3) := by decide +kernel
theorem dX11_size_40 : decode cX11_size 40 = .ok (.getfield 117, 3) := by decide +kernel
theorem dX11_size_43 : decode cX11_size 43 = .ok (.iload_n 1, 1) := by decide +kernel
theorem dX11_size_44 : decode cX11_size 44 = .ok (.iload_n 2, 1) := by decide +kernel
theorem dX11_size_45 : decode cX11_size 45 = .ok (.iastore, 1) := by decide +kernel
theorem dX11_size_46 : decode cX11_size 46 = .ok (.iload_n 3, 1) := by decide +kernel
theorem dX11_size_47 : decode cX11_size 47 = .ok (.iload_n 2, 1) := by decide +kernel
theorem dX11_size_48 : decode cX11_size 48 = .ok (.if_icmp .eq 7, 3) := by decide +kernel
theorem dX11_size_51 : decode cX11_size 51 = .ok (.aload_n 0, 1) := by decide +kernel
theorem dX11_size_52 : decode cX11_size 52 = .ok (.invokevirtual 120, 3) := by decide +kernel
theorem dX11_size_55 : decode cX11_size 55 = .ok (.iload_n 3, 1) := by decide +kernel
theorem dX11_size_56 : decode cX11_size 56 = .ok (.ireturn, 1) := by decide +kernel
theorem dX11_term_0 : decode cX11_term 0 = .ok (.iload_n 1, 1) := by decide +kernel
theorem dX11_term_1 : decode cX11_term 1 = .ok (.iconst 0, 1) := by decide +kernel
theorem dX11_term_2 : decode cX11_term 2 = .ok (.bipush 7, 2) := by decide +kernel
theorem dX11_term_4 : decode cX11_term 4 = .ok (.invokestatic 113, 3) := by decide +kernel
theorem dX11_term_7 : decode cX11_term 7 = .ok (.ifCond .eq 16, 3) := by decide +kernel
theorem dX11_term_10 : decode cX11_term 10 = .ok (.iload_n 2, 1) := by decide +kernel
theorem dX11_term_11 : decode cX11_term 11 = .ok (.sipush (-1000), 3) := by decide +kernel
theorem dX11_term_14 : decode cX11_term 14 = .ok (.sipush 1000, 3) := by decide +kernel
theorem dX11_term_17 : decode cX11_term 17 = .ok (.invokestatic 113, 3) := by decide +kernel
theorem dX11_term_20 : decode cX11_term 20 = .ok (.ifCond .ne 5, 3) := by decide +kernel
theorem dX11_term_23 : decode cX11_term 23 = .ok (.iconst (-1), 1) := by decide +kernel
theorem dX11_term_24 : decode cX11_term 24 = .ok (.ireturn, 1) := by decide +kernel
theorem dX11_term_25 : decode cX11_term 25 = .ok (.aload_n 0, 1) := by decide +kernel
theorem dX11_term_26 : decode cX11_term 26 = .ok (.getfield 10, 3) := by decide +kernel
theorem dX11_term_29 : decode cX11_term 29 = .ok (.getfield 123, 3) := by decide +kernel
theorem dX11_term_32 : decode cX11_term 32 = .ok (.iload_n 1, 1) := by decide +kernel
theorem dX11_term_33 : decode cX11_term 33 = .ok (.iload_n 2, 1) := by decide +kernel
theorem dX11_term_34 : decode cX11_term 34 = .ok (.iastore, 1) := by decide +kernel
theorem dX11_term_35 : decode cX11_term 35 = .ok (.iconst 1, 1) := by decide +kernel
theorem dX11_term_36 : decode cX11_term 36 = .ok (.ireturn, 1) := by decide +kernel
theorem dX11_sum_0 : decode cX11_sum 0 = .ok (.aload_n 0, 1) := by decide +kernel
theorem dX11_sum_1 : decode cX11_sum 1 = .ok (.getfield 10, 3) := by decide +kernel
theorem dX11_sum_4 : decode cX11_sum 4 = .ok (.getfield 126, 3) := by decide +kernel
theorem dX11_sum_7 : decode cX11_sum 7 = .ok (.bipush 80, 2) := by decide +kernel
theorem dX11_sum_9 : decode cX11_sum 9 = .ok (.if_icmp .lt 8, 3) := by decide +kernel
theorem dX11_sum_12 : decode cX11_sum 12 = .ok (.bipush (-2), 2) := by decide +kernel
theorem dX11_sum_14 : decode cX11_sum 14 = .ok (.goto 10, 3) := by decide +kernel
theorem dX11_sum_17 : decode cX11_sum 17 = .ok (.aload_n 0, 1) := by decide +kernel
theorem dX11_sum_18 : decode cX11_sum 18 = .ok (.getfield 10, 3) := by decide +kernel
theorem dX11_sum_21 : decode cX11_sum 21 = .ok (.invokevirtual 129, 3) := by decide +kernel
theorem dX11_sum_24 : decode cX11_sum 24 = .ok (.ireturn, 1) := by decide +kernel
theorem dX11_loop_0 : decode cX11_loop 0 = .ok (.aload_n 0, 1) := by decide +kernel
theorem dX11_loop_1 : decode cX11_loop 1 = .ok (.getfield 19, 3) := by decide +kernel
theorem dX11_loop_4 : decode cX11_loop 4 = .ok (.iload_n 1, 1) := by decide +kernel
theorem dX11_loop_5 : decode cX11_loop 5 = .ok (.invokevirtual 133, 3) := by decide +kernel
theorem dX11_loop_8 : decode cX11_loop 8 = .ok (.ifCond .ne 5, 3) := by decide +kernel
theorem dX11_loop_11 : decode cX11_loop 11 = .ok (.iconst (-1), 1) := by decide +kernel
theorem dX11_loop_12 : decode cX11_loop 12 = .ok (.ireturn, 1) := by decide +kernel
theorem dX11_loop_13 : decode cX11_loop 13 = .ok (.aload_n 0, 1) := by decide +kernel
theorem dX11_loop_14 : decode cX11_loop 14 = .ok (.getfield 19, 3) := by decide +kernel
theorem dX11_loop_17 : decode cX11_loop 17 = .ok (.iload_n 1, 1) := by decide +kernel
theorem dX11_loop_18 : decode cX11_loop 18 = .ok (.invokevirtual 137, 3) := by decide +kernel
theorem dX11_loop_21 : decode cX11_loop 21 = .ok (.istore 5, 2) := by decide +kernel
theorem dX11_loop_23 : decode cX11_loop 23 = .ok (.iload 5, 2) := by decide +kernel
theorem dX11_loop_25 : decode cX11_loop 25 = .ok (.iconst 4, 1) := by decide +kernel
theorem dX11_loop_26 : decode cX11_loop 26 = .ok (.if_icmp .ge 29, 3) := by decide +kernel
theorem dX11_loop_29 : decode cX11_loop 29 = .ok (.aload_n 0, 1) := by decide +kernel
theorem dX11_loop_30 : decode cX11_loop 30 = .ok (.getfield 10, 3) := by decide +kernel
theorem dX11_loop_33 : decode cX11_loop 33 = .ok (.iload_n 2, 1) := by decide +kernel
theorem dX11_loop_34 : decode cX11_loop 34 = .ok (.iload 5, 2) := by decide +kernel
theorem dX11_loop_36 : decode cX11_loop 36 = .ok (.invokevirtual 141, 3) := by decide +kernel
theorem dX11_loop_39 : decode cX11_loop 39 = .ok (.ifCond .eq 16, 3) := by decide +kernel
theorem dX11_loop_42 : decode cX11_loop 42 = .ok (.aload_n 0, 1) := by decide +kernel
theorem dX11_loop_43 : decode cX11_loop 43 = .ok (.getfield 10, 3) := by decide +kernel
theorem dX11_loop_46 : decode cX11_loop 46 = .ok (.iload_n 3, 1) := by decide +kernel
theorem dX11_loop_47 : decode cX11_loop 47 = .ok (.iload 5, 2) := by decide +kernel
theorem dX11_loop_49 : decode cX11_loop 49 = .ok (.invokevirtual 141, 3) := by decide +kernel
theorem dX11_loop_52 : decode cX11_loop 52 = .ok (.ifCond .ne 5, 3) := by decide +kernel
theorem dX11_loop_55 : decode cX11_loop 55 = .ok (.iconst (-1), 1) := by decide +kernel
theorem dX11_loop_56 : decode cX11_loop 56 = .ok (.ireturn, 1) := by decide +kernel
theorem dX11_loop_57 : decode cX11_loop 57 = .ok (.aload_n 0, 1) := by decide +kernel
theorem dX11_loop_58 : decode cX11_loop 58 = .ok (.iload_n 1, 1) := by decide +kernel
theorem dX11_loop_59 : decode cX11_loop 59 = .ok (.iload 4, 2) := by decide +kernel
theorem dX11_loop_61 : decode cX11_loop 61 = .ok (.ifCond .eq 7, 3) := by decide +kernel
theorem dX11_loop_64 : decode cX11_loop 64 = .ok (.iconst 1, 1) := by decide +kernel
theorem dX11_loop_65 : decode cX11_loop 65 = .ok (.goto 4, 3) := by decide +kernel
theorem dX11_loop_68 : decode cX11_loop 68 = .ok (.iconst 0, 1) := by decide +kernel
theorem dX11_loop_69 : decode cX11_loop 69 = .ok (.iload_n 2, 1) := by decide +kernel
theorem dX11_loop_70 : decode cX11_loop 70 = .ok (.iload_n 3, 1) := by decide +kernel
theorem dX11_loop_71 : decode cX11_loop 71 = .ok (.invokevirtual 145, 3) := by decide +kernel
theorem dX11_loop_74 : decode cX11_loop 74 = .ok (.ireturn, 1) := by decide +kernel
theorem dX11_test_0 : decode cX11_test 0 = .ok (.aload_n 0, 1) := by decide +kernel
theorem dX11_test_1 : decode cX11_test 1 = .ok (.getfield 19, 3) := by decide +kernel
theorem dX11_test_4 : decode cX11_test 4 = .ok (.iload_n 1, 1) := by decide +kernel
theorem dX11_test_5 : decode cX11_test 5 = .ok (.invokevirtual 133, 3) := by decide +kernel
theorem dX11_test_8 : decode cX11_test 8 = .ok (.ifCond .eq 14, 3) := by decide +kernel
theorem dX11_test_11 : decode cX11_test 11 = .ok (.iload_n 3, 1) := by decide +kernel
theorem dX11_test_12 : decode cX11_test 12 = .ok (.iconst 0, 1) := by decide +kernel
theorem dX11_test_13 : decode cX11_test 13 = .ok (.sipush 1000, 3) := by decide +kernel
theorem dX11_test_16 : decode cX11_test 16 = .ok (.invokestatic 113, 3) := by decide +kernel
theorem dX11_test_19 : decode cX11_test 19 = .ok (.ifCond .ne 5, 3) := by decide +kernel
theorem dX11_test_22 : decode cX11_test 22 = .ok (.iconst (-1), 1) := by decide +kernel
theorem dX11_test_23 : decode cX11_test 23 = .ok (.ireturn, 1) := by decide +kernel
theorem dX11_test_24 : decode cX11_test 24 = .ok (.aload_n 0, 1) := by decide +kernel
theorem dX11_test_25 : decode cX11_test 25 = .ok (.getfield 10, 3) := by decide +kernel
theorem dX11_test_28 : decode cX11_test 28 = .ok (.iload_n 2, 1) := by decide +kernel
theorem dX11_test_29 : decode cX11_test 29 = .ok (.aload_n 0, 1) := by decide +kernel
theorem dX11_test_30 : decode cX11_test 30 = .ok (.getfield 19, 3) := by decide +kernel
theorem dX11_test_33 : decode cX11_test 33 = .ok (.iload_n 1, 1) := by decide +kernel
theorem dX11_test_34 : decode cX11_test 34 = .ok (.invokevirtual 137, 3) := by decide +kernel
theorem dX11_test_37 : decode cX11_test 37 = .ok (.invokevirtual 141, 3) := by decide +kernel
theorem dX11_test_40 : decode cX11_test 40 = .ok (.ifCond .ne 5, 3) := by decide +kernel
theorem dX11_test_43 : decode cX11_test 43 = .ok (.iconst (-1), 1) := by decide +kernel
theorem dX11_test_44 : decode cX11_test 44 = .ok (.ireturn, 1) := by decide +kernel
theorem dX11_test_45 : decode cX11_test 45 = .ok (.aload_n 0, 1) := by decide +kernel
theorem dX11_test_46 : decode cX11_test 46 = .ok (.iload_n 1, 1) := by decide +kernel
theorem dX11_test_47 : decode cX11_test 47 = .ok (.iconst 2, 1) := by decide +kernel
theorem dX11_test_48 : decode cX11_test 48 = .ok (.iload_n 2, 1) := by decide +kernel
theorem dX11_test_49 : decode cX11_test 49 = .ok (.iload_n 3, 1) := by decide +kernel
theorem dX11_test_50 : decode cX11_test 50 = .ok (.invokevirtual 145, 3) := by decide +kernel
theorem dX11_test_53 : decode cX11_test 53 = .ok (.ireturn, 1) := by decide +kernel
theorem dX11_act_0 : decode cX11_act 0 = .ok (.aload_n 0, 1) := by decide +kernel
theorem dX11_act_1 : decode cX11_act 1 = .ok (.getfield 19, 3) := by decide +kernel
theorem dX11_act_4 : decode cX11_act 4 = .ok (.iload_n 1, 1) := by decide +kernel
theorem dX11_act_5 : decode cX11_act 5 = .ok (.invokevirtual 133, 3) := by decide +kernel
theorem dX11_act_8 : decode cX11_act 8 = .ok (.ifCond .eq 12, 3) := by decide +kernel
theorem dX11_act_11 : decode cX11_act 11 = .ok (.iload_n 2, 1) := by decide +kernel
theorem dX11_act_12 : decode cX11_act 12 = .ok (.iconst 0, 1) := by decide +kernel
theorem dX11_act_13 : decode cX11_act 13 = .ok (.iconst 5, 1) := by decide +kernel
theorem dX11_act_14 : decode cX11_act 14 = .ok (.invokestatic 113, 3) := by decide +kernel
theorem dX11_act_17 : decode cX11_act 17 = .ok (.ifCond .ne 5, 3) := by decide +kernel
theorem dX11_act_20 : decode cX11_act 20 = .ok (.iconst (-1), 1) := by decide +kernel
theorem dX11_act_21 : decode cX11_act 21 = .ok (.ireturn, 1) := by decide +kernel
theorem dX11_act_22 : decode cX11_act 22 = .ok (.aload_n 0, 1) := by decide +kernel
theorem dX11_act_23 : decode cX11_act 23 = .ok (.getfield 19, 3) := by decide +kernel
theorem dX11_act_26 : decode cX11_act 26 = .ok (.getfield 149, 3) := by decide +kernel
theorem dX11_act_29 : decode cX11_act 29 = .ok (.bipush 12, 2) := by decide +kernel
theorem dX11_act_31 : decode cX11_act 31 = .ok (.if_icmp .lt 6, 3) := by decide +kernel
theorem dX11_act_34 : decode cX11_act 34 = .ok (.bipush (-2), 2) := by decide +kernel
theorem dX11_act_36 : decode cX11_act 36 = .ok (.ireturn, 1) := by decide +kernel
theorem dX11_act_37 : decode cX11_act 37 = .ok (.aload_n 0, 1) := by decide +kernel
theorem dX11_act_38 : decode cX11_act 38 = .ok (.iload_n 1, 1) := by decide +kernel
theorem dX11_act_39 : decode cX11_act 39 = .ok (.iconst 3, 1) := by decide +kernel
theorem dX11_act_40 : decode cX11_act 40 = .ok (.iload_n 2, 1) := by decide +kernel
theorem dX11_act_41 : decode cX11_act 41 = .ok (.iload_n 3, 1) := by decide +kernel
theorem dX11_act_42 : decode cX11_act 42 = .ok (.invokevirtual 145, 3) := by decide +kernel
theorem dX11_act_45 : decode cX11_act 45 = .ok (.ireturn, 1) := by decide +kernel
theorem dX11_aim_0 : decode cX11_aim 0 = .ok (.aload_n 0, 1) := by decide +kernel
theorem dX11_aim_1 : decode cX11_aim 1 = .ok (.getfield 19, 3) := by decide +kernel
theorem dX11_aim_4 : decode cX11_aim 4 = .ok (.iload_n 1, 1) := by decide +kernel
theorem dX11_aim_5 : decode cX11_aim 5 = .ok (.invokevirtual 152, 3) := by decide +kernel
theorem dX11_aim_8 : decode cX11_aim 8 = .ok (.ifCond .eq 20, 3) := by decide +kernel
theorem dX11_aim_11 : decode cX11_aim 11 = .ok (.iload_n 2, 1) := by decide +kernel
theorem dX11_aim_12 : decode cX11_aim 12 = .ok (.iconst 0, 1) := by decide +kernel
theorem dX11_aim_13 : decode cX11_aim 13 = .ok (.iconst 2, 1) := by decide +kernel
theorem dX11_aim_14 : decode cX11_aim 14 = .ok (.invokestatic 113, 3) := by decide +kernel
theorem dX11_aim_17 : decode cX11_aim 17 = .ok (.ifCond .eq 11, 3) := by decide +kernel
theorem dX11_aim_20 : decode cX11_aim 20 = .ok (.aload_n 0, 1) := by decide +kernel
theorem dX11_aim_21 : decode cX11_aim 21 = .ok (.iload_n 3, 1) := by decide +kernel
theorem dX11_aim_22 : decode cX11_aim 22 = .ok (.invokevirtual 155, 3) := by decide +kernel
theorem dX11_aim_25 : decode cX11_aim 25 = .ok (.ifnonnull 5, 3) := by decide +kernel
theorem dX11_aim_28 : decode cX11_aim 28 = .ok (.iconst (-1), 1) := by decide +kernel
theorem dX11_aim_29 : decode cX11_aim 29 = .ok (.ireturn, 1) := by decide +kernel
theorem dX11_aim_30 : decode cX11_aim 30 = .ok (.aload_n 0, 1) := by decide +kernel
theorem dX11_aim_31 : decode cX11_aim 31 = .ok (.getfield 10, 3) := by decide +kernel
theorem dX11_aim_34 : decode cX11_aim 34 = .ok (.iload 4, 2) := by decide +kernel
theorem dX11_aim_36 : decode cX11_aim 36 = .ok (.invokevirtual 159, 3) := by decide +kernel
theorem dX11_aim_39 : decode cX11_aim 39 = .ok (.ifCond .eq 15, 3) := by decide +kernel
theorem dX11_aim_42 : decode cX11_aim 42 = .ok (.aload_n 0, 1) := by decide +kernel
theorem dX11_aim_43 : decode cX11_aim 43 = .ok (.getfield 10, 3) := by decide +kernel
theorem dX11_aim_46 : decode cX11_aim 46 = .ok (.iload 5, 2) := by decide +kernel
theorem dX11_aim_48 : decode cX11_aim 48 = .ok (.invokevirtual 159, 3) := by decide +kernel
theorem dX11_aim_51 : decode cX11_aim 51 = .ok (.ifCond .ne 5, 3) := by decide +kernel
theorem dX11_aim_54 : decode cX11_aim 54 = .ok (.iconst (-1), 1) := by decide +kernel
theorem dX11_aim_55 : decode cX11_aim 55 = .ok (.ireturn, 1) := by decide +kernel
theorem dX11_aim_56 : decode cX11_aim 56 = .ok (.aload_n 0, 1) := by decide +kernel
theorem dX11_aim_57 : decode cX11_aim 57 = .ok (.getfield 19, 3) := by decide +kernel
theorem dX11_aim_60 : decode cX11_aim 60 = .ok (.iload_n 1, 1) := by decide +kernel
theorem dX11_aim_61 : decode cX11_aim 61 = .ok (.invokevirtual 160, 3) := by decide +kernel
theorem dX11_aim_64 : decode cX11_aim 64 = .ok (.ifCond .ne 9, 3) := by decide +kernel
theorem dX11_aim_67 : decode cX11_aim 67 = .ok (.aload_n 0, 1) := by decide +kernel
theorem dX11_aim_68 : decode cX11_aim 68 = .ok (.iconst 3, 1) := by decide +kernel
theorem dX11_aim_69 : decode cX11_aim 69 = .ok (.invokevirtual 163, 3) := by decide +kernel
theorem dX11_aim_72 : decode cX11_aim 72 = .ok (.ireturn, 1) := by decide +kernel
theorem dX11_aim_73 : decode cX11_aim 73 = .ok (.aload_n 0, 1) := by decide +kernel
theorem dX11_aim_74 : decode cX11_aim 74 = .ok (.getfield 19, 3) := by decide +kernel
theorem dX11_aim_77 : decode cX11_aim 77 = .ok (.getfield 166, 3) := by decide +kernel
theorem dX11_aim_80 : decode cX11_aim 80 = .ok (.iload_n 1, 1) := by decide +kernel
theorem dX11_aim_81 : decode cX11_aim 81 = .ok (.iaload, 1) := by decide +kernel
theorem dX11_aim_82 : decode cX11_aim 82 = .ok (.istore 6, 2) := by decide +kernel
theorem dX11_aim_84 : decode cX11_aim 84 = .ok (.aload_n 0, 1) := by decide +kernel
theorem dX11_aim_85 : decode cX11_aim 85 = .ok (.getfield 10, 3) := by decide +kernel
theorem dX11_aim_88 : decode cX11_aim 88 = .ok (.iload 4, 2) := by decide +kernel
theorem dX11_aim_90 : decode cX11_aim 90 = .ok (.iload 6, 2) := by decide +kernel
theorem dX11_aim_92 : decode cX11_aim 92 = .ok (.invokevirtual 141, 3) := by decide +kernel
theorem dX11_aim_95 : decode cX11_aim 95 = .ok (.ifCond .eq 17, 3) := by decide +kernel
theorem dX11_aim_98 : decode cX11_aim 98 = .ok (.aload_n 0, 1) := by decide +kernel
theorem dX11_aim_99 : decode cX11_aim 99 = .ok (.getfield 10, 3) := by decide +kernel
theorem dX11_aim_102 : decode cX11_aim 102 = .ok (.iload 5, 2) := by decide +kernel
theorem dX11_aim_104 : decode cX11_aim 104 = .ok (.iload 6, 2) := by decide +kernel
theorem dX11_aim_106 : decode cX11_aim 106 = .ok (.invokevirtual 141, 3) := by decide +kernel
theorem dX11_aim_109 : decode cX11_aim 109 = .ok (.ifCond .ne 5, 3) := by decide +kernel
theorem dX11_aim_112 : decode cX11_aim 112 = .ok (.iconst (-1), 1) := by decide +kernel
theorem dX11_aim_113 : decode cX11_aim 113 = .ok (.ireturn, 1) := by decide +kernel
theorem dX11_aim_114 : decode cX11_aim 114 = .ok (.aload_n 0, 1) := by decide +kernel
theorem dX11_aim_115 : decode cX11_aim 115 = .ok (.getfield 19, 3) := by decide +kernel
theorem dX11_aim_118 : decode cX11_aim 118 = .ok (.aload_n 0, 1) := by decide +kernel
theorem dX11_aim_119 : decode cX11_aim 119 = .ok (.getfield 19, 3) := by decide +kernel
theorem dX11_aim_122 : decode cX11_aim 122 = .ok (.getfield 169, 3) := by decide +kernel
theorem dX11_aim_125 : decode cX11_aim 125 = .ok (.iload_n 1, 1) := by decide +kernel
theorem dX11_aim_126 : decode cX11_aim 126 = .ok (.iaload, 1) := by decide +kernel
theorem dX11_aim_127 : decode cX11_aim 127 = .ok (.iconst 3, 1) := by decide +kernel
theorem dX11_aim_128 : decode cX11_aim 128 = .ok (.imul, 1) := by decide +kernel
theorem dX11_aim_129 : decode cX11_aim 129 = .ok (.iload_n 2, 1) := by decide +kernel
theorem dX11_aim_130 : decode cX11_aim 130 = .ok (.iadd, 1) := by decide +kernel
theorem dX11_aim_131 : decode cX11_aim 131 = .ok (.iload_n 3, 1) := by decide +kernel
theorem dX11_aim_132 : decode cX11_aim 132 = .ok (.iload 4, 2) := by decide +kernel
theorem dX11_aim_134 : decode cX11_aim 134 = .ok (.iload 5, 2) := by decide +kernel
theorem dX11_aim_136 : decode cX11_aim 136 = .ok (.invokevirtual 172, 3) := by decide +kernel
theorem dX11_aim_139 : decode cX11_aim 139 = .ok (.aload_n 0, 1) := by decide +kernel
theorem dX11_aim_140 : decode cX11_aim 140 = .ok (.invokevirtual 176, 3) := by decide +kernel
theorem dX11_aim_143 : decode cX11_aim 143 = .ok (.iconst 1, 1) := by decide +kernel
theorem dX11_aim_144 : decode cX11_aim 144 = .ok (.ireturn, 1) := by decide +kernel
theorem dX11_node_0 : decode cX11_node 0 = .ok (.aload_n 0, 1) := by decide +kernel
theorem dX11_node_1 : decode cX11_node 1 = .ok (.getfield 19, 3) := by decide +kernel
theorem dX11_node_4 : decode cX11_node 4 = .ok (.iload_n 1, 1) := by decide +kernel
theorem dX11_node_5 : decode cX11_node 5 = .ok (.invokevirtual 152, 3) := by decide +kernel
theorem dX11_node_8 : decode cX11_node 8 = .ok (.ifCond .eq 12, 3) := by decide +kernel
theorem dX11_node_11 : decode cX11_node 11 = .ok (.iload_n 2, 1) := by decide +kernel
theorem dX11_node_12 : decode cX11_node 12 = .ok (.iconst 0, 1) := by decide +kernel
theorem dX11_node_13 : decode cX11_node 13 = .ok (.iconst 4, 1) := by decide +kernel
theorem dX11_node_14 : decode cX11_node 14 = .ok (.invokestatic 113, 3) := by decide +kernel
theorem dX11_node_17 : decode cX11_node 17 = .ok (.ifCond .ne 5, 3) := by decide +kernel
theorem dX11_node_20 : decode cX11_node 20 = .ok (.iconst (-1), 1) := by decide +kernel
theorem dX11_node_21 : decode cX11_node 21 = .ok (.ireturn, 1) := by decide +kernel
theorem dX11_node_22 : decode cX11_node 22 = .ok (.aload_n 0, 1) := by decide +kernel
theorem dX11_node_23 : decode cX11_node 23 = .ok (.getfield 19, 3) := by decide +kernel
theorem dX11_node_26 : decode cX11_node 26 = .ok (.iload_n 1, 1) := by decide +kernel
theorem dX11_node_27 : decode cX11_node 27 = .ok (.iload_n 2, 1) := by decide +kernel
theorem dX11_node_28 : decode cX11_node 28 = .ok (.invokevirtual 179, 3) := by decide +kernel
theorem dX11_node_31 : decode cX11_node 31 = .ok (.ireturn, 1) := by decide +kernel
theorem dX11_hold_0 : decode cX11_hold 0 = .ok (.aload_n 0, 1) := by decide +kernel
theorem dX11_hold_1 : decode cX11_hold 1 = .ok (.getfield 19, 3) := by decide +kernel
theorem dX11_hold_4 : decode cX11_hold 4 = .ok (.iload_n 1, 1) := by decide +kernel
theorem dX11_hold_5 : decode cX11_hold 5 = .ok (.invokevirtual 152, 3) := by decide +kernel
theorem dX11_hold_8 : decode cX11_hold 8 = .ok (.ifCond .eq 8, 3) := by decide +kernel
theorem dX11_hold_11 : decode cX11_hold 11 = .ok (.iload_n 1, 1) := by decide +kernel
theorem dX11_hold_12 : decode cX11_hold 12 = .ok (.iload_n 2, 1) := by decide +kernel
theorem dX11_hold_13 : decode cX11_hold 13 = .ok (.if_icmp .ne 5, 3) := by decide +kernel
theorem dX11_hold_16 : decode cX11_hold 16 = .ok (.iconst (-1), 1) := by decide +kernel
theorem dX11_hold_17 : decode cX11_hold 17 = .ok (.ireturn, 1) := by decide +kernel
theorem dX11_hold_18 : decode cX11_hold 18 = .ok (.iload_n 2, 1) := by decide +kernel
theorem dX11_hold_19 : decode cX11_hold 19 = .ok (.bipush (-9), 2) := by decide +kernel
theorem dX11_hold_21 : decode cX11_hold 21 = .ok (.if_icmp .ne 13, 3) := by decide +kernel
theorem dX11_hold_24 : decode cX11_hold 24 = .ok (.aload_n 0, 1) := by decide +kernel
theorem dX11_hold_25 : decode cX11_hold 25 = .ok (.getfield 26, 3) := by decide +kernel
theorem dX11_hold_28 : decode cX11_hold 28 = .ok (.iload_n 1, 1) := by decide +kernel
theorem dX11_hold_29 : decode cX11_hold 29 = .ok (.invokevirtual 183, 3) := by decide +kernel
theorem dX11_hold_32 : decode cX11_hold 32 = .ok (.iconst 1, 1) := by decide +kernel
theorem dX11_hold_33 : decode cX11_hold 33 = .ok (.ireturn, 1) := by decide +kernel
theorem dX11_hold_34 : decode cX11_hold 34 = .ok (.aload_n 0, 1) := by decide +kernel
theorem dX11_hold_35 : decode cX11_hold 35 = .ok (.getfield 19, 3) := by decide +kernel
theorem dX11_hold_38 : decode cX11_hold 38 = .ok (.iload_n 2, 1) := by decide +kernel
theorem dX11_hold_39 : decode cX11_hold 39 = .ok (.invokevirtual 152, 3) := by decide +kernel
theorem dX11_hold_42 : decode cX11_hold 42 = .ok (.ifCond .ne 5, 3) := by decide +kernel
theorem dX11_hold_45 : decode cX11_hold 45 = .ok (.iconst (-1), 1) := by decide +kernel
theorem dX11_hold_46 : decode cX11_hold 46 = .ok (.ireturn, 1) := by decide +kernel
theorem dX11_hold_47 : decode cX11_hold 47 = .ok (.aload_n 0, 1) := by decide +kernel
theorem dX11_hold_48 : decode cX11_hold 48 = .ok (.getfield 26, 3) := by decide +kernel
theorem dX11_hold_51 : decode cX11_hold 51 = .ok (.iload_n 1, 1) := by decide +kernel
theorem dX11_hold_52 : decode cX11_hold 52 = .ok (.iload_n 2, 1) := by decide +kernel
theorem dX11_hold_53 : decode cX11_hold 53 = .ok (.invokevirtual 187, 3) := by decide +kernel
theorem dX11_hold_56 : decode cX11_hold 56 = .ok (.iconst 1, 1) := by decide +kernel
theorem dX11_hold_57 : decode cX11_hold 57 = .ok (.ireturn, 1) := by decide +kernel
theorem dX11_note_0 : decode cX11_note 0 = .ok (.aload_n 0, 1) := by decide +kernel
theorem dX11_note_1 : decode cX11_note 1 = .ok (.getfield 19, 3) := by decide +kernel
theorem dX11_note_4 : decode cX11_note 4 = .ok (.iload_n 1, 1) := by decide +kernel
theorem dX11_note_5 : decode cX11_note 5 = .ok (.invokevirtual 152, 3) := by decide +kernel
theorem dX11_note_8 : decode cX11_note 8 = .ok (.ifCond .eq 9, 3) := by decide +kernel
theorem dX11_note_11 : decode cX11_note 11 = .ok (.iload_n 2, 1) := by decide +kernel
theorem dX11_note_12 : decode cX11_note 12 = .ok (.bipush 12, 2) := by decide +kernel
theorem dX11_note_14 : decode cX11_note 14 = .ok (.if_icmp .le 5, 3) := by decide +kernel
theorem dX11_note_17 : decode cX11_note 17 = .ok (.iconst (-1), 1) := by decide +kernel
theorem dX11_note_18 : decode cX11_note 18 = .ok (.ireturn, 1) := by decide +kernel
theorem dX11_note_19 : decode cX11_note 19 = .ok (.iload_n 2, 1) := by decide +kernel
theorem dX11_note_20 : decode cX11_note 20 = .ok (.ifCond .ge 9, 3) := by decide +kernel
theorem dX11_note_23 : decode cX11_note 23 = .ok (.aload_n 0, 1) := by decide +kernel
theorem dX11_note_24 : decode cX11_note 24 = .ok (.iconst 5, 1) := by decide +kernel
theorem dX11_note_25 : decode cX11_note 25 = .ok (.invokevirtual 163, 3) := by decide +kernel
theorem dX11_note_28 : decode cX11_note 28 = .ok (.ireturn, 1) := by decide +kernel
theorem dX11_note_29 : decode cX11_note 29 = .ok (.aload_n 0, 1) := by decide +kernel
theorem dX11_note_30 : decode cX11_note 30 = .ok (.getfield 26, 3) := by decide +kernel
theorem dX11_note_33 : decode cX11_note 33 = .ok (.iload_n 1, 1) := by decide +kernel
theorem dX11_note_34 : decode cX11_note 34 = .ok (.iload_n 2, 1) := by decide +kernel
theorem dX11_note_35 : decode cX11_note 35 = .ok (.invokevirtual 191, 3) := by decide +kernel
theorem dX11_note_38 : decode cX11_note 38 = .ok (.iload_n 2, 1) := by decide +kernel
theorem dX11_note_39 : decode cX11_note 39 = .ok (.ireturn, 1) := by decide +kernel
theorem dX11_held_0 : decode cX11_held 0 = .ok (.aload_n 0, 1) := by decide +kernel
theorem dX11_held_1 : decode cX11_held 1 = .ok (.getfield 19, 3) := by decide +kernel
theorem dX11_held_4 : decode cX11_held 4 = .ok (.iload_n 1, 1) := by decide +kernel
theorem dX11_held_5 : decode cX11_held 5 = .ok (.invokevirtual 152, 3) := by decide +kernel
theorem dX11_held_8 : decode cX11_held 8 = .ok (.ifCond .eq 12, 3) := by decide +kernel
theorem dX11_held_11 : decode cX11_held 11 = .ok (.iload_n 2, 1) := by decide +kernel
theorem dX11_held_12 : decode cX11_held 12 = .ok (.iconst 0, 1) := by decide +kernel
theorem dX11_held_13 : decode cX11_held 13 = .ok (.iconst 3, 1) := by decide +kernel
theorem dX11_held_14 : decode cX11_held 14 = .ok (.invokestatic 113, 3) := by decide +kernel
theorem dX11_held_17 : decode cX11_held 17 = .ok (.ifCond .ne 5, 3) := by decide +kernel
theorem dX11_held_20 : decode cX11_held 20 = .ok (.iconst (-1), 1) := by decide +kernel
theorem dX11_held_21 : decode cX11_held 21 = .ok (.ireturn, 1) := by decide +kernel
theorem dX11_held_22 : decode cX11_held 22 = .ok (.aload_n 0, 1) := by decide +kernel
theorem dX11_held_23 : decode cX11_held 23 = .ok (.getfield 26, 3) := by decide +kernel
theorem dX11_held_26 : decode cX11_held 26 = .ok (.iload_n 1, 1) := by decide +kernel
theorem dX11_held_27 : decode cX11_held 27 = .ok (.invokevirtual 194, 3) := by decide +kernel
theorem dX11_held_30 : decode cX11_held 30 = .ok (.ifCond .eq 9, 3) := by decide +kernel
theorem dX11_held_33 : decode cX11_held 33 = .ok (.aload_n 0, 1) := by decide +kernel
theorem dX11_held_34 : decode cX11_held 34 = .ok (.iconst 3, 1) := by decide +kernel
theorem dX11_held_35 : decode cX11_held 35 = .ok (.invokevirtual 163, 3) := by decide +kernel
theorem dX11_held_38 : decode cX11_held 38 = .ok (.ireturn, 1) := by decide +kernel
theorem dX11_held_39 : decode cX11_held 39 = .ok (.aload_n 0, 1) := by decide +kernel
theorem dX11_held_40 : decode cX11_held 40 = .ok (.getfield 26, 3) := by decide +kernel
theorem dX11_held_43 : decode cX11_held 43 = .ok (.iload_n 1, 1) := by decide +kernel
theorem dX11_held_44 : decode cX11_held 44 = .ok (.invokevirtual 197, 3) := by decide +kernel
theorem dX11_held_47 : decode cX11_held 47 = .ok (.ifCond .eq 9, 3) := by decide +kernel
theorem dX11_held_50 : decode cX11_held 50 = .ok (.aload_n 0, 1) := by decide +kernel
theorem dX11_held_51 : decode cX11_held 51 = .ok (.iconst 1, 1) := by decide +kernel
theorem dX11_held_52 : decode cX11_held 52 = .ok (.invokevirtual 163, 3) := by decide +kernel
theorem dX11_held_55 : decode cX11_held 55 = .ok (.ireturn, 1) := by decide +kernel
theorem dX11_held_56 : decode cX11_held 56 = .ok (.aload_n 0, 1) := by decide +kernel
theorem dX11_held_57 : decode cX11_held 57 = .ok (.getfield 26, 3) := by decide +kernel
theorem dX11_held_60 : decode cX11_held 60 = .ok (.getfield 200, 3) := by decide +kernel
theorem dX11_held_63 : decode cX11_held 63 = .ok (.iload_n 1, 1) := by decide +kernel
theorem dX11_held_64 : decode cX11_held 64 = .ok (.iaload, 1) := by decide +kernel
theorem dX11_held_65 : decode cX11_held 65 = .ok (.istore_n 3, 1) := by decide +kernel
theorem dX11_held_66 : decode cX11_held 66 = .ok (.aload_n 0, 1) := by decide +kernel
theorem dX11_held_67 : decode cX11_held 67 = .ok (.getfield 19, 3) := by decide +kernel
theorem dX11_held_70 : decode cX11_held 70 = .ok (.iload_n 3, 1) := by decide +kernel
theorem dX11_held_71 : decode cX11_held 71 = .ok (.iload_n 2, 1) := by decide +kernel
theorem dX11_held_72 : decode cX11_held 72 = .ok (.invokevirtual 203, 3) := by decide +kernel
theorem dX11_held_75 : decode cX11_held 75 = .ok (.ifCond .eq 7, 3) := by decide +kernel
theorem dX11_held_78 : decode cX11_held 78 = .ok (.iload_n 3, 1) := by decide +kernel
theorem dX11_held_79 : decode cX11_held 79 = .ok (.goto 8, 3) := by decide +kernel
theorem dX11_held_82 : decode cX11_held 82 = .ok (.aload_n 0, 1) := by decide +kernel
theorem dX11_held_83 : decode cX11_held 83 = .ok (.iconst 3, 1) := by decide +kernel
theorem dX11_held_84 : decode cX11_held 84 = .ok (.invokevirtual 163, 3) := by decide +kernel
theorem dX11_held_87 : decode cX11_held 87 = .ok (.ireturn, 1) := by decide +kernel
theorem dX11_noted_0 : decode cX11_noted 0 = .ok (.aload_n 0, 1) := by decide +kernel
theorem dX11_noted_1 : decode cX11_noted 1 = .ok (.getfield 19, 3) := by decide +kernel
theorem dX11_noted_4 : decode cX11_noted 4 = .ok (.iload_n 1, 1) := by decide +kernel
theorem dX11_noted_5 : decode cX11_noted 5 = .ok (.invokevirtual 152, 3) := by decide +kernel
theorem dX11_noted_8 : decode cX11_noted 8 = .ok (.ifCond .ne 5, 3) := by decide +kernel
theorem dX11_noted_11 : decode cX11_noted 11 = .ok (.iconst (-1), 1) := by decide +kernel
theorem dX11_noted_12 : decode cX11_noted 12 = .ok (.ireturn, 1) := by decide +kernel
theorem dX11_noted_13 : decode cX11_noted 13 = .ok (.aload_n 0, 1) := by decide +kernel
theorem dX11_noted_14 : decode cX11_noted 14 = .ok (.getfield 26, 3) := by decide +kernel
theorem dX11_noted_17 : decode cX11_noted 17 = .ok (.iload_n 1, 1) := by decide +kernel
theorem dX11_noted_18 : decode cX11_noted 18 = .ok (.invokevirtual 197, 3) := by decide +kernel
theorem dX11_noted_21 : decode cX11_noted 21 = .ok (.ifCond .eq 9, 3) := by decide +kernel
theorem dX11_noted_24 : decode cX11_noted 24 = .ok (.aload_n 0, 1) := by decide +kernel
theorem dX11_noted_25 : decode cX11_noted 25 = .ok (.iconst 1, 1) := by decide +kernel
theorem dX11_noted_26 : decode cX11_noted 26 = .ok (.invokevirtual 163, 3) := by decide +kernel
theorem dX11_noted_29 : decode cX11_noted 29 = .ok (.ireturn, 1) := by decide +kernel
theorem dX11_noted_30 : decode cX11_noted 30 = .ok (.aload_n 0, 1) := by decide +kernel
theorem dX11_noted_31 : decode cX11_noted 31 = .ok (.getfield 26, 3) := by decide +kernel
theorem dX11_noted_34 : decode cX11_noted 34 = .ok (.iload_n 1, 1) := by decide +kernel
theorem dX11_noted_35 : decode cX11_noted 35 = .ok (.invokevirtual 194, 3) := by decide +kernel
theorem dX11_noted_38 : decode cX11_noted 38 = .ok (.ifCond .ne 9, 3) := by decide +kernel
theorem dX11_noted_41 : decode cX11_noted 41 = .ok (.aload_n 0, 1) := by decide +kernel
theorem dX11_noted_42 : decode cX11_noted 42 = .ok (.iconst 3, 1) := by decide +kernel
theorem dX11_noted_43 : decode cX11_noted 43 = .ok (.invokevirtual 163, 3) := by decide +kernel
theorem dX11_noted_46 : decode cX11_noted 46 = .ok (.ireturn, 1) := by decide +kernel
theorem dX11_noted_47 : decode cX11_noted 47 = .ok (.iload_n 2, 1) := by decide +kernel
theorem dX11_noted_48 : decode cX11_noted 48 = .ok (.iconst 0, 1) := by decide +kernel
theorem dX11_noted_49 : decode cX11_noted 49 = .ok (.aload_n 0, 1) := by decide +kernel
theorem dX11_noted_50 : decode cX11_noted 50 = .ok (.getfield 26, 3) := by decide +kernel
theorem dX11_noted_53 : decode cX11_noted 53 = .ok (.getfield 200, 3) := by decide +kernel
theorem dX11_noted_56 : decode cX11_noted 56 = .ok (.iload_n 1, 1) := by decide +kernel
theorem dX11_noted_57 : decode cX11_noted 57 = .ok (.iaload, 1) := by decide +kernel
theorem dX11_noted_58 : decode cX11_noted 58 = .ok (.iconst 1, 1) := by decide +kernel
theorem dX11_noted_59 : decode cX11_noted 59 = .ok (.isub, 1) := by decide +kernel
theorem dX11_noted_60 : decode cX11_noted 60 = .ok (.invokestatic 113, 3) := by decide +kernel
theorem dX11_noted_63 : decode cX11_noted 63 = .ok (.ifCond .ne 9, 3) := by decide +kernel
theorem dX11_noted_66 : decode cX11_noted 66 = .ok (.aload_n 0, 1) := by decide +kernel
theorem dX11_noted_67 : decode cX11_noted 67 = .ok (.iconst 2, 1) := by decide +kernel
theorem dX11_noted_68 : decode cX11_noted 68 = .ok (.invokevirtual 163, 3) := by decide +kernel
theorem dX11_noted_71 : decode cX11_noted 71 = .ok (.ireturn, 1) := by decide +kernel
theorem dX11_noted_72 : decode cX11_noted 72 = .ok (.aload_n 0, 1) := by decide +kernel
theorem dX11_noted_73 : decode cX11_noted 73 = .ok (.getfield 26, 3) := by decide +kernel
theorem dX11_noted_76 : decode cX11_noted 76 = .ok (.iload_n 1, 1) := by decide +kernel
theorem dX11_noted_77 : decode cX11_noted 77 = .ok (.iload_n 2, 1) := by decide +kernel
theorem dX11_noted_78 : decode cX11_noted 78 = .ok (.iload_n 3, 1) := by decide +kernel
theorem dX11_noted_79 : decode cX11_noted 79 = .ok (.invokevirtual 206, 3) := by decide +kernel
theorem dX11_noted_82 : decode cX11_noted 82 = .ok (.sipush 1000, 3) := by decide +kernel
theorem dX11_noted_85 : decode cX11_noted 85 = .ok (.iadd, 1) := by decide +kernel
theorem dX11_noted_86 : decode cX11_noted 86 = .ok (.ireturn, 1) := by decide +kernel
theorem dX11_copy_0 : decode cX11_copy 0 = .ok (.aload_n 0, 1) := by decide +kernel
theorem dX11_copy_1 : decode cX11_copy 1 = .ok (.getfield 19, 3) := by decide +kernel
theorem dX11_copy_4 : decode cX11_copy 4 = .ok (.iload_n 1, 1) := by decide +kernel
theorem dX11_copy_5 : decode cX11_copy 5 = .ok (.invokevirtual 152, 3) := by decide +kernel
theorem dX11_copy_8 : decode cX11_copy 8 = .ok (.ifCond .eq 14, 3) := by decide +kernel
theorem dX11_copy_11 : decode cX11_copy 11 = .ok (.aload_n 0, 1) := by decide +kernel
theorem dX11_copy_12 : decode cX11_copy 12 = .ok (.getfield 19, 3) := by decide +kernel
theorem dX11_copy_15 : decode cX11_copy 15 = .ok (.iload_n 3, 1) := by decide +kernel
theorem dX11_copy_16 : decode cX11_copy 16 = .ok (.invokevirtual 152, 3) := by decide +kernel
theorem dX11_copy_19 : decode cX11_copy 19 = .ok (.ifCond .ne 5, 3) := by decide +kernel
theorem dX11_copy_22 : decode cX11_copy 22 = .ok (.iconst (-1), 1) := by decide +kernel
theorem dX11_copy_23 : decode cX11_copy 23 = .ok (.ireturn, 1) := by decide +kernel
theorem dX11_copy_24 : decode cX11_copy 24 = .ok (.aload_n 0, 1) := by decide +kernel
theorem dX11_copy_25 : decode cX11_copy 25 = .ok (.getfield 26, 3) := by decide +kernel
theorem dX11_copy_28 : decode cX11_copy 28 = .ok (.iload_n 1, 1) := by decide +kernel
theorem dX11_copy_29 : decode cX11_copy 29 = .ok (.invokevirtual 210, 3) := by decide +kernel
theorem dX11_copy_32 : decode cX11_copy 32 = .ok (.ifCond .ne 14, 3) := by decide +kernel
theorem dX11_copy_35 : decode cX11_copy 35 = .ok (.aload_n 0, 1) := by decide +kernel
theorem dX11_copy_36 : decode cX11_copy 36 = .ok (.getfield 26, 3) := by decide +kernel
theorem dX11_copy_39 : decode cX11_copy 39 = .ok (.iload_n 3, 1) := by decide +kernel
theorem dX11_copy_40 : decode cX11_copy 40 = .ok (.invokevirtual 210, 3) := by decide +kernel
theorem dX11_copy_43 : decode cX11_copy 43 = .ok (.ifCond .eq 9, 3) := by decide +kernel
theorem dX11_copy_46 : decode cX11_copy 46 = .ok (.aload_n 0, 1) := by decide +kernel
theorem dX11_copy_47 : decode cX11_copy 47 = .ok (.iconst 3, 1) := by decide +kernel
theorem dX11_copy_48 : decode cX11_copy 48 = .ok (.invokevirtual 163, 3) := by decide +kernel
theorem dX11_copy_51 : decode cX11_copy 51 = .ok (.ireturn, 1) := by decide +kernel
theorem dX11_copy_52 : decode cX11_copy 52 = .ok (.aload_n 0, 1) := by decide +kernel
theorem dX11_copy_53 : decode cX11_copy 53 = .ok (.getfield 26, 3) := by decide +kernel
theorem dX11_copy_56 : decode cX11_copy 56 = .ok (.iload_n 1, 1) := by decide +kernel
theorem dX11_copy_57 : decode cX11_copy 57 = .ok (.invokevirtual 197, 3) := by decide +kernel
theorem dX11_copy_60 : decode cX11_copy 60 = .ok (.ifCond .ne 14, 3) := by decide +kernel
theorem dX11_copy_63 : decode cX11_copy 63 = .ok (.aload_n 0, 1) := by decide +kernel
theorem dX11_copy_64 : decode cX11_copy 64 = .ok (.getfield 26, 3) := by decide +kernel
theorem dX11_copy_67 : decode cX11_copy 67 = .ok (.iload_n 3, 1) := by decide +kernel
theorem dX11_copy_68 : decode cX11_copy 68 = .ok (.invokevirtual 197, 3) := by decide +kernel
theorem dX11_copy_71 : decode cX11_copy 71 = .ok (.ifCond .eq 9, 3) := by decide +kernel
theorem dX11_copy_74 : decode cX11_copy 74 = .ok (.aload_n 0, 1) := by decide +kernel
theorem dX11_copy_75 : decode cX11_copy 75 = .ok (.iconst 1, 1) := by decide +kernel
theorem dX11_copy_76 : decode cX11_copy 76 = .ok (.invokevirtual 163, 3) := by decide +kernel
theorem dX11_copy_79 : decode cX11_copy 79 = .ok (.ireturn, 1) := by decide +kernel
theorem dX11_copy_80 : decode cX11_copy 80 = .ok (.aload_n 0, 1) := by decide +kernel
theorem dX11_copy_81 : decode cX11_copy 81 = .ok (.getfield 26, 3) := by decide +kernel
theorem dX11_copy_84 : decode cX11_copy 84 = .ok (.iload_n 1, 1) := by decide +kernel
theorem dX11_copy_85 : decode cX11_copy 85 = .ok (.iload_n 2, 1) := by decide +kernel
theorem dX11_copy_86 : decode cX11_copy 86 = .ok (.iload 5, 2) := by decide +kernel
theorem dX11_copy_88 : decode cX11_copy 88 = .ok (.invokevirtual 213, 3) := by decide +kernel
theorem dX11_copy_91 : decode cX11_copy 91 = .ok (.ifCond .eq 18, 3) := by decide +kernel
theorem dX11_copy_94 : decode cX11_copy 94 = .ok (.aload_n 0, 1) := by decide +kernel
theorem dX11_copy_95 : decode cX11_copy 95 = .ok (.getfield 26, 3) := by decide +kernel
theorem dX11_copy_98 : decode cX11_copy 98 = .ok (.iload_n 3, 1) := by decide +kernel
theorem dX11_copy_99 : decode cX11_copy 99 = .ok (.iload 4, 2) := by decide +kernel
theorem dX11_copy_101 : decode cX11_copy 101 = .ok (.iload 5, 2) := by decide +kernel
theorem dX11_copy_103 : decode cX11_copy 103 = .ok (.invokevirtual 213, 3) := by decide +kernel
theorem dX11_copy_106 : decode cX11_copy 106 = .ok (.ifCond .ne 9, 3) := by decide +kernel
theorem dX11_copy_109 : decode cX11_copy 109 = .ok (.aload_n 0, 1) := by decide +kernel
theorem dX11_copy_110 : decode cX11_copy 110 = .ok (.iconst 2, 1) := by decide +kernel
theorem dX11_copy_111 : decode cX11_copy 111 = .ok (.invokevirtual 163, 3) := by decide +kernel
theorem dX11_copy_114 : decode cX11_copy 114 = .ok (.ireturn, 1) := by decide +kernel
theorem dX11_copy_115 : decode cX11_copy 115 = .ok (.aload_n 0, 1) := by decide +kernel
theorem dX11_copy_116 : decode cX11_copy 116 = .ok (.getfield 26, 3) := by decide +kernel
theorem dX11_copy_119 : decode cX11_copy 119 = .ok (.iload_n 1, 1) := by decide +kernel
theorem dX11_copy_120 : decode cX11_copy 120 = .ok (.iload_n 2, 1) := by decide +kernel
theorem dX11_copy_121 : decode cX11_copy 121 = .ok (.iload_n 3, 1) := by decide +kernel
theorem dX11_copy_122 : decode cX11_copy 122 = .ok (.iload 4, 2) := by decide +kernel
theorem dX11_copy_124 : decode cX11_copy 124 = .ok (.iload 5, 2) := by decide +kernel
theorem dX11_copy_126 : decode cX11_copy 126 = .ok (.invokevirtual 216, 3) := by decide +kernel
theorem dX11_copy_129 : decode cX11_copy 129 = .ok (.iconst 1, 1) := by decide +kernel
theorem dX11_copy_130 : decode cX11_copy 130 = .ok (.ireturn, 1) := by decide +kernel
theorem dX11_array_0 : decode cX11_array 0 = .ok (.iload_n 1, 1) := by decide +kernel
theorem dX11_array_1 : decode cX11_array 1 = .ok (.iconst 0, 1) := by decide +kernel
theorem dX11_array_2 : decode cX11_array 2 = .ok (.iconst 3, 1) := by decide +kernel
theorem dX11_array_3 : decode cX11_array 3 = .ok (.invokestatic 113, 3) := by decide +kernel
theorem dX11_array_6 : decode cX11_array 6 = .ok (.ifCond .eq 9, 3) := by decide +kernel
theorem dX11_array_9 : decode cX11_array 9 = .ok (.iload_n 2, 1) := by decide +kernel
theorem dX11_array_10 : decode cX11_array 10 = .ok (.bipush 20, 2) := by decide +kernel
theorem dX11_array_12 : decode cX11_array 12 = .ok (.if_icmp .le 5, 3) := by decide +kernel
theorem dX11_array_15 : decode cX11_array 15 = .ok (.iconst (-1), 1) := by decide +kernel
theorem dX11_array_16 : decode cX11_array 16 = .ok (.ireturn, 1) := by decide +kernel
theorem dX11_array_17 : decode cX11_array 17 = .ok (.aload_n 0, 1) := by decide +kernel
theorem dX11_array_18 : decode cX11_array 18 = .ok (.getfield 36, 3) := by decide +kernel
theorem dX11_array_21 : decode cX11_array 21 = .ok (.bipush 8, 2) := by decide +kernel
theorem dX11_array_23 : decode cX11_array 23 = .ok (.if_icmp .lt 6, 3) := by decide +kernel
theorem dX11_array_26 : decode cX11_array 26 = .ok (.bipush (-2), 2) := by decide +kernel
theorem dX11_array_28 : decode cX11_array 28 = .ok (.ireturn, 1) := by decide +kernel
theorem dX11_array_29 : decode cX11_array 29 = .ok (.iload_n 2, 1) := by decide +kernel
theorem dX11_array_30 : decode cX11_array 30 = .ok (.ifCond .ge 9, 3) := by decide +kernel
theorem dX11_array_33 : decode cX11_array 33 = .ok (.aload_n 0, 1) := by decide +kernel
theorem dX11_array_34 : decode cX11_array 34 = .ok (.iconst 5, 1) := by decide +kernel
theorem dX11_array_35 : decode cX11_array 35 = .ok (.invokevirtual 163, 3) := by decide +kernel
theorem dX11_array_38 : decode cX11_array 38 = .ok (.ireturn, 1) := by decide +kernel
theorem dX11_array_39 : decode cX11_array 39 = .ok (.aload_n 0, 1) := by decide +kernel
theorem dX11_array_40 : decode cX11_array 40 = .ok (.getfield 32, 3) := by decide +kernel
theorem dX11_array_43 : decode cX11_array 43 = .ok (.aload_n 0, 1) := by decide +kernel
theorem dX11_array_44 : decode cX11_array 44 = .ok (.getfield 36, 3) := by decide +kernel
theorem dX11_array_47 : decode cX11_array 47 = .ok (.new 30, 3) := by decide +kernel
theorem dX11_array_50 : decode cX11_array 50 = .ok (.dup, 1) := by decide +kernel
theorem dX11_array_51 : decode cX11_array 51 = .ok (.iload_n 1, 1) := by decide +kernel
theorem dX11_array_52 : decode cX11_array 52 = .ok (.iload_n 2, 1) := by decide +kernel
theorem dX11_array_53 : decode cX11_array 53 = .ok (.invokespecial 220, 3) := by decide +kernel
theorem dX11_array_56 : decode cX11_array 56 = .ok (.aastore, 1) := by decide +kernel
theorem dX11_array_57 : decode cX11_array 57 = .ok (.aload_n 0, 1) := by decide +kernel
theorem dX11_array_58 : decode cX11_array 58 = .ok (.dup, 1) := by decide +kernel
theorem dX11_array_59 : decode cX11_array 59 = .ok (.getfield 36, 3) := by decide +kernel
theorem dX11_array_62 : decode cX11_array 62 = .ok (.iconst 1, 1) := by decide +kernel
theorem dX11_array_63 : decode cX11_array 63 = .ok (.iadd, 1) := by decide +kernel
theorem dX11_array_64 : decode cX11_array 64 = .ok (.putfield 36, 3) := by decide +kernel
theorem dX11_array_67 : decode cX11_array 67 = .ok (.aload_n 0, 1) := by decide +kernel
theorem dX11_array_68 : decode cX11_array 68 = .ok (.getfield 36, 3) := by decide +kernel
theorem dX11_array_71 : decode cX11_array 71 = .ok (.iconst 1, 1) := by decide +kernel
theorem dX11_array_72 : decode cX11_array 72 = .ok (.isub, 1) := by decide +kernel
theorem dX11_array_73 : decode cX11_array 73 = .ok (.ireturn, 1) := by decide +kernel
theorem dX11_row_0 : decode cX11_row 0 = .ok (.aload_n 0, 1) := by decide +kernel
theorem dX11_row_1 : decode cX11_row 1 = .ok (.iload_n 1, 1) := by decide +kernel
theorem dX11_row_2 : decode cX11_row 2 = .ok (.invokevirtual 155, 3) := by decide +kernel
theorem dX11_row_5 : decode cX11_row 5 = .ok (.astore 4, 2) := by decide +kernel
theorem dX11_row_7 : decode cX11_row 7 = .ok (.aload 4, 2) := by decide +kernel
theorem dX11_row_9 : decode cX11_row 9 = .ok (.ifnull 9, 3) := by decide +kernel
theorem dX11_row_12 : decode cX11_row 12 = .ok (.iload_n 3, 1) := by decide +kernel
theorem dX11_row_13 : decode cX11_row 13 = .ok (.bipush 20, 2) := by decide +kernel
theorem dX11_row_15 : decode cX11_row 15 = .ok (.if_icmp .le 5, 3) := by decide +kernel
theorem dX11_row_18 : decode cX11_row 18 = .ok (.iconst (-1), 1) := by decide +kernel
theorem dX11_row_19 : decode cX11_row 19 = .ok (.ireturn, 1) := by decide +kernel
theorem dX11_row_20 : decode cX11_row 20 = .ok (.aload 4, 2) := by decide +kernel
theorem dX11_row_22 : decode cX11_row 22 = .ok (.iload_n 2, 1) := by decide +kernel
theorem dX11_row_23 : decode cX11_row 23 = .ok (.i2l, 1) := by decide +kernel
theorem dX11_row_24 : decode cX11_row 24 = .ok (.invokevirtual 222, 3) := by decide +kernel
theorem dX11_row_27 : decode cX11_row 27 = .ok (.ifCond .ne 9, 3) := by decide +kernel
theorem dX11_row_30 : decode cX11_row 30 = .ok (.aload_n 0, 1) := by decide +kernel
theorem dX11_row_31 : decode cX11_row 31 = .ok (.iconst 2, 1) := by decide +kernel
theorem dX11_row_32 : decode cX11_row 32 = .ok (.invokevirtual 163, 3) := by decide +kernel
theorem dX11_row_35 : decode cX11_row 35 = .ok (.ireturn, 1) := by decide +kernel
theorem dX11_row_36 : decode cX11_row 36 = .ok (.iload_n 3, 1) := by decide +kernel
theorem dX11_row_37 : decode cX11_row 37 = .ok (.ifCond .ge 9, 3) := by decide +kernel
theorem dX11_row_40 : decode cX11_row 40 = .ok (.aload_n 0, 1) := by decide +kernel
theorem dX11_row_41 : decode cX11_row 41 = .ok (.iconst 5, 1) := by decide +kernel
theorem dX11_row_42 : decode cX11_row 42 = .ok (.invokevirtual 163, 3) := by decide +kernel
theorem dX11_row_45 : decode cX11_row 45 = .ok (.ireturn, 1) := by decide +kernel
theorem dX11_row_46 : decode cX11_row 46 = .ok (.aload 4, 2) := by decide +kernel
theorem dX11_row_48 : decode cX11_row 48 = .ok (.iload_n 2, 1) := by decide +kernel
theorem dX11_row_49 : decode cX11_row 49 = .ok (.iload_n 3, 1) := by decide +kernel
theorem dX11_row_50 : decode cX11_row 50 = .ok (.invokevirtual 226, 3) := by decide +kernel
theorem dX11_row_53 : decode cX11_row 53 = .ok (.iload_n 3, 1) := by decide +kernel
theorem dX11_row_54 : decode cX11_row 54 = .ok (.ireturn, 1) := by decide +kernel
theorem dX11_tear_0 : decode cX11_tear 0 = .ok (.aload_n 0, 1) := by decide +kernel
theorem dX11_tear_1 : decode cX11_tear 1 = .ok (.iload_n 1, 1) := by decide +kernel
theorem dX11_tear_2 : decode cX11_tear 2 = .ok (.invokevirtual 155, 3) := by decide +kernel
theorem dX11_tear_5 : decode cX11_tear 5 = .ok (.astore_n 3, 1) := by decide +kernel
theorem dX11_tear_6 : decode cX11_tear 6 = .ok (.aload_n 3, 1) := by decide +kernel
theorem dX11_tear_7 : decode cX11_tear 7 = .ok (.ifnonnull 5, 3) := by decide +kernel
theorem dX11_tear_10 : decode cX11_tear 10 = .ok (.iconst (-1), 1) := by decide +kernel
theorem dX11_tear_11 : decode cX11_tear 11 = .ok (.ireturn, 1) := by decide +kernel
theorem dX11_tear_12 : decode cX11_tear 12 = .ok (.aload_n 3, 1) := by decide +kernel
theorem dX11_tear_13 : decode cX11_tear 13 = .ok (.iload_n 2, 1) := by decide +kernel
theorem dX11_tear_14 : decode cX11_tear 14 = .ok (.i2l, 1) := by decide +kernel
theorem dX11_tear_15 : decode cX11_tear 15 = .ok (.invokevirtual 222, 3) := by decide +kernel
theorem dX11_tear_18 : decode cX11_tear 18 = .ok (.ifCond .ne 9, 3) := by decide +kernel
theorem dX11_tear_21 : decode cX11_tear 21 = .ok (.aload_n 0, 1) := by decide +kernel
theorem dX11_tear_22 : decode cX11_tear 22 = .ok (.iconst 2, 1) := by decide +kernel
theorem dX11_tear_23 : decode cX11_tear 23 = .ok (.invokevirtual 163, 3) := by decide +kernel
theorem dX11_tear_26 : decode cX11_tear 26 = .ok (.ireturn, 1) := by decide +kernel
theorem dX11_tear_27 : decode cX11_tear 27 = .ok (.aload_n 3, 1) := by decide +kernel
theorem dX11_tear_28 : decode cX11_tear 28 = .ok (.getfield 229, 3) := by decide +kernel
theorem dX11_tear_31 : decode cX11_tear 31 = .ok (.iload_n 2, 1) := by decide +kernel
theorem dX11_tear_32 : decode cX11_tear 32 = .ok (.iconst (-1), 1) := by decide +kernel
theorem dX11_tear_33 : decode cX11_tear 33 = .ok (.iastore, 1) := by decide +kernel
theorem dX11_tear_34 : decode cX11_tear 34 = .ok (.iconst 1, 1) := by decide +kernel
theorem dX11_tear_35 : decode cX11_tear 35 = .ok (.ireturn, 1) := by decide +kernel
theorem dX11_lay_0 : decode cX11_lay 0 = .ok (.aload_n 0, 1) := by decide +kernel
theorem dX11_lay_1 : decode cX11_lay 1 = .ok (.iload_n 1, 1) := by decide +kernel
theorem dX11_lay_2 : decode cX11_lay 2 = .ok (.invokevirtual 155, 3) := by decide +kernel
theorem dX11_lay_5 : decode cX11_lay 5 = .ok (.astore 6, 2) := by decide +kernel
theorem dX11_lay_7 : decode cX11_lay 7 = .ok (.aload 6, 2) := by decide +kernel
theorem dX11_lay_9 : decode cX11_lay 9 = .ok (.ifnonnull 5, 3) := by decide +kernel
theorem dX11_lay_12 : decode cX11_lay 12 = .ok (.iconst (-1), 1) := by decide +kernel
theorem dX11_lay_13 : decode cX11_lay 13 = .ok (.ireturn, 1) := by decide +kernel
theorem dX11_lay_14 : decode cX11_lay 14 = .ok (.aload 6, 2) := by decide +kernel
theorem dX11_lay_16 : decode cX11_lay 16 = .ok (.iload_n 2, 1) := by decide +kernel
theorem dX11_lay_17 : decode cX11_lay 17 = .ok (.i2l, 1) := by decide +kernel
theorem dX11_lay_18 : decode cX11_lay 18 = .ok (.iload_n 3, 1) := by decide +kernel
theorem dX11_lay_19 : decode cX11_lay 19 = .ok (.i2l, 1) := by decide +kernel
theorem dX11_lay_20 : decode cX11_lay 20 = .ok (.invokevirtual 232, 3) := by decide +kernel
theorem dX11_lay_23 : decode cX11_lay 23 = .ok (.istore 7, 2) := by decide +kernel
theorem dX11_lay_25 : decode cX11_lay 25 = .ok (.iload 7, 2) := by decide +kernel
theorem dX11_lay_27 : decode cX11_lay 27 = .ok (.ifCond .eq 10, 3) := by decide +kernel
theorem dX11_lay_30 : decode cX11_lay 30 = .ok (.aload_n 0, 1) := by decide +kernel
theorem dX11_lay_31 : decode cX11_lay 31 = .ok (.iload 7, 2) := by decide +kernel
theorem dX11_lay_33 : decode cX11_lay 33 = .ok (.invokevirtual 163, 3) := by decide +kernel
theorem dX11_lay_36 : decode cX11_lay 36 = .ok (.ireturn, 1) := by decide +kernel
theorem dX11_lay_37 : decode cX11_lay 37 = .ok (.aload 6, 2) := by decide +kernel
theorem dX11_lay_39 : decode cX11_lay 39 = .ok (.iload_n 2, 1) := by decide +kernel
theorem dX11_lay_40 : decode cX11_lay 40 = .ok (.iload_n 3, 1) := by decide +kernel
theorem dX11_lay_41 : decode cX11_lay 41 = .ok (.lload 4, 2) := by decide +kernel
theorem dX11_lay_43 : decode cX11_lay 43 = .ok (.invokevirtual 236, 3) := by decide +kernel
theorem dX11_lay_46 : decode cX11_lay 46 = .ok (.iconst 1, 1) := by decide +kernel
theorem dX11_lay_47 : decode cX11_lay 47 = .ok (.ireturn, 1) := by decide +kernel
theorem dX11_get_0 : decode cX11_get 0 = .ok (.aload_n 0, 1) := by decide +kernel
theorem dX11_get_1 : decode cX11_get 1 = .ok (.iload_n 1, 1) := by decide +kernel
theorem dX11_get_2 : decode cX11_get 2 = .ok (.invokevirtual 155, 3) := by decide +kernel
theorem dX11_get_5 : decode cX11_get 5 = .ok (.astore 4, 2) := by decide +kernel
theorem dX11_get_7 : decode cX11_get 7 = .ok (.aload 4, 2) := by decide +kernel
theorem dX11_get_9 : decode cX11_get 9 = .ok (.ifnonnull 5, 3) := by decide +kernel
theorem dX11_get_12 : decode cX11_get 12 = .ok (.iconst (-1), 1) := by decide +kernel
theorem dX11_get_13 : decode cX11_get 13 = .ok (.ireturn, 1) := by decide +kernel
theorem dX11_get_14 : decode cX11_get 14 = .ok (.aload 4, 2) := by decide +kernel
theorem dX11_get_16 : decode cX11_get 16 = .ok (.iload_n 2, 1) := by decide +kernel
theorem dX11_get_17 : decode cX11_get 17 = .ok (.i2l, 1) := by decide +kernel
theorem dX11_get_18 : decode cX11_get 18 = .ok (.iload_n 3, 1) := by decide +kernel
theorem dX11_get_19 : decode cX11_get 19 = .ok (.i2l, 1) := by decide +kernel
theorem dX11_get_20 : decode cX11_get 20 = .ok (.invokevirtual 232, 3) := by decide +kernel
theorem dX11_get_23 : decode cX11_get 23 = .ok (.istore 5, 2) := by decide +kernel
theorem dX11_get_25 : decode cX11_get 25 = .ok (.iload 5, 2) := by decide +kernel
theorem dX11_get_27 : decode cX11_get 27 = .ok (.ifCond .eq 10, 3) := by decide +kernel
theorem dX11_get_30 : decode cX11_get 30 = .ok (.aload_n 0, 1) := by decide +kernel
theorem dX11_get_31 : decode cX11_get 31 = .ok (.iload 5, 2) := by decide +kernel
theorem dX11_get_33 : decode cX11_get 33 = .ok (.invokevirtual 163, 3) := by decide +kernel
theorem dX11_get_36 : decode cX11_get 36 = .ok (.ireturn, 1) := by decide +kernel
theorem dX11_get_37 : decode cX11_get 37 = .ok (.aload_n 0, 1) := by decide +kernel
theorem dX11_get_38 : decode cX11_get 38 = .ok (.aload 4, 2) := by decide +kernel
theorem dX11_get_40 : decode cX11_get 40 = .ok (.iload_n 2, 1) := by decide +kernel
theorem dX11_get_41 : decode cX11_get 41 = .ok (.iload_n 3, 1) := by decide +kernel
theorem dX11_get_42 : decode cX11_get 42 = .ok (.invokevirtual 240, 3) := by decide +kernel
theorem dX11_get_45 : decode cX11_get 45 = .ok (.putfield 92, 3) := by decide +kernel
theorem dX11_get_48 : decode cX11_get 48 = .ok (.iconst 1, 1) := by decide +kernel
theorem dX11_get_49 : decode cX11_get 49 = .ok (.ireturn, 1) := by decide +kernel
theorem dX11_asked_0 : decode cX11_asked 0 = .ok (.aload_n 0, 1) := by decide +kernel
theorem dX11_asked_1 : decode cX11_asked 1 = .ok (.getfield 92, 3) := by decide +kernel
theorem dX11_asked_4 : decode cX11_asked 4 = .ok (.lreturn, 1) := by decide +kernel
theorem dX11_visits_0 : decode cX11_visits 0 = .ok (.aload_n 0, 1) := by decide +kernel
theorem dX11_visits_1 : decode cX11_visits 1 = .ok (.invokevirtual 244, 3) := by decide +kernel
theorem dX11_visits_4 : decode cX11_visits 4 = .ok (.ifCond .eq 8, 3) := by decide +kernel
theorem dX11_visits_7 : decode cX11_visits 7 = .ok (.bipush (-6), 2) := by decide +kernel
theorem dX11_visits_9 : decode cX11_visits 9 = .ok (.goto 10, 3) := by decide +kernel
theorem dX11_visits_12 : decode cX11_visits 12 = .ok (.aload_n 0, 1) := by decide +kernel
theorem dX11_visits_13 : decode cX11_visits 13 = .ok (.getfield 54, 3) := by decide +kernel
theorem dX11_visits_16 : decode cX11_visits 16 = .ok (.getfield 248, 3) := by decide +kernel
theorem dX11_visits_19 : decode cX11_visits 19 = .ok (.ireturn, 1) := by decide +kernel
theorem dX11_visit_0 : decode cX11_visit 0 = .ok (.iload_n 2, 1) := by decide +kernel
theorem dX11_visit_1 : decode cX11_visit 1 = .ok (.iconst 0, 1) := by decide +kernel
theorem dX11_visit_2 : decode cX11_visit 2 = .ok (.iconst 4, 1) := by decide +kernel
theorem dX11_visit_3 : decode cX11_visit 3 = .ok (.invokestatic 113, 3) := by decide +kernel
theorem dX11_visit_6 : decode cX11_visit 6 = .ok (.ifCond .ne 5, 3) := by decide +kernel
theorem dX11_visit_9 : decode cX11_visit 9 = .ok (.iconst (-1), 1) := by decide +kernel
theorem dX11_visit_10 : decode cX11_visit 10 = .ok (.ireturn, 1) := by decide +kernel
theorem dX11_visit_11 : decode cX11_visit 11 = .ok (.aload_n 0, 1) := by decide +kernel
theorem dX11_visit_12 : decode cX11_visit 12 = .ok (.invokevirtual 244, 3) := by decide +kernel
theorem dX11_visit_15 : decode cX11_visit 15 = .ok (.ifCond .eq 6, 3) := by decide +kernel
theorem dX11_visit_18 : decode cX11_visit 18 = .ok (.bipush (-6), 2) := by decide +kernel
theorem dX11_visit_20 : decode cX11_visit 20 = .ok (.ireturn, 1) := by decide +kernel
theorem dX11_visit_21 : decode cX11_visit 21 = .ok (.iload_n 1, 1) := by decide +kernel
theorem dX11_visit_22 : decode cX11_visit 22 = .ok (.iconst 0, 1) := by decide +kernel
theorem dX11_visit_23 : decode cX11_visit 23 = .ok (.aload_n 0, 1) := by decide +kernel
theorem dX11_visit_24 : decode cX11_visit 24 = .ok (.getfield 54, 3) := by decide +kernel
theorem dX11_visit_27 : decode cX11_visit 27 = .ok (.getfield 248, 3) := by decide +kernel
theorem dX11_visit_30 : decode cX11_visit 30 = .ok (.iconst 1, 1) := by decide +kernel
theorem dX11_visit_31 : decode cX11_visit 31 = .ok (.isub, 1) := by decide +kernel
theorem dX11_visit_32 : decode cX11_visit 32 = .ok (.invokestatic 113, 3) := by decide +kernel
theorem dX11_visit_35 : decode cX11_visit 35 = .ok (.ifCond .ne 6, 3) := by decide +kernel
theorem dX11_visit_38 : decode cX11_visit 38 = .ok (.bipush (-9), 2) := by decide +kernel
theorem dX11_visit_40 : decode cX11_visit 40 = .ok (.ireturn, 1) := by decide +kernel
theorem dX11_visit_41 : decode cX11_visit 41 = .ok (.aload_n 0, 1) := by decide +kernel
theorem dX11_visit_42 : decode cX11_visit 42 = .ok (.iload_n 1, 1) := by decide +kernel
theorem dX11_visit_43 : decode cX11_visit 43 = .ok (.iload_n 3, 1) := by decide +kernel
theorem dX11_visit_44 : decode cX11_visit 44 = .ok (.invokevirtual 249, 3) := by decide +kernel
theorem dX11_visit_47 : decode cX11_visit 47 = .ok (.istore 4, 2) := by decide +kernel
theorem dX11_visit_49 : decode cX11_visit 49 = .ok (.iload_n 2, 1) := by decide +kernel
theorem dX11_visit_50 : decode cX11_visit 50 = .ok (.ifCond .ne 15, 3) := by decide +kernel
theorem dX11_visit_53 : decode cX11_visit 53 = .ok (.aload_n 0, 1) := by decide +kernel
theorem dX11_visit_54 : decode cX11_visit 54 = .ok (.getfield 54, 3) := by decide +kernel
theorem dX11_visit_57 : decode cX11_visit 57 = .ok (.iload 4, 2) := by decide +kernel
theorem dX11_visit_59 : decode cX11_visit 59 = .ok (.invokevirtual 253, 3) := by decide +kernel
theorem dX11_visit_62 : decode cX11_visit 62 = .ok (.goto 20, 3) := by decide +kernel
theorem dX11_visit_65 : decode cX11_visit 65 = .ok (.ldc2_w 256, 3) := by decide +kernel
theorem dX11_visit_68 : decode cX11_visit 68 = .ok (.aload_n 0, 1) := by decide +kernel
theorem dX11_visit_69 : decode cX11_visit 69 = .ok (.getfield 54, 3) := by decide +kernel
theorem dX11_visit_72 : decode cX11_visit 72 = .ok (.iload 4, 2) := by decide +kernel
theorem dX11_visit_74 : decode cX11_visit 74 = .ok (.iload_n 2, 1) := by decide +kernel
theorem dX11_visit_75 : decode cX11_visit 75 = .ok (.iconst 1, 1) := by decide +kernel
theorem dX11_visit_76 : decode cX11_visit 76 = .ok (.isub, 1) := by decide +kernel
theorem dX11_visit_77 : decode cX11_visit 77 = .ok (.invokevirtual 258, 3) := by decide +kernel
theorem dX11_visit_80 : decode cX11_visit 80 = .ok (.ladd, 1) := by decide +kernel
theorem dX11_visit_81 : decode cX11_visit 81 = .ok (.l2i, 1) := by decide +kernel
theorem dX11_visit_82 : decode cX11_visit 82 = .ok (.ireturn, 1) := by decide +kernel
theorem dX11_has_0 : decode cX11_has 0 = .ok (.aload_n 0, 1) := by decide +kernel
theorem dX11_has_1 : decode cX11_has 1 = .ok (.getfield 19, 3) := by decide +kernel
theorem dX11_has_4 : decode cX11_has 4 = .ok (.iload_n 1, 1) := by decide +kernel
theorem dX11_has_5 : decode cX11_has 5 = .ok (.invokevirtual 152, 3) := by decide +kernel
theorem dX11_has_8 : decode cX11_has 8 = .ok (.ifCond .ne 5, 3) := by decide +kernel
theorem dX11_has_11 : decode cX11_has 11 = .ok (.iconst (-1), 1) := by decide +kernel
theorem dX11_has_12 : decode cX11_has 12 = .ok (.ireturn, 1) := by decide +kernel
theorem dX11_has_13 : decode cX11_has 13 = .ok (.aload_n 0, 1) := by decide +kernel
theorem dX11_has_14 : decode cX11_has 14 = .ok (.invokevirtual 244, 3) := by decide +kernel
theorem dX11_has_17 : decode cX11_has 17 = .ok (.ifCond .eq 6, 3) := by decide +kernel
theorem dX11_has_20 : decode cX11_has 20 = .ok (.bipush (-6), 2) := by decide +kernel
theorem dX11_has_22 : decode cX11_has 22 = .ok (.ireturn, 1) := by decide +kernel
theorem dX11_has_23 : decode cX11_has 23 = .ok (.aload_n 0, 1) := by decide +kernel
theorem dX11_has_24 : decode cX11_has 24 = .ok (.getfield 19, 3) := by decide +kernel
theorem dX11_has_27 : decode cX11_has 27 = .ok (.iload_n 1, 1) := by decide +kernel
theorem dX11_has_28 : decode cX11_has 28 = .ok (.invokevirtual 160, 3) := by decide +kernel
theorem dX11_has_31 : decode cX11_has 31 = .ok (.ifCond .ne 9, 3) := by decide +kernel
theorem dX11_has_34 : decode cX11_has 34 = .ok (.aload_n 0, 1) := by decide +kernel
theorem dX11_has_35 : decode cX11_has 35 = .ok (.iconst 3, 1) := by decide +kernel
theorem dX11_has_36 : decode cX11_has 36 = .ok (.invokevirtual 163, 3) := by decide +kernel
theorem dX11_has_39 : decode cX11_has 39 = .ok (.ireturn, 1) := by decide +kernel
theorem dX11_has_40 : decode cX11_has 40 = .ok (.iconst 0, 1) := by decide +kernel
theorem dX11_has_41 : decode cX11_has 41 = .ok (.istore 6, 2) := by decide +kernel
theorem dX11_has_43 : decode cX11_has 43 = .ok (.iload 6, 2) := by decide +kernel
theorem dX11_has_45 : decode cX11_has 45 = .ok (.aload_n 0, 1) := by decide +kernel
theorem dX11_has_46 : decode cX11_has 46 = .ok (.getfield 54, 3) := by decide +kernel
theorem dX11_has_49 : decode cX11_has 49 = .ok (.getfield 248, 3) := by decide +kernel
theorem dX11_has_52 : decode cX11_has 52 = .ok (.if_icmp .ge 42, 3) := by decide +kernel
theorem dX11_has_55 : decode cX11_has 55 = .ok (.aload_n 0, 1) := by decide +kernel
theorem dX11_has_56 : decode cX11_has 56 = .ok (.getfield 54, 3) := by decide +kernel
theorem dX11_has_59 : decode cX11_has 59 = .ok (.iload 6, 2) := by decide +kernel
theorem dX11_has_61 : decode cX11_has 61 = .ok (.invokevirtual 253, 3) := by decide +kernel
theorem dX11_has_64 : decode cX11_has 64 = .ok (.iload_n 1, 1) := by decide +kernel
theorem dX11_has_65 : decode cX11_has 65 = .ok (.if_icmp .ne 23, 3) := by decide +kernel
theorem dX11_has_68 : decode cX11_has 68 = .ok (.aload_n 0, 1) := by decide +kernel
theorem dX11_has_69 : decode cX11_has 69 = .ok (.getfield 54, 3) := by decide +kernel
theorem dX11_has_72 : decode cX11_has 72 = .ok (.iload 6, 2) := by decide +kernel
theorem dX11_has_74 : decode cX11_has 74 = .ok (.iload_n 2, 1) := by decide +kernel
theorem dX11_has_75 : decode cX11_has 75 = .ok (.iload_n 3, 1) := by decide +kernel
theorem dX11_has_76 : decode cX11_has 76 = .ok (.iload 4, 2) := by decide +kernel
theorem dX11_has_78 : decode cX11_has 78 = .ok (.iload 5, 2) := by decide +kernel
theorem dX11_has_80 : decode cX11_has 80 = .ok (.invokevirtual 261, 3) := by decide +kernel
theorem dX11_has_83 : decode cX11_has 83 = .ok (.ifCond .eq 5, 3) := by decide +kernel
theorem dX11_has_86 : decode cX11_has 86 = .ok (.iconst 1, 1) := by decide +kernel
theorem dX11_has_87 : decode cX11_has 87 = .ok (.ireturn, 1) := by decide +kernel
theorem dX11_has_88 : decode cX11_has 88 = .ok (.iinc 6 1, 3) := by decide +kernel
theorem dX11_has_91 : decode cX11_has 91 = .ok (.goto (-48), 3) := by decide +kernel
theorem dX11_has_94 : decode cX11_has 94 = .ok (.iconst 0, 1) := by decide +kernel
theorem dX11_has_95 : decode cX11_has 95 = .ok (.ireturn, 1) := by decide +kernel
theorem dX11_points_0 : decode cX11_points 0 = .ok (.aload_n 0, 1) := by decide +kernel
theorem dX11_points_1 : decode cX11_points 1 = .ok (.getfield 19, 3) := by decide +kernel
theorem dX11_points_4 : decode cX11_points 4 = .ok (.iload_n 1, 1) := by decide +kernel
theorem dX11_points_5 : decode cX11_points 5 = .ok (.invokevirtual 152, 3) := by decide +kernel
theorem dX11_points_8 : decode cX11_points 8 = .ok (.ifCond .ne 5, 3) := by decide +kernel
theorem dX11_points_11 : decode cX11_points 11 = .ok (.iconst (-1), 1) := by decide +kernel
theorem dX11_points_12 : decode cX11_points 12 = .ok (.ireturn, 1) := by decide +kernel
theorem dX11_points_13 : decode cX11_points 13 = .ok (.aload_n 0, 1) := by decide +kernel
theorem dX11_points_14 : decode cX11_points 14 = .ok (.invokevirtual 244, 3) := by decide +kernel
theorem dX11_points_17 : decode cX11_points 17 = .ok (.ifCond .eq 6, 3) := by decide +kernel
theorem dX11_points_20 : decode cX11_points 20 = .ok (.bipush (-6), 2) := by decide +kernel
theorem dX11_points_22 : decode cX11_points 22 = .ok (.ireturn, 1) := by decide +kernel
theorem dX11_points_23 : decode cX11_points 23 = .ok (.aload_n 0, 1) := by decide +kernel
theorem dX11_points_24 : decode cX11_points 24 = .ok (.getfield 19, 3) := by decide +kernel
theorem dX11_points_27 : decode cX11_points 27 = .ok (.iload_n 1, 1) := by decide +kernel
theorem dX11_points_28 : decode cX11_points 28 = .ok (.invokevirtual 160, 3) := by decide +kernel
theorem dX11_points_31 : decode cX11_points 31 = .ok (.ifCond .ne 9, 3) := by decide +kernel
theorem dX11_points_34 : decode cX11_points 34 = .ok (.aload_n 0, 1) := by decide +kernel
theorem dX11_points_35 : decode cX11_points 35 = .ok (.iconst 3, 1) := by decide +kernel
theorem dX11_points_36 : decode cX11_points 36 = .ok (.invokevirtual 163, 3) := by decide +kernel
theorem dX11_points_39 : decode cX11_points 39 = .ok (.ireturn, 1) := by decide +kernel
theorem dX11_points_40 : decode cX11_points 40 = .ok (.iconst 0, 1) := by decide +kernel
theorem dX11_points_41 : decode cX11_points 41 = .ok (.istore_n 2, 1) := by decide +kernel
theorem dX11_points_42 : decode cX11_points 42 = .ok (.iconst 0, 1) := by decide +kernel
theorem dX11_points_43 : decode cX11_points 43 = .ok (.istore_n 3, 1) := by decide +kernel
theorem dX11_points_44 : decode cX11_points 44 = .ok (.iload_n 3, 1) := by decide +kernel
theorem dX11_points_45 : decode cX11_points 45 = .ok (.aload_n 0, 1) := by decide +kernel
theorem dX11_points_46 : decode cX11_points 46 = .ok (.getfield 54, 3) := by decide +kernel
theorem dX11_points_49 : decode cX11_points 49 = .ok (.getfield 248, 3) := by decide +kernel
theorem dX11_points_52 : decode cX11_points 52 = .ok (.if_icmp .ge 24, 3) := by decide +kernel
theorem dX11_points_55 : decode cX11_points 55 = .ok (.aload_n 0, 1) := by decide +kernel
theorem dX11_points_56 : decode cX11_points 56 = .ok (.getfield 54, 3) := by decide +kernel
theorem dX11_points_59 : decode cX11_points 59 = .ok (.iload_n 3, 1) := by decide +kernel
theorem dX11_points_60 : decode cX11_points 60 = .ok (.invokevirtual 253, 3) := by decide +kernel
theorem dX11_points_63 : decode cX11_points 63 = .ok (.iload_n 1, 1) := by decide +kernel
theorem dX11_points_64 : decode cX11_points 64 = .ok (.if_icmp .ne 6, 3) := by decide +kernel
theorem dX11_points_67 : decode cX11_points 67 = .ok (.iinc 2 1, 3) := by decide +kernel
theorem dX11_points_70 : decode cX11_points 70 = .ok (.iinc 3 1, 3) := by decide +kernel
theorem dX11_points_73 : decode cX11_points 73 = .ok (.goto (-29), 3) := by decide +kernel
theorem dX11_points_76 : decode cX11_points 76 = .ok (.iload_n 2, 1) := by decide +kernel
theorem dX11_points_77 : decode cX11_points 77 = .ok (.ireturn, 1) := by decide +kernel
theorem dX11_needs_0 : decode cX11_needs 0 = .ok (.aload_n 0, 1) := by decide +kernel
theorem dX11_needs_1 : decode cX11_needs 1 = .ok (.getfield 19, 3) := by decide +kernel
theorem dX11_needs_4 : decode cX11_needs 4 = .ok (.iload_n 1, 1) := by decide +kernel
theorem dX11_needs_5 : decode cX11_needs 5 = .ok (.invokevirtual 152, 3) := by decide +kernel
theorem dX11_needs_8 : decode cX11_needs 8 = .ok (.ifCond .eq 23, 3) := by decide +kernel
theorem dX11_needs_11 : decode cX11_needs 11 = .ok (.aload_n 0, 1) := by decide +kernel
theorem dX11_needs_12 : decode cX11_needs 12 = .ok (.getfield 19, 3) := by decide +kernel
theorem dX11_needs_15 : decode cX11_needs 15 = .ok (.iload_n 2, 1) := by decide +kernel
theorem dX11_needs_16 : decode cX11_needs 16 = .ok (.invokevirtual 152, 3) := by decide +kernel
theorem dX11_needs_19 : decode cX11_needs 19 = .ok (.ifCond .eq 12, 3) := by decide +kernel
theorem dX11_needs_22 : decode cX11_needs 22 = .ok (.iload_n 3, 1) := by decide +kernel
theorem dX11_needs_23 : decode cX11_needs 23 = .ok (.iconst 0, 1) := by decide +kernel
theorem dX11_needs_24 : decode cX11_needs 24 = .ok (.iconst 2, 1) := by decide +kernel
theorem dX11_needs_25 : decode cX11_needs 25 = .ok (.invokestatic 113, 3) := by decide +kernel
theorem dX11_needs_28 : decode cX11_needs 28 = .ok (.ifCond .ne 5, 3) := by decide +kernel
theorem dX11_needs_31 : decode cX11_needs 31 = .ok (.iconst (-1), 1) := by decide +kernel
theorem dX11_needs_32 : decode cX11_needs 32 = .ok (.ireturn, 1) := by decide +kernel
theorem dX11_needs_33 : decode cX11_needs 33 = .ok (.aload_n 0, 1) := by decide +kernel
theorem dX11_needs_34 : decode cX11_needs 34 = .ok (.invokevirtual 244, 3) := by decide +kernel
theorem dX11_needs_37 : decode cX11_needs 37 = .ok (.ifCond .eq 6, 3) := by decide +kernel
theorem dX11_needs_40 : decode cX11_needs 40 = .ok (.bipush (-6), 2) := by decide +kernel
theorem dX11_needs_42 : decode cX11_needs 42 = .ok (.ireturn, 1) := by decide +kernel
theorem dX11_needs_43 : decode cX11_needs 43 = .ok (.aload_n 0, 1) := by decide +kernel
theorem dX11_needs_44 : decode cX11_needs 44 = .ok (.getfield 19, 3) := by decide +kernel
theorem dX11_needs_47 : decode cX11_needs 47 = .ok (.iload_n 1, 1) := by decide +kernel
theorem dX11_needs_48 : decode cX11_needs 48 = .ok (.invokevirtual 160, 3) := by decide +kernel
theorem dX11_needs_51 : decode cX11_needs 51 = .ok (.ifCond .eq 14, 3) := by decide +kernel
theorem dX11_needs_54 : decode cX11_needs 54 = .ok (.aload_n 0, 1) := by decide +kernel
theorem dX11_needs_55 : decode cX11_needs 55 = .ok (.getfield 19, 3) := by decide +kernel
theorem dX11_needs_58 : decode cX11_needs 58 = .ok (.iload_n 2, 1) := by decide +kernel
theorem dX11_needs_59 : decode cX11_needs 59 = .ok (.invokevirtual 160, 3) := by decide +kernel
theorem dX11_needs_62 : decode cX11_needs 62 = .ok (.ifCond .ne 9, 3) := by decide +kernel
theorem dX11_needs_65 : decode cX11_needs 65 = .ok (.aload_n 0, 1) := by decide +kernel
theorem dX11_needs_66 : decode cX11_needs 66 = .ok (.iconst 3, 1) := by decide +kernel
theorem dX11_needs_67 : decode cX11_needs 67 = .ok (.invokevirtual 163, 3) := by decide +kernel
theorem dX11_needs_70 : decode cX11_needs 70 = .ok (.ireturn, 1) := by decide +kernel
theorem dX11_needs_71 : decode cX11_needs 71 = .ok (.aload_n 0, 1) := by decide +kernel
theorem dX11_needs_72 : decode cX11_needs 72 = .ok (.getfield 72, 3) := by decide +kernel
theorem dX11_needs_75 : decode cX11_needs 75 = .ok (.invokevirtual 265, 3) := by decide +kernel
theorem dX11_needs_78 : decode cX11_needs 78 = .ok (.aload_n 0, 1) := by decide +kernel
theorem dX11_needs_79 : decode cX11_needs 79 = .ok (.getfield 72, 3) := by decide +kernel
theorem dX11_needs_82 : decode cX11_needs 82 = .ok (.getfield 268, 3) := by decide +kernel
theorem dX11_needs_85 : decode cX11_needs 85 = .ok (.aload_n 0, 1) := by decide +kernel
theorem dX11_needs_86 : decode cX11_needs 86 = .ok (.getfield 19, 3) := by decide +kernel
theorem dX11_needs_89 : decode cX11_needs 89 = .ok (.iload_n 1, 1) := by decide +kernel
theorem dX11_needs_90 : decode cX11_needs 90 = .ok (.iload_n 2, 1) := by decide +kernel
theorem dX11_needs_91 : decode cX11_needs 91 = .ok (.invokevirtual 271, 3) := by decide +kernel
theorem dX11_needs_94 : decode cX11_needs 94 = .ok (.iconst 3, 1) := by decide +kernel
theorem dX11_needs_95 : decode cX11_needs 95 = .ok (.imul, 1) := by decide +kernel
theorem dX11_needs_96 : decode cX11_needs 96 = .ok (.iload_n 3, 1) := by decide +kernel
theorem dX11_needs_97 : decode cX11_needs 97 = .ok (.iadd, 1) := by decide +kernel
theorem dX11_needs_98 : decode cX11_needs 98 = .ok (.iaload, 1) := by decide +kernel
theorem dX11_needs_99 : decode cX11_needs 99 = .ok (.ireturn, 1) := by decide +kernel
theorem dX11_carried_0 : decode cX11_carried 0 = .ok (.iload_n 1, 1) := by decide +kernel
theorem dX11_carried_1 : decode cX11_carried 1 = .ok (.bipush (-9), 2) := by decide +kernel
theorem dX11_carried_3 : decode cX11_carried 3 = .ok (.if_icmp .eq 14, 3) := by decide +kernel
theorem dX11_carried_6 : decode cX11_carried 6 = .ok (.iload_n 1, 1) := by decide +kernel
theorem dX11_carried_7 : decode cX11_carried 7 = .ok (.iconst 0, 1) := by decide +kernel
theorem dX11_carried_8 : decode cX11_carried 8 = .ok (.iconst 3, 1) := by decide +kernel
theorem dX11_carried_9 : decode cX11_carried 9 = .ok (.invokestatic 113, 3) := by decide +kernel
theorem dX11_carried_12 : decode cX11_carried 12 = .ok (.ifCond .ne 5, 3) := by decide +kernel
theorem dX11_carried_15 : decode cX11_carried 15 = .ok (.iconst (-1), 1) := by decide +kernel
theorem dX11_carried_16 : decode cX11_carried 16 = .ok (.ireturn, 1) := by decide +kernel
theorem dX11_carried_17 : decode cX11_carried 17 = .ok (.aload_n 0, 1) := by decide +kernel
theorem dX11_carried_18 : decode cX11_carried 18 = .ok (.invokevirtual 244, 3) := by decide +kernel
theorem dX11_carried_21 : decode cX11_carried 21 = .ok (.ifCond .eq 6, 3) := by decide +kernel
theorem dX11_carried_24 : decode cX11_carried 24 = .ok (.bipush (-6), 2) := by decide +kernel
theorem dX11_carried_26 : decode cX11_carried 26 = .ok (.ireturn, 1) := by decide +kernel
theorem dX11_carried_27 : decode cX11_carried 27 = .ok (.aload_n 0, 1) := by decide +kernel
theorem dX11_carried_28 : decode cX11_carried 28 = .ok (.getfield 72, 3) := by decide +kernel
theorem dX11_carried_31 : decode cX11_carried 31 = .ok (.invokevirtual 265, 3) := by decide +kernel
theorem dX11_carried_34 : decode cX11_carried 34 = .ok (.aload_n 0, 1) := by decide +kernel
theorem dX11_carried_35 : decode cX11_carried 35 = .ok (.getfield 72, 3) := by decide +kernel
theorem dX11_carried_38 : decode cX11_carried 38 = .ok (.getfield 274, 3) := by decide +kernel
theorem dX11_carried_41 : decode cX11_carried 41 = .ok (.iload_n 1, 1) := by decide +kernel
theorem dX11_carried_42 : decode cX11_carried 42 = .ok (.bipush (-9), 2) := by decide +kernel
theorem dX11_carried_44 : decode cX11_carried 44 = .ok (.if_icmp .ne 7, 3) := by decide +kernel
theorem dX11_carried_47 : decode cX11_carried 47 = .ok (.iconst 4, 1) := by decide +kernel
theorem dX11_carried_48 : decode cX11_carried 48 = .ok (.goto 4, 3) := by decide +kernel
theorem dX11_carried_51 : decode cX11_carried 51 = .ok (.iload_n 1, 1) := by decide +kernel
theorem dX11_carried_52 : decode cX11_carried 52 = .ok (.iaload, 1) := by decide +kernel
theorem dX11_carried_53 : decode cX11_carried 53 = .ok (.ireturn, 1) := by decide +kernel
theorem dX11_distance_0 : decode cX11_distance 0 = .ok (.aload_n 0, 1) := by decide +kernel
theorem dX11_distance_1 : decode cX11_distance 1 = .ok (.getfield 19, 3) := by decide +kernel
theorem dX11_distance_4 : decode cX11_distance 4 = .ok (.iload_n 1, 1) := by decide +kernel
theorem dX11_distance_5 : decode cX11_distance 5 = .ok (.invokevirtual 152, 3) := by decide +kernel
theorem dX11_distance_8 : decode cX11_distance 8 = .ok (.ifCond .eq 23, 3) := by decide +kernel
theorem dX11_distance_11 : decode cX11_distance 11 = .ok (.aload_n 0, 1) := by decide +kernel
theorem dX11_distance_12 : decode cX11_distance 12 = .ok (.getfield 19, 3) := by decide +kernel
theorem dX11_distance_15 : decode cX11_distance 15 = .ok (.iload_n 2, 1) := by decide +kernel
theorem dX11_distance_16 : decode cX11_distance 16 = .ok (.invokevirtual 152, 3) := by decide +kernel
theorem dX11_distance_19 : decode cX11_distance 19 = .ok (.ifCond .eq 12, 3) := by decide +kernel
theorem dX11_distance_22 : decode cX11_distance 22 = .ok (.iload_n 3, 1) := by decide +kernel
theorem dX11_distance_23 : decode cX11_distance 23 = .ok (.iconst 0, 1) := by decide +kernel
theorem dX11_distance_24 : decode cX11_distance 24 = .ok (.iconst 3, 1) := by decide +kernel
theorem dX11_distance_25 : decode cX11_distance 25 = .ok (.invokestatic 113, 3) := by decide +kernel
theorem dX11_distance_28 : decode cX11_distance 28 = .ok (.ifCond .ne 5, 3) := by decide +kernel
theorem dX11_distance_31 : decode cX11_distance 31 = .ok (.iconst (-1), 1) := by decide +kernel
theorem dX11_distance_32 : decode cX11_distance 32 = .ok (.ireturn, 1) := by decide +kernel
theorem dX11_distance_33 : decode cX11_distance 33 = .ok (.aload_n 0, 1) := by decide +kernel
theorem dX11_distance_34 : decode cX11_distance 34 = .ok (.invokevirtual 244, 3) := by decide +kernel
theorem dX11_distance_37 : decode cX11_distance 37 = .ok (.ifCond .eq 6, 3) := by decide +kernel
theorem dX11_distance_40 : decode cX11_distance 40 = .ok (.bipush (-6), 2) := by decide +kernel
theorem dX11_distance_42 : decode cX11_distance 42 = .ok (.ireturn, 1) := by decide +kernel
theorem dX11_distance_43 : decode cX11_distance 43 = .ok (.aload_n 0, 1) := by decide +kernel
theorem dX11_distance_44 : decode cX11_distance 44 = .ok (.getfield 19, 3) := by decide +kernel
theorem dX11_distance_47 : decode cX11_distance 47 = .ok (.iload_n 1, 1) := by decide +kernel
theorem dX11_distance_48 : decode cX11_distance 48 = .ok (.invokevirtual 160, 3) := by decide +kernel
theorem dX11_distance_51 : decode cX11_distance 51 = .ok (.ifCond .eq 14, 3) := by decide +kernel
theorem dX11_distance_54 : decode cX11_distance 54 = .ok (.aload_n 0, 1) := by decide +kernel
theorem dX11_distance_55 : decode cX11_distance 55 = .ok (.getfield 19, 3) := by decide +kernel
theorem dX11_distance_58 : decode cX11_distance 58 = .ok (.iload_n 2, 1) := by decide +kernel
theorem dX11_distance_59 : decode cX11_distance 59 = .ok (.invokevirtual 160, 3) := by decide +kernel
theorem dX11_distance_62 : decode cX11_distance 62 = .ok (.ifCond .ne 9, 3) := by decide +kernel
theorem dX11_distance_65 : decode cX11_distance 65 = .ok (.aload_n 0, 1) := by decide +kernel
theorem dX11_distance_66 : decode cX11_distance 66 = .ok (.iconst 3, 1) := by decide +kernel
theorem dX11_distance_67 : decode cX11_distance 67 = .ok (.invokevirtual 163, 3) := by decide +kernel
theorem dX11_distance_70 : decode cX11_distance 70 = .ok (.ireturn, 1) := by decide +kernel
theorem dX11_distance_71 : decode cX11_distance 71 = .ok (.iload_n 3, 1) := by decide +kernel
theorem dX11_distance_72 : decode cX11_distance 72 = .ok (.aload_n 0, 1) := by decide +kernel
theorem dX11_distance_73 : decode cX11_distance 73 = .ok (.getfield 19, 3) := by decide +kernel
theorem dX11_distance_76 : decode cX11_distance 76 = .ok (.iload_n 1, 1) := by decide +kernel
theorem dX11_distance_77 : decode cX11_distance 77 = .ok (.iload_n 2, 1) := by decide +kernel
theorem dX11_distance_78 : decode cX11_distance 78 = .ok (.invokevirtual 277, 3) := by decide +kernel
theorem dX11_distance_81 : decode cX11_distance 81 = .ok (.if_icmp .lt 5, 3) := by decide +kernel
theorem dX11_distance_84 : decode cX11_distance 84 = .ok (.iconst (-1), 1) := by decide +kernel
theorem dX11_distance_85 : decode cX11_distance 85 = .ok (.ireturn, 1) := by decide +kernel
theorem dX11_distance_86 : decode cX11_distance 86 = .ok (.aload_n 0, 1) := by decide +kernel
theorem dX11_distance_87 : decode cX11_distance 87 = .ok (.getfield 72, 3) := by decide +kernel
theorem dX11_distance_90 : decode cX11_distance 90 = .ok (.invokevirtual 265, 3) := by decide +kernel
theorem dX11_distance_93 : decode cX11_distance 93 = .ok (.aload_n 0, 1) := by decide +kernel
theorem dX11_distance_94 : decode cX11_distance 94 = .ok (.getfield 19, 3) := by decide +kernel
theorem dX11_distance_97 : decode cX11_distance 97 = .ok (.iload_n 1, 1) := by decide +kernel
theorem dX11_distance_98 : decode cX11_distance 98 = .ok (.iload_n 2, 1) := by decide +kernel
theorem dX11_distance_99 : decode cX11_distance 99 = .ok (.invokevirtual 271, 3) := by decide +kernel
theorem dX11_distance_102 : decode cX11_distance 102 = .ok (.istore 5, 2) := by decide +kernel
theorem dX11_distance_104 : decode cX11_distance 104 = .ok (.aload_n 0, 1) := by decide +kernel
theorem dX11_distance_105 : decode cX11_distance 105 = .ok (.getfield 72, 3) := by decide +kernel
theorem dX11_distance_108 : decode cX11_distance 108 = .ok (.iload 5, 2) := by decide +kernel
theorem dX11_distance_110 : decode cX11_distance 110 = .ok (.invokevirtual 280, 3) := by decide +kernel
theorem dX11_distance_113 : decode cX11_distance 113 = .ok (.ifCond .ne 6, 3) := by decide +kernel
theorem dX11_distance_116 : decode cX11_distance 116 = .ok (.bipush (-9), 2) := by decide +kernel
theorem dX11_distance_118 : decode cX11_distance 118 = .ok (.ireturn, 1) := by decide +kernel
theorem dX11_distance_119 : decode cX11_distance 119 = .ok (.aload_n 0, 1) := by decide +kernel
theorem dX11_distance_120 : decode cX11_distance 120 = .ok (.iload 4, 2) := by decide +kernel
theorem dX11_distance_122 : decode cX11_distance 122 = .ok (.ifCond .eq 20, 3) := by decide +kernel
theorem dX11_distance_125 : decode cX11_distance 125 = .ok (.aload_n 0, 1) := by decide +kernel
theorem dX11_distance_126 : decode cX11_distance 126 = .ok (.getfield 72, 3) := by decide +kernel
theorem dX11_distance_129 : decode cX11_distance 129 = .ok (.getfield 283, 3) := by decide +kernel
theorem dX11_distance_132 : decode cX11_distance 132 = .ok (.iload 5, 2) := by decide +kernel
theorem dX11_distance_134 : decode cX11_distance 134 = .ok (.iconst 4, 1) := by decide +kernel
theorem dX11_distance_135 : decode cX11_distance 135 = .ok (.imul, 1) := by decide +kernel
theorem dX11_distance_136 : decode cX11_distance 136 = .ok (.iload_n 3, 1) := by decide +kernel
theorem dX11_distance_137 : decode cX11_distance 137 = .ok (.iadd, 1) := by decide +kernel
theorem dX11_distance_138 : decode cX11_distance 138 = .ok (.laload, 1) := by decide +kernel
theorem dX11_distance_139 : decode cX11_distance 139 = .ok (.goto 17, 3) := by decide +kernel
theorem dX11_distance_142 : decode cX11_distance 142 = .ok (.aload_n 0, 1) := by decide +kernel
theorem dX11_distance_143 : decode cX11_distance 143 = .ok (.getfield 72, 3) := by decide +kernel
theorem dX11_distance_146 : decode cX11_distance 146 = .ok (.getfield 286, 3) := by decide +kernel
theorem dX11_distance_149 : decode cX11_distance 149 = .ok (.iload 5, 2) := by decide +kernel
theorem dX11_distance_151 : decode cX11_distance 151 = .ok (.iconst 4, 1) := by decide +kernel
theorem dX11_distance_152 : decode cX11_distance 152 = .ok (.imul, 1) := by decide +kernel
theorem dX11_distance_153 : decode cX11_distance 153 = .ok (.iload_n 3, 1) := by decide +kernel
theorem dX11_distance_154 : decode cX11_distance 154 = .ok (.iadd, 1) := by decide +kernel
theorem dX11_distance_155 : decode cX11_distance 155 = .ok (.laload, 1) := by decide +kernel
theorem dX11_distance_156 : decode cX11_distance 156 = .ok (.putfield 92, 3) := by decide +kernel
theorem dX11_distance_159 : decode cX11_distance 159 = .ok (.iconst 1, 1) := by decide +kernel
theorem dX11_distance_160 : decode cX11_distance 160 = .ok (.ireturn, 1) := by decide +kernel
theorem dX11_free_0 : decode cX11_free 0 = .ok (.aload_n 0, 1) := by decide +kernel
theorem dX11_free_1 : decode cX11_free 1 = .ok (.getfield 19, 3) := by decide +kernel
theorem dX11_free_4 : decode cX11_free 4 = .ok (.iload_n 1, 1) := by decide +kernel
theorem dX11_free_5 : decode cX11_free 5 = .ok (.invokevirtual 152, 3) := by decide +kernel
theorem dX11_free_8 : decode cX11_free 8 = .ok (.ifCond .ne 5, 3) := by decide +kernel
theorem dX11_free_11 : decode cX11_free 11 = .ok (.iconst (-1), 1) := by decide +kernel
theorem dX11_free_12 : decode cX11_free 12 = .ok (.ireturn, 1) := by decide +kernel
theorem dX11_free_13 : decode cX11_free 13 = .ok (.aload_n 0, 1) := by decide +kernel
theorem dX11_free_14 : decode cX11_free 14 = .ok (.invokevirtual 244, 3) := by decide +kernel
theorem dX11_free_17 : decode cX11_free 17 = .ok (.ifCond .eq 6, 3) := by decide +kernel
theorem dX11_free_20 : decode cX11_free 20 = .ok (.bipush (-6), 2) := by decide +kernel
theorem dX11_free_22 : decode cX11_free 22 = .ok (.ireturn, 1) := by decide +kernel
theorem dX11_free_23 : decode cX11_free 23 = .ok (.aload_n 0, 1) := by decide +kernel
theorem dX11_free_24 : decode cX11_free 24 = .ok (.getfield 19, 3) := by decide +kernel
theorem dX11_free_27 : decode cX11_free 27 = .ok (.iload_n 1, 1) := by decide +kernel
theorem dX11_free_28 : decode cX11_free 28 = .ok (.invokevirtual 289, 3) := by decide +kernel
theorem dX11_free_31 : decode cX11_free 31 = .ok (.ifCond .ne 9, 3) := by decide +kernel
theorem dX11_free_34 : decode cX11_free 34 = .ok (.aload_n 0, 1) := by decide +kernel
theorem dX11_free_35 : decode cX11_free 35 = .ok (.iconst 3, 1) := by decide +kernel
theorem dX11_free_36 : decode cX11_free 36 = .ok (.invokevirtual 163, 3) := by decide +kernel
theorem dX11_free_39 : decode cX11_free 39 = .ok (.ireturn, 1) := by decide +kernel
theorem dX11_free_40 : decode cX11_free 40 = .ok (.aload_n 0, 1) := by decide +kernel
theorem dX11_free_41 : decode cX11_free 41 = .ok (.getfield 72, 3) := by decide +kernel
theorem dX11_free_44 : decode cX11_free 44 = .ok (.invokevirtual 265, 3) := by decide +kernel
theorem dX11_free_47 : decode cX11_free 47 = .ok (.aload_n 0, 1) := by decide +kernel
theorem dX11_free_48 : decode cX11_free 48 = .ok (.getfield 72, 3) := by decide +kernel
theorem dX11_free_51 : decode cX11_free 51 = .ok (.iload_n 1, 1) := by decide +kernel
theorem dX11_free_52 : decode cX11_free 52 = .ok (.invokevirtual 292, 3) := by decide +kernel
theorem dX11_free_55 : decode cX11_free 55 = .ok (.ifCond .eq 7, 3) := by decide +kernel
theorem dX11_free_58 : decode cX11_free 58 = .ok (.iconst 0, 1) := by decide +kernel
theorem dX11_free_59 : decode cX11_free 59 = .ok (.goto 4, 3) := by decide +kernel
theorem dX11_free_62 : decode cX11_free 62 = .ok (.iconst 1, 1) := by decide +kernel
theorem dX11_free_63 : decode cX11_free 63 = .ok (.ireturn, 1) := by decide +kernel
theorem dX11_swap_0 : decode cX11_swap 0 = .ok (.aload_n 0, 1) := by decide +kernel
theorem dX11_swap_1 : decode cX11_swap 1 = .ok (.getfield 19, 3) := by decide +kernel
theorem dX11_swap_4 : decode cX11_swap 4 = .ok (.iload_n 1, 1) := by decide +kernel
theorem dX11_swap_5 : decode cX11_swap 5 = .ok (.invokevirtual 152, 3) := by decide +kernel
theorem dX11_swap_8 : decode cX11_swap 8 = .ok (.ifCond .ne 5, 3) := by decide +kernel
theorem dX11_swap_11 : decode cX11_swap 11 = .ok (.iconst (-1), 1) := by decide +kernel
theorem dX11_swap_12 : decode cX11_swap 12 = .ok (.ireturn, 1) := by decide +kernel
theorem dX11_swap_13 : decode cX11_swap 13 = .ok (.aload_n 0, 1) := by decide +kernel
theorem dX11_swap_14 : decode cX11_swap 14 = .ok (.getfield 19, 3) := by decide +kernel
theorem dX11_swap_17 : decode cX11_swap 17 = .ok (.iload_n 1, 1) := by decide +kernel
theorem dX11_swap_18 : decode cX11_swap 18 = .ok (.invokevirtual 289, 3) := by decide +kernel
theorem dX11_swap_21 : decode cX11_swap 21 = .ok (.ifCond .ne 9, 3) := by decide +kernel
theorem dX11_swap_24 : decode cX11_swap 24 = .ok (.aload_n 0, 1) := by decide +kernel
theorem dX11_swap_25 : decode cX11_swap 25 = .ok (.iconst 3, 1) := by decide +kernel
theorem dX11_swap_26 : decode cX11_swap 26 = .ok (.invokevirtual 163, 3) := by decide +kernel
theorem dX11_swap_29 : decode cX11_swap 29 = .ok (.ireturn, 1) := by decide +kernel
theorem dX11_swap_30 : decode cX11_swap 30 = .ok (.iload_n 2, 1) := by decide +kernel
theorem dX11_swap_31 : decode cX11_swap 31 = .ok (.aload_n 0, 1) := by decide +kernel
theorem dX11_swap_32 : decode cX11_swap 32 = .ok (.getfield 19, 3) := by decide +kernel
theorem dX11_swap_35 : decode cX11_swap 35 = .ok (.getfield 166, 3) := by decide +kernel
theorem dX11_swap_38 : decode cX11_swap 38 = .ok (.iload_n 1, 1) := by decide +kernel
theorem dX11_swap_39 : decode cX11_swap 39 = .ok (.iaload, 1) := by decide +kernel
theorem dX11_swap_40 : decode cX11_swap 40 = .ok (.iconst 1, 1) := by decide +kernel
theorem dX11_swap_41 : decode cX11_swap 41 = .ok (.iadd, 1) := by decide +kernel
theorem dX11_swap_42 : decode cX11_swap 42 = .ok (.iconst 3, 1) := by decide +kernel
theorem dX11_swap_43 : decode cX11_swap 43 = .ok (.invokestatic 113, 3) := by decide +kernel
theorem dX11_swap_46 : decode cX11_swap 46 = .ok (.ifCond .ne 5, 3) := by decide +kernel
theorem dX11_swap_49 : decode cX11_swap 49 = .ok (.iconst (-1), 1) := by decide +kernel
theorem dX11_swap_50 : decode cX11_swap 50 = .ok (.ireturn, 1) := by decide +kernel
theorem dX11_swap_51 : decode cX11_swap 51 = .ok (.aload_n 0, 1) := by decide +kernel
theorem dX11_swap_52 : decode cX11_swap 52 = .ok (.getfield 45, 3) := by decide +kernel
theorem dX11_swap_55 : decode cX11_swap 55 = .ok (.invokevirtual 295, 3) := by decide +kernel
theorem dX11_swap_58 : decode cX11_swap 58 = .ok (.aload_n 0, 1) := by decide +kernel
theorem dX11_swap_59 : decode cX11_swap 59 = .ok (.getfield 45, 3) := by decide +kernel
theorem dX11_swap_62 : decode cX11_swap 62 = .ok (.iload_n 1, 1) := by decide +kernel
theorem dX11_swap_63 : decode cX11_swap 63 = .ok (.iload_n 2, 1) := by decide +kernel
theorem dX11_swap_64 : decode cX11_swap 64 = .ok (.invokevirtual 298, 3) := by decide +kernel
theorem dX11_swap_67 : decode cX11_swap 67 = .ok (.aload_n 0, 1) := by decide +kernel
theorem dX11_swap_68 : decode cX11_swap 68 = .ok (.invokevirtual 301, 3) := by decide +kernel
theorem dX11_swap_71 : decode cX11_swap 71 = .ok (.ireturn, 1) := by decide +kernel
theorem dX11_lean_0 : decode cX11_lean 0 = .ok (.aload_n 0, 1) := by decide +kernel
theorem dX11_lean_1 : decode cX11_lean 1 = .ok (.getfield 19, 3) := by decide +kernel
theorem dX11_lean_4 : decode cX11_lean 4 = .ok (.iload_n 1, 1) := by decide +kernel
theorem dX11_lean_5 : decode cX11_lean 5 = .ok (.invokevirtual 152, 3) := by decide +kernel
theorem dX11_lean_8 : decode cX11_lean 8 = .ok (.ifCond .eq 12, 3) := by decide +kernel
theorem dX11_lean_11 : decode cX11_lean 11 = .ok (.iload_n 2, 1) := by decide +kernel
theorem dX11_lean_12 : decode cX11_lean 12 = .ok (.iconst 0, 1) := by decide +kernel
theorem dX11_lean_13 : decode cX11_lean 13 = .ok (.iconst 3, 1) := by decide +kernel
theorem dX11_lean_14 : decode cX11_lean 14 = .ok (.invokestatic 113, 3) := by decide +kernel
theorem dX11_lean_17 : decode cX11_lean 17 = .ok (.ifCond .ne 5, 3) := by decide +kernel
theorem dX11_lean_20 : decode cX11_lean 20 = .ok (.iconst (-1), 1) := by decide +kernel
theorem dX11_lean_21 : decode cX11_lean 21 = .ok (.ireturn, 1) := by decide +kernel
theorem dX11_lean_22 : decode cX11_lean 22 = .ok (.iload_n 3, 1) := by decide +kernel
theorem dX11_lean_23 : decode cX11_lean 23 = .ok (.bipush (-20), 2) := by decide +kernel
theorem dX11_lean_25 : decode cX11_lean 25 = .ok (.bipush 20, 2) := by decide +kernel
theorem dX11_lean_27 : decode cX11_lean 27 = .ok (.invokestatic 113, 3) := by decide +kernel
theorem dX11_lean_30 : decode cX11_lean 30 = .ok (.ifCond .ne 5, 3) := by decide +kernel
theorem dX11_lean_33 : decode cX11_lean 33 = .ok (.iconst (-1), 1) := by decide +kernel
theorem dX11_lean_34 : decode cX11_lean 34 = .ok (.ireturn, 1) := by decide +kernel
theorem dX11_lean_35 : decode cX11_lean 35 = .ok (.aload_n 0, 1) := by decide +kernel
theorem dX11_lean_36 : decode cX11_lean 36 = .ok (.getfield 19, 3) := by decide +kernel
theorem dX11_lean_39 : decode cX11_lean 39 = .ok (.iload_n 1, 1) := by decide +kernel
theorem dX11_lean_40 : decode cX11_lean 40 = .ok (.invokevirtual 289, 3) := by decide +kernel
theorem dX11_lean_43 : decode cX11_lean 43 = .ok (.ifCond .ne 9, 3) := by decide +kernel
theorem dX11_lean_46 : decode cX11_lean 46 = .ok (.aload_n 0, 1) := by decide +kernel
theorem dX11_lean_47 : decode cX11_lean 47 = .ok (.iconst 3, 1) := by decide +kernel
theorem dX11_lean_48 : decode cX11_lean 48 = .ok (.invokevirtual 163, 3) := by decide +kernel
theorem dX11_lean_51 : decode cX11_lean 51 = .ok (.ireturn, 1) := by decide +kernel
theorem dX11_lean_52 : decode cX11_lean 52 = .ok (.iload_n 2, 1) := by decide +kernel
theorem dX11_lean_53 : decode cX11_lean 53 = .ok (.aload_n 0, 1) := by decide +kernel
theorem dX11_lean_54 : decode cX11_lean 54 = .ok (.getfield 19, 3) := by decide +kernel
theorem dX11_lean_57 : decode cX11_lean 57 = .ok (.getfield 166, 3) := by decide +kernel
theorem dX11_lean_60 : decode cX11_lean 60 = .ok (.iload_n 1, 1) := by decide +kernel
theorem dX11_lean_61 : decode cX11_lean 61 = .ok (.iaload, 1) := by decide +kernel
theorem dX11_lean_62 : decode cX11_lean 62 = .ok (.if_icmp .ne 5, 3) := by decide +kernel
theorem dX11_lean_65 : decode cX11_lean 65 = .ok (.iconst (-1), 1) := by decide +kernel
theorem dX11_lean_66 : decode cX11_lean 66 = .ok (.ireturn, 1) := by decide +kernel
theorem dX11_lean_67 : decode cX11_lean 67 = .ok (.aload_n 0, 1) := by decide +kernel
theorem dX11_lean_68 : decode cX11_lean 68 = .ok (.getfield 45, 3) := by decide +kernel
theorem dX11_lean_71 : decode cX11_lean 71 = .ok (.iload_n 1, 1) := by decide +kernel
theorem dX11_lean_72 : decode cX11_lean 72 = .ok (.iload_n 2, 1) := by decide +kernel
theorem dX11_lean_73 : decode cX11_lean 73 = .ok (.iload_n 3, 1) := by decide +kernel
theorem dX11_lean_74 : decode cX11_lean 74 = .ok (.invokevirtual 304, 3) := by decide +kernel
theorem dX11_lean_77 : decode cX11_lean 77 = .ok (.ifCond .ne 6, 3) := by decide +kernel
theorem dX11_lean_80 : decode cX11_lean 80 = .ok (.bipush (-6), 2) := by decide +kernel
theorem dX11_lean_82 : decode cX11_lean 82 = .ok (.ireturn, 1) := by decide +kernel
theorem dX11_lean_83 : decode cX11_lean 83 = .ok (.aload_n 0, 1) := by decide +kernel
theorem dX11_lean_84 : decode cX11_lean 84 = .ok (.getfield 45, 3) := by decide +kernel
theorem dX11_lean_87 : decode cX11_lean 87 = .ok (.invokevirtual 295, 3) := by decide +kernel
theorem dX11_lean_90 : decode cX11_lean 90 = .ok (.aload_n 0, 1) := by decide +kernel
theorem dX11_lean_91 : decode cX11_lean 91 = .ok (.getfield 45, 3) := by decide +kernel
theorem dX11_lean_94 : decode cX11_lean 94 = .ok (.iload_n 1, 1) := by decide +kernel
theorem dX11_lean_95 : decode cX11_lean 95 = .ok (.iload_n 2, 1) := by decide +kernel
theorem dX11_lean_96 : decode cX11_lean 96 = .ok (.iload_n 3, 1) := by decide +kernel
theorem dX11_lean_97 : decode cX11_lean 97 = .ok (.invokevirtual 307, 3) := by decide +kernel
theorem dX11_lean_100 : decode cX11_lean 100 = .ok (.aload_n 0, 1) := by decide +kernel
theorem dX11_lean_101 : decode cX11_lean 101 = .ok (.invokevirtual 301, 3) := by decide +kernel
theorem dX11_lean_104 : decode cX11_lean 104 = .ok (.ireturn, 1) := by decide +kernel
theorem dX11_back_0 : decode cX11_back 0 = .ok (.aload_n 0, 1) := by decide +kernel
theorem dX11_back_1 : decode cX11_back 1 = .ok (.getfield 19, 3) := by decide +kernel
theorem dX11_back_4 : decode cX11_back 4 = .ok (.iload_n 1, 1) := by decide +kernel
theorem dX11_back_5 : decode cX11_back 5 = .ok (.invokevirtual 152, 3) := by decide +kernel
theorem dX11_back_8 : decode cX11_back 8 = .ok (.ifCond .ne 5, 3) := by decide +kernel
theorem dX11_back_11 : decode cX11_back 11 = .ok (.iconst (-1), 1) := by decide +kernel
theorem dX11_back_12 : decode cX11_back 12 = .ok (.ireturn, 1) := by decide +kernel
theorem dX11_back_13 : decode cX11_back 13 = .ok (.aload_n 0, 1) := by decide +kernel
theorem dX11_back_14 : decode cX11_back 14 = .ok (.getfield 19, 3) := by decide +kernel
theorem dX11_back_17 : decode cX11_back 17 = .ok (.iload_n 1, 1) := by decide +kernel
theorem dX11_back_18 : decode cX11_back 18 = .ok (.invokevirtual 289, 3) := by decide +kernel
theorem dX11_back_21 : decode cX11_back 21 = .ok (.ifCond .ne 9, 3) := by decide +kernel
theorem dX11_back_24 : decode cX11_back 24 = .ok (.aload_n 0, 1) := by decide +kernel
theorem dX11_back_25 : decode cX11_back 25 = .ok (.iconst 3, 1) := by decide +kernel
theorem dX11_back_26 : decode cX11_back 26 = .ok (.invokevirtual 163, 3) := by decide +kernel
theorem dX11_back_29 : decode cX11_back 29 = .ok (.ireturn, 1) := by decide +kernel
theorem dX11_back_30 : decode cX11_back 30 = .ok (.aload_n 0, 1) := by decide +kernel
theorem dX11_back_31 : decode cX11_back 31 = .ok (.getfield 45, 3) := by decide +kernel
theorem dX11_back_34 : decode cX11_back 34 = .ok (.invokevirtual 295, 3) := by decide +kernel
theorem dX11_back_37 : decode cX11_back 37 = .ok (.aload_n 0, 1) := by decide +kernel
theorem dX11_back_38 : decode cX11_back 38 = .ok (.getfield 45, 3) := by decide +kernel
theorem dX11_back_41 : decode cX11_back 41 = .ok (.iload_n 1, 1) := by decide +kernel
theorem dX11_back_42 : decode cX11_back 42 = .ok (.invokevirtual 311, 3) := by decide +kernel
theorem dX11_back_45 : decode cX11_back 45 = .ok (.aload_n 0, 1) := by decide +kernel
theorem dX11_back_46 : decode cX11_back 46 = .ok (.invokevirtual 301, 3) := by decide +kernel
theorem dX11_back_49 : decode cX11_back 49 = .ok (.ireturn, 1) := by decide +kernel
theorem dX11_shift_0 : decode cX11_shift 0 = .ok (.aload_n 0, 1) := by decide +kernel
theorem dX11_shift_1 : decode cX11_shift 1 = .ok (.getfield 19, 3) := by decide +kernel
theorem dX11_shift_4 : decode cX11_shift 4 = .ok (.iload_n 1, 1) := by decide +kernel
theorem dX11_shift_5 : decode cX11_shift 5 = .ok (.invokevirtual 152, 3) := by decide +kernel
theorem dX11_shift_8 : decode cX11_shift 8 = .ok (.ifCond .eq 12, 3) := by decide +kernel
theorem dX11_shift_11 : decode cX11_shift 11 = .ok (.iload_n 2, 1) := by decide +kernel
theorem dX11_shift_12 : decode cX11_shift 12 = .ok (.iconst 0, 1) := by decide +kernel
theorem dX11_shift_13 : decode cX11_shift 13 = .ok (.iconst 3, 1) := by decide +kernel
theorem dX11_shift_14 : decode cX11_shift 14 = .ok (.invokestatic 113, 3) := by decide +kernel
theorem dX11_shift_17 : decode cX11_shift 17 = .ok (.ifCond .ne 5, 3) := by decide +kernel
theorem dX11_shift_20 : decode cX11_shift 20 = .ok (.iconst (-1), 1) := by decide +kernel
theorem dX11_shift_21 : decode cX11_shift 21 = .ok (.ireturn, 1) := by decide +kernel
theorem dX11_shift_22 : decode cX11_shift 22 = .ok (.iload_n 3, 1) := by decide +kernel
theorem dX11_shift_23 : decode cX11_shift 23 = .ok (.sipush (-400), 3) := by decide +kernel
theorem dX11_shift_26 : decode cX11_shift 26 = .ok (.sipush 400, 3) := by decide +kernel
theorem dX11_shift_29 : decode cX11_shift 29 = .ok (.invokestatic 113, 3) := by decide +kernel
theorem dX11_shift_32 : decode cX11_shift 32 = .ok (.ifCond .ne 5, 3) := by decide +kernel
theorem dX11_shift_35 : decode cX11_shift 35 = .ok (.iconst (-1), 1) := by decide +kernel
theorem dX11_shift_36 : decode cX11_shift 36 = .ok (.ireturn, 1) := by decide +kernel
theorem dX11_shift_37 : decode cX11_shift 37 = .ok (.aload_n 0, 1) := by decide +kernel
theorem dX11_shift_38 : decode cX11_shift 38 = .ok (.getfield 19, 3) := by decide +kernel
theorem dX11_shift_41 : decode cX11_shift 41 = .ok (.iload_n 1, 1) := by decide +kernel
theorem dX11_shift_42 : decode cX11_shift 42 = .ok (.invokevirtual 160, 3) := by decide +kernel
theorem dX11_shift_45 : decode cX11_shift 45 = .ok (.ifCond .ne 9, 3) := by decide +kernel
theorem dX11_shift_48 : decode cX11_shift 48 = .ok (.aload_n 0, 1) := by decide +kernel
theorem dX11_shift_49 : decode cX11_shift 49 = .ok (.iconst 3, 1) := by decide +kernel
theorem dX11_shift_50 : decode cX11_shift 50 = .ok (.invokevirtual 163, 3) := by decide +kernel
theorem dX11_shift_53 : decode cX11_shift 53 = .ok (.ireturn, 1) := by decide +kernel
theorem dX11_shift_54 : decode cX11_shift 54 = .ok (.aload_n 0, 1) := by decide +kernel
theorem dX11_shift_55 : decode cX11_shift 55 = .ok (.getfield 45, 3) := by decide +kernel
theorem dX11_shift_58 : decode cX11_shift 58 = .ok (.getfield 314, 3) := by decide +kernel
theorem dX11_shift_61 : decode cX11_shift 61 = .ok (.aload_n 0, 1) := by decide +kernel
theorem dX11_shift_62 : decode cX11_shift 62 = .ok (.getfield 19, 3) := by decide +kernel
theorem dX11_shift_65 : decode cX11_shift 65 = .ok (.getfield 169, 3) := by decide +kernel
theorem dX11_shift_68 : decode cX11_shift 68 = .ok (.iload_n 1, 1) := by decide +kernel
theorem dX11_shift_69 : decode cX11_shift 69 = .ok (.iaload, 1) := by decide +kernel
theorem dX11_shift_70 : decode cX11_shift 70 = .ok (.iload_n 2, 1) := by decide +kernel
theorem dX11_shift_71 : decode cX11_shift 71 = .ok (.invokevirtual 318, 3) := by decide +kernel
theorem dX11_shift_74 : decode cX11_shift 74 = .ok (.istore 4, 2) := by decide +kernel
theorem dX11_shift_76 : decode cX11_shift 76 = .ok (.iload 4, 2) := by decide +kernel
theorem dX11_shift_78 : decode cX11_shift 78 = .ok (.ifCond .ge 5, 3) := by decide +kernel
theorem dX11_shift_81 : decode cX11_shift 81 = .ok (.iconst (-1), 1) := by decide +kernel
theorem dX11_shift_82 : decode cX11_shift 82 = .ok (.ireturn, 1) := by decide +kernel
theorem dX11_shift_83 : decode cX11_shift 83 = .ok (.aload_n 0, 1) := by decide +kernel
theorem dX11_shift_84 : decode cX11_shift 84 = .ok (.getfield 45, 3) := by decide +kernel
theorem dX11_shift_87 : decode cX11_shift 87 = .ok (.getfield 314, 3) := by decide +kernel
theorem dX11_shift_90 : decode cX11_shift 90 = .ok (.getfield 323, 3) := by decide +kernel
theorem dX11_shift_93 : decode cX11_shift 93 = .ok (.iload 4, 2) := by decide +kernel
theorem dX11_shift_95 : decode cX11_shift 95 = .ok (.iaload, 1) := by decide +kernel
theorem dX11_shift_96 : decode cX11_shift 96 = .ok (.iload_n 3, 1) := by decide +kernel
theorem dX11_shift_97 : decode cX11_shift 97 = .ok (.iadd, 1) := by decide +kernel
theorem dX11_shift_98 : decode cX11_shift 98 = .ok (.istore 5, 2) := by decide +kernel
theorem dX11_shift_100 : decode cX11_shift 100 = .ok (.iload 5, 2) := by decide +kernel
theorem dX11_shift_102 : decode cX11_shift 102 = .ok (.invokestatic 326, 3) := by decide +kernel
theorem dX11_shift_105 : decode cX11_shift 105 = .ok (.ifCond .ne 6, 3) := by decide +kernel
theorem dX11_shift_108 : decode cX11_shift 108 = .ok (.bipush (-6), 2) := by decide +kernel
theorem dX11_shift_110 : decode cX11_shift 110 = .ok (.ireturn, 1) := by decide +kernel
theorem dX11_shift_111 : decode cX11_shift 111 = .ok (.aload_n 0, 1) := by decide +kernel
theorem dX11_shift_112 : decode cX11_shift 112 = .ok (.getfield 45, 3) := by decide +kernel
theorem dX11_shift_115 : decode cX11_shift 115 = .ok (.invokevirtual 295, 3) := by decide +kernel
theorem dX11_shift_118 : decode cX11_shift 118 = .ok (.aload_n 0, 1) := by decide +kernel
theorem dX11_shift_119 : decode cX11_shift 119 = .ok (.getfield 45, 3) := by decide +kernel
theorem dX11_shift_122 : decode cX11_shift 122 = .ok (.getfield 314, 3) := by decide +kernel
theorem dX11_shift_125 : decode cX11_shift 125 = .ok (.getfield 323, 3) := by decide +kernel
theorem dX11_shift_128 : decode cX11_shift 128 = .ok (.iload 4, 2) := by decide +kernel
theorem dX11_shift_130 : decode cX11_shift 130 = .ok (.iload 5, 2) := by decide +kernel
theorem dX11_shift_132 : decode cX11_shift 132 = .ok (.iastore, 1) := by decide +kernel
theorem dX11_shift_133 : decode cX11_shift 133 = .ok (.aload_n 0, 1) := by decide +kernel
theorem dX11_shift_134 : decode cX11_shift 134 = .ok (.invokevirtual 301, 3) := by decide +kernel
theorem dX11_shift_137 : decode cX11_shift 137 = .ok (.ireturn, 1) := by decide +kernel
theorem dX11_tile_0 : decode cX11_tile 0 = .ok (.aload_n 0, 1) := by decide +kernel
theorem dX11_tile_1 : decode cX11_tile 1 = .ok (.getfield 19, 3) := by decide +kernel
theorem dX11_tile_4 : decode cX11_tile 4 = .ok (.iload_n 1, 1) := by decide +kernel
theorem dX11_tile_5 : decode cX11_tile 5 = .ok (.invokevirtual 152, 3) := by decide +kernel
theorem dX11_tile_8 : decode cX11_tile 8 = .ok (.ifCond .eq 22, 3) := by decide +kernel
theorem dX11_tile_11 : decode cX11_tile 11 = .ok (.iload_n 2, 1) := by decide +kernel
theorem dX11_tile_12 : decode cX11_tile 12 = .ok (.iconst 1, 1) := by decide +kernel
theorem dX11_tile_13 : decode cX11_tile 13 = .ok (.iconst 4, 1) := by decide +kernel
theorem dX11_tile_14 : decode cX11_tile 14 = .ok (.invokestatic 113, 3) := by decide +kernel
theorem dX11_tile_17 : decode cX11_tile 17 = .ok (.ifCond .eq 13, 3) := by decide +kernel
theorem dX11_tile_20 : decode cX11_tile 20 = .ok (.iload_n 3, 1) := by decide +kernel
theorem dX11_tile_21 : decode cX11_tile 21 = .ok (.iconst 2, 1) := by decide +kernel
theorem dX11_tile_22 : decode cX11_tile 22 = .ok (.bipush 20, 2) := by decide +kernel
theorem dX11_tile_24 : decode cX11_tile 24 = .ok (.invokestatic 113, 3) := by decide +kernel
theorem dX11_tile_27 : decode cX11_tile 27 = .ok (.ifCond .ne 5, 3) := by decide +kernel
theorem dX11_tile_30 : decode cX11_tile 30 = .ok (.iconst (-1), 1) := by decide +kernel
theorem dX11_tile_31 : decode cX11_tile 31 = .ok (.ireturn, 1) := by decide +kernel
theorem dX11_tile_32 : decode cX11_tile 32 = .ok (.aload_n 0, 1) := by decide +kernel
theorem dX11_tile_33 : decode cX11_tile 33 = .ok (.getfield 19, 3) := by decide +kernel
theorem dX11_tile_36 : decode cX11_tile 36 = .ok (.iload_n 1, 1) := by decide +kernel
theorem dX11_tile_37 : decode cX11_tile 37 = .ok (.invokevirtual 289, 3) := by decide +kernel
theorem dX11_tile_40 : decode cX11_tile 40 = .ok (.ifCond .ne 9, 3) := by decide +kernel
theorem dX11_tile_43 : decode cX11_tile 43 = .ok (.aload_n 0, 1) := by decide +kernel
theorem dX11_tile_44 : decode cX11_tile 44 = .ok (.iconst 3, 1) := by decide +kernel
theorem dX11_tile_45 : decode cX11_tile 45 = .ok (.invokevirtual 163, 3) := by decide +kernel
theorem dX11_tile_48 : decode cX11_tile 48 = .ok (.ireturn, 1) := by decide +kernel
theorem dX11_tile_49 : decode cX11_tile 49 = .ok (.aload_n 0, 1) := by decide +kernel
theorem dX11_tile_50 : decode cX11_tile 50 = .ok (.getfield 45, 3) := by decide +kernel
theorem dX11_tile_53 : decode cX11_tile 53 = .ok (.iload_n 1, 1) := by decide +kernel
theorem dX11_tile_54 : decode cX11_tile 54 = .ok (.iload_n 2, 1) := by decide +kernel
theorem dX11_tile_55 : decode cX11_tile 55 = .ok (.iload_n 3, 1) := by decide +kernel
theorem dX11_tile_56 : decode cX11_tile 56 = .ok (.invokevirtual 329, 3) := by decide +kernel
theorem dX11_tile_59 : decode cX11_tile 59 = .ok (.ifCond .ne 6, 3) := by decide +kernel
theorem dX11_tile_62 : decode cX11_tile 62 = .ok (.bipush (-2), 2) := by decide +kernel
theorem dX11_tile_64 : decode cX11_tile 64 = .ok (.ireturn, 1) := by decide +kernel
theorem dX11_tile_65 : decode cX11_tile 65 = .ok (.aload_n 0, 1) := by decide +kernel
theorem dX11_tile_66 : decode cX11_tile 66 = .ok (.getfield 45, 3) := by decide +kernel
theorem dX11_tile_69 : decode cX11_tile 69 = .ok (.invokevirtual 295, 3) := by decide +kernel
theorem dX11_tile_72 : decode cX11_tile 72 = .ok (.aload_n 0, 1) := by decide +kernel
theorem dX11_tile_73 : decode cX11_tile 73 = .ok (.getfield 45, 3) := by decide +kernel
theorem dX11_tile_76 : decode cX11_tile 76 = .ok (.iload_n 1, 1) := by decide +kernel
theorem dX11_tile_77 : decode cX11_tile 77 = .ok (.iload_n 2, 1) := by decide +kernel
theorem dX11_tile_78 : decode cX11_tile 78 = .ok (.iload_n 3, 1) := by decide +kernel
theorem dX11_tile_79 : decode cX11_tile 79 = .ok (.invokevirtual 332, 3) := by decide +kernel
theorem dX11_tile_82 : decode cX11_tile 82 = .ok (.aload_n 0, 1) := by decide +kernel
theorem dX11_tile_83 : decode cX11_tile 83 = .ok (.invokevirtual 301, 3) := by decide +kernel
theorem dX11_tile_86 : decode cX11_tile 86 = .ok (.ireturn, 1) := by decide +kernel
theorem dX11_part_0 : decode cX11_part 0 = .ok (.aload_n 0, 1) := by decide +kernel
theorem dX11_part_1 : decode cX11_part 1 = .ok (.getfield 19, 3) := by decide +kernel
theorem dX11_part_4 : decode cX11_part 4 = .ok (.iload_n 1, 1) := by decide +kernel
theorem dX11_part_5 : decode cX11_part 5 = .ok (.invokevirtual 152, 3) := by decide +kernel
theorem dX11_part_8 : decode cX11_part 8 = .ok (.ifCond .ne 5, 3) := by decide +kernel
theorem dX11_part_11 : decode cX11_part 11 = .ok (.iconst (-1), 1) := by decide +kernel
theorem dX11_part_12 : decode cX11_part 12 = .ok (.ireturn, 1) := by decide +kernel
theorem dX11_part_13 : decode cX11_part 13 = .ok (.aload_n 0, 1) := by decide +kernel
theorem dX11_part_14 : decode cX11_part 14 = .ok (.getfield 19, 3) := by decide +kernel
theorem dX11_part_17 : decode cX11_part 17 = .ok (.iload_n 1, 1) := by decide +kernel
theorem dX11_part_18 : decode cX11_part 18 = .ok (.invokevirtual 289, 3) := by decide +kernel
theorem dX11_part_21 : decode cX11_part 21 = .ok (.ifCond .ne 9, 3) := by decide +kernel
theorem dX11_part_24 : decode cX11_part 24 = .ok (.aload_n 0, 1) := by decide +kernel
theorem dX11_part_25 : decode cX11_part 25 = .ok (.iconst 3, 1) := by decide +kernel
theorem dX11_part_26 : decode cX11_part 26 = .ok (.invokevirtual 163, 3) := by decide +kernel
theorem dX11_part_29 : decode cX11_part 29 = .ok (.ireturn, 1) := by decide +kernel
theorem dX11_part_30 : decode cX11_part 30 = .ok (.aload_n 0, 1) := by decide +kernel
theorem dX11_part_31 : decode cX11_part 31 = .ok (.getfield 45, 3) := by decide +kernel
theorem dX11_part_34 : decode cX11_part 34 = .ok (.iload_n 1, 1) := by decide +kernel
theorem dX11_part_35 : decode cX11_part 35 = .ok (.invokevirtual 335, 3) := by decide +kernel
theorem dX11_part_38 : decode cX11_part 38 = .ok (.ifCond .ne 6, 3) := by decide +kernel
theorem dX11_part_41 : decode cX11_part 41 = .ok (.bipush (-6), 2) := by decide +kernel
theorem dX11_part_43 : decode cX11_part 43 = .ok (.ireturn, 1) := by decide +kernel
theorem dX11_part_44 : decode cX11_part 44 = .ok (.aload_n 0, 1) := by decide +kernel
theorem dX11_part_45 : decode cX11_part 45 = .ok (.getfield 45, 3) := by decide +kernel
theorem dX11_part_48 : decode cX11_part 48 = .ok (.invokevirtual 295, 3) := by decide +kernel
theorem dX11_part_51 : decode cX11_part 51 = .ok (.aload_n 0, 1) := by decide +kernel
theorem dX11_part_52 : decode cX11_part 52 = .ok (.getfield 45, 3) := by decide +kernel
theorem dX11_part_55 : decode cX11_part 55 = .ok (.iload_n 1, 1) := by decide +kernel
theorem dX11_part_56 : decode cX11_part 56 = .ok (.invokevirtual 338, 3) := by decide +kernel
theorem dX11_part_59 : decode cX11_part 59 = .ok (.aload_n 0, 1) := by decide +kernel
theorem dX11_part_60 : decode cX11_part 60 = .ok (.invokevirtual 301, 3) := by decide +kernel
theorem dX11_part_63 : decode cX11_part 63 = .ok (.ireturn, 1) := by decide +kernel
theorem dX11_join_0 : decode cX11_join 0 = .ok (.aload_n 0, 1) := by decide +kernel
theorem dX11_join_1 : decode cX11_join 1 = .ok (.getfield 19, 3) := by decide +kernel
theorem dX11_join_4 : decode cX11_join 4 = .ok (.iload_n 1, 1) := by decide +kernel
theorem dX11_join_5 : decode cX11_join 5 = .ok (.invokevirtual 152, 3) := by decide +kernel
theorem dX11_join_8 : decode cX11_join 8 = .ok (.ifCond .eq 14, 3) := by decide +kernel
theorem dX11_join_11 : decode cX11_join 11 = .ok (.aload_n 0, 1) := by decide +kernel
theorem dX11_join_12 : decode cX11_join 12 = .ok (.getfield 19, 3) := by decide +kernel
theorem dX11_join_15 : decode cX11_join 15 = .ok (.iload_n 2, 1) := by decide +kernel
theorem dX11_join_16 : decode cX11_join 16 = .ok (.invokevirtual 152, 3) := by decide +kernel
theorem dX11_join_19 : decode cX11_join 19 = .ok (.ifCond .ne 5, 3) := by decide +kernel
theorem dX11_join_22 : decode cX11_join 22 = .ok (.iconst (-1), 1) := by decide +kernel
theorem dX11_join_23 : decode cX11_join 23 = .ok (.ireturn, 1) := by decide +kernel
theorem dX11_join_24 : decode cX11_join 24 = .ok (.aload_n 0, 1) := by decide +kernel
theorem dX11_join_25 : decode cX11_join 25 = .ok (.getfield 19, 3) := by decide +kernel
theorem dX11_join_28 : decode cX11_join 28 = .ok (.iload_n 1, 1) := by decide +kernel
theorem dX11_join_29 : decode cX11_join 29 = .ok (.invokevirtual 289, 3) := by decide +kernel
theorem dX11_join_32 : decode cX11_join 32 = .ok (.ifCond .eq 14, 3) := by decide +kernel
theorem dX11_join_35 : decode cX11_join 35 = .ok (.aload_n 0, 1) := by decide +kernel
theorem dX11_join_36 : decode cX11_join 36 = .ok (.getfield 19, 3) := by decide +kernel
theorem dX11_join_39 : decode cX11_join 39 = .ok (.iload_n 2, 1) := by decide +kernel
theorem dX11_join_40 : decode cX11_join 40 = .ok (.invokevirtual 289, 3) := by decide +kernel
theorem dX11_join_43 : decode cX11_join 43 = .ok (.ifCond .ne 9, 3) := by decide +kernel
theorem dX11_join_46 : decode cX11_join 46 = .ok (.aload_n 0, 1) := by decide +kernel
theorem dX11_join_47 : decode cX11_join 47 = .ok (.iconst 3, 1) := by decide +kernel
theorem dX11_join_48 : decode cX11_join 48 = .ok (.invokevirtual 163, 3) := by decide +kernel
theorem dX11_join_51 : decode cX11_join 51 = .ok (.ireturn, 1) := by decide +kernel
theorem dX11_join_52 : decode cX11_join 52 = .ok (.aload_n 0, 1) := by decide +kernel
theorem dX11_join_53 : decode cX11_join 53 = .ok (.getfield 19, 3) := by decide +kernel
theorem dX11_join_56 : decode cX11_join 56 = .ok (.getfield 341, 3) := by decide +kernel
theorem dX11_join_59 : decode cX11_join 59 = .ok (.iload_n 1, 1) := by decide +kernel
theorem dX11_join_60 : decode cX11_join 60 = .ok (.iaload, 1) := by decide +kernel
theorem dX11_join_61 : decode cX11_join 61 = .ok (.aload_n 0, 1) := by decide +kernel
theorem dX11_join_62 : decode cX11_join 62 = .ok (.getfield 19, 3) := by decide +kernel
theorem dX11_join_65 : decode cX11_join 65 = .ok (.getfield 341, 3) := by decide +kernel
theorem dX11_join_68 : decode cX11_join 68 = .ok (.iload_n 2, 1) := by decide +kernel
theorem dX11_join_69 : decode cX11_join 69 = .ok (.iaload, 1) := by decide +kernel
theorem dX11_join_70 : decode cX11_join 70 = .ok (.if_icmp .ne 8, 3) := by decide +kernel
theorem dX11_join_73 : decode cX11_join 73 = .ok (.iload_n 2, 1) := by decide +kernel
theorem dX11_join_74 : decode cX11_join 74 = .ok (.iload_n 1, 1) := by decide +kernel
theorem dX11_join_75 : decode cX11_join 75 = .ok (.if_icmp .gt 5, 3) := by decide +kernel
theorem dX11_join_78 : decode cX11_join 78 = .ok (.iconst (-1), 1) := by decide +kernel
theorem dX11_join_79 : decode cX11_join 79 = .ok (.ireturn, 1) := by decide +kernel
theorem dX11_join_80 : decode cX11_join 80 = .ok (.aload_n 0, 1) := by decide +kernel
theorem dX11_join_81 : decode cX11_join 81 = .ok (.getfield 19, 3) := by decide +kernel
theorem dX11_join_84 : decode cX11_join 84 = .ok (.iload_n 1, 1) := by decide +kernel
theorem dX11_join_85 : decode cX11_join 85 = .ok (.invokevirtual 344, 3) := by decide +kernel
theorem dX11_join_88 : decode cX11_join 88 = .ok (.istore_n 3, 1) := by decide +kernel
theorem dX11_join_89 : decode cX11_join 89 = .ok (.iload_n 3, 1) := by decide +kernel
theorem dX11_join_90 : decode cX11_join 90 = .ok (.ifCond .ge 5, 3) := by decide +kernel
theorem dX11_join_93 : decode cX11_join 93 = .ok (.iconst (-1), 1) := by decide +kernel
theorem dX11_join_94 : decode cX11_join 94 = .ok (.ireturn, 1) := by decide +kernel
theorem dX11_join_95 : decode cX11_join 95 = .ok (.aload_n 0, 1) := by decide +kernel
theorem dX11_join_96 : decode cX11_join 96 = .ok (.getfield 45, 3) := by decide +kernel
theorem dX11_join_99 : decode cX11_join 99 = .ok (.invokevirtual 295, 3) := by decide +kernel
theorem dX11_join_102 : decode cX11_join 102 = .ok (.aload_n 0, 1) := by decide +kernel
theorem dX11_join_103 : decode cX11_join 103 = .ok (.getfield 45, 3) := by decide +kernel
theorem dX11_join_106 : decode cX11_join 106 = .ok (.iload_n 3, 1) := by decide +kernel
theorem dX11_join_107 : decode cX11_join 107 = .ok (.iload_n 2, 1) := by decide +kernel
theorem dX11_join_108 : decode cX11_join 108 = .ok (.invokevirtual 347, 3) := by decide +kernel
theorem dX11_join_111 : decode cX11_join 111 = .ok (.aload_n 0, 1) := by decide +kernel
theorem dX11_join_112 : decode cX11_join 112 = .ok (.invokevirtual 301, 3) := by decide +kernel
theorem dX11_join_115 : decode cX11_join 115 = .ok (.ireturn, 1) := by decide +kernel
theorem dX11_undo_0 : decode cX11_undo 0 = .ok (.aload_n 0, 1) := by decide +kernel
theorem dX11_undo_1 : decode cX11_undo 1 = .ok (.getfield 45, 3) := by decide +kernel
theorem dX11_undo_4 : decode cX11_undo 4 = .ok (.getfield 350, 3) := by decide +kernel
theorem dX11_undo_7 : decode cX11_undo 7 = .ok (.ifCond .gt 6, 3) := by decide +kernel
theorem dX11_undo_10 : decode cX11_undo 10 = .ok (.bipush (-4), 2) := by decide +kernel
theorem dX11_undo_12 : decode cX11_undo 12 = .ok (.ireturn, 1) := by decide +kernel
theorem dX11_undo_13 : decode cX11_undo 13 = .ok (.aload_n 0, 1) := by decide +kernel
theorem dX11_undo_14 : decode cX11_undo 14 = .ok (.getfield 45, 3) := by decide +kernel
theorem dX11_undo_17 : decode cX11_undo 17 = .ok (.invokevirtual 353, 3) := by decide +kernel
theorem dX11_undo_20 : decode cX11_undo 20 = .ok (.aload_n 0, 1) := by decide +kernel
theorem dX11_undo_21 : decode cX11_undo 21 = .ok (.invokevirtual 356, 3) := by decide +kernel
theorem dX11_undo_24 : decode cX11_undo 24 = .ok (.aload_n 0, 1) := by decide +kernel
theorem dX11_undo_25 : decode cX11_undo 25 = .ok (.getfield 45, 3) := by decide +kernel
theorem dX11_undo_28 : decode cX11_undo 28 = .ok (.getfield 350, 3) := by decide +kernel
theorem dX11_undo_31 : decode cX11_undo 31 = .ok (.ireturn, 1) := by decide +kernel
theorem dX11_order_0 : decode cX11_order 0 = .ok (.aload_n 0, 1) := by decide +kernel
theorem dX11_order_1 : decode cX11_order 1 = .ok (.getfield 19, 3) := by decide +kernel
theorem dX11_order_4 : decode cX11_order 4 = .ok (.iload_n 1, 1) := by decide +kernel
theorem dX11_order_5 : decode cX11_order 5 = .ok (.invokevirtual 152, 3) := by decide +kernel
theorem dX11_order_8 : decode cX11_order 8 = .ok (.ifCond .eq 13, 3) := by decide +kernel
theorem dX11_order_11 : decode cX11_order 11 = .ok (.iload_n 3, 1) := by decide +kernel
theorem dX11_order_12 : decode cX11_order 12 = .ok (.iconst 0, 1) := by decide +kernel
theorem dX11_order_13 : decode cX11_order 13 = .ok (.bipush 6, 2) := by decide +kernel
theorem dX11_order_15 : decode cX11_order 15 = .ok (.invokestatic 113, 3) := by decide +kernel
theorem dX11_order_18 : decode cX11_order 18 = .ok (.ifCond .ne 5, 3) := by decide +kernel
theorem dX11_order_21 : decode cX11_order 21 = .ok (.iconst (-1), 1) := by decide +kernel
theorem dX11_order_22 : decode cX11_order 22 = .ok (.ireturn, 1) := by decide +kernel
theorem dX11_order_23 : decode cX11_order 23 = .ok (.aload_n 0, 1) := by decide +kernel
theorem dX11_order_24 : decode cX11_order 24 = .ok (.getfield 19, 3) := by decide +kernel
theorem dX11_order_27 : decode cX11_order 27 = .ok (.iload_n 1, 1) := by decide +kernel
theorem dX11_order_28 : decode cX11_order 28 = .ok (.invokevirtual 160, 3) := by decide +kernel
theorem dX11_order_31 : decode cX11_order 31 = .ok (.ifCond .ne 9, 3) := by decide +kernel
theorem dX11_order_34 : decode cX11_order 34 = .ok (.aload_n 0, 1) := by decide +kernel
theorem dX11_order_35 : decode cX11_order 35 = .ok (.iconst 3, 1) := by decide +kernel
theorem dX11_order_36 : decode cX11_order 36 = .ok (.invokevirtual 163, 3) := by decide +kernel
theorem dX11_order_39 : decode cX11_order 39 = .ok (.ireturn, 1) := by decide +kernel
theorem dX11_order_40 : decode cX11_order 40 = .ok (.aload_n 0, 1) := by decide +kernel
theorem dX11_order_41 : decode cX11_order 41 = .ok (.getfield 19, 3) := by decide +kernel
theorem dX11_order_44 : decode cX11_order 44 = .ok (.getfield 169, 3) := by decide +kernel
theorem dX11_order_47 : decode cX11_order 47 = .ok (.iload_n 1, 1) := by decide +kernel
theorem dX11_order_48 : decode cX11_order 48 = .ok (.iaload, 1) := by decide +kernel
theorem dX11_order_49 : decode cX11_order 49 = .ok (.istore 4, 2) := by decide +kernel
theorem dX11_order_51 : decode cX11_order 51 = .ok (.iload_n 2, 1) := by decide +kernel
theorem dX11_order_52 : decode cX11_order 52 = .ok (.iconst 0, 1) := by decide +kernel
theorem dX11_order_53 : decode cX11_order 53 = .ok (.aload_n 0, 1) := by decide +kernel
theorem dX11_order_54 : decode cX11_order 54 = .ok (.getfield 45, 3) := by decide +kernel
theorem dX11_order_57 : decode cX11_order 57 = .ok (.getfield 314, 3) := by decide +kernel
theorem dX11_order_60 : decode cX11_order 60 = .ok (.getfield 359, 3) := by decide +kernel
theorem dX11_order_63 : decode cX11_order 63 = .ok (.iload 4, 2) := by decide +kernel
theorem dX11_order_65 : decode cX11_order 65 = .ok (.iaload, 1) := by decide +kernel
theorem dX11_order_66 : decode cX11_order 66 = .ok (.iconst 1, 1) := by decide +kernel
theorem dX11_order_67 : decode cX11_order 67 = .ok (.isub, 1) := by decide +kernel
theorem dX11_order_68 : decode cX11_order 68 = .ok (.invokestatic 113, 3) := by decide +kernel
theorem dX11_order_71 : decode cX11_order 71 = .ok (.ifCond .ne 6, 3) := by decide +kernel
theorem dX11_order_74 : decode cX11_order 74 = .ok (.bipush (-9), 2) := by decide +kernel
theorem dX11_order_76 : decode cX11_order 76 = .ok (.ireturn, 1) := by decide +kernel
theorem dX11_order_77 : decode cX11_order 77 = .ok (.aload_n 0, 1) := by decide +kernel
theorem dX11_order_78 : decode cX11_order 78 = .ok (.getfield 45, 3) := by decide +kernel
theorem dX11_order_81 : decode cX11_order 81 = .ok (.getfield 314, 3) := by decide +kernel
theorem dX11_order_84 : decode cX11_order 84 = .ok (.getfield 323, 3) := by decide +kernel
theorem dX11_order_87 : decode cX11_order 87 = .ok (.aload_n 0, 1) := by decide +kernel
theorem dX11_order_88 : decode cX11_order 88 = .ok (.getfield 45, 3) := by decide +kernel
theorem dX11_order_91 : decode cX11_order 91 = .ok (.getfield 314, 3) := by decide +kernel
theorem dX11_order_94 : decode cX11_order 94 = .ok (.iload 4, 2) := by decide +kernel
theorem dX11_order_96 : decode cX11_order 96 = .ok (.iload_n 2, 1) := by decide +kernel
theorem dX11_order_97 : decode cX11_order 97 = .ok (.invokevirtual 362, 3) := by decide +kernel
theorem dX11_order_100 : decode cX11_order 100 = .ok (.iload_n 3, 1) := by decide +kernel
theorem dX11_order_101 : decode cX11_order 101 = .ok (.iadd, 1) := by decide +kernel
theorem dX11_order_102 : decode cX11_order 102 = .ok (.iaload, 1) := by decide +kernel
theorem dX11_order_103 : decode cX11_order 103 = .ok (.istore 5, 2) := by decide +kernel
theorem dX11_order_105 : decode cX11_order 105 = .ok (.iload_n 3, 1) := by decide +kernel
theorem dX11_order_106 : decode cX11_order 106 = .ok (.iconst 5, 1) := by decide +kernel
theorem dX11_order_107 : decode cX11_order 107 = .ok (.if_icmp .ge 12, 3) := by decide +kernel
theorem dX11_order_110 : decode cX11_order 110 = .ok (.ldc_w 365, 3) := by decide +kernel
theorem dX11_order_113 : decode cX11_order 113 = .ok (.iload 5, 2) := by decide +kernel
theorem dX11_order_115 : decode cX11_order 115 = .ok (.iadd, 1) := by decide +kernel
theorem dX11_order_116 : decode cX11_order 116 = .ok (.goto 5, 3) := by decide +kernel
theorem dX11_order_119 : decode cX11_order 119 = .ok (.iload 5, 2) := by decide +kernel
theorem dX11_order_121 : decode cX11_order 121 = .ok (.ireturn, 1) := by decide +kernel
theorem dX11_allowed_0 : decode cX11_allowed 0 = .ok (.aload_n 0, 1) := by decide +kernel
theorem dX11_allowed_1 : decode cX11_allowed 1 = .ok (.invokevirtual 244, 3) := by decide +kernel
theorem dX11_allowed_4 : decode cX11_allowed 4 = .ok (.ifCond .eq 6, 3) := by decide +kernel
theorem dX11_allowed_7 : decode cX11_allowed 7 = .ok (.bipush (-6), 2) := by decide +kernel
theorem dX11_allowed_9 : decode cX11_allowed 9 = .ok (.ireturn, 1) := by decide +kernel
theorem dX11_allowed_10 : decode cX11_allowed 10 = .ok (.aload_n 0, 1) := by decide +kernel
theorem dX11_allowed_11 : decode cX11_allowed 11 = .ok (.getfield 81, 3) := by decide +kernel
theorem dX11_allowed_14 : decode cX11_allowed 14 = .ok (.invokevirtual 366, 3) := by decide +kernel
theorem dX11_allowed_17 : decode cX11_allowed 17 = .ok (.ifCond .eq 7, 3) := by decide +kernel
theorem dX11_allowed_20 : decode cX11_allowed 20 = .ok (.iconst 1, 1) := by decide +kernel
theorem dX11_allowed_21 : decode cX11_allowed 21 = .ok (.goto 4, 3) := by decide +kernel
theorem dX11_allowed_24 : decode cX11_allowed 24 = .ok (.iconst 0, 1) := by decide +kernel
theorem dX11_allowed_25 : decode cX11_allowed 25 = .ok (.ireturn, 1) := by decide +kernel
theorem dX11_why_0 : decode cX11_why 0 = .ok (.iload_n 1, 1) := by decide +kernel
theorem dX11_why_1 : decode cX11_why 1 = .ok (.iconst 0, 1) := by decide +kernel
theorem dX11_why_2 : decode cX11_why 2 = .ok (.iconst 2, 1) := by decide +kernel
theorem dX11_why_3 : decode cX11_why 3 = .ok (.invokestatic 113, 3) := by decide +kernel
theorem dX11_why_6 : decode cX11_why 6 = .ok (.ifCond .ne 5, 3) := by decide +kernel
theorem dX11_why_9 : decode cX11_why 9 = .ok (.iconst (-1), 1) := by decide +kernel
theorem dX11_why_10 : decode cX11_why 10 = .ok (.ireturn, 1) := by decide +kernel
theorem dX11_why_11 : decode cX11_why 11 = .ok (.aload_n 0, 1) := by decide +kernel
theorem dX11_why_12 : decode cX11_why 12 = .ok (.invokevirtual 244, 3) := by decide +kernel
theorem dX11_why_15 : decode cX11_why 15 = .ok (.ifCond .eq 6, 3) := by decide +kernel
theorem dX11_why_18 : decode cX11_why 18 = .ok (.bipush (-6), 2) := by decide +kernel
theorem dX11_why_20 : decode cX11_why 20 = .ok (.ireturn, 1) := by decide +kernel
theorem dX11_why_21 : decode cX11_why 21 = .ok (.aload_n 0, 1) := by decide +kernel
theorem dX11_why_22 : decode cX11_why 22 = .ok (.getfield 81, 3) := by decide +kernel
theorem dX11_why_25 : decode cX11_why 25 = .ok (.invokevirtual 366, 3) := by decide +kernel
theorem dX11_why_28 : decode cX11_why 28 = .ok (.ifCond .eq 6, 3) := by decide +kernel
theorem dX11_why_31 : decode cX11_why 31 = .ok (.bipush (-9), 2) := by decide +kernel
theorem dX11_why_33 : decode cX11_why 33 = .ok (.ireturn, 1) := by decide +kernel
theorem dX11_why_34 : decode cX11_why 34 = .ok (.iload_n 1, 1) := by decide +kernel
theorem dX11_why_35 : decode cX11_why 35 = .ok (.iconst 2, 1) := by decide +kernel
theorem dX11_why_36 : decode cX11_why 36 = .ok (.if_icmp .ne 11, 3) := by decide +kernel
theorem dX11_why_39 : decode cX11_why 39 = .ok (.aload_n 0, 1) := by decide +kernel
theorem dX11_why_40 : decode cX11_why 40 = .ok (.getfield 81, 3) := by decide +kernel
theorem dX11_why_43 : decode cX11_why 43 = .ok (.getfield 369, 3) := by decide +kernel
theorem dX11_why_46 : decode cX11_why 46 = .ok (.ireturn, 1) := by decide +kernel
theorem dX11_why_47 : decode cX11_why 47 = .ok (.iload_n 1, 1) := by decide +kernel
theorem dX11_why_48 : decode cX11_why 48 = .ok (.ifCond .ne 13, 3) := by decide +kernel
theorem dX11_why_51 : decode cX11_why 51 = .ok (.aload_n 0, 1) := by decide +kernel
theorem dX11_why_52 : decode cX11_why 52 = .ok (.getfield 81, 3) := by decide +kernel
theorem dX11_why_55 : decode cX11_why 55 = .ok (.getfield 372, 3) := by decide +kernel
theorem dX11_why_58 : decode cX11_why 58 = .ok (.goto 10, 3) := by decide +kernel
theorem dX11_why_61 : decode cX11_why 61 = .ok (.aload_n 0, 1) := by decide +kernel
theorem dX11_why_62 : decode cX11_why 62 = .ok (.getfield 81, 3) := by decide +kernel
theorem dX11_why_65 : decode cX11_why 65 = .ok (.getfield 375, 3) := by decide +kernel
theorem dX11_why_68 : decode cX11_why 68 = .ok (.ireturn, 1) := by decide +kernel
theorem dX11_run_0 : decode cX11_run 0 = .ok (.aload_n 0, 1) := by decide +kernel
theorem dX11_run_1 : decode cX11_run 1 = .ok (.invokevirtual 244, 3) := by decide +kernel
theorem dX11_run_4 : decode cX11_run 4 = .ok (.ifCond .eq 6, 3) := by decide +kernel
theorem dX11_run_7 : decode cX11_run 7 = .ok (.bipush (-6), 2) := by decide +kernel
theorem dX11_run_9 : decode cX11_run 9 = .ok (.ireturn, 1) := by decide +kernel
theorem dX11_run_10 : decode cX11_run 10 = .ok (.aload_n 0, 1) := by decide +kernel
theorem dX11_run_11 : decode cX11_run 11 = .ok (.getfield 63, 3) := by decide +kernel
theorem dX11_run_14 : decode cX11_run 14 = .ok (.invokevirtual 378, 3) := by decide +kernel
theorem dX11_run_17 : decode cX11_run 17 = .ok (.iconst 0, 1) := by decide +kernel
theorem dX11_run_18 : decode cX11_run 18 = .ok (.istore_n 2, 1) := by decide +kernel
theorem dX11_run_19 : decode cX11_run 19 = .ok (.aload_n 0, 1) := by decide +kernel
theorem dX11_run_20 : decode cX11_run 20 = .ok (.iconst 0, 1) := by decide +kernel
theorem dX11_run_21 : decode cX11_run 21 = .ok (.putfield 103, 3) := by decide +kernel
theorem dX11_run_24 : decode cX11_run 24 = .ok (.aload_n 0, 1) := by decide +kernel
theorem dX11_run_25 : decode cX11_run 25 = .ok (.bipush (-9), 2) := by decide +kernel
theorem dX11_run_27 : decode cX11_run 27 = .ok (.putfield 106, 3) := by decide +kernel
theorem dX11_run_30 : decode cX11_run 30 = .ok (.iconst 0, 1) := by decide +kernel
theorem dX11_run_31 : decode cX11_run 31 = .ok (.istore_n 3, 1) := by decide +kernel
theorem dX11_run_32 : decode cX11_run 32 = .ok (.iload_n 3, 1) := by decide +kernel
theorem dX11_run_33 : decode cX11_run 33 = .ok (.aload_n 0, 1) := by decide +kernel
theorem dX11_run_34 : decode cX11_run 34 = .ok (.getfield 54, 3) := by decide +kernel
theorem dX11_run_37 : decode cX11_run 37 = .ok (.getfield 248, 3) := by decide +kernel
theorem dX11_run_40 : decode cX11_run 40 = .ok (.if_icmp .ge 51, 3) := by decide +kernel
theorem dX11_run_43 : decode cX11_run 43 = .ok (.iload_n 2, 1) := by decide +kernel
theorem dX11_run_44 : decode cX11_run 44 = .ok (.ifCond .ne 47, 3) := by decide +kernel
theorem dX11_run_47 : decode cX11_run 47 = .ok (.aload_n 0, 1) := by decide +kernel
theorem dX11_run_48 : decode cX11_run 48 = .ok (.iload_n 3, 1) := by decide +kernel
theorem dX11_run_49 : decode cX11_run 49 = .ok (.iload_n 1, 1) := by decide +kernel
theorem dX11_run_50 : decode cX11_run 50 = .ok (.invokevirtual 249, 3) := by decide +kernel
theorem dX11_run_53 : decode cX11_run 53 = .ok (.istore 4, 2) := by decide +kernel
theorem dX11_run_55 : decode cX11_run 55 = .ok (.aload_n 0, 1) := by decide +kernel
theorem dX11_run_56 : decode cX11_run 56 = .ok (.iload 4, 2) := by decide +kernel
theorem dX11_run_58 : decode cX11_run 58 = .ok (.invokevirtual 379, 3) := by decide +kernel
theorem dX11_run_61 : decode cX11_run 61 = .ok (.istore_n 2, 1) := by decide +kernel
theorem dX11_run_62 : decode cX11_run 62 = .ok (.iload_n 2, 1) := by decide +kernel
theorem dX11_run_63 : decode cX11_run 63 = .ok (.ifCond .ne 16, 3) := by decide +kernel
theorem dX11_run_66 : decode cX11_run 66 = .ok (.aload_n 0, 1) := by decide +kernel
theorem dX11_run_67 : decode cX11_run 67 = .ok (.dup, 1) := by decide +kernel
theorem dX11_run_68 : decode cX11_run 68 = .ok (.getfield 103, 3) := by decide +kernel
theorem dX11_run_71 : decode cX11_run 71 = .ok (.iconst 1, 1) := by decide +kernel
theorem dX11_run_72 : decode cX11_run 72 = .ok (.iadd, 1) := by decide +kernel
theorem dX11_run_73 : decode cX11_run 73 = .ok (.putfield 103, 3) := by decide +kernel
theorem dX11_run_76 : decode cX11_run 76 = .ok (.goto 9, 3) := by decide +kernel
theorem dX11_run_79 : decode cX11_run 79 = .ok (.aload_n 0, 1) := by decide +kernel
theorem dX11_run_80 : decode cX11_run 80 = .ok (.iload 4, 2) := by decide +kernel
theorem dX11_run_82 : decode cX11_run 82 = .ok (.invokevirtual 382, 3) := by decide +kernel
theorem dX11_run_85 : decode cX11_run 85 = .ok (.iinc 3 1, 3) := by decide +kernel
theorem dX11_run_88 : decode cX11_run 88 = .ok (.goto (-56), 3) := by decide +kernel
theorem dX11_run_91 : decode cX11_run 91 = .ok (.iload_n 2, 1) := by decide +kernel
theorem dX11_run_92 : decode cX11_run 92 = .ok (.ifCond .ne 10, 3) := by decide +kernel
theorem dX11_run_95 : decode cX11_run 95 = .ok (.aload_n 0, 1) := by decide +kernel
theorem dX11_run_96 : decode cX11_run 96 = .ok (.getfield 103, 3) := by decide +kernel
theorem dX11_run_99 : decode cX11_run 99 = .ok (.goto 8, 3) := by decide +kernel
theorem dX11_run_102 : decode cX11_run 102 = .ok (.aload_n 0, 1) := by decide +kernel
theorem dX11_run_103 : decode cX11_run 103 = .ok (.iload_n 2, 1) := by decide +kernel
theorem dX11_run_104 : decode cX11_run 104 = .ok (.invokevirtual 163, 3) := by decide +kernel
theorem dX11_run_107 : decode cX11_run 107 = .ok (.ireturn, 1) := by decide +kernel
theorem dX11_ended_0 : decode cX11_ended 0 = .ok (.iload_n 1, 1) := by decide +kernel
theorem dX11_ended_1 : decode cX11_ended 1 = .ok (.iconst 0, 1) := by decide +kernel
theorem dX11_ended_2 : decode cX11_ended 2 = .ok (.iconst 5, 1) := by decide +kernel
theorem dX11_ended_3 : decode cX11_ended 3 = .ok (.invokestatic 113, 3) := by decide +kernel
theorem dX11_ended_6 : decode cX11_ended 6 = .ok (.ifCond .ne 5, 3) := by decide +kernel
theorem dX11_ended_9 : decode cX11_ended 9 = .ok (.iconst (-1), 1) := by decide +kernel
theorem dX11_ended_10 : decode cX11_ended 10 = .ok (.ireturn, 1) := by decide +kernel
theorem dX11_ended_11 : decode cX11_ended 11 = .ok (.iload_n 1, 1) := by decide +kernel
theorem dX11_ended_12 : decode cX11_ended 12 = .ok (.ifCond .ne 8, 3) := by decide +kernel
theorem dX11_ended_15 : decode cX11_ended 15 = .ok (.aload_n 0, 1) := by decide +kernel
theorem dX11_ended_16 : decode cX11_ended 16 = .ok (.getfield 103, 3) := by decide +kernel
theorem dX11_ended_19 : decode cX11_ended 19 = .ok (.ireturn, 1) := by decide +kernel
theorem dX11_ended_20 : decode cX11_ended 20 = .ok (.iload_n 1, 1) := by decide +kernel
theorem dX11_ended_21 : decode cX11_ended 21 = .ok (.iconst 1, 1) := by decide +kernel
theorem dX11_ended_22 : decode cX11_ended 22 = .ok (.if_icmp .eq 12, 3) := by decide +kernel
theorem dX11_ended_25 : decode cX11_ended 25 = .ok (.aload_n 0, 1) := by decide +kernel
theorem dX11_ended_26 : decode cX11_ended 26 = .ok (.getfield 106, 3) := by decide +kernel
theorem dX11_ended_29 : decode cX11_ended 29 = .ok (.bipush (-9), 2) := by decide +kernel
theorem dX11_ended_31 : decode cX11_ended 31 = .ok (.if_icmp .ne 8, 3) := by decide +kernel
theorem dX11_ended_34 : decode cX11_ended 34 = .ok (.aload_n 0, 1) := by decide +kernel
theorem dX11_ended_35 : decode cX11_ended 35 = .ok (.getfield 106, 3) := by decide +kernel
theorem dX11_ended_38 : decode cX11_ended 38 = .ok (.ireturn, 1) := by decide +kernel
theorem dX11_ended_39 : decode cX11_ended 39 = .ok (.ldc2_w 256, 3) := by decide +kernel
theorem dX11_ended_42 : decode cX11_ended 42 = .ok (.aload_n 0, 1) := by decide +kernel
theorem dX11_ended_43 : decode cX11_ended 43 = .ok (.getfield 109, 3) := by decide +kernel
theorem dX11_ended_46 : decode cX11_ended 46 = .ok (.iload_n 1, 1) := by decide +kernel
theorem dX11_ended_47 : decode cX11_ended 47 = .ok (.iconst 2, 1) := by decide +kernel
theorem dX11_ended_48 : decode cX11_ended 48 = .ok (.isub, 1) := by decide +kernel
theorem dX11_ended_49 : decode cX11_ended 49 = .ok (.laload, 1) := by decide +kernel
theorem dX11_ended_50 : decode cX11_ended 50 = .ok (.ladd, 1) := by decide +kernel
theorem dX11_ended_51 : decode cX11_ended 51 = .ok (.l2i, 1) := by decide +kernel
theorem dX11_ended_52 : decode cX11_ended 52 = .ok (.ireturn, 1) := by decide +kernel
theorem dX11_fetched_0 : decode cX11_fetched 0 = .ok (.iload_n 1, 1) := by decide +kernel
theorem dX11_fetched_1 : decode cX11_fetched 1 = .ok (.iload_n 2, 1) := by decide +kernel
theorem dX11_fetched_2 : decode cX11_fetched 2 = .ok (.invokestatic 385, 3) := by decide +kernel
theorem dX11_fetched_5 : decode cX11_fetched 5 = .ok (.ifCond .ne 5, 3) := by decide +kernel
theorem dX11_fetched_8 : decode cX11_fetched 8 = .ok (.iconst (-1), 1) := by decide +kernel
theorem dX11_fetched_9 : decode cX11_fetched 9 = .ok (.ireturn, 1) := by decide +kernel
theorem dX11_fetched_10 : decode cX11_fetched 10 = .ok (.aload_n 0, 1) := by decide +kernel
theorem dX11_fetched_11 : decode cX11_fetched 11 = .ok (.invokevirtual 244, 3) := by decide +kernel
theorem dX11_fetched_14 : decode cX11_fetched 14 = .ok (.ifCond .eq 6, 3) := by decide +kernel
theorem dX11_fetched_17 : decode cX11_fetched 17 = .ok (.bipush (-6), 2) := by decide +kernel
theorem dX11_fetched_19 : decode cX11_fetched 19 = .ok (.ireturn, 1) := by decide +kernel
theorem dX11_fetched_20 : decode cX11_fetched 20 = .ok (.aload_n 0, 1) := by decide +kernel
theorem dX11_fetched_21 : decode cX11_fetched 21 = .ok (.iload_n 1, 1) := by decide +kernel
theorem dX11_fetched_22 : decode cX11_fetched 22 = .ok (.iload_n 2, 1) := by decide +kernel
theorem dX11_fetched_23 : decode cX11_fetched 23 = .ok (.invokevirtual 388, 3) := by decide +kernel
theorem dX11_fetched_26 : decode cX11_fetched 26 = .ok (.ireturn, 1) := by decide +kernel
theorem dX11_best_0 : decode cX11_best 0 = .ok (.aload_n 0, 1) := by decide +kernel
theorem dX11_best_1 : decode cX11_best 1 = .ok (.getfield 19, 3) := by decide +kernel
theorem dX11_best_4 : decode cX11_best 4 = .ok (.iload_n 1, 1) := by decide +kernel
theorem dX11_best_5 : decode cX11_best 5 = .ok (.invokevirtual 152, 3) := by decide +kernel
theorem dX11_best_8 : decode cX11_best 8 = .ok (.ifCond .eq 11, 3) := by decide +kernel
theorem dX11_best_11 : decode cX11_best 11 = .ok (.iload_n 2, 1) := by decide +kernel
theorem dX11_best_12 : decode cX11_best 12 = .ok (.iload_n 3, 1) := by decide +kernel
theorem dX11_best_13 : decode cX11_best 13 = .ok (.invokestatic 385, 3) := by decide +kernel
theorem dX11_best_16 : decode cX11_best 16 = .ok (.ifCond .ne 5, 3) := by decide +kernel
theorem dX11_best_19 : decode cX11_best 19 = .ok (.iconst (-1), 1) := by decide +kernel
theorem dX11_best_20 : decode cX11_best 20 = .ok (.ireturn, 1) := by decide +kernel
theorem dX11_best_21 : decode cX11_best 21 = .ok (.aload_n 0, 1) := by decide +kernel
theorem dX11_best_22 : decode cX11_best 22 = .ok (.invokevirtual 244, 3) := by decide +kernel
theorem dX11_best_25 : decode cX11_best 25 = .ok (.ifCond .eq 6, 3) := by decide +kernel
theorem dX11_best_28 : decode cX11_best 28 = .ok (.bipush (-6), 2) := by decide +kernel
theorem dX11_best_30 : decode cX11_best 30 = .ok (.ireturn, 1) := by decide +kernel
theorem dX11_best_31 : decode cX11_best 31 = .ok (.aload_n 0, 1) := by decide +kernel
theorem dX11_best_32 : decode cX11_best 32 = .ok (.getfield 19, 3) := by decide +kernel
theorem dX11_best_35 : decode cX11_best 35 = .ok (.iload_n 1, 1) := by decide +kernel
theorem dX11_best_36 : decode cX11_best 36 = .ok (.invokevirtual 289, 3) := by decide +kernel
theorem dX11_best_39 : decode cX11_best 39 = .ok (.ifCond .ne 9, 3) := by decide +kernel
theorem dX11_best_42 : decode cX11_best 42 = .ok (.aload_n 0, 1) := by decide +kernel
theorem dX11_best_43 : decode cX11_best 43 = .ok (.iconst 3, 1) := by decide +kernel
theorem dX11_best_44 : decode cX11_best 44 = .ok (.invokevirtual 163, 3) := by decide +kernel
theorem dX11_best_47 : decode cX11_best 47 = .ok (.ireturn, 1) := by decide +kernel
theorem dX11_best_48 : decode cX11_best 48 = .ok (.bipush (-9), 2) := by decide +kernel
theorem dX11_best_50 : decode cX11_best 50 = .ok (.istore 4, 2) := by decide +kernel
theorem dX11_best_52 : decode cX11_best 52 = .ok (.bipush (-9), 2) := by decide +kernel
theorem dX11_best_54 : decode cX11_best 54 = .ok (.istore 5, 2) := by decide +kernel
theorem dX11_best_56 : decode cX11_best 56 = .ok (.aload_n 0, 1) := by decide +kernel
theorem dX11_best_57 : decode cX11_best 57 = .ok (.iload_n 1, 1) := by decide +kernel
theorem dX11_best_58 : decode cX11_best 58 = .ok (.invokevirtual 391, 3) := by decide +kernel
theorem dX11_best_61 : decode cX11_best 61 = .ok (.istore 6, 2) := by decide +kernel
theorem dX11_best_63 : decode cX11_best 63 = .ok (.iconst 0, 1) := by decide +kernel
theorem dX11_best_64 : decode cX11_best 64 = .ok (.istore 7, 2) := by decide +kernel
theorem dX11_best_66 : decode cX11_best 66 = .ok (.iload 7, 2) := by decide +kernel
theorem dX11_best_68 : decode cX11_best 68 = .ok (.iload 6, 2) := by decide +kernel
theorem dX11_best_70 : decode cX11_best 70 = .ok (.if_icmp .ge 45, 3) := by decide +kernel
theorem dX11_best_73 : decode cX11_best 73 = .ok (.aload_n 0, 1) := by decide +kernel
theorem dX11_best_74 : decode cX11_best 74 = .ok (.iload_n 1, 1) := by decide +kernel
theorem dX11_best_75 : decode cX11_best 75 = .ok (.iload 7, 2) := by decide +kernel
theorem dX11_best_77 : decode cX11_best 77 = .ok (.iload_n 2, 1) := by decide +kernel
theorem dX11_best_78 : decode cX11_best 78 = .ok (.iload_n 3, 1) := by decide +kernel
theorem dX11_best_79 : decode cX11_best 79 = .ok (.invokevirtual 394, 3) := by decide +kernel
theorem dX11_best_82 : decode cX11_best 82 = .ok (.istore 8, 2) := by decide +kernel
theorem dX11_best_84 : decode cX11_best 84 = .ok (.iload 8, 2) := by decide +kernel
theorem dX11_best_86 : decode cX11_best 86 = .ok (.ifCond .lt 23, 3) := by decide +kernel
theorem dX11_best_89 : decode cX11_best 89 = .ok (.iload 4, 2) := by decide +kernel
theorem dX11_best_91 : decode cX11_best 91 = .ok (.ifCond .lt 10, 3) := by decide +kernel
theorem dX11_best_94 : decode cX11_best 94 = .ok (.iload 8, 2) := by decide +kernel
theorem dX11_best_96 : decode cX11_best 96 = .ok (.iload 4, 2) := by decide +kernel
theorem dX11_best_98 : decode cX11_best 98 = .ok (.if_icmp .ge 11, 3) := by decide +kernel
theorem dX11_best_101 : decode cX11_best 101 = .ok (.iload 8, 2) := by decide +kernel
theorem dX11_best_103 : decode cX11_best 103 = .ok (.istore 4, 2) := by decide +kernel
theorem dX11_best_105 : decode cX11_best 105 = .ok (.iload 7, 2) := by decide +kernel
theorem dX11_best_107 : decode cX11_best 107 = .ok (.istore 5, 2) := by decide +kernel
theorem dX11_best_109 : decode cX11_best 109 = .ok (.iinc 7 1, 3) := by decide +kernel
theorem dX11_best_112 : decode cX11_best 112 = .ok (.goto (-46), 3) := by decide +kernel
theorem dX11_best_115 : decode cX11_best 115 = .ok (.iload 5, 2) := by decide +kernel
theorem dX11_best_117 : decode cX11_best 117 = .ok (.ifCond .le 17, 3) := by decide +kernel
theorem dX11_best_120 : decode cX11_best 120 = .ok (.aload_n 0, 1) := by decide +kernel
theorem dX11_best_121 : decode cX11_best 121 = .ok (.getfield 45, 3) := by decide +kernel
theorem dX11_best_124 : decode cX11_best 124 = .ok (.invokevirtual 295, 3) := by decide +kernel
theorem dX11_best_127 : decode cX11_best 127 = .ok (.aload_n 0, 1) := by decide +kernel
theorem dX11_best_128 : decode cX11_best 128 = .ok (.iload_n 1, 1) := by decide +kernel
theorem dX11_best_129 : decode cX11_best 129 = .ok (.iload 5, 2) := by decide +kernel
theorem dX11_best_131 : decode cX11_best 131 = .ok (.invokevirtual 397, 3) := by decide +kernel
theorem dX11_best_134 : decode cX11_best 134 = .ok (.aload_n 0, 1) := by decide +kernel
theorem dX11_best_135 : decode cX11_best 135 = .ok (.invokevirtual 356, 3) := by decide +kernel
theorem dX11_best_138 : decode cX11_best 138 = .ok (.iload 4, 2) := by decide +kernel
theorem dX11_best_140 : decode cX11_best 140 = .ok (.ireturn, 1) := by decide +kernel
theorem dX11_lines_0 : decode cX11_lines 0 = .ok (.aload_n 0, 1) := by decide +kernel
theorem dX11_lines_1 : decode cX11_lines 1 = .ok (.invokevirtual 244, 3) := by decide +kernel
theorem dX11_lines_4 : decode cX11_lines 4 = .ok (.ifCond .eq 6, 3) := by decide +kernel
theorem dX11_lines_7 : decode cX11_lines 7 = .ok (.bipush (-6), 2) := by decide +kernel
theorem dX11_lines_9 : decode cX11_lines 9 = .ok (.ireturn, 1) := by decide +kernel
theorem dX11_lines_10 : decode cX11_lines 10 = .ok (.aload_n 0, 1) := by decide +kernel
theorem dX11_lines_11 : decode cX11_lines 11 = .ok (.getfield 81, 3) := by decide +kernel
theorem dX11_lines_14 : decode cX11_lines 14 = .ok (.invokevirtual 400, 3) := by decide +kernel
theorem dX11_lines_17 : decode cX11_lines 17 = .ok (.aload_n 0, 1) := by decide +kernel
theorem dX11_lines_18 : decode cX11_lines 18 = .ok (.getfield 81, 3) := by decide +kernel
theorem dX11_lines_21 : decode cX11_lines 21 = .ok (.getfield 403, 3) := by decide +kernel
theorem dX11_lines_24 : decode cX11_lines 24 = .ok (.ireturn, 1) := by decide +kernel
theorem dX11_written_0 : decode cX11_written 0 = .ok (.iload_n 2, 1) := by decide +kernel
theorem dX11_written_1 : decode cX11_written 1 = .ok (.iconst 0, 1) := by decide +kernel
theorem dX11_written_2 : decode cX11_written 2 = .ok (.bipush 9, 2) := by decide +kernel
theorem dX11_written_4 : decode cX11_written 4 = .ok (.invokestatic 113, 3) := by decide +kernel
theorem dX11_written_7 : decode cX11_written 7 = .ok (.ifCond .ne 5, 3) := by decide +kernel
theorem dX11_written_10 : decode cX11_written 10 = .ok (.iconst (-1), 1) := by decide +kernel
theorem dX11_written_11 : decode cX11_written 11 = .ok (.ireturn, 1) := by decide +kernel
theorem dX11_written_12 : decode cX11_written 12 = .ok (.aload_n 0, 1) := by decide +kernel
theorem dX11_written_13 : decode cX11_written 13 = .ok (.invokevirtual 244, 3) := by decide +kernel
theorem dX11_written_16 : decode cX11_written 16 = .ok (.ifCond .eq 6, 3) := by decide +kernel
theorem dX11_written_19 : decode cX11_written 19 = .ok (.bipush (-6), 2) := by decide +kernel
theorem dX11_written_21 : decode cX11_written 21 = .ok (.ireturn, 1) := by decide +kernel
theorem dX11_written_22 : decode cX11_written 22 = .ok (.aload_n 0, 1) := by decide +kernel
theorem dX11_written_23 : decode cX11_written 23 = .ok (.getfield 81, 3) := by decide +kernel
theorem dX11_written_26 : decode cX11_written 26 = .ok (.invokevirtual 400, 3) := by decide +kernel
theorem dX11_written_29 : decode cX11_written 29 = .ok (.iload_n 1, 1) := by decide +kernel
theorem dX11_written_30 : decode cX11_written 30 = .ok (.iconst 0, 1) := by decide +kernel
theorem dX11_written_31 : decode cX11_written 31 = .ok (.aload_n 0, 1) := by decide +kernel
theorem dX11_written_32 : decode cX11_written 32 = .ok (.getfield 81, 3) := by decide +kernel
theorem dX11_written_35 : decode cX11_written 35 = .ok (.getfield 403, 3) := by decide +kernel
theorem dX11_written_38 : decode cX11_written 38 = .ok (.iconst 1, 1) := by decide +kernel
theorem dX11_written_39 : decode cX11_written 39 = .ok (.isub, 1) := by decide +kernel
theorem dX11_written_40 : decode cX11_written 40 = .ok (.invokestatic 113, 3) := by decide +kernel
theorem dX11_written_43 : decode cX11_written 43 = .ok (.ifCond .ne 6, 3) := by decide +kernel
theorem dX11_written_46 : decode cX11_written 46 = .ok (.bipush (-9), 2) := by decide +kernel
theorem dX11_written_48 : decode cX11_written 48 = .ok (.ireturn, 1) := by decide +kernel
theorem dX11_written_49 : decode cX11_written 49 = .ok (.aload_n 0, 1) := by decide +kernel
theorem dX11_written_50 : decode cX11_written 50 = .ok (.aload_n 0, 1) := by decide +kernel
theorem dX11_written_51 : decode cX11_written 51 = .ok (.iload_n 1, 1) := by decide +kernel
theorem dX11_written_52 : decode cX11_written 52 = .ok (.iload_n 2, 1) := by decide +kernel
theorem dX11_written_53 : decode cX11_written 53 = .ok (.invokevirtual 406, 3) := by decide +kernel
theorem dX11_written_56 : decode cX11_written 56 = .ok (.putfield 92, 3) := by decide +kernel
theorem dX11_written_59 : decode cX11_written 59 = .ok (.iconst 1, 1) := by decide +kernel
theorem dX11_written_60 : decode cX11_written 60 = .ok (.ireturn, 1) := by decide +kernel
theorem dX11_count_0 : decode cX11_count 0 = .ok (.iload_n 1, 1) := by decide +kernel
theorem dX11_count_1 : decode cX11_count 1 = .ok (.tableswitch 72 0 4 #[35, 43, 51, 59, 64], 35) := by decide +kernel
theorem dX11_count_36 : decode cX11_count 36 = .ok (.aload_n 0, 1) := by decide +kernel
theorem dX11_count_37 : decode cX11_count 37 = .ok (.getfield 10, 3) := by decide +kernel
theorem dX11_count_40 : decode cX11_count 40 = .ok (.getfield 126, 3) := by decide +kernel
theorem dX11_count_43 : decode cX11_count 43 = .ok (.ireturn, 1) := by decide +kernel
theorem dX11_count_44 : decode cX11_count 44 = .ok (.aload_n 0, 1) := by decide +kernel
theorem dX11_count_45 : decode cX11_count 45 = .ok (.getfield 19, 3) := by decide +kernel
theorem dX11_count_48 : decode cX11_count 48 = .ok (.getfield 409, 3) := by decide +kernel
theorem dX11_count_51 : decode cX11_count 51 = .ok (.ireturn, 1) := by decide +kernel
theorem dX11_count_52 : decode cX11_count 52 = .ok (.aload_n 0, 1) := by decide +kernel
theorem dX11_count_53 : decode cX11_count 53 = .ok (.getfield 19, 3) := by decide +kernel
theorem dX11_count_56 : decode cX11_count 56 = .ok (.getfield 149, 3) := by decide +kernel
theorem dX11_count_59 : decode cX11_count 59 = .ok (.ireturn, 1) := by decide +kernel
theorem dX11_count_60 : decode cX11_count 60 = .ok (.aload_n 0, 1) := by decide +kernel
theorem dX11_count_61 : decode cX11_count 61 = .ok (.getfield 36, 3) := by decide +kernel
theorem dX11_count_64 : decode cX11_count 64 = .ok (.ireturn, 1) := by decide +kernel
theorem dX11_count_65 : decode cX11_count 65 = .ok (.aload_n 0, 1) := by decide +kernel
theorem dX11_count_66 : decode cX11_count 66 = .ok (.getfield 45, 3) := by decide +kernel
theorem dX11_count_69 : decode cX11_count 69 = .ok (.getfield 350, 3) := by decide +kernel
theorem dX11_count_72 : decode cX11_count 72 = .ok (.ireturn, 1) := by decide +kernel
theorem dX11_count_73 : decode cX11_count 73 = .ok (.iconst (-1), 1) := by decide +kernel
theorem dX11_count_74 : decode cX11_count 74 = .ok (.ireturn, 1) := by decide +kernel
theorem dX11_finding_0 : decode cX11_finding 0 = .ok (.aload_n 0, 1) := by decide +kernel
theorem dX11_finding_1 : decode cX11_finding 1 = .ok (.getfield 96, 3) := by decide +kernel
theorem dX11_finding_4 : decode cX11_finding 4 = .ok (.ireturn, 1) := by decide +kernel
theorem dX11_findings_0 : decode cX11_findings 0 = .ok (.iload_n 1, 1) := by decide +kernel
theorem dX11_findings_1 : decode cX11_findings 1 = .ok (.iconst 1, 1) := by decide +kernel
theorem dX11_findings_2 : decode cX11_findings 2 = .ok (.iconst 5, 1) := by decide +kernel
theorem dX11_findings_3 : decode cX11_findings 3 = .ok (.invokestatic 113, 3) := by decide +kernel
theorem dX11_findings_6 : decode cX11_findings 6 = .ok (.ifCond .eq 12, 3) := by decide +kernel
theorem dX11_findings_9 : decode cX11_findings 9 = .ok (.aload_n 0, 1) := by decide +kernel
theorem dX11_findings_10 : decode cX11_findings 10 = .ok (.getfield 99, 3) := by decide +kernel
theorem dX11_findings_13 : decode cX11_findings 13 = .ok (.iload_n 1, 1) := by decide +kernel
theorem dX11_findings_14 : decode cX11_findings 14 = .ok (.iaload, 1) := by decide +kernel
theorem dX11_findings_15 : decode cX11_findings 15 = .ok (.goto 4, 3) := by decide +kernel
theorem dX11_findings_18 : decode cX11_findings 18 = .ok (.iconst (-1), 1) := by decide +kernel
theorem dX11_findings_19 : decode cX11_findings 19 = .ok (.ireturn, 1) := by decide +kernel
theorem dX11_digest_0 : decode cX11_digest 0 = .ok (.ldc2_w 410, 3) := by decide +kernel
theorem dX11_digest_3 : decode cX11_digest 3 = .ok (.lstore_n 1, 1) := by decide +kernel
theorem dX11_digest_4 : decode cX11_digest 4 = .ok (.iconst 0, 1) := by decide +kernel
theorem dX11_digest_5 : decode cX11_digest 5 = .ok (.istore_n 3, 1) := by decide +kernel
theorem dX11_digest_6 : decode cX11_digest 6 = .ok (.iload_n 3, 1) := by decide +kernel
theorem dX11_digest_7 : decode cX11_digest 7 = .ok (.iconst 3, 1) := by decide +kernel
theorem dX11_digest_8 : decode cX11_digest 8 = .ok (.if_icmp .ge 26, 3) := by decide +kernel
theorem dX11_digest_11 : decode cX11_digest 11 = .ok (.ldc2_w 412, 3) := by decide +kernel
theorem dX11_digest_14 : decode cX11_digest 14 = .ok (.lload_n 1, 1) := by decide +kernel
theorem dX11_digest_15 : decode cX11_digest 15 = .ok (.lmul, 1) := by decide +kernel
theorem dX11_digest_16 : decode cX11_digest 16 = .ok (.aload_n 0, 1) := by decide +kernel
theorem dX11_digest_17 : decode cX11_digest 17 = .ok (.getfield 10, 3) := by decide +kernel
theorem dX11_digest_20 : decode cX11_digest 20 = .ok (.getfield 117, 3) := by decide +kernel
theorem dX11_digest_23 : decode cX11_digest 23 = .ok (.iload_n 3, 1) := by decide +kernel
theorem dX11_digest_24 : decode cX11_digest 24 = .ok (.iaload, 1) := by decide +kernel
theorem dX11_digest_25 : decode cX11_digest 25 = .ok (.i2l, 1) := by decide +kernel
theorem dX11_digest_26 : decode cX11_digest 26 = .ok (.ladd, 1) := by decide +kernel
theorem dX11_digest_27 : decode cX11_digest 27 = .ok (.lstore_n 1, 1) := by decide +kernel
theorem dX11_digest_28 : decode cX11_digest 28 = .ok (.iinc 3 1, 3) := by decide +kernel
theorem dX11_digest_31 : decode cX11_digest 31 = .ok (.goto (-25), 3) := by decide +kernel
theorem dX11_digest_34 : decode cX11_digest 34 = .ok (.iconst 0, 1) := by decide +kernel
theorem dX11_digest_35 : decode cX11_digest 35 = .ok (.istore_n 3, 1) := by decide +kernel
theorem dX11_digest_36 : decode cX11_digest 36 = .ok (.iload_n 3, 1) := by decide +kernel
theorem dX11_digest_37 : decode cX11_digest 37 = .ok (.aload_n 0, 1) := by decide +kernel
theorem dX11_digest_38 : decode cX11_digest 38 = .ok (.getfield 19, 3) := by decide +kernel
theorem dX11_digest_41 : decode cX11_digest 41 = .ok (.getfield 409, 3) := by decide +kernel
theorem dX11_digest_44 : decode cX11_digest 44 = .ok (.if_icmp .ge 42, 3) := by decide +kernel
theorem dX11_digest_47 : decode cX11_digest 47 = .ok (.iconst 0, 1) := by decide +kernel
theorem dX11_digest_48 : decode cX11_digest 48 = .ok (.istore 4, 2) := by decide +kernel
theorem dX11_digest_50 : decode cX11_digest 50 = .ok (.iload 4, 2) := by decide +kernel
theorem dX11_digest_52 : decode cX11_digest 52 = .ok (.iconst 4, 1) := by decide +kernel
theorem dX11_digest_53 : decode cX11_digest 53 = .ok (.if_icmp .gt 27, 3) := by decide +kernel
theorem dX11_digest_56 : decode cX11_digest 56 = .ok (.ldc2_w 412, 3) := by decide +kernel
theorem dX11_digest_59 : decode cX11_digest 59 = .ok (.lload_n 1, 1) := by decide +kernel
theorem dX11_digest_60 : decode cX11_digest 60 = .ok (.lmul, 1) := by decide +kernel
theorem dX11_digest_61 : decode cX11_digest 61 = .ok (.aload_n 0, 1) := by decide +kernel
theorem dX11_digest_62 : decode cX11_digest 62 = .ok (.getfield 19, 3) := by decide +kernel
theorem dX11_digest_65 : decode cX11_digest 65 = .ok (.iload_n 3, 1) := by decide +kernel
theorem dX11_digest_66 : decode cX11_digest 66 = .ok (.iload 4, 2) := by decide +kernel
theorem dX11_digest_68 : decode cX11_digest 68 = .ok (.invokevirtual 179, 3) := by decide +kernel
theorem dX11_digest_71 : decode cX11_digest 71 = .ok (.i2l, 1) := by decide +kernel
theorem dX11_digest_72 : decode cX11_digest 72 = .ok (.ladd, 1) := by decide +kernel
theorem dX11_digest_73 : decode cX11_digest 73 = .ok (.lstore_n 1, 1) := by decide +kernel
theorem dX11_digest_74 : decode cX11_digest 74 = .ok (.iinc 4 1, 3) := by decide +kernel
theorem dX11_digest_77 : decode cX11_digest 77 = .ok (.goto (-27), 3) := by decide +kernel
theorem dX11_digest_80 : decode cX11_digest 80 = .ok (.iinc 3 1, 3) := by decide +kernel
theorem dX11_digest_83 : decode cX11_digest 83 = .ok (.goto (-47), 3) := by decide +kernel
theorem dX11_digest_86 : decode cX11_digest 86 = .ok (.aload_n 0, 1) := by decide +kernel
theorem dX11_digest_87 : decode cX11_digest 87 = .ok (.getfield 45, 3) := by decide +kernel
theorem dX11_digest_90 : decode cX11_digest 90 = .ok (.getfield 314, 3) := by decide +kernel
theorem dX11_digest_93 : decode cX11_digest 93 = .ok (.lload_n 1, 1) := by decide +kernel
theorem dX11_digest_94 : decode cX11_digest 94 = .ok (.aload_n 0, 1) := by decide +kernel
theorem dX11_digest_95 : decode cX11_digest 95 = .ok (.getfield 19, 3) := by decide +kernel
theorem dX11_digest_98 : decode cX11_digest 98 = .ok (.getfield 149, 3) := by decide +kernel
theorem dX11_digest_101 : decode cX11_digest 101 = .ok (.invokevirtual 414, 3) := by decide +kernel
theorem dX11_digest_104 : decode cX11_digest 104 = .ok (.lstore_n 1, 1) := by decide +kernel
theorem dX11_digest_105 : decode cX11_digest 105 = .ok (.iconst 0, 1) := by decide +kernel
theorem dX11_digest_106 : decode cX11_digest 106 = .ok (.istore_n 3, 1) := by decide +kernel
theorem dX11_digest_107 : decode cX11_digest 107 = .ok (.iload_n 3, 1) := by decide +kernel
theorem dX11_digest_108 : decode cX11_digest 108 = .ok (.aload_n 0, 1) := by decide +kernel
theorem dX11_digest_109 : decode cX11_digest 109 = .ok (.getfield 36, 3) := by decide +kernel
theorem dX11_digest_112 : decode cX11_digest 112 = .ok (.if_icmp .ge 28, 3) := by decide +kernel
theorem dX11_digest_115 : decode cX11_digest 115 = .ok (.aload_n 0, 1) := by decide +kernel
theorem dX11_digest_116 : decode cX11_digest 116 = .ok (.iload_n 3, 1) := by decide +kernel
theorem dX11_digest_117 : decode cX11_digest 117 = .ok (.invokevirtual 155, 3) := by decide +kernel
theorem dX11_digest_120 : decode cX11_digest 120 = .ok (.astore 4, 2) := by decide +kernel
theorem dX11_digest_122 : decode cX11_digest 122 = .ok (.aload 4, 2) := by decide +kernel
theorem dX11_digest_124 : decode cX11_digest 124 = .ok (.ifnull 10, 3) := by decide +kernel
theorem dX11_digest_127 : decode cX11_digest 127 = .ok (.aload 4, 2) := by decide +kernel
theorem dX11_digest_129 : decode cX11_digest 129 = .ok (.lload_n 1, 1) := by decide +kernel
theorem dX11_digest_130 : decode cX11_digest 130 = .ok (.invokevirtual 418, 3) := by decide +kernel
theorem dX11_digest_133 : decode cX11_digest 133 = .ok (.lstore_n 1, 1) := by decide +kernel
theorem dX11_digest_134 : decode cX11_digest 134 = .ok (.iinc 3 1, 3) := by decide +kernel
theorem dX11_digest_137 : decode cX11_digest 137 = .ok (.goto (-30), 3) := by decide +kernel
theorem dX11_digest_140 : decode cX11_digest 140 = .ok (.lload_n 1, 1) := by decide +kernel
theorem dX11_digest_141 : decode cX11_digest 141 = .ok (.lreturn, 1) := by decide +kernel
theorem dX11_within_0 : decode cX11_within 0 = .ok (.iload_n 0, 1) := by decide +kernel
theorem dX11_within_1 : decode cX11_within 1 = .ok (.iload_n 1, 1) := by decide +kernel
theorem dX11_within_2 : decode cX11_within 2 = .ok (.if_icmp .lt 12, 3) := by decide +kernel
theorem dX11_within_5 : decode cX11_within 5 = .ok (.iload_n 0, 1) := by decide +kernel
theorem dX11_within_6 : decode cX11_within 6 = .ok (.iload_n 2, 1) := by decide +kernel
theorem dX11_within_7 : decode cX11_within 7 = .ok (.if_icmp .gt 7, 3) := by decide +kernel
theorem dX11_within_10 : decode cX11_within 10 = .ok (.iconst 1, 1) := by decide +kernel
theorem dX11_within_11 : decode cX11_within 11 = .ok (.goto 4, 3) := by decide +kernel
theorem dX11_within_14 : decode cX11_within 14 = .ok (.iconst 0, 1) := by decide +kernel
theorem dX11_within_15 : decode cX11_within 15 = .ok (.ireturn, 1) := by decide +kernel
theorem dX11_rowNumberFits_0 : decode cX11_rowNumberFits 0 = .ok (.iload_n 0, 1) := by decide +kernel
theorem dX11_rowNumberFits_1 : decode cX11_rowNumberFits 1 = .ok (.ldc_w 421, 3) := by decide +kernel
theorem dX11_rowNumberFits_4 : decode cX11_rowNumberFits 4 = .ok (.ldc_w 422, 3) := by decide +kernel
theorem dX11_rowNumberFits_7 : decode cX11_rowNumberFits 7 = .ok (.invokestatic 113, 3) := by decide +kernel
theorem dX11_rowNumberFits_10 : decode cX11_rowNumberFits 10 = .ok (.ireturn, 1) := by decide +kernel
theorem dX11_roomFits_0 : decode cX11_roomFits 0 = .ok (.iload_n 0, 1) := by decide +kernel
theorem dX11_roomFits_1 : decode cX11_roomFits 1 = .ok (.iconst 1, 1) := by decide +kernel
theorem dX11_roomFits_2 : decode cX11_roomFits 2 = .ok (.bipush 16, 2) := by decide +kernel
theorem dX11_roomFits_4 : decode cX11_roomFits 4 = .ok (.invokestatic 113, 3) := by decide +kernel
theorem dX11_roomFits_7 : decode cX11_roomFits 7 = .ok (.ifCond .eq 17, 3) := by decide +kernel
theorem dX11_roomFits_10 : decode cX11_roomFits 10 = .ok (.iload_n 1, 1) := by decide +kernel
theorem dX11_roomFits_11 : decode cX11_roomFits 11 = .ok (.iconst 1, 1) := by decide +kernel
theorem dX11_roomFits_12 : decode cX11_roomFits 12 = .ok (.bipush 20, 2) := by decide +kernel
theorem dX11_roomFits_14 : decode cX11_roomFits 14 = .ok (.invokestatic 113, 3) := by decide +kernel
theorem dX11_roomFits_17 : decode cX11_roomFits 17 = .ok (.ifCond .eq 7, 3) := by decide +kernel
theorem dX11_roomFits_20 : decode cX11_roomFits 20 = .ok (.iconst 1, 1) := by decide +kernel
theorem dX11_roomFits_21 : decode cX11_roomFits 21 = .ok (.goto 4, 3) := by decide +kernel
theorem dX11_roomFits_24 : decode cX11_roomFits 24 = .ok (.iconst 0, 1) := by decide +kernel
theorem dX11_roomFits_25 : decode cX11_roomFits 25 = .ok (.ireturn, 1) := by decide +kernel
theorem dX11_meet_0 : decode cX11_meet 0 = .ok (.aload_n 0, 1) := by decide +kernel
theorem dX11_meet_1 : decode cX11_meet 1 = .ok (.iload_n 1, 1) := by decide +kernel
theorem dX11_meet_2 : decode cX11_meet 2 = .ok (.putfield 96, 3) := by decide +kernel
theorem dX11_meet_5 : decode cX11_meet 5 = .ok (.aload_n 0, 1) := by decide +kernel
theorem dX11_meet_6 : decode cX11_meet 6 = .ok (.getfield 99, 3) := by decide +kernel
theorem dX11_meet_9 : decode cX11_meet 9 = .ok (.iload_n 1, 1) := by decide +kernel
theorem dX11_meet_10 : decode cX11_meet 10 = .ok (.dup2, 1) := by decide +kernel
theorem dX11_meet_11 : decode cX11_meet 11 = .ok (.iaload, 1) := by decide +kernel
theorem dX11_meet_12 : decode cX11_meet 12 = .ok (.iconst 1, 1) := by decide +kernel
theorem dX11_meet_13 : decode cX11_meet 13 = .ok (.iadd, 1) := by decide +kernel
theorem dX11_meet_14 : decode cX11_meet 14 = .ok (.iastore, 1) := by decide +kernel
theorem dX11_meet_15 : decode cX11_meet 15 = .ok (.bipush (-3), 2) := by decide +kernel
theorem dX11_meet_17 : decode cX11_meet 17 = .ok (.ireturn, 1) := by decide +kernel
theorem dX11_rackOf_0 : decode cX11_rackOf 0 = .ok (.iload_n 1, 1) := by decide +kernel
theorem dX11_rackOf_1 : decode cX11_rackOf 1 = .ok (.iconst 0, 1) := by decide +kernel
theorem dX11_rackOf_2 : decode cX11_rackOf 2 = .ok (.aload_n 0, 1) := by decide +kernel
theorem dX11_rackOf_3 : decode cX11_rackOf 3 = .ok (.getfield 36, 3) := by decide +kernel
theorem dX11_rackOf_6 : decode cX11_rackOf 6 = .ok (.iconst 1, 1) := by decide +kernel
theorem dX11_rackOf_7 : decode cX11_rackOf 7 = .ok (.isub, 1) := by decide +kernel
theorem dX11_rackOf_8 : decode cX11_rackOf 8 = .ok (.invokestatic 113, 3) := by decide +kernel
theorem dX11_rackOf_11 : decode cX11_rackOf 11 = .ok (.ifCond .eq 12, 3) := by decide +kernel
theorem dX11_rackOf_14 : decode cX11_rackOf 14 = .ok (.aload_n 0, 1) := by decide +kernel
theorem dX11_rackOf_15 : decode cX11_rackOf 15 = .ok (.getfield 32, 3) := by decide +kernel
theorem dX11_rackOf_18 : decode cX11_rackOf 18 = .ok (.iload_n 1, 1) := by decide +kernel
theorem dX11_rackOf_19 : decode cX11_rackOf 19 = .ok (.aaload, 1) := by decide +kernel
theorem dX11_rackOf_20 : decode cX11_rackOf 20 = .ok (.goto 4, 3) := by decide +kernel
theorem dX11_rackOf_23 : decode cX11_rackOf 23 = .ok (.aconst_null, 1) := by decide +kernel
theorem dX11_rackOf_24 : decode cX11_rackOf 24 = .ok (.areturn, 1) := by decide +kernel
theorem dX11_grow_0 : decode cX11_grow 0 = .ok (.aload_n 0, 1) := by decide +kernel
theorem dX11_grow_1 : decode cX11_grow 1 = .ok (.getfield 19, 3) := by decide +kernel
theorem dX11_grow_4 : decode cX11_grow 4 = .ok (.getfield 409, 3) := by decide +kernel
theorem dX11_grow_7 : decode cX11_grow 7 = .ok (.bipush 40, 2) := by decide +kernel
theorem dX11_grow_9 : decode cX11_grow 9 = .ok (.if_icmp .lt 6, 3) := by decide +kernel
theorem dX11_grow_12 : decode cX11_grow 12 = .ok (.bipush (-2), 2) := by decide +kernel
theorem dX11_grow_14 : decode cX11_grow 14 = .ok (.ireturn, 1) := by decide +kernel
theorem dX11_grow_15 : decode cX11_grow 15 = .ok (.aload_n 0, 1) := by decide +kernel
theorem dX11_grow_16 : decode cX11_grow 16 = .ok (.getfield 19, 3) := by decide +kernel
theorem dX11_grow_19 : decode cX11_grow 19 = .ok (.iload_n 1, 1) := by decide +kernel
theorem dX11_grow_20 : decode cX11_grow 20 = .ok (.iload_n 2, 1) := by decide +kernel
theorem dX11_grow_21 : decode cX11_grow 21 = .ok (.iload_n 3, 1) := by decide +kernel
theorem dX11_grow_22 : decode cX11_grow 22 = .ok (.iload 4, 2) := by decide +kernel
theorem dX11_grow_24 : decode cX11_grow 24 = .ok (.invokevirtual 423, 3) := by decide +kernel
theorem dX11_grow_27 : decode cX11_grow 27 = .ok (.istore 5, 2) := by decide +kernel
theorem dX11_grow_29 : decode cX11_grow 29 = .ok (.aload_n 0, 1) := by decide +kernel
theorem dX11_grow_30 : decode cX11_grow 30 = .ok (.getfield 45, 3) := by decide +kernel
theorem dX11_grow_33 : decode cX11_grow 33 = .ok (.invokevirtual 426, 3) := by decide +kernel
theorem dX11_grow_36 : decode cX11_grow 36 = .ok (.aload_n 0, 1) := by decide +kernel
theorem dX11_grow_37 : decode cX11_grow 37 = .ok (.invokevirtual 120, 3) := by decide +kernel
theorem dX11_grow_40 : decode cX11_grow 40 = .ok (.iload 5, 2) := by decide +kernel
theorem dX11_grow_42 : decode cX11_grow 42 = .ok (.ireturn, 1) := by decide +kernel
theorem dX11_programChanged_0 : decode cX11_programChanged 0 = .ok (.aload_n 0, 1) := by decide +kernel
theorem dX11_programChanged_1 : decode cX11_programChanged 1 = .ok (.getfield 54, 3) := by decide +kernel
theorem dX11_programChanged_4 : decode cX11_programChanged 4 = .ok (.iconst 0, 1) := by decide +kernel
theorem dX11_programChanged_5 : decode cX11_programChanged 5 = .ok (.putfield 429, 3) := by decide +kernel
theorem dX11_programChanged_8 : decode cX11_programChanged 8 = .ok (.aload_n 0, 1) := by decide +kernel
theorem dX11_programChanged_9 : decode cX11_programChanged 9 = .ok (.invokevirtual 176, 3) := by decide +kernel
theorem dX11_programChanged_12 : decode cX11_programChanged 12 = .ok (.aload_n 0, 1) := by decide +kernel
theorem dX11_programChanged_13 : decode cX11_programChanged 13 = .ok (.invokevirtual 356, 3) := by decide +kernel
theorem dX11_programChanged_16 : decode cX11_programChanged 16 = .ok (.return_, 1) := by decide +kernel
theorem dX11_aimsChanged_0 : decode cX11_aimsChanged 0 = .ok (.aload_n 0, 1) := by decide +kernel
theorem dX11_aimsChanged_1 : decode cX11_aimsChanged 1 = .ok (.getfield 63, 3) := by decide +kernel
theorem dX11_aimsChanged_4 : decode cX11_aimsChanged 4 = .ok (.iconst 0, 1) := by decide +kernel
theorem dX11_aimsChanged_5 : decode cX11_aimsChanged 5 = .ok (.putfield 433, 3) := by decide +kernel
theorem dX11_aimsChanged_8 : decode cX11_aimsChanged 8 = .ok (.aload_n 0, 1) := by decide +kernel
theorem dX11_aimsChanged_9 : decode cX11_aimsChanged 9 = .ok (.getfield 72, 3) := by decide +kernel
theorem dX11_aimsChanged_12 : decode cX11_aimsChanged 12 = .ok (.iconst 0, 1) := by decide +kernel
theorem dX11_aimsChanged_13 : decode cX11_aimsChanged 13 = .ok (.putfield 434, 3) := by decide +kernel
theorem dX11_aimsChanged_16 : decode cX11_aimsChanged 16 = .ok (.aload_n 0, 1) := by decide +kernel
theorem dX11_aimsChanged_17 : decode cX11_aimsChanged 17 = .ok (.getfield 81, 3) := by decide +kernel
theorem dX11_aimsChanged_20 : decode cX11_aimsChanged 20 = .ok (.iconst 0, 1) := by decide +kernel
theorem dX11_aimsChanged_21 : decode cX11_aimsChanged 21 = .ok (.putfield 435, 3) := by decide +kernel
theorem dX11_aimsChanged_24 : decode cX11_aimsChanged 24 = .ok (.return_, 1) := by decide +kernel
theorem dX11_ordersChanged_0 : decode cX11_ordersChanged 0 = .ok (.aload_n 0, 1) := by decide +kernel
theorem dX11_ordersChanged_1 : decode cX11_ordersChanged 1 = .ok (.getfield 81, 3) := by decide +kernel
theorem dX11_ordersChanged_4 : decode cX11_ordersChanged 4 = .ok (.iconst 0, 1) := by decide +kernel
theorem dX11_ordersChanged_5 : decode cX11_ordersChanged 5 = .ok (.putfield 438, 3) := by decide +kernel
theorem dX11_ordersChanged_8 : decode cX11_ordersChanged 8 = .ok (.aload_n 0, 1) := by decide +kernel
theorem dX11_ordersChanged_9 : decode cX11_ordersChanged 9 = .ok (.getfield 81, 3) := by decide +kernel
theorem dX11_ordersChanged_12 : decode cX11_ordersChanged 12 = .ok (.iconst 0, 1) := by decide +kernel
theorem dX11_ordersChanged_13 : decode cX11_ordersChanged 13 = .ok (.putfield 435, 3) := by decide +kernel
theorem dX11_ordersChanged_16 : decode cX11_ordersChanged 16 = .ok (.aload_n 0, 1) := by decide +kernel
theorem dX11_ordersChanged_17 : decode cX11_ordersChanged 17 = .ok (.getfield 81, 3) := by decide +kernel
theorem dX11_ordersChanged_20 : decode cX11_ordersChanged 20 = .ok (.iconst 0, 1) := by decide +kernel
theorem dX11_ordersChanged_21 : decode cX11_ordersChanged 21 = .ok (.putfield 441, 3) := by decide +kernel
theorem dX11_ordersChanged_24 : decode cX11_ordersChanged 24 = .ok (.return_, 1) := by decide +kernel
theorem dX11_turned_0 : decode cX11_turned 0 = .ok (.aload_n 0, 1) := by decide +kernel
theorem dX11_turned_1 : decode cX11_turned 1 = .ok (.invokevirtual 356, 3) := by decide +kernel
theorem dX11_turned_4 : decode cX11_turned 4 = .ok (.iconst 1, 1) := by decide +kernel
theorem dX11_turned_5 : decode cX11_turned 5 = .ok (.ireturn, 1) := by decide +kernel
theorem dX11_tooMany_0 : decode cX11_tooMany 0 = .ok (.aload_n 0, 1) := by decide +kernel
theorem dX11_tooMany_1 : decode cX11_tooMany 1 = .ok (.getfield 54, 3) := by decide +kernel
theorem dX11_tooMany_4 : decode cX11_tooMany 4 = .ok (.invokevirtual 444, 3) := by decide +kernel
theorem dX11_tooMany_7 : decode cX11_tooMany 7 = .ok (.aload_n 0, 1) := by decide +kernel
theorem dX11_tooMany_8 : decode cX11_tooMany 8 = .ok (.getfield 54, 3) := by decide +kernel
theorem dX11_tooMany_11 : decode cX11_tooMany 11 = .ok (.getfield 445, 3) := by decide +kernel
theorem dX11_tooMany_14 : decode cX11_tooMany 14 = .ok (.ireturn, 1) := by decide +kernel
theorem dX11_visitAt_0 : decode cX11_visitAt 0 = .ok (.iload_n 2, 1) := by decide +kernel
theorem dX11_visitAt_1 : decode cX11_visitAt 1 = .ok (.ifCond .ne 5, 3) := by decide +kernel
theorem dX11_visitAt_4 : decode cX11_visitAt 4 = .ok (.iload_n 1, 1) := by decide +kernel
theorem dX11_visitAt_5 : decode cX11_visitAt 5 = .ok (.ireturn, 1) := by decide +kernel
theorem dX11_visitAt_6 : decode cX11_visitAt 6 = .ok (.aload_n 0, 1) := by decide +kernel
theorem dX11_visitAt_7 : decode cX11_visitAt 7 = .ok (.getfield 81, 3) := by decide +kernel
theorem dX11_visitAt_10 : decode cX11_visitAt 10 = .ok (.invokevirtual 448, 3) := by decide +kernel
theorem dX11_visitAt_13 : decode cX11_visitAt 13 = .ok (.aload_n 0, 1) := by decide +kernel
theorem dX11_visitAt_14 : decode cX11_visitAt 14 = .ok (.getfield 81, 3) := by decide +kernel
theorem dX11_visitAt_17 : decode cX11_visitAt 17 = .ok (.getfield 451, 3) := by decide +kernel
theorem dX11_visitAt_20 : decode cX11_visitAt 20 = .ok (.iload_n 1, 1) := by decide +kernel
theorem dX11_visitAt_21 : decode cX11_visitAt 21 = .ok (.iaload, 1) := by decide +kernel
theorem dX11_visitAt_22 : decode cX11_visitAt 22 = .ok (.ireturn, 1) := by decide +kernel
theorem dX11_perform_0 : decode cX11_perform 0 = .ok (.aload_n 0, 1) := by decide +kernel
theorem dX11_perform_1 : decode cX11_perform 1 = .ok (.iload_n 1, 1) := by decide +kernel
theorem dX11_perform_2 : decode cX11_perform 2 = .ok (.iconst 1, 1) := by decide +kernel
theorem dX11_perform_3 : decode cX11_perform 3 = .ok (.invokevirtual 454, 3) := by decide +kernel
theorem dX11_perform_6 : decode cX11_perform 6 = .ok (.istore_n 2, 1) := by decide +kernel
theorem dX11_perform_7 : decode cX11_perform 7 = .ok (.iload_n 2, 1) := by decide +kernel
theorem dX11_perform_8 : decode cX11_perform 8 = .ok (.ifCond .ne 10, 3) := by decide +kernel
theorem dX11_perform_11 : decode cX11_perform 11 = .ok (.aload_n 0, 1) := by decide +kernel
theorem dX11_perform_12 : decode cX11_perform 12 = .ok (.iload_n 1, 1) := by decide +kernel
theorem dX11_perform_13 : decode cX11_perform 13 = .ok (.iconst 2, 1) := by decide +kernel
theorem dX11_perform_14 : decode cX11_perform 14 = .ok (.invokevirtual 454, 3) := by decide +kernel
theorem dX11_perform_17 : decode cX11_perform 17 = .ok (.istore_n 2, 1) := by decide +kernel
theorem dX11_perform_18 : decode cX11_perform 18 = .ok (.iload_n 2, 1) := by decide +kernel
theorem dX11_perform_19 : decode cX11_perform 19 = .ok (.ifCond .eq 5, 3) := by decide +kernel
theorem dX11_perform_22 : decode cX11_perform 22 = .ok (.iload_n 2, 1) := by decide +kernel
theorem dX11_perform_23 : decode cX11_perform 23 = .ok (.ireturn, 1) := by decide +kernel
theorem dX11_perform_24 : decode cX11_perform 24 = .ok (.aload_n 0, 1) := by decide +kernel
theorem dX11_perform_25 : decode cX11_perform 25 = .ok (.getfield 54, 3) := by decide +kernel
theorem dX11_perform_28 : decode cX11_perform 28 = .ok (.iload_n 1, 1) := by decide +kernel
theorem dX11_perform_29 : decode cX11_perform 29 = .ok (.invokevirtual 253, 3) := by decide +kernel
theorem dX11_perform_32 : decode cX11_perform 32 = .ok (.istore_n 3, 1) := by decide +kernel
theorem dX11_perform_33 : decode cX11_perform 33 = .ok (.aload_n 0, 1) := by decide +kernel
theorem dX11_perform_34 : decode cX11_perform 34 = .ok (.iload_n 1, 1) := by decide +kernel
theorem dX11_perform_35 : decode cX11_perform 35 = .ok (.iconst 1, 1) := by decide +kernel
theorem dX11_perform_36 : decode cX11_perform 36 = .ok (.invokevirtual 457, 3) := by decide +kernel
theorem dX11_perform_39 : decode cX11_perform 39 = .ok (.lstore 4, 2) := by decide +kernel
theorem dX11_perform_41 : decode cX11_perform 41 = .ok (.aload_n 0, 1) := by decide +kernel
theorem dX11_perform_42 : decode cX11_perform 42 = .ok (.iload_n 1, 1) := by decide +kernel
theorem dX11_perform_43 : decode cX11_perform 43 = .ok (.iconst 2, 1) := by decide +kernel
theorem dX11_perform_44 : decode cX11_perform 44 = .ok (.invokevirtual 457, 3) := by decide +kernel
theorem dX11_perform_47 : decode cX11_perform 47 = .ok (.lstore 6, 2) := by decide +kernel
theorem dX11_perform_49 : decode cX11_perform 49 = .ok (.aload_n 0, 1) := by decide +kernel
theorem dX11_perform_50 : decode cX11_perform 50 = .ok (.getfield 19, 3) := by decide +kernel
theorem dX11_perform_53 : decode cX11_perform 53 = .ok (.getfield 460, 3) := by decide +kernel
theorem dX11_perform_56 : decode cX11_perform 56 = .ok (.iload_n 3, 1) := by decide +kernel
theorem dX11_perform_57 : decode cX11_perform 57 = .ok (.iaload, 1) := by decide +kernel
theorem dX11_perform_58 : decode cX11_perform 58 = .ok (.iconst 3, 1) := by decide +kernel
theorem dX11_perform_59 : decode cX11_perform 59 = .ok (.if_icmp .ne 12, 3) := by decide +kernel
theorem dX11_perform_62 : decode cX11_perform 62 = .ok (.lload 6, 2) := by decide +kernel
theorem dX11_perform_64 : decode cX11_perform 64 = .ok (.lconst 0, 1) := by decide +kernel
theorem dX11_perform_65 : decode cX11_perform 65 = .ok (.lcmp, 1) := by decide +kernel
theorem dX11_perform_66 : decode cX11_perform 66 = .ok (.ifCond .ne 5, 3) := by decide +kernel
theorem dX11_perform_69 : decode cX11_perform 69 = .ok (.iconst 4, 1) := by decide +kernel
theorem dX11_perform_70 : decode cX11_perform 70 = .ok (.ireturn, 1) := by decide +kernel
theorem dX11_perform_71 : decode cX11_perform 71 = .ok (.aload_n 0, 1) := by decide +kernel
theorem dX11_perform_72 : decode cX11_perform 72 = .ok (.iload_n 1, 1) := by decide +kernel
theorem dX11_perform_73 : decode cX11_perform 73 = .ok (.iconst 0, 1) := by decide +kernel
theorem dX11_perform_74 : decode cX11_perform 74 = .ok (.invokevirtual 454, 3) := by decide +kernel
theorem dX11_perform_77 : decode cX11_perform 77 = .ok (.istore_n 2, 1) := by decide +kernel
theorem dX11_perform_78 : decode cX11_perform 78 = .ok (.iload_n 2, 1) := by decide +kernel
theorem dX11_perform_79 : decode cX11_perform 79 = .ok (.ifCond .eq 5, 3) := by decide +kernel
theorem dX11_perform_82 : decode cX11_perform 82 = .ok (.iload_n 2, 1) := by decide +kernel
theorem dX11_perform_83 : decode cX11_perform 83 = .ok (.ireturn, 1) := by decide +kernel
theorem dX11_perform_84 : decode cX11_perform 84 = .ok (.aload_n 0, 1) := by decide +kernel
theorem dX11_perform_85 : decode cX11_perform 85 = .ok (.aload_n 0, 1) := by decide +kernel
theorem dX11_perform_86 : decode cX11_perform 86 = .ok (.getfield 63, 3) := by decide +kernel
theorem dX11_perform_89 : decode cX11_perform 89 = .ok (.iload_n 1, 1) := by decide +kernel
theorem dX11_perform_90 : decode cX11_perform 90 = .ok (.iconst 0, 1) := by decide +kernel
theorem dX11_perform_91 : decode cX11_perform 91 = .ok (.invokevirtual 463, 3) := by decide +kernel
theorem dX11_perform_94 : decode cX11_perform 94 = .ok (.invokevirtual 155, 3) := by decide +kernel
theorem dX11_perform_97 : decode cX11_perform 97 = .ok (.astore 8, 2) := by decide +kernel
theorem dX11_perform_99 : decode cX11_perform 99 = .ok (.aload 8, 2) := by decide +kernel
theorem dX11_perform_101 : decode cX11_perform 101 = .ok (.ifnull 44, 3) := by decide +kernel
theorem dX11_perform_104 : decode cX11_perform 104 = .ok (.iload_n 1, 1) := by decide +kernel
theorem dX11_perform_105 : decode cX11_perform 105 = .ok (.iconst 3, 1) := by decide +kernel
theorem dX11_perform_106 : decode cX11_perform 106 = .ok (.imul, 1) := by decide +kernel
theorem dX11_perform_107 : decode cX11_perform 107 = .ok (.istore 9, 2) := by decide +kernel
theorem dX11_perform_109 : decode cX11_perform 109 = .ok (.aload 8, 2) := by decide +kernel
theorem dX11_perform_111 : decode cX11_perform 111 = .ok (.aload_n 0, 1) := by decide +kernel
theorem dX11_perform_112 : decode cX11_perform 112 = .ok (.getfield 63, 3) := by decide +kernel
theorem dX11_perform_115 : decode cX11_perform 115 = .ok (.getfield 466, 3) := by decide +kernel
theorem dX11_perform_118 : decode cX11_perform 118 = .ok (.iload 9, 2) := by decide +kernel
theorem dX11_perform_120 : decode cX11_perform 120 = .ok (.laload, 1) := by decide +kernel
theorem dX11_perform_121 : decode cX11_perform 121 = .ok (.l2i, 1) := by decide +kernel
theorem dX11_perform_122 : decode cX11_perform 122 = .ok (.aload_n 0, 1) := by decide +kernel
theorem dX11_perform_123 : decode cX11_perform 123 = .ok (.getfield 63, 3) := by decide +kernel
theorem dX11_perform_126 : decode cX11_perform 126 = .ok (.getfield 469, 3) := by decide +kernel
theorem dX11_perform_129 : decode cX11_perform 129 = .ok (.iload 9, 2) := by decide +kernel
theorem dX11_perform_131 : decode cX11_perform 131 = .ok (.laload, 1) := by decide +kernel
theorem dX11_perform_132 : decode cX11_perform 132 = .ok (.l2i, 1) := by decide +kernel
theorem dX11_perform_133 : decode cX11_perform 133 = .ok (.aload_n 0, 1) := by decide +kernel
theorem dX11_perform_134 : decode cX11_perform 134 = .ok (.iload_n 3, 1) := by decide +kernel
theorem dX11_perform_135 : decode cX11_perform 135 = .ok (.lload 4, 2) := by decide +kernel
theorem dX11_perform_137 : decode cX11_perform 137 = .ok (.lload 6, 2) := by decide +kernel
theorem dX11_perform_139 : decode cX11_perform 139 = .ok (.invokevirtual 472, 3) := by decide +kernel
theorem dX11_perform_142 : decode cX11_perform 142 = .ok (.invokevirtual 236, 3) := by decide +kernel
theorem dX11_perform_145 : decode cX11_perform 145 = .ok (.iconst 0, 1) := by decide +kernel
theorem dX11_perform_146 : decode cX11_perform 146 = .ok (.ireturn, 1) := by decide +kernel
theorem dX11_lackAt_0 : decode cX11_lackAt 0 = .ok (.aload_n 0, 1) := by decide +kernel
theorem dX11_lackAt_1 : decode cX11_lackAt 1 = .ok (.aload_n 0, 1) := by decide +kernel
theorem dX11_lackAt_2 : decode cX11_lackAt 2 = .ok (.getfield 63, 3) := by decide +kernel
theorem dX11_lackAt_5 : decode cX11_lackAt 5 = .ok (.iload_n 1, 1) := by decide +kernel
theorem dX11_lackAt_6 : decode cX11_lackAt 6 = .ok (.iload_n 2, 1) := by decide +kernel
theorem dX11_lackAt_7 : decode cX11_lackAt 7 = .ok (.invokevirtual 463, 3) := by decide +kernel
theorem dX11_lackAt_10 : decode cX11_lackAt 10 = .ok (.invokevirtual 155, 3) := by decide +kernel
theorem dX11_lackAt_13 : decode cX11_lackAt 13 = .ok (.astore_n 3, 1) := by decide +kernel
theorem dX11_lackAt_14 : decode cX11_lackAt 14 = .ok (.aload_n 3, 1) := by decide +kernel
theorem dX11_lackAt_15 : decode cX11_lackAt 15 = .ok (.ifnonnull 5, 3) := by decide +kernel
theorem dX11_lackAt_18 : decode cX11_lackAt 18 = .ok (.iconst 0, 1) := by decide +kernel
theorem dX11_lackAt_19 : decode cX11_lackAt 19 = .ok (.ireturn, 1) := by decide +kernel
theorem dX11_lackAt_20 : decode cX11_lackAt 20 = .ok (.iload_n 1, 1) := by decide +kernel
theorem dX11_lackAt_21 : decode cX11_lackAt 21 = .ok (.iconst 3, 1) := by decide +kernel
theorem dX11_lackAt_22 : decode cX11_lackAt 22 = .ok (.imul, 1) := by decide +kernel
theorem dX11_lackAt_23 : decode cX11_lackAt 23 = .ok (.iload_n 2, 1) := by decide +kernel
theorem dX11_lackAt_24 : decode cX11_lackAt 24 = .ok (.iadd, 1) := by decide +kernel
theorem dX11_lackAt_25 : decode cX11_lackAt 25 = .ok (.istore 4, 2) := by decide +kernel
theorem dX11_lackAt_27 : decode cX11_lackAt 27 = .ok (.aload_n 3, 1) := by decide +kernel
theorem dX11_lackAt_28 : decode cX11_lackAt 28 = .ok (.aload_n 0, 1) := by decide +kernel
theorem dX11_lackAt_29 : decode cX11_lackAt 29 = .ok (.getfield 63, 3) := by decide +kernel
theorem dX11_lackAt_32 : decode cX11_lackAt 32 = .ok (.getfield 466, 3) := by decide +kernel
theorem dX11_lackAt_35 : decode cX11_lackAt 35 = .ok (.iload 4, 2) := by decide +kernel
theorem dX11_lackAt_37 : decode cX11_lackAt 37 = .ok (.laload, 1) := by decide +kernel
theorem dX11_lackAt_38 : decode cX11_lackAt 38 = .ok (.aload_n 0, 1) := by decide +kernel
theorem dX11_lackAt_39 : decode cX11_lackAt 39 = .ok (.getfield 63, 3) := by decide +kernel
theorem dX11_lackAt_42 : decode cX11_lackAt 42 = .ok (.getfield 469, 3) := by decide +kernel
theorem dX11_lackAt_45 : decode cX11_lackAt 45 = .ok (.iload 4, 2) := by decide +kernel
theorem dX11_lackAt_47 : decode cX11_lackAt 47 = .ok (.laload, 1) := by decide +kernel
theorem dX11_lackAt_48 : decode cX11_lackAt 48 = .ok (.invokevirtual 232, 3) := by decide +kernel
theorem dX11_lackAt_51 : decode cX11_lackAt 51 = .ok (.ireturn, 1) := by decide +kernel
theorem dX11_loadAt_0 : decode cX11_loadAt 0 = .ok (.aload_n 0, 1) := by decide +kernel
theorem dX11_loadAt_1 : decode cX11_loadAt 1 = .ok (.aload_n 0, 1) := by decide +kernel
theorem dX11_loadAt_2 : decode cX11_loadAt 2 = .ok (.getfield 63, 3) := by decide +kernel
theorem dX11_loadAt_5 : decode cX11_loadAt 5 = .ok (.iload_n 1, 1) := by decide +kernel
theorem dX11_loadAt_6 : decode cX11_loadAt 6 = .ok (.iload_n 2, 1) := by decide +kernel
theorem dX11_loadAt_7 : decode cX11_loadAt 7 = .ok (.invokevirtual 463, 3) := by decide +kernel
theorem dX11_loadAt_10 : decode cX11_loadAt 10 = .ok (.invokevirtual 155, 3) := by decide +kernel
theorem dX11_loadAt_13 : decode cX11_loadAt 13 = .ok (.astore_n 3, 1) := by decide +kernel
theorem dX11_loadAt_14 : decode cX11_loadAt 14 = .ok (.aload_n 3, 1) := by decide +kernel
theorem dX11_loadAt_15 : decode cX11_loadAt 15 = .ok (.ifnonnull 5, 3) := by decide +kernel
theorem dX11_loadAt_18 : decode cX11_loadAt 18 = .ok (.lconst 0, 1) := by decide +kernel
theorem dX11_loadAt_19 : decode cX11_loadAt 19 = .ok (.lreturn, 1) := by decide +kernel
theorem dX11_loadAt_20 : decode cX11_loadAt 20 = .ok (.iload_n 1, 1) := by decide +kernel
theorem dX11_loadAt_21 : decode cX11_loadAt 21 = .ok (.iconst 3, 1) := by decide +kernel
theorem dX11_loadAt_22 : decode cX11_loadAt 22 = .ok (.imul, 1) := by decide +kernel
theorem dX11_loadAt_23 : decode cX11_loadAt 23 = .ok (.iload_n 2, 1) := by decide +kernel
theorem dX11_loadAt_24 : decode cX11_loadAt 24 = .ok (.iadd, 1) := by decide +kernel
theorem dX11_loadAt_25 : decode cX11_loadAt 25 = .ok (.istore 4, 2) := by decide +kernel
theorem dX11_loadAt_27 : decode cX11_loadAt 27 = .ok (.aload_n 3, 1) := by decide +kernel
theorem dX11_loadAt_28 : decode cX11_loadAt 28 = .ok (.aload_n 0, 1) := by decide +kernel
theorem dX11_loadAt_29 : decode cX11_loadAt 29 = .ok (.getfield 63, 3) := by decide +kernel
theorem dX11_loadAt_32 : decode cX11_loadAt 32 = .ok (.getfield 466, 3) := by decide +kernel
theorem dX11_loadAt_35 : decode cX11_loadAt 35 = .ok (.iload 4, 2) := by decide +kernel
theorem dX11_loadAt_37 : decode cX11_loadAt 37 = .ok (.laload, 1) := by decide +kernel
theorem dX11_loadAt_38 : decode cX11_loadAt 38 = .ok (.l2i, 1) := by decide +kernel
theorem dX11_loadAt_39 : decode cX11_loadAt 39 = .ok (.aload_n 0, 1) := by decide +kernel
theorem dX11_loadAt_40 : decode cX11_loadAt 40 = .ok (.getfield 63, 3) := by decide +kernel
theorem dX11_loadAt_43 : decode cX11_loadAt 43 = .ok (.getfield 469, 3) := by decide +kernel
theorem dX11_loadAt_46 : decode cX11_loadAt 46 = .ok (.iload 4, 2) := by decide +kernel
theorem dX11_loadAt_48 : decode cX11_loadAt 48 = .ok (.laload, 1) := by decide +kernel
theorem dX11_loadAt_49 : decode cX11_loadAt 49 = .ok (.l2i, 1) := by decide +kernel
theorem dX11_loadAt_50 : decode cX11_loadAt 50 = .ok (.invokevirtual 240, 3) := by decide +kernel
theorem dX11_loadAt_53 : decode cX11_loadAt 53 = .ok (.lreturn, 1) := by decide +kernel
theorem dX11_outcome_0 : decode cX11_outcome 0 = .ok (.aload_n 0, 1) := by decide +kernel
theorem dX11_outcome_1 : decode cX11_outcome 1 = .ok (.getfield 19, 3) := by decide +kernel
theorem dX11_outcome_4 : decode cX11_outcome 4 = .ok (.getfield 476, 3) := by decide +kernel
theorem dX11_outcome_7 : decode cX11_outcome 7 = .ok (.iload_n 1, 1) := by decide +kernel
theorem dX11_outcome_8 : decode cX11_outcome 8 = .ok (.iaload, 1) := by decide +kernel
theorem dX11_outcome_9 : decode cX11_outcome 9 = .ok (.istore 6, 2) := by decide +kernel
theorem dX11_outcome_11 : decode cX11_outcome 11 = .ok (.aload_n 0, 1) := by decide +kernel
theorem dX11_outcome_12 : decode cX11_outcome 12 = .ok (.getfield 19, 3) := by decide +kernel
theorem dX11_outcome_15 : decode cX11_outcome 15 = .ok (.getfield 460, 3) := by decide +kernel
theorem dX11_outcome_18 : decode cX11_outcome 18 = .ok (.iload_n 1, 1) := by decide +kernel
theorem dX11_outcome_19 : decode cX11_outcome 19 = .ok (.iaload, 1) := by decide +kernel
theorem dX11_outcome_20 : decode cX11_outcome 20 = .ok (.tableswitch 68 0 4 #[36, 38, 43, 48, 64], 36) := by decide +kernel
theorem dX11_outcome_56 : decode cX11_outcome 56 = .ok (.lload_n 2, 1) := by decide +kernel
theorem dX11_outcome_57 : decode cX11_outcome 57 = .ok (.lreturn, 1) := by decide +kernel
theorem dX11_outcome_58 : decode cX11_outcome 58 = .ok (.lload_n 2, 1) := by decide +kernel
theorem dX11_outcome_59 : decode cX11_outcome 59 = .ok (.lload 4, 2) := by decide +kernel
theorem dX11_outcome_61 : decode cX11_outcome 61 = .ok (.ladd, 1) := by decide +kernel
theorem dX11_outcome_62 : decode cX11_outcome 62 = .ok (.lreturn, 1) := by decide +kernel
theorem dX11_outcome_63 : decode cX11_outcome 63 = .ok (.lload_n 2, 1) := by decide +kernel
theorem dX11_outcome_64 : decode cX11_outcome 64 = .ok (.lload 4, 2) := by decide +kernel
theorem dX11_outcome_66 : decode cX11_outcome 66 = .ok (.lmul, 1) := by decide +kernel
theorem dX11_outcome_67 : decode cX11_outcome 67 = .ok (.lreturn, 1) := by decide +kernel
theorem dX11_outcome_68 : decode cX11_outcome 68 = .ok (.lload 4, 2) := by decide +kernel
theorem dX11_outcome_70 : decode cX11_outcome 70 = .ok (.lconst 0, 1) := by decide +kernel
theorem dX11_outcome_71 : decode cX11_outcome 71 = .ok (.lcmp, 1) := by decide +kernel
theorem dX11_outcome_72 : decode cX11_outcome 72 = .ok (.ifCond .ne 7, 3) := by decide +kernel
theorem dX11_outcome_75 : decode cX11_outcome 75 = .ok (.lconst 0, 1) := by decide +kernel
theorem dX11_outcome_76 : decode cX11_outcome 76 = .ok (.goto 7, 3) := by decide +kernel
theorem dX11_outcome_79 : decode cX11_outcome 79 = .ok (.lload_n 2, 1) := by decide +kernel
theorem dX11_outcome_80 : decode cX11_outcome 80 = .ok (.lload 4, 2) := by decide +kernel
theorem dX11_outcome_82 : decode cX11_outcome 82 = .ok (.ldiv, 1) := by decide +kernel
theorem dX11_outcome_83 : decode cX11_outcome 83 = .ok (.lreturn, 1) := by decide +kernel
theorem dX11_outcome_84 : decode cX11_outcome 84 = .ok (.iload 6, 2) := by decide +kernel
theorem dX11_outcome_86 : decode cX11_outcome 86 = .ok (.i2l, 1) := by decide +kernel
theorem dX11_outcome_87 : decode cX11_outcome 87 = .ok (.lreturn, 1) := by decide +kernel
theorem dX11_outcome_88 : decode cX11_outcome 88 = .ok (.lload_n 2, 1) := by decide +kernel
theorem dX11_outcome_89 : decode cX11_outcome 89 = .ok (.iload 6, 2) := by decide +kernel
theorem dX11_outcome_91 : decode cX11_outcome 91 = .ok (.i2l, 1) := by decide +kernel
theorem dX11_outcome_92 : decode cX11_outcome 92 = .ok (.ladd, 1) := by decide +kernel
theorem dX11_outcome_93 : decode cX11_outcome 93 = .ok (.lreturn, 1) := by decide +kernel
theorem dX11_endAt_0 : decode cX11_endAt 0 = .ok (.aload_n 0, 1) := by decide +kernel
theorem dX11_endAt_1 : decode cX11_endAt 1 = .ok (.aload_n 0, 1) := by decide +kernel
theorem dX11_endAt_2 : decode cX11_endAt 2 = .ok (.getfield 54, 3) := by decide +kernel
theorem dX11_endAt_5 : decode cX11_endAt 5 = .ok (.iload_n 1, 1) := by decide +kernel
theorem dX11_endAt_6 : decode cX11_endAt 6 = .ok (.invokevirtual 253, 3) := by decide +kernel
theorem dX11_endAt_9 : decode cX11_endAt 9 = .ok (.putfield 106, 3) := by decide +kernel
theorem dX11_endAt_12 : decode cX11_endAt 12 = .ok (.iconst 0, 1) := by decide +kernel
theorem dX11_endAt_13 : decode cX11_endAt 13 = .ok (.istore_n 2, 1) := by decide +kernel
theorem dX11_endAt_14 : decode cX11_endAt 14 = .ok (.iload_n 2, 1) := by decide +kernel
theorem dX11_endAt_15 : decode cX11_endAt 15 = .ok (.iconst 4, 1) := by decide +kernel
theorem dX11_endAt_16 : decode cX11_endAt 16 = .ok (.if_icmp .ge 24, 3) := by decide +kernel
theorem dX11_endAt_19 : decode cX11_endAt 19 = .ok (.aload_n 0, 1) := by decide +kernel
theorem dX11_endAt_20 : decode cX11_endAt 20 = .ok (.getfield 109, 3) := by decide +kernel
theorem dX11_endAt_23 : decode cX11_endAt 23 = .ok (.iload_n 2, 1) := by decide +kernel
theorem dX11_endAt_24 : decode cX11_endAt 24 = .ok (.aload_n 0, 1) := by decide +kernel
theorem dX11_endAt_25 : decode cX11_endAt 25 = .ok (.getfield 54, 3) := by decide +kernel
theorem dX11_endAt_28 : decode cX11_endAt 28 = .ok (.iload_n 1, 1) := by decide +kernel
theorem dX11_endAt_29 : decode cX11_endAt 29 = .ok (.iload_n 2, 1) := by decide +kernel
theorem dX11_endAt_30 : decode cX11_endAt 30 = .ok (.invokevirtual 258, 3) := by decide +kernel
theorem dX11_endAt_33 : decode cX11_endAt 33 = .ok (.lastore, 1) := by decide +kernel
theorem dX11_endAt_34 : decode cX11_endAt 34 = .ok (.iinc 2 1, 3) := by decide +kernel
theorem dX11_endAt_37 : decode cX11_endAt 37 = .ok (.goto (-23), 3) := by decide +kernel
theorem dX11_endAt_40 : decode cX11_endAt 40 = .ok (.return_, 1) := by decide +kernel
theorem dX11_countFetched_0 : decode cX11_countFetched 0 = .ok (.aload_n 0, 1) := by decide +kernel
theorem dX11_countFetched_1 : decode cX11_countFetched 1 = .ok (.getfield 63, 3) := by decide +kernel
theorem dX11_countFetched_4 : decode cX11_countFetched 4 = .ok (.invokevirtual 378, 3) := by decide +kernel
theorem dX11_countFetched_7 : decode cX11_countFetched 7 = .ok (.aload_n 0, 1) := by decide +kernel
theorem dX11_countFetched_8 : decode cX11_countFetched 8 = .ok (.getfield 81, 3) := by decide +kernel
theorem dX11_countFetched_11 : decode cX11_countFetched 11 = .ok (.invokevirtual 448, 3) := by decide +kernel
theorem dX11_countFetched_14 : decode cX11_countFetched 14 = .ok (.aload_n 0, 1) := by decide +kernel
theorem dX11_countFetched_15 : decode cX11_countFetched 15 = .ok (.getfield 88, 3) := by decide +kernel
theorem dX11_countFetched_18 : decode cX11_countFetched 18 = .ok (.iload_n 1, 1) := by decide +kernel
theorem dX11_countFetched_19 : decode cX11_countFetched 19 = .ok (.invokevirtual 479, 3) := by decide +kernel
theorem dX11_countFetched_22 : decode cX11_countFetched 22 = .ok (.iconst 0, 1) := by decide +kernel
theorem dX11_countFetched_23 : decode cX11_countFetched 23 = .ok (.istore_n 3, 1) := by decide +kernel
theorem dX11_countFetched_24 : decode cX11_countFetched 24 = .ok (.iconst 0, 1) := by decide +kernel
theorem dX11_countFetched_25 : decode cX11_countFetched 25 = .ok (.istore 4, 2) := by decide +kernel
theorem dX11_countFetched_27 : decode cX11_countFetched 27 = .ok (.iload 4, 2) := by decide +kernel
theorem dX11_countFetched_29 : decode cX11_countFetched 29 = .ok (.aload_n 0, 1) := by decide +kernel
theorem dX11_countFetched_30 : decode cX11_countFetched 30 = .ok (.getfield 54, 3) := by decide +kernel
theorem dX11_countFetched_33 : decode cX11_countFetched 33 = .ok (.getfield 248, 3) := by decide +kernel
theorem dX11_countFetched_36 : decode cX11_countFetched 36 = .ok (.if_icmp .ge 50, 3) := by decide +kernel
theorem dX11_countFetched_39 : decode cX11_countFetched 39 = .ok (.aload_n 0, 1) := by decide +kernel
theorem dX11_countFetched_40 : decode cX11_countFetched 40 = .ok (.getfield 81, 3) := by decide +kernel
theorem dX11_countFetched_43 : decode cX11_countFetched 43 = .ok (.getfield 451, 3) := by decide +kernel
theorem dX11_countFetched_46 : decode cX11_countFetched 46 = .ok (.iload 4, 2) := by decide +kernel
theorem dX11_countFetched_48 : decode cX11_countFetched 48 = .ok (.iaload, 1) := by decide +kernel
theorem dX11_countFetched_49 : decode cX11_countFetched 49 = .ok (.istore 5, 2) := by decide +kernel
theorem dX11_countFetched_51 : decode cX11_countFetched 51 = .ok (.iload_n 3, 1) := by decide +kernel
theorem dX11_countFetched_52 : decode cX11_countFetched 52 = .ok (.aload_n 0, 1) := by decide +kernel
theorem dX11_countFetched_53 : decode cX11_countFetched 53 = .ok (.iload 5, 2) := by decide +kernel
theorem dX11_countFetched_55 : decode cX11_countFetched 55 = .ok (.iconst 1, 1) := by decide +kernel
theorem dX11_countFetched_56 : decode cX11_countFetched 56 = .ok (.iload_n 2, 1) := by decide +kernel
theorem dX11_countFetched_57 : decode cX11_countFetched 57 = .ok (.invokevirtual 482, 3) := by decide +kernel
theorem dX11_countFetched_60 : decode cX11_countFetched 60 = .ok (.aload_n 0, 1) := by decide +kernel
theorem dX11_countFetched_61 : decode cX11_countFetched 61 = .ok (.iload 5, 2) := by decide +kernel
theorem dX11_countFetched_63 : decode cX11_countFetched 63 = .ok (.iconst 2, 1) := by decide +kernel
theorem dX11_countFetched_64 : decode cX11_countFetched 64 = .ok (.iload_n 2, 1) := by decide +kernel
theorem dX11_countFetched_65 : decode cX11_countFetched 65 = .ok (.invokevirtual 482, 3) := by decide +kernel
theorem dX11_countFetched_68 : decode cX11_countFetched 68 = .ok (.iadd, 1) := by decide +kernel
theorem dX11_countFetched_69 : decode cX11_countFetched 69 = .ok (.aload_n 0, 1) := by decide +kernel
theorem dX11_countFetched_70 : decode cX11_countFetched 70 = .ok (.iload 5, 2) := by decide +kernel
theorem dX11_countFetched_72 : decode cX11_countFetched 72 = .ok (.iconst 0, 1) := by decide +kernel
theorem dX11_countFetched_73 : decode cX11_countFetched 73 = .ok (.iload_n 2, 1) := by decide +kernel
theorem dX11_countFetched_74 : decode cX11_countFetched 74 = .ok (.invokevirtual 482, 3) := by decide +kernel
theorem dX11_countFetched_77 : decode cX11_countFetched 77 = .ok (.iadd, 1) := by decide +kernel
theorem dX11_countFetched_78 : decode cX11_countFetched 78 = .ok (.iadd, 1) := by decide +kernel
theorem dX11_countFetched_79 : decode cX11_countFetched 79 = .ok (.istore_n 3, 1) := by decide +kernel
theorem dX11_countFetched_80 : decode cX11_countFetched 80 = .ok (.iinc 4 1, 3) := by decide +kernel
theorem dX11_countFetched_83 : decode cX11_countFetched 83 = .ok (.goto (-56), 3) := by decide +kernel
theorem dX11_countFetched_86 : decode cX11_countFetched 86 = .ok (.iload_n 3, 1) := by decide +kernel
theorem dX11_countFetched_87 : decode cX11_countFetched 87 = .ok (.ireturn, 1) := by decide +kernel
theorem dX11_fetchBy_0 : decode cX11_fetchBy 0 = .ok (.aload_n 0, 1) := by decide +kernel
theorem dX11_fetchBy_1 : decode cX11_fetchBy 1 = .ok (.getfield 63, 3) := by decide +kernel
theorem dX11_fetchBy_4 : decode cX11_fetchBy 4 = .ok (.iload_n 1, 1) := by decide +kernel
theorem dX11_fetchBy_5 : decode cX11_fetchBy 5 = .ok (.iload_n 2, 1) := by decide +kernel
theorem dX11_fetchBy_6 : decode cX11_fetchBy 6 = .ok (.invokevirtual 463, 3) := by decide +kernel
theorem dX11_fetchBy_9 : decode cX11_fetchBy 9 = .ok (.istore 4, 2) := by decide +kernel
theorem dX11_fetchBy_11 : decode cX11_fetchBy 11 = .ok (.iload 4, 2) := by decide +kernel
theorem dX11_fetchBy_13 : decode cX11_fetchBy 13 = .ok (.ifCond .lt 7, 3) := by decide +kernel
theorem dX11_fetchBy_16 : decode cX11_fetchBy 16 = .ok (.iload_n 3, 1) := by decide +kernel
theorem dX11_fetchBy_17 : decode cX11_fetchBy 17 = .ok (.ifCond .gt 5, 3) := by decide +kernel
theorem dX11_fetchBy_20 : decode cX11_fetchBy 20 = .ok (.iconst 0, 1) := by decide +kernel
theorem dX11_fetchBy_21 : decode cX11_fetchBy 21 = .ok (.ireturn, 1) := by decide +kernel
theorem dX11_fetchBy_22 : decode cX11_fetchBy 22 = .ok (.iload_n 1, 1) := by decide +kernel
theorem dX11_fetchBy_23 : decode cX11_fetchBy 23 = .ok (.iconst 3, 1) := by decide +kernel
theorem dX11_fetchBy_24 : decode cX11_fetchBy 24 = .ok (.imul, 1) := by decide +kernel
theorem dX11_fetchBy_25 : decode cX11_fetchBy 25 = .ok (.iload_n 2, 1) := by decide +kernel
theorem dX11_fetchBy_26 : decode cX11_fetchBy 26 = .ok (.iadd, 1) := by decide +kernel
theorem dX11_fetchBy_27 : decode cX11_fetchBy 27 = .ok (.istore 5, 2) := by decide +kernel
theorem dX11_fetchBy_29 : decode cX11_fetchBy 29 = .ok (.aload_n 0, 1) := by decide +kernel
theorem dX11_fetchBy_30 : decode cX11_fetchBy 30 = .ok (.getfield 88, 3) := by decide +kernel
theorem dX11_fetchBy_33 : decode cX11_fetchBy 33 = .ok (.iload 4, 2) := by decide +kernel
theorem dX11_fetchBy_35 : decode cX11_fetchBy 35 = .ok (.aload_n 0, 1) := by decide +kernel
theorem dX11_fetchBy_36 : decode cX11_fetchBy 36 = .ok (.getfield 63, 3) := by decide +kernel
theorem dX11_fetchBy_39 : decode cX11_fetchBy 39 = .ok (.getfield 466, 3) := by decide +kernel
theorem dX11_fetchBy_42 : decode cX11_fetchBy 42 = .ok (.iload 5, 2) := by decide +kernel
theorem dX11_fetchBy_44 : decode cX11_fetchBy 44 = .ok (.laload, 1) := by decide +kernel
theorem dX11_fetchBy_45 : decode cX11_fetchBy 45 = .ok (.aload_n 0, 1) := by decide +kernel
theorem dX11_fetchBy_46 : decode cX11_fetchBy 46 = .ok (.getfield 63, 3) := by decide +kernel
theorem dX11_fetchBy_49 : decode cX11_fetchBy 49 = .ok (.getfield 469, 3) := by decide +kernel
theorem dX11_fetchBy_52 : decode cX11_fetchBy 52 = .ok (.iload 5, 2) := by decide +kernel
theorem dX11_fetchBy_54 : decode cX11_fetchBy 54 = .ok (.laload, 1) := by decide +kernel
theorem dX11_fetchBy_55 : decode cX11_fetchBy 55 = .ok (.iload_n 3, 1) := by decide +kernel
theorem dX11_fetchBy_56 : decode cX11_fetchBy 56 = .ok (.i2l, 1) := by decide +kernel
theorem dX11_fetchBy_57 : decode cX11_fetchBy 57 = .ok (.invokestatic 485, 3) := by decide +kernel
theorem dX11_fetchBy_60 : decode cX11_fetchBy 60 = .ok (.invokevirtual 491, 3) := by decide +kernel
theorem dX11_fetchBy_63 : decode cX11_fetchBy 63 = .ok (.ifCond .eq 7, 3) := by decide +kernel
theorem dX11_fetchBy_66 : decode cX11_fetchBy 66 = .ok (.iconst 1, 1) := by decide +kernel
theorem dX11_fetchBy_67 : decode cX11_fetchBy 67 = .ok (.goto 4, 3) := by decide +kernel
theorem dX11_fetchBy_70 : decode cX11_fetchBy 70 = .ok (.iconst 0, 1) := by decide +kernel
theorem dX11_fetchBy_71 : decode cX11_fetchBy 71 = .ok (.ireturn, 1) := by decide +kernel
theorem dX11_choicesOf_0 : decode cX11_choicesOf 0 = .ok (.iconst 4, 1) := by decide +kernel
theorem dX11_choicesOf_1 : decode cX11_choicesOf 1 = .ok (.aload_n 0, 1) := by decide +kernel
theorem dX11_choicesOf_2 : decode cX11_choicesOf 2 = .ok (.getfield 19, 3) := by decide +kernel
theorem dX11_choicesOf_5 : decode cX11_choicesOf 5 = .ok (.getfield 166, 3) := by decide +kernel
theorem dX11_choicesOf_8 : decode cX11_choicesOf 8 = .ok (.iload_n 1, 1) := by decide +kernel
theorem dX11_choicesOf_9 : decode cX11_choicesOf 9 = .ok (.iaload, 1) := by decide +kernel
theorem dX11_choicesOf_10 : decode cX11_choicesOf 10 = .ok (.isub, 1) := by decide +kernel
theorem dX11_choicesOf_11 : decode cX11_choicesOf 11 = .ok (.iconst 1, 1) := by decide +kernel
theorem dX11_choicesOf_12 : decode cX11_choicesOf 12 = .ok (.iadd, 1) := by decide +kernel
theorem dX11_choicesOf_13 : decode cX11_choicesOf 13 = .ok (.ireturn, 1) := by decide +kernel
theorem dX11_makeChoice_0 : decode cX11_makeChoice 0 = .ok (.iload_n 2, 1) := by decide +kernel
theorem dX11_makeChoice_1 : decode cX11_makeChoice 1 = .ok (.ifCond .gt 4, 3) := by decide +kernel
theorem dX11_makeChoice_4 : decode cX11_makeChoice 4 = .ok (.return_, 1) := by decide +kernel
theorem dX11_makeChoice_5 : decode cX11_makeChoice 5 = .ok (.iload_n 2, 1) := by decide +kernel
theorem dX11_makeChoice_6 : decode cX11_makeChoice 6 = .ok (.aload_n 0, 1) := by decide +kernel
theorem dX11_makeChoice_7 : decode cX11_makeChoice 7 = .ok (.iload_n 1, 1) := by decide +kernel
theorem dX11_makeChoice_8 : decode cX11_makeChoice 8 = .ok (.invokevirtual 391, 3) := by decide +kernel
theorem dX11_makeChoice_11 : decode cX11_makeChoice 11 = .ok (.iconst 1, 1) := by decide +kernel
theorem dX11_makeChoice_12 : decode cX11_makeChoice 12 = .ok (.isub, 1) := by decide +kernel
theorem dX11_makeChoice_13 : decode cX11_makeChoice 13 = .ok (.if_icmp .ne 14, 3) := by decide +kernel
theorem dX11_makeChoice_16 : decode cX11_makeChoice 16 = .ok (.aload_n 0, 1) := by decide +kernel
theorem dX11_makeChoice_17 : decode cX11_makeChoice 17 = .ok (.getfield 45, 3) := by decide +kernel
theorem dX11_makeChoice_20 : decode cX11_makeChoice 20 = .ok (.iload_n 1, 1) := by decide +kernel
theorem dX11_makeChoice_21 : decode cX11_makeChoice 21 = .ok (.invokevirtual 311, 3) := by decide +kernel
theorem dX11_makeChoice_24 : decode cX11_makeChoice 24 = .ok (.goto 22, 3) := by decide +kernel
theorem dX11_makeChoice_27 : decode cX11_makeChoice 27 = .ok (.aload_n 0, 1) := by decide +kernel
theorem dX11_makeChoice_28 : decode cX11_makeChoice 28 = .ok (.getfield 45, 3) := by decide +kernel
theorem dX11_makeChoice_31 : decode cX11_makeChoice 31 = .ok (.iload_n 1, 1) := by decide +kernel
theorem dX11_makeChoice_32 : decode cX11_makeChoice 32 = .ok (.aload_n 0, 1) := by decide +kernel
theorem dX11_makeChoice_33 : decode cX11_makeChoice 33 = .ok (.getfield 19, 3) := by decide +kernel
theorem dX11_makeChoice_36 : decode cX11_makeChoice 36 = .ok (.getfield 166, 3) := by decide +kernel
theorem dX11_makeChoice_39 : decode cX11_makeChoice 39 = .ok (.iload_n 1, 1) := by decide +kernel
theorem dX11_makeChoice_40 : decode cX11_makeChoice 40 = .ok (.iaload, 1) := by decide +kernel
theorem dX11_makeChoice_41 : decode cX11_makeChoice 41 = .ok (.iload_n 2, 1) := by decide +kernel
theorem dX11_makeChoice_42 : decode cX11_makeChoice 42 = .ok (.iadd, 1) := by decide +kernel
theorem dX11_makeChoice_43 : decode cX11_makeChoice 43 = .ok (.invokevirtual 298, 3) := by decide +kernel
theorem dX11_makeChoice_46 : decode cX11_makeChoice 46 = .ok (.return_, 1) := by decide +kernel
theorem dX11_tryChoice_0 : decode cX11_tryChoice 0 = .ok (.aload_n 0, 1) := by decide +kernel
theorem dX11_tryChoice_1 : decode cX11_tryChoice 1 = .ok (.getfield 45, 3) := by decide +kernel
theorem dX11_tryChoice_4 : decode cX11_tryChoice 4 = .ok (.invokevirtual 495, 3) := by decide +kernel
theorem dX11_tryChoice_7 : decode cX11_tryChoice 7 = .ok (.aload_n 0, 1) := by decide +kernel
theorem dX11_tryChoice_8 : decode cX11_tryChoice 8 = .ok (.iload_n 1, 1) := by decide +kernel
theorem dX11_tryChoice_9 : decode cX11_tryChoice 9 = .ok (.iload_n 2, 1) := by decide +kernel
theorem dX11_tryChoice_10 : decode cX11_tryChoice 10 = .ok (.invokevirtual 397, 3) := by decide +kernel
theorem dX11_tryChoice_13 : decode cX11_tryChoice 13 = .ok (.aload_n 0, 1) := by decide +kernel
theorem dX11_tryChoice_14 : decode cX11_tryChoice 14 = .ok (.invokevirtual 356, 3) := by decide +kernel
theorem dX11_tryChoice_17 : decode cX11_tryChoice 17 = .ok (.aload_n 0, 1) := by decide +kernel
theorem dX11_tryChoice_18 : decode cX11_tryChoice 18 = .ok (.getfield 81, 3) := by decide +kernel
theorem dX11_tryChoice_21 : decode cX11_tryChoice 21 = .ok (.invokevirtual 366, 3) := by decide +kernel
theorem dX11_tryChoice_24 : decode cX11_tryChoice 24 = .ok (.ifCond .eq 13, 3) := by decide +kernel
theorem dX11_tryChoice_27 : decode cX11_tryChoice 27 = .ok (.aload_n 0, 1) := by decide +kernel
theorem dX11_tryChoice_28 : decode cX11_tryChoice 28 = .ok (.iload_n 3, 1) := by decide +kernel
theorem dX11_tryChoice_29 : decode cX11_tryChoice 29 = .ok (.iload 4, 2) := by decide +kernel
theorem dX11_tryChoice_31 : decode cX11_tryChoice 31 = .ok (.invokevirtual 388, 3) := by decide +kernel
theorem dX11_tryChoice_34 : decode cX11_tryChoice 34 = .ok (.goto 5, 3) := by decide +kernel
theorem dX11_tryChoice_37 : decode cX11_tryChoice 37 = .ok (.bipush (-9), 2) := by decide +kernel
theorem dX11_tryChoice_39 : decode cX11_tryChoice 39 = .ok (.istore 5, 2) := by decide +kernel
theorem dX11_tryChoice_41 : decode cX11_tryChoice 41 = .ok (.aload_n 0, 1) := by decide +kernel
theorem dX11_tryChoice_42 : decode cX11_tryChoice 42 = .ok (.getfield 45, 3) := by decide +kernel
theorem dX11_tryChoice_45 : decode cX11_tryChoice 45 = .ok (.invokevirtual 498, 3) := by decide +kernel
theorem dX11_tryChoice_48 : decode cX11_tryChoice 48 = .ok (.iload 5, 2) := by decide +kernel
theorem dX11_tryChoice_50 : decode cX11_tryChoice 50 = .ok (.ireturn, 1) := by decide +kernel
theorem dX11_tellLine_0 : decode cX11_tellLine 0 = .ok (.aload_n 0, 1) := by decide +kernel
theorem dX11_tellLine_1 : decode cX11_tellLine 1 = .ok (.getfield 81, 3) := by decide +kernel
theorem dX11_tellLine_4 : decode cX11_tellLine 4 = .ok (.getfield 501, 3) := by decide +kernel
theorem dX11_tellLine_7 : decode cX11_tellLine 7 = .ok (.iload_n 1, 1) := by decide +kernel
theorem dX11_tellLine_8 : decode cX11_tellLine 8 = .ok (.iaload, 1) := by decide +kernel
theorem dX11_tellLine_9 : decode cX11_tellLine 9 = .ok (.istore_n 3, 1) := by decide +kernel
theorem dX11_tellLine_10 : decode cX11_tellLine 10 = .ok (.aload_n 0, 1) := by decide +kernel
theorem dX11_tellLine_11 : decode cX11_tellLine 11 = .ok (.getfield 81, 3) := by decide +kernel
theorem dX11_tellLine_14 : decode cX11_tellLine 14 = .ok (.getfield 501, 3) := by decide +kernel
theorem dX11_tellLine_17 : decode cX11_tellLine 17 = .ok (.iload_n 1, 1) := by decide +kernel
theorem dX11_tellLine_18 : decode cX11_tellLine 18 = .ok (.iconst 1, 1) := by decide +kernel
theorem dX11_tellLine_19 : decode cX11_tellLine 19 = .ok (.iadd, 1) := by decide +kernel
theorem dX11_tellLine_20 : decode cX11_tellLine 20 = .ok (.iaload, 1) := by decide +kernel
theorem dX11_tellLine_21 : decode cX11_tellLine 21 = .ok (.iload_n 3, 1) := by decide +kernel
theorem dX11_tellLine_22 : decode cX11_tellLine 22 = .ok (.isub, 1) := by decide +kernel
theorem dX11_tellLine_23 : decode cX11_tellLine 23 = .ok (.istore 4, 2) := by decide +kernel
theorem dX11_tellLine_25 : decode cX11_tellLine 25 = .ok (.aload_n 0, 1) := by decide +kernel
theorem dX11_tellLine_26 : decode cX11_tellLine 26 = .ok (.getfield 81, 3) := by decide +kernel
theorem dX11_tellLine_29 : decode cX11_tellLine 29 = .ok (.getfield 451, 3) := by decide +kernel
theorem dX11_tellLine_32 : decode cX11_tellLine 32 = .ok (.iload_n 3, 1) := by decide +kernel
theorem dX11_tellLine_33 : decode cX11_tellLine 33 = .ok (.iaload, 1) := by decide +kernel
theorem dX11_tellLine_34 : decode cX11_tellLine 34 = .ok (.istore 5, 2) := by decide +kernel
theorem dX11_tellLine_36 : decode cX11_tellLine 36 = .ok (.iload_n 2, 1) := by decide +kernel
theorem dX11_tellLine_37 : decode cX11_tellLine 37 = .ok (.ifCond .ne 14, 3) := by decide +kernel
theorem dX11_tellLine_40 : decode cX11_tellLine 40 = .ok (.aload_n 0, 1) := by decide +kernel
theorem dX11_tellLine_41 : decode cX11_tellLine 41 = .ok (.getfield 54, 3) := by decide +kernel
theorem dX11_tellLine_44 : decode cX11_tellLine 44 = .ok (.iload 5, 2) := by decide +kernel
theorem dX11_tellLine_46 : decode cX11_tellLine 46 = .ok (.invokevirtual 253, 3) := by decide +kernel
theorem dX11_tellLine_49 : decode cX11_tellLine 49 = .ok (.i2l, 1) := by decide +kernel
theorem dX11_tellLine_50 : decode cX11_tellLine 50 = .ok (.lreturn, 1) := by decide +kernel
theorem dX11_tellLine_51 : decode cX11_tellLine 51 = .ok (.iload_n 2, 1) := by decide +kernel
theorem dX11_tellLine_52 : decode cX11_tellLine 52 = .ok (.bipush 9, 2) := by decide +kernel
theorem dX11_tellLine_54 : decode cX11_tellLine 54 = .ok (.if_icmp .ne 7, 3) := by decide +kernel
theorem dX11_tellLine_57 : decode cX11_tellLine 57 = .ok (.iload 4, 2) := by decide +kernel
theorem dX11_tellLine_59 : decode cX11_tellLine 59 = .ok (.i2l, 1) := by decide +kernel
theorem dX11_tellLine_60 : decode cX11_tellLine 60 = .ok (.lreturn, 1) := by decide +kernel
theorem dX11_tellLine_61 : decode cX11_tellLine 61 = .ok (.iload_n 2, 1) := by decide +kernel
theorem dX11_tellLine_62 : decode cX11_tellLine 62 = .ok (.iconst 4, 1) := by decide +kernel
theorem dX11_tellLine_63 : decode cX11_tellLine 63 = .ok (.if_icmp .gt 16, 3) := by decide +kernel
theorem dX11_tellLine_66 : decode cX11_tellLine 66 = .ok (.aload_n 0, 1) := by decide +kernel
theorem dX11_tellLine_67 : decode cX11_tellLine 67 = .ok (.getfield 54, 3) := by decide +kernel
theorem dX11_tellLine_70 : decode cX11_tellLine 70 = .ok (.iload 5, 2) := by decide +kernel
theorem dX11_tellLine_72 : decode cX11_tellLine 72 = .ok (.iload_n 2, 1) := by decide +kernel
theorem dX11_tellLine_73 : decode cX11_tellLine 73 = .ok (.iconst 1, 1) := by decide +kernel
theorem dX11_tellLine_74 : decode cX11_tellLine 74 = .ok (.isub, 1) := by decide +kernel
theorem dX11_tellLine_75 : decode cX11_tellLine 75 = .ok (.invokevirtual 258, 3) := by decide +kernel
theorem dX11_tellLine_78 : decode cX11_tellLine 78 = .ok (.lreturn, 1) := by decide +kernel
theorem dX11_tellLine_79 : decode cX11_tellLine 79 = .ok (.iload 4, 2) := by decide +kernel
theorem dX11_tellLine_81 : decode cX11_tellLine 81 = .ok (.iconst 2, 1) := by decide +kernel
theorem dX11_tellLine_82 : decode cX11_tellLine 82 = .ok (.if_icmp .ge 5, 3) := by decide +kernel
theorem dX11_tellLine_85 : decode cX11_tellLine 85 = .ok (.lconst 0, 1) := by decide +kernel
theorem dX11_tellLine_86 : decode cX11_tellLine 86 = .ok (.lreturn, 1) := by decide +kernel
theorem dX11_tellLine_87 : decode cX11_tellLine 87 = .ok (.iload_n 2, 1) := by decide +kernel
theorem dX11_tellLine_88 : decode cX11_tellLine 88 = .ok (.iconst 4, 1) := by decide +kernel
theorem dX11_tellLine_89 : decode cX11_tellLine 89 = .ok (.isub, 1) := by decide +kernel
theorem dX11_tellLine_90 : decode cX11_tellLine 90 = .ok (.iconst 1, 1) := by decide +kernel
theorem dX11_tellLine_91 : decode cX11_tellLine 91 = .ok (.isub, 1) := by decide +kernel
theorem dX11_tellLine_92 : decode cX11_tellLine 92 = .ok (.istore 6, 2) := by decide +kernel
theorem dX11_tellLine_94 : decode cX11_tellLine 94 = .ok (.aload_n 0, 1) := by decide +kernel
theorem dX11_tellLine_95 : decode cX11_tellLine 95 = .ok (.getfield 54, 3) := by decide +kernel
theorem dX11_tellLine_98 : decode cX11_tellLine 98 = .ok (.aload_n 0, 1) := by decide +kernel
theorem dX11_tellLine_99 : decode cX11_tellLine 99 = .ok (.getfield 81, 3) := by decide +kernel
theorem dX11_tellLine_102 : decode cX11_tellLine 102 = .ok (.getfield 451, 3) := by decide +kernel
theorem dX11_tellLine_105 : decode cX11_tellLine 105 = .ok (.iload_n 3, 1) := by decide +kernel
theorem dX11_tellLine_106 : decode cX11_tellLine 106 = .ok (.iconst 1, 1) := by decide +kernel
theorem dX11_tellLine_107 : decode cX11_tellLine 107 = .ok (.iadd, 1) := by decide +kernel
theorem dX11_tellLine_108 : decode cX11_tellLine 108 = .ok (.iaload, 1) := by decide +kernel
theorem dX11_tellLine_109 : decode cX11_tellLine 109 = .ok (.iload 6, 2) := by decide +kernel
theorem dX11_tellLine_111 : decode cX11_tellLine 111 = .ok (.invokevirtual 258, 3) := by decide +kernel
theorem dX11_tellLine_114 : decode cX11_tellLine 114 = .ok (.aload_n 0, 1) := by decide +kernel
theorem dX11_tellLine_115 : decode cX11_tellLine 115 = .ok (.getfield 54, 3) := by decide +kernel
theorem dX11_tellLine_118 : decode cX11_tellLine 118 = .ok (.iload 5, 2) := by decide +kernel
theorem dX11_tellLine_120 : decode cX11_tellLine 120 = .ok (.iload 6, 2) := by decide +kernel
theorem dX11_tellLine_122 : decode cX11_tellLine 122 = .ok (.invokevirtual 258, 3) := by decide +kernel
theorem dX11_tellLine_125 : decode cX11_tellLine 125 = .ok (.lsub, 1) := by decide +kernel
theorem dX11_tellLine_126 : decode cX11_tellLine 126 = .ok (.lreturn, 1) := by decide +kernel
