theorem dX0_init_0 : decode cX0_init 0 = .ok (.aload_n 0, 1) := by decide +kernel
theorem dX0_init_1 : decode cX0_init 1 = .ok (.invokespecial 3, 3) := by decide +kernel
theorem dX0_init_4 : decode cX0_init 4 = .ok (.aload_n 0, 1) := by decide +kernel
theorem dX0_init_5 : decode cX0_init 5 = .ok (.sipush 400, 3) := by decide +kernel
theorem dX0_init_8 : decode cX0_init 8 = .ok (.newarray .int, 2) := by decide +kernel
theorem dX0_init_10 : decode cX0_init 10 = .ok (.putfield 9, 3) := by decide +kernel
theorem dX0_init_13 : decode cX0_init 13 = .ok (.aload_n 0, 1) := by decide +kernel
theorem dX0_init_14 : decode cX0_init 14 = .ok (.sipush 1600, 3) := by decide +kernel
theorem dX0_init_17 : decode cX0_init 17 = .ok (.newarray .long, 2) := by decide +kernel
theorem dX0_init_19 : decode cX0_init 19 = .ok (.putfield 15, 3) := by decide +kernel
theorem dX0_init_22 : decode cX0_init 22 = .ok (.aload_n 0, 1) := by decide +kernel
theorem dX0_init_23 : decode cX0_init 23 = .ok (.iconst 4, 1) := by decide +kernel
theorem dX0_init_24 : decode cX0_init 24 = .ok (.newarray .long, 2) := by decide +kernel
theorem dX0_init_26 : decode cX0_init 26 = .ok (.putfield 19, 3) := by decide +kernel
theorem dX0_init_29 : decode cX0_init 29 = .ok (.aload_n 0, 1) := by decide +kernel
theorem dX0_init_30 : decode cX0_init 30 = .ok (.iconst 0, 1) := by decide +kernel
theorem dX0_init_31 : decode cX0_init 31 = .ok (.putfield 22, 3) := by decide +kernel
theorem dX0_init_34 : decode cX0_init 34 = .ok (.aload_n 0, 1) := by decide +kernel
theorem dX0_init_35 : decode cX0_init 35 = .ok (.iconst 0, 1) := by decide +kernel
theorem dX0_init_36 : decode cX0_init 36 = .ok (.putfield 26, 3) := by decide +kernel
theorem dX0_init_39 : decode cX0_init 39 = .ok (.aload_n 0, 1) := by decide +kernel
theorem dX0_init_40 : decode cX0_init 40 = .ok (.iconst 0, 1) := by decide +kernel
theorem dX0_init_41 : decode cX0_init 41 = .ok (.putfield 29, 3) := by decide +kernel
theorem dX0_init_44 : decode cX0_init 44 = .ok (.aload_n 0, 1) := by decide +kernel
theorem dX0_init_45 : decode cX0_init 45 = .ok (.iconst 0, 1) := by decide +kernel
theorem dX0_init_46 : decode cX0_init 46 = .ok (.putfield 33, 3) := by decide +kernel
theorem dX0_init_49 : decode cX0_init 49 = .ok (.aload_n 0, 1) := by decide +kernel
theorem dX0_init_50 : decode cX0_init 50 = .ok (.aload_n 1, 1) := by decide +kernel
theorem dX0_init_51 : decode cX0_init 51 = .ok (.putfield 36, 3) := by decide +kernel
theorem dX0_init_54 : decode cX0_init 54 = .ok (.aload_n 0, 1) := by decide +kernel
theorem dX0_init_55 : decode cX0_init 55 = .ok (.aload_n 2, 1) := by decide +kernel
theorem dX0_init_56 : decode cX0_init 56 = .ok (.putfield 40, 3) := by decide +kernel
theorem dX0_init_59 : decode cX0_init 59 = .ok (.return_, 1) := by decide +kernel
theorem dX0_refresh_0 : decode cX0_refresh 0 = .ok (.aload_n 0, 1) := by decide +kernel
theorem dX0_refresh_1 : decode cX0_refresh 1 = .ok (.getfield 33, 3) := by decide +kernel
theorem dX0_refresh_4 : decode cX0_refresh 4 = .ok (.ifCond .eq 4, 3) := by decide +kernel
theorem dX0_refresh_7 : decode cX0_refresh 7 = .ok (.return_, 1) := by decide +kernel
theorem dX0_refresh_8 : decode cX0_refresh 8 = .ok (.aload_n 0, 1) := by decide +kernel
theorem dX0_refresh_9 : decode cX0_refresh 9 = .ok (.iconst 0, 1) := by decide +kernel
theorem dX0_refresh_10 : decode cX0_refresh 10 = .ok (.putfield 22, 3) := by decide +kernel
theorem dX0_refresh_13 : decode cX0_refresh 13 = .ok (.aload_n 0, 1) := by decide +kernel
theorem dX0_refresh_14 : decode cX0_refresh 14 = .ok (.iconst 0, 1) := by decide +kernel
theorem dX0_refresh_15 : decode cX0_refresh 15 = .ok (.putfield 26, 3) := by decide +kernel
theorem dX0_refresh_18 : decode cX0_refresh 18 = .ok (.aload_n 0, 1) := by decide +kernel
theorem dX0_refresh_19 : decode cX0_refresh 19 = .ok (.iconst 0, 1) := by decide +kernel
theorem dX0_refresh_20 : decode cX0_refresh 20 = .ok (.putfield 29, 3) := by decide +kernel
theorem dX0_refresh_23 : decode cX0_refresh 23 = .ok (.aload_n 0, 1) := by decide +kernel
theorem dX0_refresh_24 : decode cX0_refresh 24 = .ok (.getfield 19, 3) := by decide +kernel
theorem dX0_refresh_27 : decode cX0_refresh 27 = .ok (.lconst 0, 1) := by decide +kernel
theorem dX0_refresh_28 : decode cX0_refresh 28 = .ok (.invokestatic 44, 3) := by decide +kernel
theorem dX0_refresh_31 : decode cX0_refresh 31 = .ok (.aload_n 0, 1) := by decide +kernel
theorem dX0_refresh_32 : decode cX0_refresh 32 = .ok (.aload_n 0, 1) := by decide +kernel
theorem dX0_refresh_33 : decode cX0_refresh 33 = .ok (.getfield 40, 3) := by decide +kernel
theorem dX0_refresh_36 : decode cX0_refresh 36 = .ok (.getfield 50, 3) := by decide +kernel
theorem dX0_refresh_39 : decode cX0_refresh 39 = .ok (.bipush 40, 2) := by decide +kernel
theorem dX0_refresh_41 : decode cX0_refresh 41 = .ok (.iaload, 1) := by decide +kernel
theorem dX0_refresh_42 : decode cX0_refresh 42 = .ok (.iconst 0, 1) := by decide +kernel
theorem dX0_refresh_43 : decode cX0_refresh 43 = .ok (.invokevirtual 55, 3) := by decide +kernel
theorem dX0_refresh_46 : decode cX0_refresh 46 = .ok (.aload_n 0, 1) := by decide +kernel
theorem dX0_refresh_47 : decode cX0_refresh 47 = .ok (.iconst 1, 1) := by decide +kernel
theorem dX0_refresh_48 : decode cX0_refresh 48 = .ok (.putfield 33, 3) := by decide +kernel
theorem dX0_refresh_51 : decode cX0_refresh 51 = .ok (.return_, 1) := by decide +kernel
theorem dX0_walk_0 : decode cX0_walk 0 = .ok (.iload_n 2, 1) := by decide +kernel
theorem dX0_walk_1 : decode cX0_walk 1 = .ok (.bipush 40, 2) := by decide +kernel
theorem dX0_walk_3 : decode cX0_walk 3 = .ok (.if_icmp .le 4, 3) := by decide +kernel
theorem dX0_walk_6 : decode cX0_walk 6 = .ok (.return_, 1) := by decide +kernel
theorem dX0_walk_7 : decode cX0_walk 7 = .ok (.iload_n 1, 1) := by decide +kernel
theorem dX0_walk_8 : decode cX0_walk 8 = .ok (.istore_n 3, 1) := by decide +kernel
theorem dX0_walk_9 : decode cX0_walk 9 = .ok (.iconst 0, 1) := by decide +kernel
theorem dX0_walk_10 : decode cX0_walk 10 = .ok (.istore 4, 2) := by decide +kernel
theorem dX0_walk_12 : decode cX0_walk 12 = .ok (.iload 4, 2) := by decide +kernel
theorem dX0_walk_14 : decode cX0_walk 14 = .ok (.bipush 40, 2) := by decide +kernel
theorem dX0_walk_16 : decode cX0_walk 16 = .ok (.if_icmp .ge 101, 3) := by decide +kernel
theorem dX0_walk_19 : decode cX0_walk 19 = .ok (.iload_n 3, 1) := by decide +kernel
theorem dX0_walk_20 : decode cX0_walk 20 = .ok (.ifCond .lt 97, 3) := by decide +kernel
theorem dX0_walk_23 : decode cX0_walk 23 = .ok (.aload_n 0, 1) := by decide +kernel
theorem dX0_walk_24 : decode cX0_walk 24 = .ok (.getfield 29, 3) := by decide +kernel
theorem dX0_walk_27 : decode cX0_walk 27 = .ok (.ifCond .ne 90, 3) := by decide +kernel
theorem dX0_walk_30 : decode cX0_walk 30 = .ok (.aload_n 0, 1) := by decide +kernel
theorem dX0_walk_31 : decode cX0_walk 31 = .ok (.getfield 40, 3) := by decide +kernel
theorem dX0_walk_34 : decode cX0_walk 34 = .ok (.iload_n 3, 1) := by decide +kernel
theorem dX0_walk_35 : decode cX0_walk 35 = .ok (.invokevirtual 59, 3) := by decide +kernel
theorem dX0_walk_38 : decode cX0_walk 38 = .ok (.ifCond .eq 19, 3) := by decide +kernel
theorem dX0_walk_41 : decode cX0_walk 41 = .ok (.aload_n 0, 1) := by decide +kernel
theorem dX0_walk_42 : decode cX0_walk 42 = .ok (.aload_n 0, 1) := by decide +kernel
theorem dX0_walk_43 : decode cX0_walk 43 = .ok (.getfield 40, 3) := by decide +kernel
theorem dX0_walk_46 : decode cX0_walk 46 = .ok (.getfield 63, 3) := by decide +kernel
theorem dX0_walk_49 : decode cX0_walk 49 = .ok (.iload_n 3, 1) := by decide +kernel
theorem dX0_walk_50 : decode cX0_walk 50 = .ok (.iaload, 1) := by decide +kernel
theorem dX0_walk_51 : decode cX0_walk 51 = .ok (.invokevirtual 66, 3) := by decide +kernel
theorem dX0_walk_54 : decode cX0_walk 54 = .ok (.goto 47, 3) := by decide +kernel
theorem dX0_walk_57 : decode cX0_walk 57 = .ok (.aload_n 0, 1) := by decide +kernel
theorem dX0_walk_58 : decode cX0_walk 58 = .ok (.getfield 40, 3) := by decide +kernel
theorem dX0_walk_61 : decode cX0_walk 61 = .ok (.iload_n 3, 1) := by decide +kernel
theorem dX0_walk_62 : decode cX0_walk 62 = .ok (.invokevirtual 70, 3) := by decide +kernel
theorem dX0_walk_65 : decode cX0_walk 65 = .ok (.ifCond .eq 12, 3) := by decide +kernel
theorem dX0_walk_68 : decode cX0_walk 68 = .ok (.aload_n 0, 1) := by decide +kernel
theorem dX0_walk_69 : decode cX0_walk 69 = .ok (.iload_n 3, 1) := by decide +kernel
theorem dX0_walk_70 : decode cX0_walk 70 = .ok (.iload_n 2, 1) := by decide +kernel
theorem dX0_walk_71 : decode cX0_walk 71 = .ok (.invokevirtual 73, 3) := by decide +kernel
theorem dX0_walk_74 : decode cX0_walk 74 = .ok (.goto 27, 3) := by decide +kernel
theorem dX0_walk_77 : decode cX0_walk 77 = .ok (.aload_n 0, 1) := by decide +kernel
theorem dX0_walk_78 : decode cX0_walk 78 = .ok (.iload_n 3, 1) := by decide +kernel
theorem dX0_walk_79 : decode cX0_walk 79 = .ok (.invokevirtual 76, 3) := by decide +kernel
theorem dX0_walk_82 : decode cX0_walk 82 = .ok (.ifCond .eq 19, 3) := by decide +kernel
theorem dX0_walk_85 : decode cX0_walk 85 = .ok (.aload_n 0, 1) := by decide +kernel
theorem dX0_walk_86 : decode cX0_walk 86 = .ok (.aload_n 0, 1) := by decide +kernel
theorem dX0_walk_87 : decode cX0_walk 87 = .ok (.getfield 40, 3) := by decide +kernel
theorem dX0_walk_90 : decode cX0_walk 90 = .ok (.getfield 50, 3) := by decide +kernel
theorem dX0_walk_93 : decode cX0_walk 93 = .ok (.iload_n 3, 1) := by decide +kernel
theorem dX0_walk_94 : decode cX0_walk 94 = .ok (.iaload, 1) := by decide +kernel
theorem dX0_walk_95 : decode cX0_walk 95 = .ok (.iload_n 2, 1) := by decide +kernel
theorem dX0_walk_96 : decode cX0_walk 96 = .ok (.iconst 1, 1) := by decide +kernel
theorem dX0_walk_97 : decode cX0_walk 97 = .ok (.iadd, 1) := by decide +kernel
theorem dX0_walk_98 : decode cX0_walk 98 = .ok (.invokevirtual 55, 3) := by decide +kernel
theorem dX0_walk_101 : decode cX0_walk 101 = .ok (.aload_n 0, 1) := by decide +kernel
theorem dX0_walk_102 : decode cX0_walk 102 = .ok (.getfield 40, 3) := by decide +kernel
theorem dX0_walk_105 : decode cX0_walk 105 = .ok (.getfield 79, 3) := by decide +kernel
theorem dX0_walk_108 : decode cX0_walk 108 = .ok (.iload_n 3, 1) := by decide +kernel
theorem dX0_walk_109 : decode cX0_walk 109 = .ok (.iaload, 1) := by decide +kernel
theorem dX0_walk_110 : decode cX0_walk 110 = .ok (.istore_n 3, 1) := by decide +kernel
theorem dX0_walk_111 : decode cX0_walk 111 = .ok (.iinc 4 1, 3) := by decide +kernel
theorem dX0_walk_114 : decode cX0_walk 114 = .ok (.goto (-102), 3) := by decide +kernel
theorem dX0_walk_117 : decode cX0_walk 117 = .ok (.return_, 1) := by decide +kernel
theorem dX0_turnLoop_0 : decode cX0_turnLoop 0 = .ok (.aload_n 0, 1) := by decide +kernel
theorem dX0_turnLoop_1 : decode cX0_turnLoop 1 = .ok (.getfield 40, 3) := by decide +kernel
theorem dX0_turnLoop_4 : decode cX0_turnLoop 4 = .ok (.getfield 82, 3) := by decide +kernel
theorem dX0_turnLoop_7 : decode cX0_turnLoop 7 = .ok (.iload_n 1, 1) := by decide +kernel
theorem dX0_turnLoop_8 : decode cX0_turnLoop 8 = .ok (.iaload, 1) := by decide +kernel
theorem dX0_turnLoop_9 : decode cX0_turnLoop 9 = .ok (.istore_n 3, 1) := by decide +kernel
theorem dX0_turnLoop_10 : decode cX0_turnLoop 10 = .ok (.aload_n 0, 1) := by decide +kernel
theorem dX0_turnLoop_11 : decode cX0_turnLoop 11 = .ok (.getfield 36, 3) := by decide +kernel
theorem dX0_turnLoop_14 : decode cX0_turnLoop 14 = .ok (.aload_n 0, 1) := by decide +kernel
theorem dX0_turnLoop_15 : decode cX0_turnLoop 15 = .ok (.getfield 40, 3) := by decide +kernel
theorem dX0_turnLoop_18 : decode cX0_turnLoop 18 = .ok (.getfield 85, 3) := by decide +kernel
theorem dX0_turnLoop_21 : decode cX0_turnLoop 21 = .ok (.iload_n 1, 1) := by decide +kernel
theorem dX0_turnLoop_22 : decode cX0_turnLoop 22 = .ok (.iaload, 1) := by decide +kernel
theorem dX0_turnLoop_23 : decode cX0_turnLoop 23 = .ok (.aload_n 0, 1) := by decide +kernel
theorem dX0_turnLoop_24 : decode cX0_turnLoop 24 = .ok (.getfield 19, 3) := by decide +kernel
theorem dX0_turnLoop_27 : decode cX0_turnLoop 27 = .ok (.iconst 0, 1) := by decide +kernel
theorem dX0_turnLoop_28 : decode cX0_turnLoop 28 = .ok (.invokevirtual 88, 3) := by decide +kernel
theorem dX0_turnLoop_31 : decode cX0_turnLoop 31 = .ok (.lstore 4, 2) := by decide +kernel
theorem dX0_turnLoop_33 : decode cX0_turnLoop 33 = .ok (.aload_n 0, 1) := by decide +kernel
theorem dX0_turnLoop_34 : decode cX0_turnLoop 34 = .ok (.getfield 36, 3) := by decide +kernel
theorem dX0_turnLoop_37 : decode cX0_turnLoop 37 = .ok (.aload_n 0, 1) := by decide +kernel
theorem dX0_turnLoop_38 : decode cX0_turnLoop 38 = .ok (.getfield 40, 3) := by decide +kernel
theorem dX0_turnLoop_41 : decode cX0_turnLoop 41 = .ok (.getfield 94, 3) := by decide +kernel
theorem dX0_turnLoop_44 : decode cX0_turnLoop 44 = .ok (.iload_n 1, 1) := by decide +kernel
theorem dX0_turnLoop_45 : decode cX0_turnLoop 45 = .ok (.iaload, 1) := by decide +kernel
theorem dX0_turnLoop_46 : decode cX0_turnLoop 46 = .ok (.aload_n 0, 1) := by decide +kernel
theorem dX0_turnLoop_47 : decode cX0_turnLoop 47 = .ok (.getfield 19, 3) := by decide +kernel
theorem dX0_turnLoop_50 : decode cX0_turnLoop 50 = .ok (.iconst 0, 1) := by decide +kernel
theorem dX0_turnLoop_51 : decode cX0_turnLoop 51 = .ok (.invokevirtual 88, 3) := by decide +kernel
theorem dX0_turnLoop_54 : decode cX0_turnLoop 54 = .ok (.lstore 6, 2) := by decide +kernel
theorem dX0_turnLoop_56 : decode cX0_turnLoop 56 = .ok (.iconst 0, 1) := by decide +kernel
theorem dX0_turnLoop_57 : decode cX0_turnLoop 57 = .ok (.istore 8, 2) := by decide +kernel
theorem dX0_turnLoop_59 : decode cX0_turnLoop 59 = .ok (.iload 8, 2) := by decide +kernel
theorem dX0_turnLoop_61 : decode cX0_turnLoop 61 = .ok (.sipush 4000, 3) := by decide +kernel
theorem dX0_turnLoop_64 : decode cX0_turnLoop 64 = .ok (.if_icmp .gt 84, 3) := by decide +kernel
theorem dX0_turnLoop_67 : decode cX0_turnLoop 67 = .ok (.lload 4, 2) := by decide +kernel
theorem dX0_turnLoop_69 : decode cX0_turnLoop 69 = .ok (.iload 8, 2) := by decide +kernel
theorem dX0_turnLoop_71 : decode cX0_turnLoop 71 = .ok (.i2l, 1) := by decide +kernel
theorem dX0_turnLoop_72 : decode cX0_turnLoop 72 = .ok (.ladd, 1) := by decide +kernel
theorem dX0_turnLoop_73 : decode cX0_turnLoop 73 = .ok (.lload 6, 2) := by decide +kernel
theorem dX0_turnLoop_75 : decode cX0_turnLoop 75 = .ok (.lcmp, 1) := by decide +kernel
theorem dX0_turnLoop_76 : decode cX0_turnLoop 76 = .ok (.ifCond .gt 72, 3) := by decide +kernel
theorem dX0_turnLoop_79 : decode cX0_turnLoop 79 = .ok (.aload_n 0, 1) := by decide +kernel
theorem dX0_turnLoop_80 : decode cX0_turnLoop 80 = .ok (.getfield 29, 3) := by decide +kernel
theorem dX0_turnLoop_83 : decode cX0_turnLoop 83 = .ok (.ifCond .ne 65, 3) := by decide +kernel
theorem dX0_turnLoop_86 : decode cX0_turnLoop 86 = .ok (.aload_n 0, 1) := by decide +kernel
theorem dX0_turnLoop_87 : decode cX0_turnLoop 87 = .ok (.dup, 1) := by decide +kernel
theorem dX0_turnLoop_88 : decode cX0_turnLoop 88 = .ok (.getfield 26, 3) := by decide +kernel
theorem dX0_turnLoop_91 : decode cX0_turnLoop 91 = .ok (.iconst 1, 1) := by decide +kernel
theorem dX0_turnLoop_92 : decode cX0_turnLoop 92 = .ok (.iadd, 1) := by decide +kernel
theorem dX0_turnLoop_93 : decode cX0_turnLoop 93 = .ok (.putfield 26, 3) := by decide +kernel
theorem dX0_turnLoop_96 : decode cX0_turnLoop 96 = .ok (.aload_n 0, 1) := by decide +kernel
theorem dX0_turnLoop_97 : decode cX0_turnLoop 97 = .ok (.getfield 26, 3) := by decide +kernel
theorem dX0_turnLoop_100 : decode cX0_turnLoop 100 = .ok (.sipush 4000, 3) := by decide +kernel
theorem dX0_turnLoop_103 : decode cX0_turnLoop 103 = .ok (.if_icmp .le 11, 3) := by decide +kernel
theorem dX0_turnLoop_106 : decode cX0_turnLoop 106 = .ok (.aload_n 0, 1) := by decide +kernel
theorem dX0_turnLoop_107 : decode cX0_turnLoop 107 = .ok (.iconst 1, 1) := by decide +kernel
theorem dX0_turnLoop_108 : decode cX0_turnLoop 108 = .ok (.putfield 29, 3) := by decide +kernel
theorem dX0_turnLoop_111 : decode cX0_turnLoop 111 = .ok (.goto 31, 3) := by decide +kernel
theorem dX0_turnLoop_114 : decode cX0_turnLoop 114 = .ok (.aload_n 0, 1) := by decide +kernel
theorem dX0_turnLoop_115 : decode cX0_turnLoop 115 = .ok (.getfield 19, 3) := by decide +kernel
theorem dX0_turnLoop_118 : decode cX0_turnLoop 118 = .ok (.iload_n 3, 1) := by decide +kernel
theorem dX0_turnLoop_119 : decode cX0_turnLoop 119 = .ok (.lload 4, 2) := by decide +kernel
theorem dX0_turnLoop_121 : decode cX0_turnLoop 121 = .ok (.iload 8, 2) := by decide +kernel
theorem dX0_turnLoop_123 : decode cX0_turnLoop 123 = .ok (.i2l, 1) := by decide +kernel
theorem dX0_turnLoop_124 : decode cX0_turnLoop 124 = .ok (.ladd, 1) := by decide +kernel
theorem dX0_turnLoop_125 : decode cX0_turnLoop 125 = .ok (.lastore, 1) := by decide +kernel
theorem dX0_turnLoop_126 : decode cX0_turnLoop 126 = .ok (.aload_n 0, 1) := by decide +kernel
theorem dX0_turnLoop_127 : decode cX0_turnLoop 127 = .ok (.aload_n 0, 1) := by decide +kernel
theorem dX0_turnLoop_128 : decode cX0_turnLoop 128 = .ok (.getfield 40, 3) := by decide +kernel
theorem dX0_turnLoop_131 : decode cX0_turnLoop 131 = .ok (.getfield 50, 3) := by decide +kernel
theorem dX0_turnLoop_134 : decode cX0_turnLoop 134 = .ok (.iload_n 1, 1) := by decide +kernel
theorem dX0_turnLoop_135 : decode cX0_turnLoop 135 = .ok (.iaload, 1) := by decide +kernel
theorem dX0_turnLoop_136 : decode cX0_turnLoop 136 = .ok (.iload_n 2, 1) := by decide +kernel
theorem dX0_turnLoop_137 : decode cX0_turnLoop 137 = .ok (.iconst 1, 1) := by decide +kernel
theorem dX0_turnLoop_138 : decode cX0_turnLoop 138 = .ok (.iadd, 1) := by decide +kernel
theorem dX0_turnLoop_139 : decode cX0_turnLoop 139 = .ok (.invokevirtual 55, 3) := by decide +kernel
theorem dX0_turnLoop_142 : decode cX0_turnLoop 142 = .ok (.iinc 8 1, 3) := by decide +kernel
theorem dX0_turnLoop_145 : decode cX0_turnLoop 145 = .ok (.goto (-86), 3) := by decide +kernel
theorem dX0_turnLoop_148 : decode cX0_turnLoop 148 = .ok (.aload_n 0, 1) := by decide +kernel
theorem dX0_turnLoop_149 : decode cX0_turnLoop 149 = .ok (.getfield 19, 3) := by decide +kernel
theorem dX0_turnLoop_152 : decode cX0_turnLoop 152 = .ok (.iload_n 3, 1) := by decide +kernel
theorem dX0_turnLoop_153 : decode cX0_turnLoop 153 = .ok (.lconst 0, 1) := by decide +kernel
theorem dX0_turnLoop_154 : decode cX0_turnLoop 154 = .ok (.lastore, 1) := by decide +kernel
theorem dX0_turnLoop_155 : decode cX0_turnLoop 155 = .ok (.return_, 1) := by decide +kernel
theorem dX0_passes_0 : decode cX0_passes 0 = .ok (.aload_n 0, 1) := by decide +kernel
theorem dX0_passes_1 : decode cX0_passes 1 = .ok (.getfield 36, 3) := by decide +kernel
theorem dX0_passes_4 : decode cX0_passes 4 = .ok (.aload_n 0, 1) := by decide +kernel
theorem dX0_passes_5 : decode cX0_passes 5 = .ok (.getfield 40, 3) := by decide +kernel
theorem dX0_passes_8 : decode cX0_passes 8 = .ok (.getfield 85, 3) := by decide +kernel
theorem dX0_passes_11 : decode cX0_passes 11 = .ok (.iload_n 1, 1) := by decide +kernel
theorem dX0_passes_12 : decode cX0_passes 12 = .ok (.iaload, 1) := by decide +kernel
theorem dX0_passes_13 : decode cX0_passes 13 = .ok (.aload_n 0, 1) := by decide +kernel
theorem dX0_passes_14 : decode cX0_passes 14 = .ok (.getfield 19, 3) := by decide +kernel
theorem dX0_passes_17 : decode cX0_passes 17 = .ok (.iconst 0, 1) := by decide +kernel
theorem dX0_passes_18 : decode cX0_passes 18 = .ok (.invokevirtual 88, 3) := by decide +kernel
theorem dX0_passes_21 : decode cX0_passes 21 = .ok (.lstore_n 2, 1) := by decide +kernel
theorem dX0_passes_22 : decode cX0_passes 22 = .ok (.aload_n 0, 1) := by decide +kernel
theorem dX0_passes_23 : decode cX0_passes 23 = .ok (.getfield 40, 3) := by decide +kernel
theorem dX0_passes_26 : decode cX0_passes 26 = .ok (.getfield 94, 3) := by decide +kernel
theorem dX0_passes_29 : decode cX0_passes 29 = .ok (.iload_n 1, 1) := by decide +kernel
theorem dX0_passes_30 : decode cX0_passes 30 = .ok (.iaload, 1) := by decide +kernel
theorem dX0_passes_31 : decode cX0_passes 31 = .ok (.istore 4, 2) := by decide +kernel
theorem dX0_passes_33 : decode cX0_passes 33 = .ok (.iload 4, 2) := by decide +kernel
theorem dX0_passes_35 : decode cX0_passes 35 = .ok (.ifCond .gt 17, 3) := by decide +kernel
theorem dX0_passes_38 : decode cX0_passes 38 = .ok (.lload_n 2, 1) := by decide +kernel
theorem dX0_passes_39 : decode cX0_passes 39 = .ok (.lconst 0, 1) := by decide +kernel
theorem dX0_passes_40 : decode cX0_passes 40 = .ok (.lcmp, 1) := by decide +kernel
theorem dX0_passes_41 : decode cX0_passes 41 = .ok (.ifCond .lt 7, 3) := by decide +kernel
theorem dX0_passes_44 : decode cX0_passes 44 = .ok (.iconst 1, 1) := by decide +kernel
theorem dX0_passes_45 : decode cX0_passes 45 = .ok (.goto 22, 3) := by decide +kernel
theorem dX0_passes_48 : decode cX0_passes 48 = .ok (.iconst 0, 1) := by decide +kernel
theorem dX0_passes_49 : decode cX0_passes 49 = .ok (.goto 18, 3) := by decide +kernel
theorem dX0_passes_52 : decode cX0_passes 52 = .ok (.lload_n 2, 1) := by decide +kernel
theorem dX0_passes_53 : decode cX0_passes 53 = .ok (.iload 4, 2) := by decide +kernel
theorem dX0_passes_55 : decode cX0_passes 55 = .ok (.i2l, 1) := by decide +kernel
theorem dX0_passes_56 : decode cX0_passes 56 = .ok (.lrem, 1) := by decide +kernel
theorem dX0_passes_57 : decode cX0_passes 57 = .ok (.lconst 0, 1) := by decide +kernel
theorem dX0_passes_58 : decode cX0_passes 58 = .ok (.lcmp, 1) := by decide +kernel
theorem dX0_passes_59 : decode cX0_passes 59 = .ok (.ifCond .ne 7, 3) := by decide +kernel
theorem dX0_passes_62 : decode cX0_passes 62 = .ok (.iconst 1, 1) := by decide +kernel
theorem dX0_passes_63 : decode cX0_passes 63 = .ok (.goto 4, 3) := by decide +kernel
theorem dX0_passes_66 : decode cX0_passes 66 = .ok (.iconst 0, 1) := by decide +kernel
theorem dX0_passes_67 : decode cX0_passes 67 = .ok (.ireturn, 1) := by decide +kernel
theorem dX0_addVisit_0 : decode cX0_addVisit 0 = .ok (.aload_n 0, 1) := by decide +kernel
theorem dX0_addVisit_1 : decode cX0_addVisit 1 = .ok (.getfield 22, 3) := by decide +kernel
theorem dX0_addVisit_4 : decode cX0_addVisit 4 = .ok (.sipush 400, 3) := by decide +kernel
theorem dX0_addVisit_7 : decode cX0_addVisit 7 = .ok (.if_icmp .lt 9, 3) := by decide +kernel
theorem dX0_addVisit_10 : decode cX0_addVisit 10 = .ok (.aload_n 0, 1) := by decide +kernel
theorem dX0_addVisit_11 : decode cX0_addVisit 11 = .ok (.iconst 1, 1) := by decide +kernel
theorem dX0_addVisit_12 : decode cX0_addVisit 12 = .ok (.putfield 29, 3) := by decide +kernel
theorem dX0_addVisit_15 : decode cX0_addVisit 15 = .ok (.return_, 1) := by decide +kernel
theorem dX0_addVisit_16 : decode cX0_addVisit 16 = .ok (.aload_n 0, 1) := by decide +kernel
theorem dX0_addVisit_17 : decode cX0_addVisit 17 = .ok (.getfield 9, 3) := by decide +kernel
theorem dX0_addVisit_20 : decode cX0_addVisit 20 = .ok (.aload_n 0, 1) := by decide +kernel
theorem dX0_addVisit_21 : decode cX0_addVisit 21 = .ok (.getfield 22, 3) := by decide +kernel
theorem dX0_addVisit_24 : decode cX0_addVisit 24 = .ok (.iload_n 1, 1) := by decide +kernel
theorem dX0_addVisit_25 : decode cX0_addVisit 25 = .ok (.iastore, 1) := by decide +kernel
theorem dX0_addVisit_26 : decode cX0_addVisit 26 = .ok (.aload_n 0, 1) := by decide +kernel
theorem dX0_addVisit_27 : decode cX0_addVisit 27 = .ok (.getfield 19, 3) := by decide +kernel
theorem dX0_addVisit_30 : decode cX0_addVisit 30 = .ok (.iconst 0, 1) := by decide +kernel
theorem dX0_addVisit_31 : decode cX0_addVisit 31 = .ok (.aload_n 0, 1) := by decide +kernel
theorem dX0_addVisit_32 : decode cX0_addVisit 32 = .ok (.getfield 15, 3) := by decide +kernel
theorem dX0_addVisit_35 : decode cX0_addVisit 35 = .ok (.aload_n 0, 1) := by decide +kernel
theorem dX0_addVisit_36 : decode cX0_addVisit 36 = .ok (.getfield 22, 3) := by decide +kernel
theorem dX0_addVisit_39 : decode cX0_addVisit 39 = .ok (.iconst 4, 1) := by decide +kernel
theorem dX0_addVisit_40 : decode cX0_addVisit 40 = .ok (.imul, 1) := by decide +kernel
theorem dX0_addVisit_41 : decode cX0_addVisit 41 = .ok (.iconst 4, 1) := by decide +kernel
theorem dX0_addVisit_42 : decode cX0_addVisit 42 = .ok (.invokestatic 97, 3) := by decide +kernel
theorem dX0_addVisit_45 : decode cX0_addVisit 45 = .ok (.aload_n 0, 1) := by decide +kernel
theorem dX0_addVisit_46 : decode cX0_addVisit 46 = .ok (.dup, 1) := by decide +kernel
theorem dX0_addVisit_47 : decode cX0_addVisit 47 = .ok (.getfield 22, 3) := by decide +kernel
theorem dX0_addVisit_50 : decode cX0_addVisit 50 = .ok (.iconst 1, 1) := by decide +kernel
theorem dX0_addVisit_51 : decode cX0_addVisit 51 = .ok (.iadd, 1) := by decide +kernel
theorem dX0_addVisit_52 : decode cX0_addVisit 52 = .ok (.putfield 22, 3) := by decide +kernel
theorem dX0_addVisit_55 : decode cX0_addVisit 55 = .ok (.return_, 1) := by decide +kernel
theorem dX0_actNode_0 : decode cX0_actNode 0 = .ok (.aload_n 0, 1) := by decide +kernel
theorem dX0_actNode_1 : decode cX0_actNode 1 = .ok (.getfield 40, 3) := by decide +kernel
theorem dX0_actNode_4 : decode cX0_actNode 4 = .ok (.getfield 103, 3) := by decide +kernel
theorem dX0_actNode_7 : decode cX0_actNode 7 = .ok (.aload_n 0, 1) := by decide +kernel
theorem dX0_actNode_8 : decode cX0_actNode 8 = .ok (.getfield 9, 3) := by decide +kernel
theorem dX0_actNode_11 : decode cX0_actNode 11 = .ok (.iload_n 1, 1) := by decide +kernel
theorem dX0_actNode_12 : decode cX0_actNode 12 = .ok (.iaload, 1) := by decide +kernel
theorem dX0_actNode_13 : decode cX0_actNode 13 = .ok (.iaload, 1) := by decide +kernel
theorem dX0_actNode_14 : decode cX0_actNode 14 = .ok (.ireturn, 1) := by decide +kernel
theorem dX0_letter_0 : decode cX0_letter 0 = .ok (.aload_n 0, 1) := by decide +kernel
theorem dX0_letter_1 : decode cX0_letter 1 = .ok (.getfield 15, 3) := by decide +kernel
theorem dX0_letter_4 : decode cX0_letter 4 = .ok (.iload_n 1, 1) := by decide +kernel
theorem dX0_letter_5 : decode cX0_letter 5 = .ok (.iconst 4, 1) := by decide +kernel
theorem dX0_letter_6 : decode cX0_letter 6 = .ok (.imul, 1) := by decide +kernel
theorem dX0_letter_7 : decode cX0_letter 7 = .ok (.iload_n 2, 1) := by decide +kernel
theorem dX0_letter_8 : decode cX0_letter 8 = .ok (.iadd, 1) := by decide +kernel
theorem dX0_letter_9 : decode cX0_letter 9 = .ok (.laload, 1) := by decide +kernel
theorem dX0_letter_10 : decode cX0_letter 10 = .ok (.lreturn, 1) := by decide +kernel
theorem dX0_isAt_0 : decode cX0_isAt 0 = .ok (.aload_n 0, 1) := by decide +kernel
theorem dX0_isAt_1 : decode cX0_isAt 1 = .ok (.iload_n 1, 1) := by decide +kernel
theorem dX0_isAt_2 : decode cX0_isAt 2 = .ok (.iconst 0, 1) := by decide +kernel
theorem dX0_isAt_3 : decode cX0_isAt 3 = .ok (.invokevirtual 106, 3) := by decide +kernel
theorem dX0_isAt_6 : decode cX0_isAt 6 = .ok (.iload_n 2, 1) := by decide +kernel
theorem dX0_isAt_7 : decode cX0_isAt 7 = .ok (.i2l, 1) := by decide +kernel
theorem dX0_isAt_8 : decode cX0_isAt 8 = .ok (.lcmp, 1) := by decide +kernel
theorem dX0_isAt_9 : decode cX0_isAt 9 = .ok (.ifCond .ne 45, 3) := by decide +kernel
theorem dX0_isAt_12 : decode cX0_isAt 12 = .ok (.aload_n 0, 1) := by decide +kernel
theorem dX0_isAt_13 : decode cX0_isAt 13 = .ok (.iload_n 1, 1) := by decide +kernel
theorem dX0_isAt_14 : decode cX0_isAt 14 = .ok (.iconst 1, 1) := by decide +kernel
theorem dX0_isAt_15 : decode cX0_isAt 15 = .ok (.invokevirtual 106, 3) := by decide +kernel
theorem dX0_isAt_18 : decode cX0_isAt 18 = .ok (.iload_n 3, 1) := by decide +kernel
theorem dX0_isAt_19 : decode cX0_isAt 19 = .ok (.i2l, 1) := by decide +kernel
theorem dX0_isAt_20 : decode cX0_isAt 20 = .ok (.lcmp, 1) := by decide +kernel
theorem dX0_isAt_21 : decode cX0_isAt 21 = .ok (.ifCond .ne 33, 3) := by decide +kernel
theorem dX0_isAt_24 : decode cX0_isAt 24 = .ok (.aload_n 0, 1) := by decide +kernel
theorem dX0_isAt_25 : decode cX0_isAt 25 = .ok (.iload_n 1, 1) := by decide +kernel
theorem dX0_isAt_26 : decode cX0_isAt 26 = .ok (.iconst 2, 1) := by decide +kernel
theorem dX0_isAt_27 : decode cX0_isAt 27 = .ok (.invokevirtual 106, 3) := by decide +kernel
theorem dX0_isAt_30 : decode cX0_isAt 30 = .ok (.iload 4, 2) := by decide +kernel
theorem dX0_isAt_32 : decode cX0_isAt 32 = .ok (.i2l, 1) := by decide +kernel
theorem dX0_isAt_33 : decode cX0_isAt 33 = .ok (.lcmp, 1) := by decide +kernel
theorem dX0_isAt_34 : decode cX0_isAt 34 = .ok (.ifCond .ne 20, 3) := by decide +kernel
theorem dX0_isAt_37 : decode cX0_isAt 37 = .ok (.aload_n 0, 1) := by decide +kernel
theorem dX0_isAt_38 : decode cX0_isAt 38 = .ok (.iload_n 1, 1) := by decide +kernel
theorem dX0_isAt_39 : decode cX0_isAt 39 = .ok (.iconst 3, 1) := by decide +kernel
theorem dX0_isAt_40 : decode cX0_isAt 40 = .ok (.invokevirtual 106, 3) := by decide +kernel
theorem dX0_isAt_43 : decode cX0_isAt 43 = .ok (.iload 5, 2) := by decide +kernel
theorem dX0_isAt_45 : decode cX0_isAt 45 = .ok (.i2l, 1) := by decide +kernel
theorem dX0_isAt_46 : decode cX0_isAt 46 = .ok (.lcmp, 1) := by decide +kernel
theorem dX0_isAt_47 : decode cX0_isAt 47 = .ok (.ifCond .ne 7, 3) := by decide +kernel
theorem dX0_isAt_50 : decode cX0_isAt 50 = .ok (.iconst 1, 1) := by decide +kernel
theorem dX0_isAt_51 : decode cX0_isAt 51 = .ok (.goto 4, 3) := by decide +kernel
theorem dX0_isAt_54 : decode cX0_isAt 54 = .ok (.iconst 0, 1) := by decide +kernel
theorem dX0_isAt_55 : decode cX0_isAt 55 = .ok (.ireturn, 1) := by decide +kernel
theorem dX0_step_0 : decode cX0_step 0 = .ok (.aload_n 0, 1) := by decide +kernel
theorem dX0_step_1 : decode cX0_step 1 = .ok (.getfield 15, 3) := by decide +kernel
theorem dX0_step_4 : decode cX0_step 4 = .ok (.iload_n 2, 1) := by decide +kernel
theorem dX0_step_5 : decode cX0_step 5 = .ok (.iconst 4, 1) := by decide +kernel
theorem dX0_step_6 : decode cX0_step 6 = .ok (.imul, 1) := by decide +kernel
theorem dX0_step_7 : decode cX0_step 7 = .ok (.iload_n 3, 1) := by decide +kernel
theorem dX0_step_8 : decode cX0_step 8 = .ok (.iadd, 1) := by decide +kernel
theorem dX0_step_9 : decode cX0_step 9 = .ok (.laload, 1) := by decide +kernel
theorem dX0_step_10 : decode cX0_step 10 = .ok (.aload_n 0, 1) := by decide +kernel
theorem dX0_step_11 : decode cX0_step 11 = .ok (.getfield 15, 3) := by decide +kernel
theorem dX0_step_14 : decode cX0_step 14 = .ok (.iload_n 1, 1) := by decide +kernel
theorem dX0_step_15 : decode cX0_step 15 = .ok (.iconst 4, 1) := by decide +kernel
theorem dX0_step_16 : decode cX0_step 16 = .ok (.imul, 1) := by decide +kernel
theorem dX0_step_17 : decode cX0_step 17 = .ok (.iload_n 3, 1) := by decide +kernel
theorem dX0_step_18 : decode cX0_step 18 = .ok (.iadd, 1) := by decide +kernel
theorem dX0_step_19 : decode cX0_step 19 = .ok (.laload, 1) := by decide +kernel
theorem dX0_step_20 : decode cX0_step 20 = .ok (.lsub, 1) := by decide +kernel
theorem dX0_step_21 : decode cX0_step 21 = .ok (.lreturn, 1) := by decide +kernel
theorem dX1_init_0 : decode cX1_init 0 = .ok (.aload_n 0, 1) := by decide +kernel
theorem dX1_init_1 : decode cX1_init 1 = .ok (.invokespecial 3, 3) := by decide +kernel
theorem dX1_init_4 : decode cX1_init 4 = .ok (.aload_n 0, 1) := by decide +kernel
theorem dX1_init_5 : decode cX1_init 5 = .ok (.sipush 432, 3) := by decide +kernel
theorem dX1_init_8 : decode cX1_init 8 = .ok (.newarray .int, 2) := by decide +kernel
theorem dX1_init_10 : decode cX1_init 10 = .ok (.putfield 9, 3) := by decide +kernel
theorem dX1_init_13 : decode cX1_init 13 = .ok (.aload_n 0, 1) := by decide +kernel
theorem dX1_init_14 : decode cX1_init 14 = .ok (.iconst 5, 1) := by decide +kernel
theorem dX1_init_15 : decode cX1_init 15 = .ok (.newarray .int, 2) := by decide +kernel
theorem dX1_init_17 : decode cX1_init 17 = .ok (.putfield 15, 3) := by decide +kernel
theorem dX1_init_20 : decode cX1_init 20 = .ok (.aload_n 0, 1) := by decide +kernel
theorem dX1_init_21 : decode cX1_init 21 = .ok (.sipush 144, 3) := by decide +kernel
theorem dX1_init_24 : decode cX1_init 24 = .ok (.newarray .int, 2) := by decide +kernel
theorem dX1_init_26 : decode cX1_init 26 = .ok (.putfield 18, 3) := by decide +kernel
theorem dX1_init_29 : decode cX1_init 29 = .ok (.aload_n 0, 1) := by decide +kernel
theorem dX1_init_30 : decode cX1_init 30 = .ok (.sipush 720, 3) := by decide +kernel
theorem dX1_init_33 : decode cX1_init 33 = .ok (.newarray .int, 2) := by decide +kernel
theorem dX1_init_35 : decode cX1_init 35 = .ok (.putfield 21, 3) := by decide +kernel
theorem dX1_init_38 : decode cX1_init 38 = .ok (.aload_n 0, 1) := by decide +kernel
theorem dX1_init_39 : decode cX1_init 39 = .ok (.sipush 144, 3) := by decide +kernel
theorem dX1_init_42 : decode cX1_init 42 = .ok (.newarray .int, 2) := by decide +kernel
theorem dX1_init_44 : decode cX1_init 44 = .ok (.putfield 24, 3) := by decide +kernel
theorem dX1_init_47 : decode cX1_init 47 = .ok (.aload_n 0, 1) := by decide +kernel
theorem dX1_init_48 : decode cX1_init 48 = .ok (.sipush 576, 3) := by decide +kernel
theorem dX1_init_51 : decode cX1_init 51 = .ok (.newarray .long, 2) := by decide +kernel
theorem dX1_init_53 : decode cX1_init 53 = .ok (.putfield 27, 3) := by decide +kernel
theorem dX1_init_56 : decode cX1_init 56 = .ok (.aload_n 0, 1) := by decide +kernel
theorem dX1_init_57 : decode cX1_init 57 = .ok (.sipush 576, 3) := by decide +kernel
theorem dX1_init_60 : decode cX1_init 60 = .ok (.newarray .long, 2) := by decide +kernel
theorem dX1_init_62 : decode cX1_init 62 = .ok (.putfield 31, 3) := by decide +kernel
theorem dX1_init_65 : decode cX1_init 65 = .ok (.aload_n 0, 1) := by decide +kernel
theorem dX1_init_66 : decode cX1_init 66 = .ok (.sipush 1200, 3) := by decide +kernel
theorem dX1_init_69 : decode cX1_init 69 = .ok (.newarray .int, 2) := by decide +kernel
theorem dX1_init_71 : decode cX1_init 71 = .ok (.putfield 34, 3) := by decide +kernel
theorem dX1_init_74 : decode cX1_init 74 = .ok (.aload_n 0, 1) := by decide +kernel
theorem dX1_init_75 : decode cX1_init 75 = .ok (.sipush 400, 3) := by decide +kernel
theorem dX1_init_78 : decode cX1_init 78 = .ok (.newarray .int, 2) := by decide +kernel
theorem dX1_init_80 : decode cX1_init 80 = .ok (.putfield 37, 3) := by decide +kernel
theorem dX1_init_83 : decode cX1_init 83 = .ok (.aload_n 0, 1) := by decide +kernel
theorem dX1_init_84 : decode cX1_init 84 = .ok (.sipush 1200, 3) := by decide +kernel
theorem dX1_init_87 : decode cX1_init 87 = .ok (.newarray .int, 2) := by decide +kernel
theorem dX1_init_89 : decode cX1_init 89 = .ok (.putfield 40, 3) := by decide +kernel
theorem dX1_init_92 : decode cX1_init 92 = .ok (.aload_n 0, 1) := by decide +kernel
theorem dX1_init_93 : decode cX1_init 93 = .ok (.sipush 800, 3) := by decide +kernel
theorem dX1_init_96 : decode cX1_init 96 = .ok (.newarray .int, 2) := by decide +kernel
theorem dX1_init_98 : decode cX1_init 98 = .ok (.putfield 43, 3) := by decide +kernel
theorem dX1_init_101 : decode cX1_init 101 = .ok (.aload_n 0, 1) := by decide +kernel
theorem dX1_init_102 : decode cX1_init 102 = .ok (.iconst 0, 1) := by decide +kernel
theorem dX1_init_103 : decode cX1_init 103 = .ok (.putfield 46, 3) := by decide +kernel
theorem dX1_init_106 : decode cX1_init 106 = .ok (.aload_n 0, 1) := by decide +kernel
theorem dX1_init_107 : decode cX1_init 107 = .ok (.aload_n 1, 1) := by decide +kernel
theorem dX1_init_108 : decode cX1_init 108 = .ok (.putfield 50, 3) := by decide +kernel
theorem dX1_init_111 : decode cX1_init 111 = .ok (.aload_n 0, 1) := by decide +kernel
theorem dX1_init_112 : decode cX1_init 112 = .ok (.aload_n 2, 1) := by decide +kernel
theorem dX1_init_113 : decode cX1_init 113 = .ok (.putfield 54, 3) := by decide +kernel
theorem dX1_init_116 : decode cX1_init 116 = .ok (.aload_n 0, 1) := by decide +kernel
theorem dX1_init_117 : decode cX1_init 117 = .ok (.aload_n 3, 1) := by decide +kernel
theorem dX1_init_118 : decode cX1_init 118 = .ok (.putfield 58, 3) := by decide +kernel
theorem dX1_init_121 : decode cX1_init 121 = .ok (.return_, 1) := by decide +kernel
theorem dX1_refresh_0 : decode cX1_refresh 0 = .ok (.aload_n 0, 1) := by decide +kernel
theorem dX1_refresh_1 : decode cX1_refresh 1 = .ok (.getfield 46, 3) := by decide +kernel
theorem dX1_refresh_4 : decode cX1_refresh 4 = .ok (.ifCond .eq 4, 3) := by decide +kernel
theorem dX1_refresh_7 : decode cX1_refresh 7 = .ok (.return_, 1) := by decide +kernel
theorem dX1_refresh_8 : decode cX1_refresh 8 = .ok (.aload_n 0, 1) := by decide +kernel
theorem dX1_refresh_9 : decode cX1_refresh 9 = .ok (.getfield 58, 3) := by decide +kernel
theorem dX1_refresh_12 : decode cX1_refresh 12 = .ok (.invokevirtual 62, 3) := by decide +kernel
theorem dX1_refresh_15 : decode cX1_refresh 15 = .ok (.aload_n 0, 1) := by decide +kernel
theorem dX1_refresh_16 : decode cX1_refresh 16 = .ok (.invokevirtual 67, 3) := by decide +kernel
theorem dX1_refresh_19 : decode cX1_refresh 19 = .ok (.iconst 0, 1) := by decide +kernel
theorem dX1_refresh_20 : decode cX1_refresh 20 = .ok (.istore_n 1, 1) := by decide +kernel
theorem dX1_refresh_21 : decode cX1_refresh 21 = .ok (.iload_n 1, 1) := by decide +kernel
theorem dX1_refresh_22 : decode cX1_refresh 22 = .ok (.aload_n 0, 1) := by decide +kernel
theorem dX1_refresh_23 : decode cX1_refresh 23 = .ok (.getfield 54, 3) := by decide +kernel
theorem dX1_refresh_26 : decode cX1_refresh 26 = .ok (.getfield 70, 3) := by decide +kernel
theorem dX1_refresh_29 : decode cX1_refresh 29 = .ok (.if_icmp .ge 19, 3) := by decide +kernel
theorem dX1_refresh_32 : decode cX1_refresh 32 = .ok (.aload_n 0, 1) := by decide +kernel
theorem dX1_refresh_33 : decode cX1_refresh 33 = .ok (.iload_n 1, 1) := by decide +kernel
theorem dX1_refresh_34 : decode cX1_refresh 34 = .ok (.invokevirtual 76, 3) := by decide +kernel
theorem dX1_refresh_37 : decode cX1_refresh 37 = .ok (.aload_n 0, 1) := by decide +kernel
theorem dX1_refresh_38 : decode cX1_refresh 38 = .ok (.iload_n 1, 1) := by decide +kernel
theorem dX1_refresh_39 : decode cX1_refresh 39 = .ok (.invokevirtual 80, 3) := by decide +kernel
theorem dX1_refresh_42 : decode cX1_refresh 42 = .ok (.iinc 1 1, 3) := by decide +kernel
theorem dX1_refresh_45 : decode cX1_refresh 45 = .ok (.goto (-24), 3) := by decide +kernel
theorem dX1_refresh_48 : decode cX1_refresh 48 = .ok (.aload_n 0, 1) := by decide +kernel
theorem dX1_refresh_49 : decode cX1_refresh 49 = .ok (.iconst 1, 1) := by decide +kernel
theorem dX1_refresh_50 : decode cX1_refresh 50 = .ok (.putfield 46, 3) := by decide +kernel
theorem dX1_refresh_53 : decode cX1_refresh 53 = .ok (.return_, 1) := by decide +kernel
theorem dX1_clear_0 : decode cX1_clear 0 = .ok (.aload_n 0, 1) := by decide +kernel
theorem dX1_clear_1 : decode cX1_clear 1 = .ok (.getfield 9, 3) := by decide +kernel
theorem dX1_clear_4 : decode cX1_clear 4 = .ok (.iconst 0, 1) := by decide +kernel
theorem dX1_clear_5 : decode cX1_clear 5 = .ok (.invokestatic 83, 3) := by decide +kernel
theorem dX1_clear_8 : decode cX1_clear 8 = .ok (.aload_n 0, 1) := by decide +kernel
theorem dX1_clear_9 : decode cX1_clear 9 = .ok (.getfield 15, 3) := by decide +kernel
theorem dX1_clear_12 : decode cX1_clear 12 = .ok (.iconst 0, 1) := by decide +kernel
theorem dX1_clear_13 : decode cX1_clear 13 = .ok (.invokestatic 83, 3) := by decide +kernel
theorem dX1_clear_16 : decode cX1_clear 16 = .ok (.aload_n 0, 1) := by decide +kernel
theorem dX1_clear_17 : decode cX1_clear 17 = .ok (.getfield 18, 3) := by decide +kernel
theorem dX1_clear_20 : decode cX1_clear 20 = .ok (.iconst 0, 1) := by decide +kernel
theorem dX1_clear_21 : decode cX1_clear 21 = .ok (.invokestatic 83, 3) := by decide +kernel
theorem dX1_clear_24 : decode cX1_clear 24 = .ok (.aload_n 0, 1) := by decide +kernel
theorem dX1_clear_25 : decode cX1_clear 25 = .ok (.getfield 21, 3) := by decide +kernel
theorem dX1_clear_28 : decode cX1_clear 28 = .ok (.iconst 0, 1) := by decide +kernel
theorem dX1_clear_29 : decode cX1_clear 29 = .ok (.invokestatic 83, 3) := by decide +kernel
theorem dX1_clear_32 : decode cX1_clear 32 = .ok (.aload_n 0, 1) := by decide +kernel
theorem dX1_clear_33 : decode cX1_clear 33 = .ok (.getfield 34, 3) := by decide +kernel
theorem dX1_clear_36 : decode cX1_clear 36 = .ok (.iconst 0, 1) := by decide +kernel
theorem dX1_clear_37 : decode cX1_clear 37 = .ok (.aload_n 0, 1) := by decide +kernel
theorem dX1_clear_38 : decode cX1_clear 38 = .ok (.getfield 58, 3) := by decide +kernel
theorem dX1_clear_41 : decode cX1_clear 41 = .ok (.getfield 89, 3) := by decide +kernel
theorem dX1_clear_44 : decode cX1_clear 44 = .ok (.bipush (-9), 2) := by decide +kernel
theorem dX1_clear_46 : decode cX1_clear 46 = .ok (.invokestatic 92, 3) := by decide +kernel
theorem dX1_clear_49 : decode cX1_clear 49 = .ok (.aload_n 0, 1) := by decide +kernel
theorem dX1_clear_50 : decode cX1_clear 50 = .ok (.getfield 40, 3) := by decide +kernel
theorem dX1_clear_53 : decode cX1_clear 53 = .ok (.iconst 0, 1) := by decide +kernel
theorem dX1_clear_54 : decode cX1_clear 54 = .ok (.aload_n 0, 1) := by decide +kernel
theorem dX1_clear_55 : decode cX1_clear 55 = .ok (.getfield 58, 3) := by decide +kernel
theorem dX1_clear_58 : decode cX1_clear 58 = .ok (.getfield 89, 3) := by decide +kernel
theorem dX1_clear_61 : decode cX1_clear 61 = .ok (.bipush (-9), 2) := by decide +kernel
theorem dX1_clear_63 : decode cX1_clear 63 = .ok (.invokestatic 92, 3) := by decide +kernel
theorem dX1_clear_66 : decode cX1_clear 66 = .ok (.iconst 0, 1) := by decide +kernel
theorem dX1_clear_67 : decode cX1_clear 67 = .ok (.istore_n 1, 1) := by decide +kernel
theorem dX1_clear_68 : decode cX1_clear 68 = .ok (.iload_n 1, 1) := by decide +kernel
theorem dX1_clear_69 : decode cX1_clear 69 = .ok (.aload_n 0, 1) := by decide +kernel
theorem dX1_clear_70 : decode cX1_clear 70 = .ok (.getfield 50, 3) := by decide +kernel
theorem dX1_clear_73 : decode cX1_clear 73 = .ok (.getfield 95, 3) := by decide +kernel
theorem dX1_clear_76 : decode cX1_clear 76 = .ok (.if_icmp .ge 64, 3) := by decide +kernel
theorem dX1_clear_79 : decode cX1_clear 79 = .ok (.iconst 0, 1) := by decide +kernel
theorem dX1_clear_80 : decode cX1_clear 80 = .ok (.istore_n 2, 1) := by decide +kernel
theorem dX1_clear_81 : decode cX1_clear 81 = .ok (.iload_n 2, 1) := by decide +kernel
theorem dX1_clear_82 : decode cX1_clear 82 = .ok (.aload_n 0, 1) := by decide +kernel
theorem dX1_clear_83 : decode cX1_clear 83 = .ok (.getfield 50, 3) := by decide +kernel
theorem dX1_clear_86 : decode cX1_clear 86 = .ok (.getfield 95, 3) := by decide +kernel
theorem dX1_clear_89 : decode cX1_clear 89 = .ok (.if_icmp .ge 45, 3) := by decide +kernel
theorem dX1_clear_92 : decode cX1_clear 92 = .ok (.aload_n 0, 1) := by decide +kernel
theorem dX1_clear_93 : decode cX1_clear 93 = .ok (.getfield 24, 3) := by decide +kernel
theorem dX1_clear_96 : decode cX1_clear 96 = .ok (.iload_n 1, 1) := by decide +kernel
theorem dX1_clear_97 : decode cX1_clear 97 = .ok (.bipush 12, 2) := by decide +kernel
theorem dX1_clear_99 : decode cX1_clear 99 = .ok (.imul, 1) := by decide +kernel
theorem dX1_clear_100 : decode cX1_clear 100 = .ok (.iload_n 2, 1) := by decide +kernel
theorem dX1_clear_101 : decode cX1_clear 101 = .ok (.iadd, 1) := by decide +kernel
theorem dX1_clear_102 : decode cX1_clear 102 = .ok (.aload_n 0, 1) := by decide +kernel
theorem dX1_clear_103 : decode cX1_clear 103 = .ok (.getfield 50, 3) := by decide +kernel
theorem dX1_clear_106 : decode cX1_clear 106 = .ok (.aload_n 0, 1) := by decide +kernel
theorem dX1_clear_107 : decode cX1_clear 107 = .ok (.getfield 50, 3) := by decide +kernel
theorem dX1_clear_110 : decode cX1_clear 110 = .ok (.getfield 100, 3) := by decide +kernel
theorem dX1_clear_113 : decode cX1_clear 113 = .ok (.iload_n 1, 1) := by decide +kernel
theorem dX1_clear_114 : decode cX1_clear 114 = .ok (.iaload, 1) := by decide +kernel
theorem dX1_clear_115 : decode cX1_clear 115 = .ok (.aload_n 0, 1) := by decide +kernel
theorem dX1_clear_116 : decode cX1_clear 116 = .ok (.getfield 50, 3) := by decide +kernel
theorem dX1_clear_119 : decode cX1_clear 119 = .ok (.getfield 100, 3) := by decide +kernel
theorem dX1_clear_122 : decode cX1_clear 122 = .ok (.iload_n 2, 1) := by decide +kernel
theorem dX1_clear_123 : decode cX1_clear 123 = .ok (.iaload, 1) := by decide +kernel
theorem dX1_clear_124 : decode cX1_clear 124 = .ok (.invokevirtual 103, 3) := by decide +kernel
theorem dX1_clear_127 : decode cX1_clear 127 = .ok (.iastore, 1) := by decide +kernel
theorem dX1_clear_128 : decode cX1_clear 128 = .ok (.iinc 2 1, 3) := by decide +kernel
theorem dX1_clear_131 : decode cX1_clear 131 = .ok (.goto (-50), 3) := by decide +kernel
theorem dX1_clear_134 : decode cX1_clear 134 = .ok (.iinc 1 1, 3) := by decide +kernel
theorem dX1_clear_137 : decode cX1_clear 137 = .ok (.goto (-69), 3) := by decide +kernel
theorem dX1_clear_140 : decode cX1_clear 140 = .ok (.return_, 1) := by decide +kernel
theorem dX1_gather_0 : decode cX1_gather 0 = .ok (.aload_n 0, 1) := by decide +kernel
theorem dX1_gather_1 : decode cX1_gather 1 = .ok (.getfield 58, 3) := by decide +kernel
theorem dX1_gather_4 : decode cX1_gather 4 = .ok (.getfield 106, 3) := by decide +kernel
theorem dX1_gather_7 : decode cX1_gather 7 = .ok (.iload_n 1, 1) := by decide +kernel
theorem dX1_gather_8 : decode cX1_gather 8 = .ok (.iconst 3, 1) := by decide +kernel
theorem dX1_gather_9 : decode cX1_gather 9 = .ok (.imul, 1) := by decide +kernel
theorem dX1_gather_10 : decode cX1_gather 10 = .ok (.iaload, 1) := by decide +kernel
theorem dX1_gather_11 : decode cX1_gather 11 = .ok (.istore_n 2, 1) := by decide +kernel
theorem dX1_gather_12 : decode cX1_gather 12 = .ok (.aload_n 0, 1) := by decide +kernel
theorem dX1_gather_13 : decode cX1_gather 13 = .ok (.getfield 58, 3) := by decide +kernel
theorem dX1_gather_16 : decode cX1_gather 16 = .ok (.getfield 106, 3) := by decide +kernel
theorem dX1_gather_19 : decode cX1_gather 19 = .ok (.iload_n 1, 1) := by decide +kernel
theorem dX1_gather_20 : decode cX1_gather 20 = .ok (.iconst 3, 1) := by decide +kernel
theorem dX1_gather_21 : decode cX1_gather 21 = .ok (.imul, 1) := by decide +kernel
theorem dX1_gather_22 : decode cX1_gather 22 = .ok (.iconst 1, 1) := by decide +kernel
theorem dX1_gather_23 : decode cX1_gather 23 = .ok (.iadd, 1) := by decide +kernel
theorem dX1_gather_24 : decode cX1_gather 24 = .ok (.iaload, 1) := by decide +kernel
theorem dX1_gather_25 : decode cX1_gather 25 = .ok (.istore_n 3, 1) := by decide +kernel
theorem dX1_gather_26 : decode cX1_gather 26 = .ok (.aload_n 0, 1) := by decide +kernel
theorem dX1_gather_27 : decode cX1_gather 27 = .ok (.getfield 58, 3) := by decide +kernel
theorem dX1_gather_30 : decode cX1_gather 30 = .ok (.getfield 106, 3) := by decide +kernel
theorem dX1_gather_33 : decode cX1_gather 33 = .ok (.iload_n 1, 1) := by decide +kernel
theorem dX1_gather_34 : decode cX1_gather 34 = .ok (.iconst 3, 1) := by decide +kernel
theorem dX1_gather_35 : decode cX1_gather 35 = .ok (.imul, 1) := by decide +kernel
theorem dX1_gather_36 : decode cX1_gather 36 = .ok (.iconst 2, 1) := by decide +kernel
theorem dX1_gather_37 : decode cX1_gather 37 = .ok (.iadd, 1) := by decide +kernel
theorem dX1_gather_38 : decode cX1_gather 38 = .ok (.iaload, 1) := by decide +kernel
theorem dX1_gather_39 : decode cX1_gather 39 = .ok (.istore 4, 2) := by decide +kernel
theorem dX1_gather_41 : decode cX1_gather 41 = .ok (.aload_n 0, 1) := by decide +kernel
theorem dX1_gather_42 : decode cX1_gather 42 = .ok (.iload_n 3, 1) := by decide +kernel
theorem dX1_gather_43 : decode cX1_gather 43 = .ok (.iload_n 1, 1) := by decide +kernel
theorem dX1_gather_44 : decode cX1_gather 44 = .ok (.iconst 0, 1) := by decide +kernel
theorem dX1_gather_45 : decode cX1_gather 45 = .ok (.invokevirtual 109, 3) := by decide +kernel
theorem dX1_gather_48 : decode cX1_gather 48 = .ok (.iload 4, 2) := by decide +kernel
theorem dX1_gather_50 : decode cX1_gather 50 = .ok (.iload_n 3, 1) := by decide +kernel
theorem dX1_gather_51 : decode cX1_gather 51 = .ok (.if_icmp .eq 11, 3) := by decide +kernel
theorem dX1_gather_54 : decode cX1_gather 54 = .ok (.aload_n 0, 1) := by decide +kernel
theorem dX1_gather_55 : decode cX1_gather 55 = .ok (.iload 4, 2) := by decide +kernel
theorem dX1_gather_57 : decode cX1_gather 57 = .ok (.iload_n 1, 1) := by decide +kernel
theorem dX1_gather_58 : decode cX1_gather 58 = .ok (.iconst 0, 1) := by decide +kernel
theorem dX1_gather_59 : decode cX1_gather 59 = .ok (.invokevirtual 109, 3) := by decide +kernel
theorem dX1_gather_62 : decode cX1_gather 62 = .ok (.aload_n 0, 1) := by decide +kernel
theorem dX1_gather_63 : decode cX1_gather 63 = .ok (.iload_n 2, 1) := by decide +kernel
theorem dX1_gather_64 : decode cX1_gather 64 = .ok (.iload_n 1, 1) := by decide +kernel
theorem dX1_gather_65 : decode cX1_gather 65 = .ok (.invokevirtual 113, 3) := by decide +kernel
theorem dX1_gather_68 : decode cX1_gather 68 = .ok (.aload_n 0, 1) := by decide +kernel
theorem dX1_gather_69 : decode cX1_gather 69 = .ok (.iload_n 2, 1) := by decide +kernel
theorem dX1_gather_70 : decode cX1_gather 70 = .ok (.iload_n 1, 1) := by decide +kernel
theorem dX1_gather_71 : decode cX1_gather 71 = .ok (.iconst 2, 1) := by decide +kernel
theorem dX1_gather_72 : decode cX1_gather 72 = .ok (.invokevirtual 109, 3) := by decide +kernel
theorem dX1_gather_75 : decode cX1_gather 75 = .ok (.return_, 1) := by decide +kernel
theorem dX1_meetWriters_0 : decode cX1_meetWriters 0 = .ok (.iload_n 1, 1) := by decide +kernel
theorem dX1_meetWriters_1 : decode cX1_meetWriters 1 = .ok (.ifCond .ge 4, 3) := by decide +kernel
theorem dX1_meetWriters_4 : decode cX1_meetWriters 4 = .ok (.return_, 1) := by decide +kernel
theorem dX1_meetWriters_5 : decode cX1_meetWriters 5 = .ok (.aload_n 0, 1) := by decide +kernel
theorem dX1_meetWriters_6 : decode cX1_meetWriters 6 = .ok (.getfield 34, 3) := by decide +kernel
theorem dX1_meetWriters_9 : decode cX1_meetWriters 9 = .ok (.iload_n 1, 1) := by decide +kernel
theorem dX1_meetWriters_10 : decode cX1_meetWriters 10 = .ok (.iaload, 1) := by decide +kernel
theorem dX1_meetWriters_11 : decode cX1_meetWriters 11 = .ok (.istore 4, 2) := by decide +kernel
theorem dX1_meetWriters_13 : decode cX1_meetWriters 13 = .ok (.iconst 0, 1) := by decide +kernel
theorem dX1_meetWriters_14 : decode cX1_meetWriters 14 = .ok (.istore 5, 2) := by decide +kernel
theorem dX1_meetWriters_16 : decode cX1_meetWriters 16 = .ok (.iload 5, 2) := by decide +kernel
theorem dX1_meetWriters_18 : decode cX1_meetWriters 18 = .ok (.sipush 400, 3) := by decide +kernel
theorem dX1_meetWriters_21 : decode cX1_meetWriters 21 = .ok (.if_icmp .ge 31, 3) := by decide +kernel
theorem dX1_meetWriters_24 : decode cX1_meetWriters 24 = .ok (.iload 4, 2) := by decide +kernel
theorem dX1_meetWriters_26 : decode cX1_meetWriters 26 = .ok (.ifCond .lt 26, 3) := by decide +kernel
theorem dX1_meetWriters_29 : decode cX1_meetWriters 29 = .ok (.aload_n 0, 1) := by decide +kernel
theorem dX1_meetWriters_30 : decode cX1_meetWriters 30 = .ok (.iload 4, 2) := by decide +kernel
theorem dX1_meetWriters_32 : decode cX1_meetWriters 32 = .ok (.iload_n 2, 1) := by decide +kernel
theorem dX1_meetWriters_33 : decode cX1_meetWriters 33 = .ok (.iload_n 3, 1) := by decide +kernel
theorem dX1_meetWriters_34 : decode cX1_meetWriters 34 = .ok (.invokevirtual 117, 3) := by decide +kernel
theorem dX1_meetWriters_37 : decode cX1_meetWriters 37 = .ok (.aload_n 0, 1) := by decide +kernel
theorem dX1_meetWriters_38 : decode cX1_meetWriters 38 = .ok (.getfield 37, 3) := by decide +kernel
theorem dX1_meetWriters_41 : decode cX1_meetWriters 41 = .ok (.iload 4, 2) := by decide +kernel
theorem dX1_meetWriters_43 : decode cX1_meetWriters 43 = .ok (.iaload, 1) := by decide +kernel
theorem dX1_meetWriters_44 : decode cX1_meetWriters 44 = .ok (.istore 4, 2) := by decide +kernel
theorem dX1_meetWriters_46 : decode cX1_meetWriters 46 = .ok (.iinc 5 1, 3) := by decide +kernel
theorem dX1_meetWriters_49 : decode cX1_meetWriters 49 = .ok (.goto (-33), 3) := by decide +kernel
theorem dX1_meetWriters_52 : decode cX1_meetWriters 52 = .ok (.return_, 1) := by decide +kernel
theorem dX1_meetReaders_0 : decode cX1_meetReaders 0 = .ok (.iload_n 1, 1) := by decide +kernel
theorem dX1_meetReaders_1 : decode cX1_meetReaders 1 = .ok (.ifCond .ge 4, 3) := by decide +kernel
theorem dX1_meetReaders_4 : decode cX1_meetReaders 4 = .ok (.return_, 1) := by decide +kernel
theorem dX1_meetReaders_5 : decode cX1_meetReaders 5 = .ok (.aload_n 0, 1) := by decide +kernel
theorem dX1_meetReaders_6 : decode cX1_meetReaders 6 = .ok (.getfield 40, 3) := by decide +kernel
theorem dX1_meetReaders_9 : decode cX1_meetReaders 9 = .ok (.iload_n 1, 1) := by decide +kernel
theorem dX1_meetReaders_10 : decode cX1_meetReaders 10 = .ok (.iaload, 1) := by decide +kernel
theorem dX1_meetReaders_11 : decode cX1_meetReaders 11 = .ok (.istore_n 3, 1) := by decide +kernel
theorem dX1_meetReaders_12 : decode cX1_meetReaders 12 = .ok (.iconst 0, 1) := by decide +kernel
theorem dX1_meetReaders_13 : decode cX1_meetReaders 13 = .ok (.istore 4, 2) := by decide +kernel
theorem dX1_meetReaders_15 : decode cX1_meetReaders 15 = .ok (.iload 4, 2) := by decide +kernel
theorem dX1_meetReaders_17 : decode cX1_meetReaders 17 = .ok (.sipush 400, 3) := by decide +kernel
theorem dX1_meetReaders_20 : decode cX1_meetReaders 20 = .ok (.if_icmp .ge 29, 3) := by decide +kernel
theorem dX1_meetReaders_23 : decode cX1_meetReaders 23 = .ok (.iload_n 3, 1) := by decide +kernel
theorem dX1_meetReaders_24 : decode cX1_meetReaders 24 = .ok (.ifCond .lt 25, 3) := by decide +kernel
theorem dX1_meetReaders_27 : decode cX1_meetReaders 27 = .ok (.aload_n 0, 1) := by decide +kernel
theorem dX1_meetReaders_28 : decode cX1_meetReaders 28 = .ok (.iload_n 3, 1) := by decide +kernel
theorem dX1_meetReaders_29 : decode cX1_meetReaders 29 = .ok (.iconst 2, 1) := by decide +kernel
theorem dX1_meetReaders_30 : decode cX1_meetReaders 30 = .ok (.idiv, 1) := by decide +kernel
theorem dX1_meetReaders_31 : decode cX1_meetReaders 31 = .ok (.iload_n 2, 1) := by decide +kernel
theorem dX1_meetReaders_32 : decode cX1_meetReaders 32 = .ok (.iconst 1, 1) := by decide +kernel
theorem dX1_meetReaders_33 : decode cX1_meetReaders 33 = .ok (.invokevirtual 117, 3) := by decide +kernel
theorem dX1_meetReaders_36 : decode cX1_meetReaders 36 = .ok (.aload_n 0, 1) := by decide +kernel
theorem dX1_meetReaders_37 : decode cX1_meetReaders 37 = .ok (.getfield 43, 3) := by decide +kernel
theorem dX1_meetReaders_40 : decode cX1_meetReaders 40 = .ok (.iload_n 3, 1) := by decide +kernel
theorem dX1_meetReaders_41 : decode cX1_meetReaders 41 = .ok (.iaload, 1) := by decide +kernel
theorem dX1_meetReaders_42 : decode cX1_meetReaders 42 = .ok (.istore_n 3, 1) := by decide +kernel
theorem dX1_meetReaders_43 : decode cX1_meetReaders 43 = .ok (.iinc 4 1, 3) := by decide +kernel
theorem dX1_meetReaders_46 : decode cX1_meetReaders 46 = .ok (.goto (-31), 3) := by decide +kernel
theorem dX1_meetReaders_49 : decode cX1_meetReaders 49 = .ok (.return_, 1) := by decide +kernel
theorem dX1_link_0 : decode cX1_link 0 = .ok (.aload_n 0, 1) := by decide +kernel
theorem dX1_link_1 : decode cX1_link 1 = .ok (.getfield 58, 3) := by decide +kernel
theorem dX1_link_4 : decode cX1_link 4 = .ok (.getfield 106, 3) := by decide +kernel
theorem dX1_link_7 : decode cX1_link 7 = .ok (.iload_n 1, 1) := by decide +kernel
theorem dX1_link_8 : decode cX1_link 8 = .ok (.iconst 3, 1) := by decide +kernel
theorem dX1_link_9 : decode cX1_link 9 = .ok (.imul, 1) := by decide +kernel
theorem dX1_link_10 : decode cX1_link 10 = .ok (.iaload, 1) := by decide +kernel
theorem dX1_link_11 : decode cX1_link 11 = .ok (.istore_n 2, 1) := by decide +kernel
theorem dX1_link_12 : decode cX1_link 12 = .ok (.iload_n 2, 1) := by decide +kernel
theorem dX1_link_13 : decode cX1_link 13 = .ok (.ifCond .lt 22, 3) := by decide +kernel
theorem dX1_link_16 : decode cX1_link 16 = .ok (.aload_n 0, 1) := by decide +kernel
theorem dX1_link_17 : decode cX1_link 17 = .ok (.getfield 37, 3) := by decide +kernel
theorem dX1_link_20 : decode cX1_link 20 = .ok (.iload_n 1, 1) := by decide +kernel
theorem dX1_link_21 : decode cX1_link 21 = .ok (.aload_n 0, 1) := by decide +kernel
theorem dX1_link_22 : decode cX1_link 22 = .ok (.getfield 34, 3) := by decide +kernel
theorem dX1_link_25 : decode cX1_link 25 = .ok (.iload_n 2, 1) := by decide +kernel
theorem dX1_link_26 : decode cX1_link 26 = .ok (.iaload, 1) := by decide +kernel
theorem dX1_link_27 : decode cX1_link 27 = .ok (.iastore, 1) := by decide +kernel
theorem dX1_link_28 : decode cX1_link 28 = .ok (.aload_n 0, 1) := by decide +kernel
theorem dX1_link_29 : decode cX1_link 29 = .ok (.getfield 34, 3) := by decide +kernel
theorem dX1_link_32 : decode cX1_link 32 = .ok (.iload_n 2, 1) := by decide +kernel
theorem dX1_link_33 : decode cX1_link 33 = .ok (.iload_n 1, 1) := by decide +kernel
theorem dX1_link_34 : decode cX1_link 34 = .ok (.iastore, 1) := by decide +kernel
theorem dX1_link_35 : decode cX1_link 35 = .ok (.aload_n 0, 1) := by decide +kernel
theorem dX1_link_36 : decode cX1_link 36 = .ok (.getfield 58, 3) := by decide +kernel
theorem dX1_link_39 : decode cX1_link 39 = .ok (.getfield 106, 3) := by decide +kernel
theorem dX1_link_42 : decode cX1_link 42 = .ok (.iload_n 1, 1) := by decide +kernel
theorem dX1_link_43 : decode cX1_link 43 = .ok (.iconst 3, 1) := by decide +kernel
theorem dX1_link_44 : decode cX1_link 44 = .ok (.imul, 1) := by decide +kernel
theorem dX1_link_45 : decode cX1_link 45 = .ok (.iconst 1, 1) := by decide +kernel
theorem dX1_link_46 : decode cX1_link 46 = .ok (.iadd, 1) := by decide +kernel
theorem dX1_link_47 : decode cX1_link 47 = .ok (.iaload, 1) := by decide +kernel
theorem dX1_link_48 : decode cX1_link 48 = .ok (.istore_n 3, 1) := by decide +kernel
theorem dX1_link_49 : decode cX1_link 49 = .ok (.aload_n 0, 1) := by decide +kernel
theorem dX1_link_50 : decode cX1_link 50 = .ok (.getfield 58, 3) := by decide +kernel
theorem dX1_link_53 : decode cX1_link 53 = .ok (.getfield 106, 3) := by decide +kernel
theorem dX1_link_56 : decode cX1_link 56 = .ok (.iload_n 1, 1) := by decide +kernel
theorem dX1_link_57 : decode cX1_link 57 = .ok (.iconst 3, 1) := by decide +kernel
theorem dX1_link_58 : decode cX1_link 58 = .ok (.imul, 1) := by decide +kernel
theorem dX1_link_59 : decode cX1_link 59 = .ok (.iconst 2, 1) := by decide +kernel
theorem dX1_link_60 : decode cX1_link 60 = .ok (.iadd, 1) := by decide +kernel
theorem dX1_link_61 : decode cX1_link 61 = .ok (.iaload, 1) := by decide +kernel
theorem dX1_link_62 : decode cX1_link 62 = .ok (.istore 4, 2) := by decide +kernel
theorem dX1_link_64 : decode cX1_link 64 = .ok (.aload_n 0, 1) := by decide +kernel
theorem dX1_link_65 : decode cX1_link 65 = .ok (.iload_n 3, 1) := by decide +kernel
theorem dX1_link_66 : decode cX1_link 66 = .ok (.iload_n 1, 1) := by decide +kernel
theorem dX1_link_67 : decode cX1_link 67 = .ok (.iconst 2, 1) := by decide +kernel
theorem dX1_link_68 : decode cX1_link 68 = .ok (.imul, 1) := by decide +kernel
theorem dX1_link_69 : decode cX1_link 69 = .ok (.invokevirtual 120, 3) := by decide +kernel
theorem dX1_link_72 : decode cX1_link 72 = .ok (.iload 4, 2) := by decide +kernel
theorem dX1_link_74 : decode cX1_link 74 = .ok (.iload_n 3, 1) := by decide +kernel
theorem dX1_link_75 : decode cX1_link 75 = .ok (.if_icmp .eq 14, 3) := by decide +kernel
theorem dX1_link_78 : decode cX1_link 78 = .ok (.aload_n 0, 1) := by decide +kernel
theorem dX1_link_79 : decode cX1_link 79 = .ok (.iload 4, 2) := by decide +kernel
theorem dX1_link_81 : decode cX1_link 81 = .ok (.iload_n 1, 1) := by decide +kernel
theorem dX1_link_82 : decode cX1_link 82 = .ok (.iconst 2, 1) := by decide +kernel
theorem dX1_link_83 : decode cX1_link 83 = .ok (.imul, 1) := by decide +kernel
theorem dX1_link_84 : decode cX1_link 84 = .ok (.iconst 1, 1) := by decide +kernel
theorem dX1_link_85 : decode cX1_link 85 = .ok (.iadd, 1) := by decide +kernel
theorem dX1_link_86 : decode cX1_link 86 = .ok (.invokevirtual 120, 3) := by decide +kernel
theorem dX1_link_89 : decode cX1_link 89 = .ok (.return_, 1) := by decide +kernel
theorem dX1_linkReader_0 : decode cX1_linkReader 0 = .ok (.iload_n 1, 1) := by decide +kernel
theorem dX1_linkReader_1 : decode cX1_linkReader 1 = .ok (.ifCond .ge 4, 3) := by decide +kernel
theorem dX1_linkReader_4 : decode cX1_linkReader 4 = .ok (.return_, 1) := by decide +kernel
theorem dX1_linkReader_5 : decode cX1_linkReader 5 = .ok (.aload_n 0, 1) := by decide +kernel
theorem dX1_linkReader_6 : decode cX1_linkReader 6 = .ok (.getfield 43, 3) := by decide +kernel
theorem dX1_linkReader_9 : decode cX1_linkReader 9 = .ok (.iload_n 2, 1) := by decide +kernel
theorem dX1_linkReader_10 : decode cX1_linkReader 10 = .ok (.aload_n 0, 1) := by decide +kernel
theorem dX1_linkReader_11 : decode cX1_linkReader 11 = .ok (.getfield 40, 3) := by decide +kernel
theorem dX1_linkReader_14 : decode cX1_linkReader 14 = .ok (.iload_n 1, 1) := by decide +kernel
theorem dX1_linkReader_15 : decode cX1_linkReader 15 = .ok (.iaload, 1) := by decide +kernel
theorem dX1_linkReader_16 : decode cX1_linkReader 16 = .ok (.iastore, 1) := by decide +kernel
theorem dX1_linkReader_17 : decode cX1_linkReader 17 = .ok (.aload_n 0, 1) := by decide +kernel
theorem dX1_linkReader_18 : decode cX1_linkReader 18 = .ok (.getfield 40, 3) := by decide +kernel
theorem dX1_linkReader_21 : decode cX1_linkReader 21 = .ok (.iload_n 1, 1) := by decide +kernel
theorem dX1_linkReader_22 : decode cX1_linkReader 22 = .ok (.iload_n 2, 1) := by decide +kernel
theorem dX1_linkReader_23 : decode cX1_linkReader 23 = .ok (.iastore, 1) := by decide +kernel
theorem dX1_linkReader_24 : decode cX1_linkReader 24 = .ok (.return_, 1) := by decide +kernel
theorem dX1_addNeed_0 : decode cX1_addNeed 0 = .ok (.aload_n 0, 1) := by decide +kernel
theorem dX1_addNeed_1 : decode cX1_addNeed 1 = .ok (.getfield 54, 3) := by decide +kernel
theorem dX1_addNeed_4 : decode cX1_addNeed 4 = .ok (.getfield 123, 3) := by decide +kernel
theorem dX1_addNeed_7 : decode cX1_addNeed 7 = .ok (.iload_n 1, 1) := by decide +kernel
theorem dX1_addNeed_8 : decode cX1_addNeed 8 = .ok (.iaload, 1) := by decide +kernel
theorem dX1_addNeed_9 : decode cX1_addNeed 9 = .ok (.bipush 12, 2) := by decide +kernel
theorem dX1_addNeed_11 : decode cX1_addNeed 11 = .ok (.imul, 1) := by decide +kernel
theorem dX1_addNeed_12 : decode cX1_addNeed 12 = .ok (.aload_n 0, 1) := by decide +kernel
theorem dX1_addNeed_13 : decode cX1_addNeed 13 = .ok (.getfield 54, 3) := by decide +kernel
theorem dX1_addNeed_16 : decode cX1_addNeed 16 = .ok (.getfield 123, 3) := by decide +kernel
theorem dX1_addNeed_19 : decode cX1_addNeed 19 = .ok (.iload_n 2, 1) := by decide +kernel
theorem dX1_addNeed_20 : decode cX1_addNeed 20 = .ok (.iaload, 1) := by decide +kernel
theorem dX1_addNeed_21 : decode cX1_addNeed 21 = .ok (.iadd, 1) := by decide +kernel
theorem dX1_addNeed_22 : decode cX1_addNeed 22 = .ok (.istore 4, 2) := by decide +kernel
theorem dX1_addNeed_24 : decode cX1_addNeed 24 = .ok (.aload_n 0, 1) := by decide +kernel
theorem dX1_addNeed_25 : decode cX1_addNeed 25 = .ok (.getfield 24, 3) := by decide +kernel
theorem dX1_addNeed_28 : decode cX1_addNeed 28 = .ok (.iload 4, 2) := by decide +kernel
theorem dX1_addNeed_30 : decode cX1_addNeed 30 = .ok (.iaload, 1) := by decide +kernel
theorem dX1_addNeed_31 : decode cX1_addNeed 31 = .ok (.istore 5, 2) := by decide +kernel
theorem dX1_addNeed_33 : decode cX1_addNeed 33 = .ok (.aload_n 0, 1) := by decide +kernel
theorem dX1_addNeed_34 : decode cX1_addNeed 34 = .ok (.getfield 18, 3) := by decide +kernel
theorem dX1_addNeed_37 : decode cX1_addNeed 37 = .ok (.iload 4, 2) := by decide +kernel
theorem dX1_addNeed_39 : decode cX1_addNeed 39 = .ok (.iaload, 1) := by decide +kernel
theorem dX1_addNeed_40 : decode cX1_addNeed 40 = .ok (.ifCond .ne 7, 3) := by decide +kernel
theorem dX1_addNeed_43 : decode cX1_addNeed 43 = .ok (.iconst 1, 1) := by decide +kernel
theorem dX1_addNeed_44 : decode cX1_addNeed 44 = .ok (.goto 4, 3) := by decide +kernel
theorem dX1_addNeed_47 : decode cX1_addNeed 47 = .ok (.iconst 0, 1) := by decide +kernel
theorem dX1_addNeed_48 : decode cX1_addNeed 48 = .ok (.istore 6, 2) := by decide +kernel
theorem dX1_addNeed_50 : decode cX1_addNeed 50 = .ok (.iconst 4, 1) := by decide +kernel
theorem dX1_addNeed_51 : decode cX1_addNeed 51 = .ok (.istore 7, 2) := by decide +kernel
theorem dX1_addNeed_53 : decode cX1_addNeed 53 = .ok (.iload 5, 2) := by decide +kernel
theorem dX1_addNeed_55 : decode cX1_addNeed 55 = .ok (.iconst 1, 1) := by decide +kernel
theorem dX1_addNeed_56 : decode cX1_addNeed 56 = .ok (.isub, 1) := by decide +kernel
theorem dX1_addNeed_57 : decode cX1_addNeed 57 = .ok (.istore 8, 2) := by decide +kernel
theorem dX1_addNeed_59 : decode cX1_addNeed 59 = .ok (.iload 8, 2) := by decide +kernel
theorem dX1_addNeed_61 : decode cX1_addNeed 61 = .ok (.ifCond .lt 100, 3) := by decide +kernel
theorem dX1_addNeed_64 : decode cX1_addNeed 64 = .ok (.aload_n 0, 1) := by decide +kernel
theorem dX1_addNeed_65 : decode cX1_addNeed 65 = .ok (.getfield 54, 3) := by decide +kernel
theorem dX1_addNeed_68 : decode cX1_addNeed 68 = .ok (.iload_n 1, 1) := by decide +kernel
theorem dX1_addNeed_69 : decode cX1_addNeed 69 = .ok (.iload_n 2, 1) := by decide +kernel
theorem dX1_addNeed_70 : decode cX1_addNeed 70 = .ok (.iload 8, 2) := by decide +kernel
theorem dX1_addNeed_72 : decode cX1_addNeed 72 = .ok (.invokevirtual 126, 3) := by decide +kernel
theorem dX1_addNeed_75 : decode cX1_addNeed 75 = .ok (.lstore 9, 2) := by decide +kernel
theorem dX1_addNeed_77 : decode cX1_addNeed 77 = .ok (.lload 9, 2) := by decide +kernel
theorem dX1_addNeed_79 : decode cX1_addNeed 79 = .ok (.lconst 0, 1) := by decide +kernel
theorem dX1_addNeed_80 : decode cX1_addNeed 80 = .ok (.lcmp, 1) := by decide +kernel
theorem dX1_addNeed_81 : decode cX1_addNeed 81 = .ok (.ifCond .eq 7, 3) := by decide +kernel
theorem dX1_addNeed_84 : decode cX1_addNeed 84 = .ok (.iload 8, 2) := by decide +kernel
theorem dX1_addNeed_86 : decode cX1_addNeed 86 = .ok (.istore 7, 2) := by decide +kernel
theorem dX1_addNeed_88 : decode cX1_addNeed 88 = .ok (.iload 4, 2) := by decide +kernel
theorem dX1_addNeed_90 : decode cX1_addNeed 90 = .ok (.iconst 4, 1) := by decide +kernel
theorem dX1_addNeed_91 : decode cX1_addNeed 91 = .ok (.imul, 1) := by decide +kernel
theorem dX1_addNeed_92 : decode cX1_addNeed 92 = .ok (.iload 8, 2) := by decide +kernel
theorem dX1_addNeed_94 : decode cX1_addNeed 94 = .ok (.iadd, 1) := by decide +kernel
theorem dX1_addNeed_95 : decode cX1_addNeed 95 = .ok (.istore 11, 2) := by decide +kernel
theorem dX1_addNeed_97 : decode cX1_addNeed 97 = .ok (.aload_n 0, 1) := by decide +kernel
theorem dX1_addNeed_98 : decode cX1_addNeed 98 = .ok (.getfield 27, 3) := by decide +kernel
theorem dX1_addNeed_101 : decode cX1_addNeed 101 = .ok (.iload 11, 2) := by decide +kernel
theorem dX1_addNeed_103 : decode cX1_addNeed 103 = .ok (.iload 6, 2) := by decide +kernel
theorem dX1_addNeed_105 : decode cX1_addNeed 105 = .ok (.ifCond .eq 8, 3) := by decide +kernel
theorem dX1_addNeed_108 : decode cX1_addNeed 108 = .ok (.lload 9, 2) := by decide +kernel
theorem dX1_addNeed_110 : decode cX1_addNeed 110 = .ok (.goto 15, 3) := by decide +kernel
theorem dX1_addNeed_113 : decode cX1_addNeed 113 = .ok (.aload_n 0, 1) := by decide +kernel
theorem dX1_addNeed_114 : decode cX1_addNeed 114 = .ok (.getfield 27, 3) := by decide +kernel
theorem dX1_addNeed_117 : decode cX1_addNeed 117 = .ok (.iload 11, 2) := by decide +kernel
theorem dX1_addNeed_119 : decode cX1_addNeed 119 = .ok (.laload, 1) := by decide +kernel
theorem dX1_addNeed_120 : decode cX1_addNeed 120 = .ok (.lload 9, 2) := by decide +kernel
theorem dX1_addNeed_122 : decode cX1_addNeed 122 = .ok (.invokestatic 130, 3) := by decide +kernel
theorem dX1_addNeed_125 : decode cX1_addNeed 125 = .ok (.lastore, 1) := by decide +kernel
theorem dX1_addNeed_126 : decode cX1_addNeed 126 = .ok (.aload_n 0, 1) := by decide +kernel
theorem dX1_addNeed_127 : decode cX1_addNeed 127 = .ok (.getfield 31, 3) := by decide +kernel
theorem dX1_addNeed_130 : decode cX1_addNeed 130 = .ok (.iload 11, 2) := by decide +kernel
theorem dX1_addNeed_132 : decode cX1_addNeed 132 = .ok (.iload 6, 2) := by decide +kernel
theorem dX1_addNeed_134 : decode cX1_addNeed 134 = .ok (.ifCond .eq 8, 3) := by decide +kernel
theorem dX1_addNeed_137 : decode cX1_addNeed 137 = .ok (.lload 9, 2) := by decide +kernel
theorem dX1_addNeed_139 : decode cX1_addNeed 139 = .ok (.goto 15, 3) := by decide +kernel
theorem dX1_addNeed_142 : decode cX1_addNeed 142 = .ok (.aload_n 0, 1) := by decide +kernel
theorem dX1_addNeed_143 : decode cX1_addNeed 143 = .ok (.getfield 31, 3) := by decide +kernel
theorem dX1_addNeed_146 : decode cX1_addNeed 146 = .ok (.iload 11, 2) := by decide +kernel
theorem dX1_addNeed_148 : decode cX1_addNeed 148 = .ok (.laload, 1) := by decide +kernel
theorem dX1_addNeed_149 : decode cX1_addNeed 149 = .ok (.lload 9, 2) := by decide +kernel
theorem dX1_addNeed_151 : decode cX1_addNeed 151 = .ok (.invokestatic 136, 3) := by decide +kernel
theorem dX1_addNeed_154 : decode cX1_addNeed 154 = .ok (.lastore, 1) := by decide +kernel
theorem dX1_addNeed_155 : decode cX1_addNeed 155 = .ok (.iinc 8 (-1), 3) := by decide +kernel
theorem dX1_addNeed_158 : decode cX1_addNeed 158 = .ok (.goto (-99), 3) := by decide +kernel
theorem dX1_addNeed_161 : decode cX1_addNeed 161 = .ok (.aload_n 0, 1) := by decide +kernel
theorem dX1_addNeed_162 : decode cX1_addNeed 162 = .ok (.getfield 18, 3) := by decide +kernel
theorem dX1_addNeed_165 : decode cX1_addNeed 165 = .ok (.iload 4, 2) := by decide +kernel
theorem dX1_addNeed_167 : decode cX1_addNeed 167 = .ok (.dup2, 1) := by decide +kernel
theorem dX1_addNeed_168 : decode cX1_addNeed 168 = .ok (.iaload, 1) := by decide +kernel
theorem dX1_addNeed_169 : decode cX1_addNeed 169 = .ok (.iconst 1, 1) := by decide +kernel
theorem dX1_addNeed_170 : decode cX1_addNeed 170 = .ok (.iadd, 1) := by decide +kernel
theorem dX1_addNeed_171 : decode cX1_addNeed 171 = .ok (.iastore, 1) := by decide +kernel
theorem dX1_addNeed_172 : decode cX1_addNeed 172 = .ok (.aload_n 0, 1) := by decide +kernel
theorem dX1_addNeed_173 : decode cX1_addNeed 173 = .ok (.getfield 9, 3) := by decide +kernel
theorem dX1_addNeed_176 : decode cX1_addNeed 176 = .ok (.iload 4, 2) := by decide +kernel
theorem dX1_addNeed_178 : decode cX1_addNeed 178 = .ok (.iconst 3, 1) := by decide +kernel
theorem dX1_addNeed_179 : decode cX1_addNeed 179 = .ok (.imul, 1) := by decide +kernel
theorem dX1_addNeed_180 : decode cX1_addNeed 180 = .ok (.iload_n 3, 1) := by decide +kernel
theorem dX1_addNeed_181 : decode cX1_addNeed 181 = .ok (.iadd, 1) := by decide +kernel
theorem dX1_addNeed_182 : decode cX1_addNeed 182 = .ok (.dup2, 1) := by decide +kernel
theorem dX1_addNeed_183 : decode cX1_addNeed 183 = .ok (.iaload, 1) := by decide +kernel
theorem dX1_addNeed_184 : decode cX1_addNeed 184 = .ok (.iconst 1, 1) := by decide +kernel
theorem dX1_addNeed_185 : decode cX1_addNeed 185 = .ok (.iadd, 1) := by decide +kernel
theorem dX1_addNeed_186 : decode cX1_addNeed 186 = .ok (.iastore, 1) := by decide +kernel
theorem dX1_addNeed_187 : decode cX1_addNeed 187 = .ok (.aload_n 0, 1) := by decide +kernel
theorem dX1_addNeed_188 : decode cX1_addNeed 188 = .ok (.getfield 15, 3) := by decide +kernel
theorem dX1_addNeed_191 : decode cX1_addNeed 191 = .ok (.iload 7, 2) := by decide +kernel
theorem dX1_addNeed_193 : decode cX1_addNeed 193 = .ok (.dup2, 1) := by decide +kernel
theorem dX1_addNeed_194 : decode cX1_addNeed 194 = .ok (.iaload, 1) := by decide +kernel
theorem dX1_addNeed_195 : decode cX1_addNeed 195 = .ok (.iconst 1, 1) := by decide +kernel
theorem dX1_addNeed_196 : decode cX1_addNeed 196 = .ok (.iadd, 1) := by decide +kernel
theorem dX1_addNeed_197 : decode cX1_addNeed 197 = .ok (.iastore, 1) := by decide +kernel
theorem dX1_addNeed_198 : decode cX1_addNeed 198 = .ok (.aload_n 0, 1) := by decide +kernel
theorem dX1_addNeed_199 : decode cX1_addNeed 199 = .ok (.getfield 21, 3) := by decide +kernel
theorem dX1_addNeed_202 : decode cX1_addNeed 202 = .ok (.iload 4, 2) := by decide +kernel
theorem dX1_addNeed_204 : decode cX1_addNeed 204 = .ok (.iconst 5, 1) := by decide +kernel
theorem dX1_addNeed_205 : decode cX1_addNeed 205 = .ok (.imul, 1) := by decide +kernel
theorem dX1_addNeed_206 : decode cX1_addNeed 206 = .ok (.iload 7, 2) := by decide +kernel
theorem dX1_addNeed_208 : decode cX1_addNeed 208 = .ok (.iadd, 1) := by decide +kernel
theorem dX1_addNeed_209 : decode cX1_addNeed 209 = .ok (.dup2, 1) := by decide +kernel
theorem dX1_addNeed_210 : decode cX1_addNeed 210 = .ok (.iaload, 1) := by decide +kernel
theorem dX1_addNeed_211 : decode cX1_addNeed 211 = .ok (.iconst 1, 1) := by decide +kernel
theorem dX1_addNeed_212 : decode cX1_addNeed 212 = .ok (.iadd, 1) := by decide +kernel
theorem dX1_addNeed_213 : decode cX1_addNeed 213 = .ok (.iastore, 1) := by decide +kernel
theorem dX1_addNeed_214 : decode cX1_addNeed 214 = .ok (.return_, 1) := by decide +kernel
theorem dX1_isAny_0 : decode cX1_isAny 0 = .ok (.aload_n 0, 1) := by decide +kernel
theorem dX1_isAny_1 : decode cX1_isAny 1 = .ok (.getfield 18, 3) := by decide +kernel
theorem dX1_isAny_4 : decode cX1_isAny 4 = .ok (.iload_n 1, 1) := by decide +kernel
theorem dX1_isAny_5 : decode cX1_isAny 5 = .ok (.iaload, 1) := by decide +kernel
theorem dX1_isAny_6 : decode cX1_isAny 6 = .ok (.ifCond .le 7, 3) := by decide +kernel
theorem dX1_isAny_9 : decode cX1_isAny 9 = .ok (.iconst 1, 1) := by decide +kernel
theorem dX1_isAny_10 : decode cX1_isAny 10 = .ok (.goto 4, 3) := by decide +kernel
theorem dX1_isAny_13 : decode cX1_isAny 13 = .ok (.iconst 0, 1) := by decide +kernel
theorem dX1_isAny_14 : decode cX1_isAny 14 = .ok (.ireturn, 1) := by decide +kernel
theorem dX1_isCarriedBy_0 : decode cX1_isCarriedBy 0 = .ok (.aload_n 0, 1) := by decide +kernel
theorem dX1_isCarriedBy_1 : decode cX1_isCarriedBy 1 = .ok (.getfield 50, 3) := by decide +kernel
theorem dX1_isCarriedBy_4 : decode cX1_isCarriedBy 4 = .ok (.getfield 139, 3) := by decide +kernel
theorem dX1_isCarriedBy_7 : decode cX1_isCarriedBy 7 = .ok (.iload_n 1, 1) := by decide +kernel
theorem dX1_isCarriedBy_8 : decode cX1_isCarriedBy 8 = .ok (.iaload, 1) := by decide +kernel
theorem dX1_isCarriedBy_9 : decode cX1_isCarriedBy 9 = .ok (.istore_n 2, 1) := by decide +kernel
theorem dX1_isCarriedBy_10 : decode cX1_isCarriedBy 10 = .ok (.iconst 0, 1) := by decide +kernel
theorem dX1_isCarriedBy_11 : decode cX1_isCarriedBy 11 = .ok (.istore_n 3, 1) := by decide +kernel
theorem dX1_isCarriedBy_12 : decode cX1_isCarriedBy 12 = .ok (.iload_n 3, 1) := by decide +kernel
theorem dX1_isCarriedBy_13 : decode cX1_isCarriedBy 13 = .ok (.aload_n 0, 1) := by decide +kernel
theorem dX1_isCarriedBy_14 : decode cX1_isCarriedBy 14 = .ok (.getfield 50, 3) := by decide +kernel
theorem dX1_isCarriedBy_17 : decode cX1_isCarriedBy 17 = .ok (.getfield 95, 3) := by decide +kernel
theorem dX1_isCarriedBy_20 : decode cX1_isCarriedBy 20 = .ok (.if_icmp .ge 80, 3) := by decide +kernel
theorem dX1_isCarriedBy_23 : decode cX1_isCarriedBy 23 = .ok (.iconst 0, 1) := by decide +kernel
theorem dX1_isCarriedBy_24 : decode cX1_isCarriedBy 24 = .ok (.istore 4, 2) := by decide +kernel
theorem dX1_isCarriedBy_26 : decode cX1_isCarriedBy 26 = .ok (.iload 4, 2) := by decide +kernel
theorem dX1_isCarriedBy_28 : decode cX1_isCarriedBy 28 = .ok (.aload_n 0, 1) := by decide +kernel
theorem dX1_isCarriedBy_29 : decode cX1_isCarriedBy 29 = .ok (.getfield 50, 3) := by decide +kernel
theorem dX1_isCarriedBy_32 : decode cX1_isCarriedBy 32 = .ok (.getfield 95, 3) := by decide +kernel
theorem dX1_isCarriedBy_35 : decode cX1_isCarriedBy 35 = .ok (.if_icmp .ge 59, 3) := by decide +kernel
theorem dX1_isCarriedBy_38 : decode cX1_isCarriedBy 38 = .ok (.iload_n 3, 1) := by decide +kernel
theorem dX1_isCarriedBy_39 : decode cX1_isCarriedBy 39 = .ok (.bipush 12, 2) := by decide +kernel
theorem dX1_isCarriedBy_41 : decode cX1_isCarriedBy 41 = .ok (.imul, 1) := by decide +kernel
theorem dX1_isCarriedBy_42 : decode cX1_isCarriedBy 42 = .ok (.iload 4, 2) := by decide +kernel
theorem dX1_isCarriedBy_44 : decode cX1_isCarriedBy 44 = .ok (.iadd, 1) := by decide +kernel
theorem dX1_isCarriedBy_45 : decode cX1_isCarriedBy 45 = .ok (.iconst 5, 1) := by decide +kernel
theorem dX1_isCarriedBy_46 : decode cX1_isCarriedBy 46 = .ok (.imul, 1) := by decide +kernel
theorem dX1_isCarriedBy_47 : decode cX1_isCarriedBy 47 = .ok (.iload_n 2, 1) := by decide +kernel
theorem dX1_isCarriedBy_48 : decode cX1_isCarriedBy 48 = .ok (.iadd, 1) := by decide +kernel
theorem dX1_isCarriedBy_49 : decode cX1_isCarriedBy 49 = .ok (.istore 5, 2) := by decide +kernel
theorem dX1_isCarriedBy_51 : decode cX1_isCarriedBy 51 = .ok (.aload_n 0, 1) := by decide +kernel
theorem dX1_isCarriedBy_52 : decode cX1_isCarriedBy 52 = .ok (.getfield 21, 3) := by decide +kernel
theorem dX1_isCarriedBy_55 : decode cX1_isCarriedBy 55 = .ok (.iload 5, 2) := by decide +kernel
theorem dX1_isCarriedBy_57 : decode cX1_isCarriedBy 57 = .ok (.iaload, 1) := by decide +kernel
theorem dX1_isCarriedBy_58 : decode cX1_isCarriedBy 58 = .ok (.ifCond .le 30, 3) := by decide +kernel
theorem dX1_isCarriedBy_61 : decode cX1_isCarriedBy 61 = .ok (.aload_n 0, 1) := by decide +kernel
theorem dX1_isCarriedBy_62 : decode cX1_isCarriedBy 62 = .ok (.getfield 50, 3) := by decide +kernel
theorem dX1_isCarriedBy_65 : decode cX1_isCarriedBy 65 = .ok (.iload_n 3, 1) := by decide +kernel
theorem dX1_isCarriedBy_66 : decode cX1_isCarriedBy 66 = .ok (.iload_n 1, 1) := by decide +kernel
theorem dX1_isCarriedBy_67 : decode cX1_isCarriedBy 67 = .ok (.invokevirtual 142, 3) := by decide +kernel
theorem dX1_isCarriedBy_70 : decode cX1_isCarriedBy 70 = .ok (.ifCond .eq 18, 3) := by decide +kernel
theorem dX1_isCarriedBy_73 : decode cX1_isCarriedBy 73 = .ok (.aload_n 0, 1) := by decide +kernel
theorem dX1_isCarriedBy_74 : decode cX1_isCarriedBy 74 = .ok (.getfield 50, 3) := by decide +kernel
theorem dX1_isCarriedBy_77 : decode cX1_isCarriedBy 77 = .ok (.iload 4, 2) := by decide +kernel
theorem dX1_isCarriedBy_79 : decode cX1_isCarriedBy 79 = .ok (.iload_n 1, 1) := by decide +kernel
theorem dX1_isCarriedBy_80 : decode cX1_isCarriedBy 80 = .ok (.invokevirtual 142, 3) := by decide +kernel
theorem dX1_isCarriedBy_83 : decode cX1_isCarriedBy 83 = .ok (.ifCond .eq 5, 3) := by decide +kernel
theorem dX1_isCarriedBy_86 : decode cX1_isCarriedBy 86 = .ok (.iconst 1, 1) := by decide +kernel
theorem dX1_isCarriedBy_87 : decode cX1_isCarriedBy 87 = .ok (.ireturn, 1) := by decide +kernel
theorem dX1_isCarriedBy_88 : decode cX1_isCarriedBy 88 = .ok (.iinc 4 1, 3) := by decide +kernel
theorem dX1_isCarriedBy_91 : decode cX1_isCarriedBy 91 = .ok (.goto (-65), 3) := by decide +kernel
theorem dX1_isCarriedBy_94 : decode cX1_isCarriedBy 94 = .ok (.iinc 3 1, 3) := by decide +kernel
theorem dX1_isCarriedBy_97 : decode cX1_isCarriedBy 97 = .ok (.goto (-85), 3) := by decide +kernel
theorem dX1_isCarriedBy_100 : decode cX1_isCarriedBy 100 = .ok (.iconst 0, 1) := by decide +kernel
theorem dX1_isCarriedBy_101 : decode cX1_isCarriedBy 101 = .ok (.ireturn, 1) := by decide +kernel
theorem dX2_init_0 : decode cX2_init 0 = .ok (.aload_n 0, 1) := by decide +kernel
theorem dX2_init_1 : decode cX2_init 1 = .ok (.invokespecial 3, 3) := by decide +kernel
theorem dX2_init_4 : decode cX2_init 4 = .ok (.aload_n 0, 1) := by decide +kernel
theorem dX2_init_5 : decode cX2_init 5 = .ok (.bipush 41, 2) := by decide +kernel
theorem dX2_init_7 : decode cX2_init 7 = .ok (.newarray .int, 2) := by decide +kernel
theorem dX2_init_9 : decode cX2_init 9 = .ok (.putfield 9, 3) := by decide +kernel
theorem dX2_init_12 : decode cX2_init 12 = .ok (.aload_n 0, 1) := by decide +kernel
theorem dX2_init_13 : decode cX2_init 13 = .ok (.bipush 41, 2) := by decide +kernel
theorem dX2_init_15 : decode cX2_init 15 = .ok (.newarray .int, 2) := by decide +kernel
theorem dX2_init_17 : decode cX2_init 17 = .ok (.putfield 15, 3) := by decide +kernel
theorem dX2_init_20 : decode cX2_init 20 = .ok (.aload_n 0, 1) := by decide +kernel
theorem dX2_init_21 : decode cX2_init 21 = .ok (.bipush 40, 2) := by decide +kernel
theorem dX2_init_23 : decode cX2_init 23 = .ok (.newarray .int, 2) := by decide +kernel
theorem dX2_init_25 : decode cX2_init 25 = .ok (.putfield 18, 3) := by decide +kernel
theorem dX2_init_28 : decode cX2_init 28 = .ok (.aload_n 0, 1) := by decide +kernel
theorem dX2_init_29 : decode cX2_init 29 = .ok (.bipush 40, 2) := by decide +kernel
theorem dX2_init_31 : decode cX2_init 31 = .ok (.newarray .int, 2) := by decide +kernel
theorem dX2_init_33 : decode cX2_init 33 = .ok (.putfield 21, 3) := by decide +kernel
theorem dX2_init_36 : decode cX2_init 36 = .ok (.aload_n 0, 1) := by decide +kernel
theorem dX2_init_37 : decode cX2_init 37 = .ok (.bipush 40, 2) := by decide +kernel
theorem dX2_init_39 : decode cX2_init 39 = .ok (.newarray .int, 2) := by decide +kernel
theorem dX2_init_41 : decode cX2_init 41 = .ok (.putfield 24, 3) := by decide +kernel
theorem dX2_init_44 : decode cX2_init 44 = .ok (.aload_n 0, 1) := by decide +kernel
theorem dX2_init_45 : decode cX2_init 45 = .ok (.bipush 40, 2) := by decide +kernel
theorem dX2_init_47 : decode cX2_init 47 = .ok (.newarray .int, 2) := by decide +kernel
theorem dX2_init_49 : decode cX2_init 49 = .ok (.putfield 27, 3) := by decide +kernel
theorem dX2_init_52 : decode cX2_init 52 = .ok (.aload_n 0, 1) := by decide +kernel
theorem dX2_init_53 : decode cX2_init 53 = .ok (.bipush 40, 2) := by decide +kernel
theorem dX2_init_55 : decode cX2_init 55 = .ok (.newarray .int, 2) := by decide +kernel
theorem dX2_init_57 : decode cX2_init 57 = .ok (.putfield 30, 3) := by decide +kernel
theorem dX2_init_60 : decode cX2_init 60 = .ok (.aload_n 0, 1) := by decide +kernel
theorem dX2_init_61 : decode cX2_init 61 = .ok (.bipush 40, 2) := by decide +kernel
theorem dX2_init_63 : decode cX2_init 63 = .ok (.newarray .int, 2) := by decide +kernel
theorem dX2_init_65 : decode cX2_init 65 = .ok (.putfield 33, 3) := by decide +kernel
theorem dX2_init_68 : decode cX2_init 68 = .ok (.aload_n 0, 1) := by decide +kernel
theorem dX2_init_69 : decode cX2_init 69 = .ok (.sipush 160, 3) := by decide +kernel
theorem dX2_init_72 : decode cX2_init 72 = .ok (.newarray .int, 2) := by decide +kernel
theorem dX2_init_74 : decode cX2_init 74 = .ok (.putfield 36, 3) := by decide +kernel
theorem dX2_init_77 : decode cX2_init 77 = .ok (.aload_n 0, 1) := by decide +kernel
theorem dX2_init_78 : decode cX2_init 78 = .ok (.sipush 200, 3) := by decide +kernel
theorem dX2_init_81 : decode cX2_init 81 = .ok (.newarray .int, 2) := by decide +kernel
theorem dX2_init_83 : decode cX2_init 83 = .ok (.putfield 39, 3) := by decide +kernel
theorem dX2_init_86 : decode cX2_init 86 = .ok (.aload_n 0, 1) := by decide +kernel
theorem dX2_init_87 : decode cX2_init 87 = .ok (.iconst 0, 1) := by decide +kernel
theorem dX2_init_88 : decode cX2_init 88 = .ok (.putfield 42, 3) := by decide +kernel
theorem dX2_init_91 : decode cX2_init 91 = .ok (.aload_n 0, 1) := by decide +kernel
theorem dX2_init_92 : decode cX2_init 92 = .ok (.bipush 12, 2) := by decide +kernel
theorem dX2_init_94 : decode cX2_init 94 = .ok (.newarray .int, 2) := by decide +kernel
theorem dX2_init_96 : decode cX2_init 96 = .ok (.putfield 46, 3) := by decide +kernel
theorem dX2_init_99 : decode cX2_init 99 = .ok (.aload_n 0, 1) := by decide +kernel
theorem dX2_init_100 : decode cX2_init 100 = .ok (.bipush 40, 2) := by decide +kernel
theorem dX2_init_102 : decode cX2_init 102 = .ok (.newarray .int, 2) := by decide +kernel
theorem dX2_init_104 : decode cX2_init 104 = .ok (.putfield 49, 3) := by decide +kernel
theorem dX2_init_107 : decode cX2_init 107 = .ok (.aload_n 0, 1) := by decide +kernel
theorem dX2_init_108 : decode cX2_init 108 = .ok (.iconst 0, 1) := by decide +kernel
theorem dX2_init_109 : decode cX2_init 109 = .ok (.putfield 52, 3) := by decide +kernel
theorem dX2_init_112 : decode cX2_init 112 = .ok (.aload_n 0, 1) := by decide +kernel
theorem dX2_init_113 : decode cX2_init 113 = .ok (.bipush 36, 2) := by decide +kernel
theorem dX2_init_115 : decode cX2_init 115 = .ok (.newarray .int, 2) := by decide +kernel
theorem dX2_init_117 : decode cX2_init 117 = .ok (.putfield 55, 3) := by decide +kernel
theorem dX2_init_120 : decode cX2_init 120 = .ok (.aload_n 0, 1) := by decide +kernel
theorem dX2_init_121 : decode cX2_init 121 = .ok (.bipush 36, 2) := by decide +kernel
theorem dX2_init_123 : decode cX2_init 123 = .ok (.newarray .int, 2) := by decide +kernel
theorem dX2_init_125 : decode cX2_init 125 = .ok (.putfield 58, 3) := by decide +kernel
theorem dX2_init_128 : decode cX2_init 128 = .ok (.aload_n 0, 1) := by decide +kernel
theorem dX2_init_129 : decode cX2_init 129 = .ok (.bipush 36, 2) := by decide +kernel
theorem dX2_init_131 : decode cX2_init 131 = .ok (.newarray .int, 2) := by decide +kernel
theorem dX2_init_133 : decode cX2_init 133 = .ok (.putfield 61, 3) := by decide +kernel
theorem dX2_init_136 : decode cX2_init 136 = .ok (.aload_n 0, 1) := by decide +kernel
theorem dX2_init_137 : decode cX2_init 137 = .ok (.getfield 9, 3) := by decide +kernel
theorem dX2_init_140 : decode cX2_init 140 = .ok (.bipush (-9), 2) := by decide +kernel
theorem dX2_init_142 : decode cX2_init 142 = .ok (.invokestatic 64, 3) := by decide +kernel
theorem dX2_init_145 : decode cX2_init 145 = .ok (.aload_n 0, 1) := by decide +kernel
theorem dX2_init_146 : decode cX2_init 146 = .ok (.getfield 15, 3) := by decide +kernel
theorem dX2_init_149 : decode cX2_init 149 = .ok (.bipush (-9), 2) := by decide +kernel
theorem dX2_init_151 : decode cX2_init 151 = .ok (.invokestatic 64, 3) := by decide +kernel
theorem dX2_init_154 : decode cX2_init 154 = .ok (.aload_n 0, 1) := by decide +kernel
theorem dX2_init_155 : decode cX2_init 155 = .ok (.getfield 55, 3) := by decide +kernel
theorem dX2_init_158 : decode cX2_init 158 = .ok (.bipush (-9), 2) := by decide +kernel
theorem dX2_init_160 : decode cX2_init 160 = .ok (.invokestatic 64, 3) := by decide +kernel
theorem dX2_init_163 : decode cX2_init 163 = .ok (.return_, 1) := by decide +kernel
theorem dX2_known_0 : decode cX2_known 0 = .ok (.iload_n 1, 1) := by decide +kernel
theorem dX2_known_1 : decode cX2_known 1 = .ok (.ifCond .lt 15, 3) := by decide +kernel
theorem dX2_known_4 : decode cX2_known 4 = .ok (.iload_n 1, 1) := by decide +kernel
theorem dX2_known_5 : decode cX2_known 5 = .ok (.aload_n 0, 1) := by decide +kernel
theorem dX2_known_6 : decode cX2_known 6 = .ok (.getfield 42, 3) := by decide +kernel
theorem dX2_known_9 : decode cX2_known 9 = .ok (.if_icmp .ge 7, 3) := by decide +kernel
theorem dX2_known_12 : decode cX2_known 12 = .ok (.iconst 1, 1) := by decide +kernel
theorem dX2_known_13 : decode cX2_known 13 = .ok (.goto 4, 3) := by decide +kernel
theorem dX2_known_16 : decode cX2_known 16 = .ok (.iconst 0, 1) := by decide +kernel
theorem dX2_known_17 : decode cX2_known 17 = .ok (.ireturn, 1) := by decide +kernel
theorem dX2_isAct_0 : decode cX2_isAct 0 = .ok (.aload_n 0, 1) := by decide +kernel
theorem dX2_isAct_1 : decode cX2_isAct 1 = .ok (.getfield 21, 3) := by decide +kernel
theorem dX2_isAct_4 : decode cX2_isAct 4 = .ok (.iload_n 1, 1) := by decide +kernel
theorem dX2_isAct_5 : decode cX2_isAct 5 = .ok (.iaload, 1) := by decide +kernel
theorem dX2_isAct_6 : decode cX2_isAct 6 = .ok (.iconst 3, 1) := by decide +kernel
theorem dX2_isAct_7 : decode cX2_isAct 7 = .ok (.if_icmp .ne 7, 3) := by decide +kernel
theorem dX2_isAct_10 : decode cX2_isAct 10 = .ok (.iconst 1, 1) := by decide +kernel
theorem dX2_isAct_11 : decode cX2_isAct 11 = .ok (.goto 4, 3) := by decide +kernel
theorem dX2_isAct_14 : decode cX2_isAct 14 = .ok (.iconst 0, 1) := by decide +kernel
theorem dX2_isAct_15 : decode cX2_isAct 15 = .ok (.ireturn, 1) := by decide +kernel
theorem dX2_isLoop_0 : decode cX2_isLoop 0 = .ok (.aload_n 0, 1) := by decide +kernel
theorem dX2_isLoop_1 : decode cX2_isLoop 1 = .ok (.getfield 21, 3) := by decide +kernel
theorem dX2_isLoop_4 : decode cX2_isLoop 4 = .ok (.iload_n 1, 1) := by decide +kernel
theorem dX2_isLoop_5 : decode cX2_isLoop 5 = .ok (.iaload, 1) := by decide +kernel
theorem dX2_isLoop_6 : decode cX2_isLoop 6 = .ok (.ifCond .eq 13, 3) := by decide +kernel
theorem dX2_isLoop_9 : decode cX2_isLoop 9 = .ok (.aload_n 0, 1) := by decide +kernel
theorem dX2_isLoop_10 : decode cX2_isLoop 10 = .ok (.getfield 21, 3) := by decide +kernel
theorem dX2_isLoop_13 : decode cX2_isLoop 13 = .ok (.iload_n 1, 1) := by decide +kernel
theorem dX2_isLoop_14 : decode cX2_isLoop 14 = .ok (.iaload, 1) := by decide +kernel
theorem dX2_isLoop_15 : decode cX2_isLoop 15 = .ok (.iconst 1, 1) := by decide +kernel
theorem dX2_isLoop_16 : decode cX2_isLoop 16 = .ok (.if_icmp .ne 7, 3) := by decide +kernel
theorem dX2_isLoop_19 : decode cX2_isLoop 19 = .ok (.iconst 1, 1) := by decide +kernel
theorem dX2_isLoop_20 : decode cX2_isLoop 20 = .ok (.goto 4, 3) := by decide +kernel
theorem dX2_isLoop_23 : decode cX2_isLoop 23 = .ok (.iconst 0, 1) := by decide +kernel
theorem dX2_isLoop_24 : decode cX2_isLoop 24 = .ok (.ireturn, 1) := by decide +kernel
theorem dX2_isOfKind_0 : decode cX2_isOfKind 0 = .ok (.iload_n 2, 1) := by decide +kernel
theorem dX2_isOfKind_1 : decode cX2_isOfKind 1 = .ok (.ifCond .ne 11, 3) := by decide +kernel
theorem dX2_isOfKind_4 : decode cX2_isOfKind 4 = .ok (.aload_n 0, 1) := by decide +kernel
theorem dX2_isOfKind_5 : decode cX2_isOfKind 5 = .ok (.iload_n 1, 1) := by decide +kernel
theorem dX2_isOfKind_6 : decode cX2_isOfKind 6 = .ok (.invokevirtual 70, 3) := by decide +kernel
theorem dX2_isOfKind_9 : decode cX2_isOfKind 9 = .ok (.goto 18, 3) := by decide +kernel
theorem dX2_isOfKind_12 : decode cX2_isOfKind 12 = .ok (.aload_n 0, 1) := by decide +kernel
theorem dX2_isOfKind_13 : decode cX2_isOfKind 13 = .ok (.getfield 21, 3) := by decide +kernel
theorem dX2_isOfKind_16 : decode cX2_isOfKind 16 = .ok (.iload_n 1, 1) := by decide +kernel
theorem dX2_isOfKind_17 : decode cX2_isOfKind 17 = .ok (.iaload, 1) := by decide +kernel
theorem dX2_isOfKind_18 : decode cX2_isOfKind 18 = .ok (.iload_n 2, 1) := by decide +kernel
theorem dX2_isOfKind_19 : decode cX2_isOfKind 19 = .ok (.if_icmp .ne 7, 3) := by decide +kernel
theorem dX2_isOfKind_22 : decode cX2_isOfKind 22 = .ok (.iconst 1, 1) := by decide +kernel
theorem dX2_isOfKind_23 : decode cX2_isOfKind 23 = .ok (.goto 4, 3) := by decide +kernel
theorem dX2_isOfKind_26 : decode cX2_isOfKind 26 = .ok (.iconst 0, 1) := by decide +kernel
theorem dX2_isOfKind_27 : decode cX2_isOfKind 27 = .ok (.ireturn, 1) := by decide +kernel
theorem dX2_opens_0 : decode cX2_opens 0 = .ok (.iload_n 1, 1) := by decide +kernel
theorem dX2_opens_1 : decode cX2_opens 1 = .ok (.bipush (-9), 2) := by decide +kernel
theorem dX2_opens_3 : decode cX2_opens 3 = .ok (.if_icmp .eq 19, 3) := by decide +kernel
theorem dX2_opens_6 : decode cX2_opens 6 = .ok (.aload_n 0, 1) := by decide +kernel
theorem dX2_opens_7 : decode cX2_opens 7 = .ok (.iload_n 1, 1) := by decide +kernel
theorem dX2_opens_8 : decode cX2_opens 8 = .ok (.invokevirtual 74, 3) := by decide +kernel
theorem dX2_opens_11 : decode cX2_opens 11 = .ok (.ifCond .eq 15, 3) := by decide +kernel
theorem dX2_opens_14 : decode cX2_opens 14 = .ok (.aload_n 0, 1) := by decide +kernel
theorem dX2_opens_15 : decode cX2_opens 15 = .ok (.iload_n 1, 1) := by decide +kernel
theorem dX2_opens_16 : decode cX2_opens 16 = .ok (.invokevirtual 77, 3) := by decide +kernel
theorem dX2_opens_19 : decode cX2_opens 19 = .ok (.ifCond .ne 7, 3) := by decide +kernel
theorem dX2_opens_22 : decode cX2_opens 22 = .ok (.iconst 1, 1) := by decide +kernel
theorem dX2_opens_23 : decode cX2_opens 23 = .ok (.goto 4, 3) := by decide +kernel
theorem dX2_opens_26 : decode cX2_opens 26 = .ok (.iconst 0, 1) := by decide +kernel
theorem dX2_opens_27 : decode cX2_opens 27 = .ok (.ireturn, 1) := by decide +kernel
theorem dX2_loopsIn_0 : decode cX2_loopsIn 0 = .ok (.iload_n 1, 1) := by decide +kernel
theorem dX2_loopsIn_1 : decode cX2_loopsIn 1 = .ok (.bipush (-9), 2) := by decide +kernel
theorem dX2_loopsIn_3 : decode cX2_loopsIn 3 = .ok (.if_icmp .ne 5, 3) := by decide +kernel
theorem dX2_loopsIn_6 : decode cX2_loopsIn 6 = .ok (.iconst 0, 1) := by decide +kernel
theorem dX2_loopsIn_7 : decode cX2_loopsIn 7 = .ok (.ireturn, 1) := by decide +kernel
theorem dX2_loopsIn_8 : decode cX2_loopsIn 8 = .ok (.aload_n 0, 1) := by decide +kernel
theorem dX2_loopsIn_9 : decode cX2_loopsIn 9 = .ok (.iload_n 1, 1) := by decide +kernel
theorem dX2_loopsIn_10 : decode cX2_loopsIn 10 = .ok (.invokevirtual 70, 3) := by decide +kernel
theorem dX2_loopsIn_13 : decode cX2_loopsIn 13 = .ok (.ifCond .eq 14, 3) := by decide +kernel
theorem dX2_loopsIn_16 : decode cX2_loopsIn 16 = .ok (.aload_n 0, 1) := by decide +kernel
theorem dX2_loopsIn_17 : decode cX2_loopsIn 17 = .ok (.getfield 27, 3) := by decide +kernel
theorem dX2_loopsIn_20 : decode cX2_loopsIn 20 = .ok (.iload_n 1, 1) := by decide +kernel
theorem dX2_loopsIn_21 : decode cX2_loopsIn 21 = .ok (.iaload, 1) := by decide +kernel
theorem dX2_loopsIn_22 : decode cX2_loopsIn 22 = .ok (.iconst 1, 1) := by decide +kernel
theorem dX2_loopsIn_23 : decode cX2_loopsIn 23 = .ok (.iadd, 1) := by decide +kernel
theorem dX2_loopsIn_24 : decode cX2_loopsIn 24 = .ok (.goto 9, 3) := by decide +kernel
theorem dX2_loopsIn_27 : decode cX2_loopsIn 27 = .ok (.aload_n 0, 1) := by decide +kernel
theorem dX2_loopsIn_28 : decode cX2_loopsIn 28 = .ok (.getfield 27, 3) := by decide +kernel
theorem dX2_loopsIn_31 : decode cX2_loopsIn 31 = .ok (.iload_n 1, 1) := by decide +kernel
theorem dX2_loopsIn_32 : decode cX2_loopsIn 32 = .ok (.iaload, 1) := by decide +kernel
theorem dX2_loopsIn_33 : decode cX2_loopsIn 33 = .ok (.ireturn, 1) := by decide +kernel
theorem dX2_add_0 : decode cX2_add 0 = .ok (.aload_n 0, 1) := by decide +kernel
theorem dX2_add_1 : decode cX2_add 1 = .ok (.getfield 42, 3) := by decide +kernel
theorem dX2_add_4 : decode cX2_add 4 = .ok (.istore 5, 2) := by decide +kernel
theorem dX2_add_6 : decode cX2_add 6 = .ok (.aload_n 0, 1) := by decide +kernel
theorem dX2_add_7 : decode cX2_add 7 = .ok (.getfield 21, 3) := by decide +kernel
theorem dX2_add_10 : decode cX2_add 10 = .ok (.iload 5, 2) := by decide +kernel
theorem dX2_add_12 : decode cX2_add 12 = .ok (.iload_n 2, 1) := by decide +kernel
theorem dX2_add_13 : decode cX2_add 13 = .ok (.iastore, 1) := by decide +kernel
theorem dX2_add_14 : decode cX2_add 14 = .ok (.aload_n 0, 1) := by decide +kernel
theorem dX2_add_15 : decode cX2_add 15 = .ok (.getfield 24, 3) := by decide +kernel
theorem dX2_add_18 : decode cX2_add 18 = .ok (.iload 5, 2) := by decide +kernel
theorem dX2_add_20 : decode cX2_add 20 = .ok (.iload_n 1, 1) := by decide +kernel
theorem dX2_add_21 : decode cX2_add 21 = .ok (.iastore, 1) := by decide +kernel
theorem dX2_add_22 : decode cX2_add 22 = .ok (.aload_n 0, 1) := by decide +kernel
theorem dX2_add_23 : decode cX2_add 23 = .ok (.getfield 27, 3) := by decide +kernel
theorem dX2_add_26 : decode cX2_add 26 = .ok (.iload 5, 2) := by decide +kernel
theorem dX2_add_28 : decode cX2_add 28 = .ok (.aload_n 0, 1) := by decide +kernel
theorem dX2_add_29 : decode cX2_add 29 = .ok (.iload_n 1, 1) := by decide +kernel
theorem dX2_add_30 : decode cX2_add 30 = .ok (.invokevirtual 80, 3) := by decide +kernel
theorem dX2_add_33 : decode cX2_add 33 = .ok (.iastore, 1) := by decide +kernel
theorem dX2_add_34 : decode cX2_add 34 = .ok (.aload_n 0, 1) := by decide +kernel
theorem dX2_add_35 : decode cX2_add 35 = .ok (.getfield 30, 3) := by decide +kernel
theorem dX2_add_38 : decode cX2_add 38 = .ok (.iload 5, 2) := by decide +kernel
theorem dX2_add_40 : decode cX2_add 40 = .ok (.iload_n 3, 1) := by decide +kernel
theorem dX2_add_41 : decode cX2_add 41 = .ok (.iastore, 1) := by decide +kernel
theorem dX2_add_42 : decode cX2_add 42 = .ok (.aload_n 0, 1) := by decide +kernel
theorem dX2_add_43 : decode cX2_add 43 = .ok (.getfield 33, 3) := by decide +kernel
theorem dX2_add_46 : decode cX2_add 46 = .ok (.iload 5, 2) := by decide +kernel
theorem dX2_add_48 : decode cX2_add 48 = .ok (.iload 4, 2) := by decide +kernel
theorem dX2_add_50 : decode cX2_add 50 = .ok (.iastore, 1) := by decide +kernel
theorem dX2_add_51 : decode cX2_add 51 = .ok (.aload_n 0, 1) := by decide +kernel
theorem dX2_add_52 : decode cX2_add 52 = .ok (.iload 5, 2) := by decide +kernel
theorem dX2_add_54 : decode cX2_add 54 = .ok (.iload_n 1, 1) := by decide +kernel
theorem dX2_add_55 : decode cX2_add 55 = .ok (.invokevirtual 84, 3) := by decide +kernel
theorem dX2_add_58 : decode cX2_add 58 = .ok (.aload_n 0, 1) := by decide +kernel
theorem dX2_add_59 : decode cX2_add 59 = .ok (.iload 5, 2) := by decide +kernel
theorem dX2_add_61 : decode cX2_add 61 = .ok (.iload_n 1, 1) := by decide +kernel
theorem dX2_add_62 : decode cX2_add 62 = .ok (.bipush (-9), 2) := by decide +kernel
theorem dX2_add_64 : decode cX2_add 64 = .ok (.if_icmp .ne 8, 3) := by decide +kernel
theorem dX2_add_67 : decode cX2_add 67 = .ok (.bipush 40, 2) := by decide +kernel
theorem dX2_add_69 : decode cX2_add 69 = .ok (.goto 4, 3) := by decide +kernel
theorem dX2_add_72 : decode cX2_add 72 = .ok (.iload_n 1, 1) := by decide +kernel
theorem dX2_add_73 : decode cX2_add 73 = .ok (.invokevirtual 88, 3) := by decide +kernel
theorem dX2_add_76 : decode cX2_add 76 = .ok (.aload_n 0, 1) := by decide +kernel
theorem dX2_add_77 : decode cX2_add 77 = .ok (.getfield 49, 3) := by decide +kernel
theorem dX2_add_80 : decode cX2_add 80 = .ok (.iload 5, 2) := by decide +kernel
theorem dX2_add_82 : decode cX2_add 82 = .ok (.bipush (-9), 2) := by decide +kernel
theorem dX2_add_84 : decode cX2_add 84 = .ok (.iastore, 1) := by decide +kernel
theorem dX2_add_85 : decode cX2_add 85 = .ok (.iload_n 2, 1) := by decide +kernel
theorem dX2_add_86 : decode cX2_add 86 = .ok (.iconst 3, 1) := by decide +kernel
theorem dX2_add_87 : decode cX2_add 87 = .ok (.if_icmp .ne 35, 3) := by decide +kernel
theorem dX2_add_90 : decode cX2_add 90 = .ok (.aload_n 0, 1) := by decide +kernel
theorem dX2_add_91 : decode cX2_add 91 = .ok (.getfield 46, 3) := by decide +kernel
theorem dX2_add_94 : decode cX2_add 94 = .ok (.aload_n 0, 1) := by decide +kernel
theorem dX2_add_95 : decode cX2_add 95 = .ok (.getfield 52, 3) := by decide +kernel
theorem dX2_add_98 : decode cX2_add 98 = .ok (.iload 5, 2) := by decide +kernel
theorem dX2_add_100 : decode cX2_add 100 = .ok (.iastore, 1) := by decide +kernel
theorem dX2_add_101 : decode cX2_add 101 = .ok (.aload_n 0, 1) := by decide +kernel
theorem dX2_add_102 : decode cX2_add 102 = .ok (.getfield 49, 3) := by decide +kernel
theorem dX2_add_105 : decode cX2_add 105 = .ok (.iload 5, 2) := by decide +kernel
theorem dX2_add_107 : decode cX2_add 107 = .ok (.aload_n 0, 1) := by decide +kernel
theorem dX2_add_108 : decode cX2_add 108 = .ok (.getfield 52, 3) := by decide +kernel
theorem dX2_add_111 : decode cX2_add 111 = .ok (.iastore, 1) := by decide +kernel
theorem dX2_add_112 : decode cX2_add 112 = .ok (.aload_n 0, 1) := by decide +kernel
theorem dX2_add_113 : decode cX2_add 113 = .ok (.dup, 1) := by decide +kernel
theorem dX2_add_114 : decode cX2_add 114 = .ok (.getfield 52, 3) := by decide +kernel
theorem dX2_add_117 : decode cX2_add 117 = .ok (.iconst 1, 1) := by decide +kernel
theorem dX2_add_118 : decode cX2_add 118 = .ok (.iadd, 1) := by decide +kernel
theorem dX2_add_119 : decode cX2_add 119 = .ok (.putfield 52, 3) := by decide +kernel
theorem dX2_add_122 : decode cX2_add 122 = .ok (.aload_n 0, 1) := by decide +kernel
theorem dX2_add_123 : decode cX2_add 123 = .ok (.dup, 1) := by decide +kernel
theorem dX2_add_124 : decode cX2_add 124 = .ok (.getfield 42, 3) := by decide +kernel
theorem dX2_add_127 : decode cX2_add 127 = .ok (.iconst 1, 1) := by decide +kernel
theorem dX2_add_128 : decode cX2_add 128 = .ok (.iadd, 1) := by decide +kernel
theorem dX2_add_129 : decode cX2_add 129 = .ok (.putfield 42, 3) := by decide +kernel
theorem dX2_add_132 : decode cX2_add 132 = .ok (.iload 5, 2) := by decide +kernel
theorem dX2_add_134 : decode cX2_add 134 = .ok (.ireturn, 1) := by decide +kernel
theorem dX2_inherit_0 : decode cX2_inherit 0 = .ok (.aload_n 0, 1) := by decide +kernel
theorem dX2_inherit_1 : decode cX2_inherit 1 = .ok (.getfield 27, 3) := by decide +kernel
theorem dX2_inherit_4 : decode cX2_inherit 4 = .ok (.iload_n 1, 1) := by decide +kernel
theorem dX2_inherit_5 : decode cX2_inherit 5 = .ok (.iaload, 1) := by decide +kernel
theorem dX2_inherit_6 : decode cX2_inherit 6 = .ok (.istore_n 3, 1) := by decide +kernel
theorem dX2_inherit_7 : decode cX2_inherit 7 = .ok (.iconst 0, 1) := by decide +kernel
theorem dX2_inherit_8 : decode cX2_inherit 8 = .ok (.istore 4, 2) := by decide +kernel
theorem dX2_inherit_10 : decode cX2_inherit 10 = .ok (.iload 4, 2) := by decide +kernel
theorem dX2_inherit_12 : decode cX2_inherit 12 = .ok (.iload_n 3, 1) := by decide +kernel
theorem dX2_inherit_13 : decode cX2_inherit 13 = .ok (.if_icmp .ge 63, 3) := by decide +kernel
theorem dX2_inherit_16 : decode cX2_inherit 16 = .ok (.iload 4, 2) := by decide +kernel
theorem dX2_inherit_18 : decode cX2_inherit 18 = .ok (.iload_n 3, 1) := by decide +kernel
theorem dX2_inherit_19 : decode cX2_inherit 19 = .ok (.iconst 1, 1) := by decide +kernel
theorem dX2_inherit_20 : decode cX2_inherit 20 = .ok (.isub, 1) := by decide +kernel
theorem dX2_inherit_21 : decode cX2_inherit 21 = .ok (.if_icmp .ne 15, 3) := by decide +kernel
theorem dX2_inherit_24 : decode cX2_inherit 24 = .ok (.aload_n 0, 1) := by decide +kernel
theorem dX2_inherit_25 : decode cX2_inherit 25 = .ok (.iload_n 2, 1) := by decide +kernel
theorem dX2_inherit_26 : decode cX2_inherit 26 = .ok (.invokevirtual 70, 3) := by decide +kernel
theorem dX2_inherit_29 : decode cX2_inherit 29 = .ok (.ifCond .eq 7, 3) := by decide +kernel
theorem dX2_inherit_32 : decode cX2_inherit 32 = .ok (.iconst 1, 1) := by decide +kernel
theorem dX2_inherit_33 : decode cX2_inherit 33 = .ok (.goto 4, 3) := by decide +kernel
theorem dX2_inherit_36 : decode cX2_inherit 36 = .ok (.iconst 0, 1) := by decide +kernel
theorem dX2_inherit_37 : decode cX2_inherit 37 = .ok (.istore 5, 2) := by decide +kernel
theorem dX2_inherit_39 : decode cX2_inherit 39 = .ok (.aload_n 0, 1) := by decide +kernel
theorem dX2_inherit_40 : decode cX2_inherit 40 = .ok (.getfield 36, 3) := by decide +kernel
theorem dX2_inherit_43 : decode cX2_inherit 43 = .ok (.iload_n 1, 1) := by decide +kernel
theorem dX2_inherit_44 : decode cX2_inherit 44 = .ok (.iconst 4, 1) := by decide +kernel
theorem dX2_inherit_45 : decode cX2_inherit 45 = .ok (.imul, 1) := by decide +kernel
theorem dX2_inherit_46 : decode cX2_inherit 46 = .ok (.iload 4, 2) := by decide +kernel
theorem dX2_inherit_48 : decode cX2_inherit 48 = .ok (.iadd, 1) := by decide +kernel
theorem dX2_inherit_49 : decode cX2_inherit 49 = .ok (.iload 5, 2) := by decide +kernel
theorem dX2_inherit_51 : decode cX2_inherit 51 = .ok (.ifCond .eq 7, 3) := by decide +kernel
theorem dX2_inherit_54 : decode cX2_inherit 54 = .ok (.iload_n 2, 1) := by decide +kernel
theorem dX2_inherit_55 : decode cX2_inherit 55 = .ok (.goto 14, 3) := by decide +kernel
theorem dX2_inherit_58 : decode cX2_inherit 58 = .ok (.aload_n 0, 1) := by decide +kernel
theorem dX2_inherit_59 : decode cX2_inherit 59 = .ok (.getfield 36, 3) := by decide +kernel
theorem dX2_inherit_62 : decode cX2_inherit 62 = .ok (.iload_n 2, 1) := by decide +kernel
theorem dX2_inherit_63 : decode cX2_inherit 63 = .ok (.iconst 4, 1) := by decide +kernel
theorem dX2_inherit_64 : decode cX2_inherit 64 = .ok (.imul, 1) := by decide +kernel
theorem dX2_inherit_65 : decode cX2_inherit 65 = .ok (.iload 4, 2) := by decide +kernel
theorem dX2_inherit_67 : decode cX2_inherit 67 = .ok (.iadd, 1) := by decide +kernel
theorem dX2_inherit_68 : decode cX2_inherit 68 = .ok (.iaload, 1) := by decide +kernel
theorem dX2_inherit_69 : decode cX2_inherit 69 = .ok (.iastore, 1) := by decide +kernel
theorem dX2_inherit_70 : decode cX2_inherit 70 = .ok (.iinc 4 1, 3) := by decide +kernel
theorem dX2_inherit_73 : decode cX2_inherit 73 = .ok (.goto (-63), 3) := by decide +kernel
theorem dX2_inherit_76 : decode cX2_inherit 76 = .ok (.iload_n 2, 1) := by decide +kernel
theorem dX2_inherit_77 : decode cX2_inherit 77 = .ok (.bipush (-9), 2) := by decide +kernel
theorem dX2_inherit_79 : decode cX2_inherit 79 = .ok (.if_icmp .ne 7, 3) := by decide +kernel
theorem dX2_inherit_82 : decode cX2_inherit 82 = .ok (.iconst 0, 1) := by decide +kernel
theorem dX2_inherit_83 : decode cX2_inherit 83 = .ok (.goto 11, 3) := by decide +kernel
theorem dX2_inherit_86 : decode cX2_inherit 86 = .ok (.aload_n 0, 1) := by decide +kernel
theorem dX2_inherit_87 : decode cX2_inherit 87 = .ok (.getfield 27, 3) := by decide +kernel
theorem dX2_inherit_90 : decode cX2_inherit 90 = .ok (.iload_n 2, 1) := by decide +kernel
theorem dX2_inherit_91 : decode cX2_inherit 91 = .ok (.iaload, 1) := by decide +kernel
theorem dX2_inherit_92 : decode cX2_inherit 92 = .ok (.iconst 1, 1) := by decide +kernel
theorem dX2_inherit_93 : decode cX2_inherit 93 = .ok (.iadd, 1) := by decide +kernel
theorem dX2_inherit_94 : decode cX2_inherit 94 = .ok (.istore 4, 2) := by decide +kernel
theorem dX2_inherit_96 : decode cX2_inherit 96 = .ok (.iconst 0, 1) := by decide +kernel
theorem dX2_inherit_97 : decode cX2_inherit 97 = .ok (.istore 5, 2) := by decide +kernel
theorem dX2_inherit_99 : decode cX2_inherit 99 = .ok (.iload 5, 2) := by decide +kernel
theorem dX2_inherit_101 : decode cX2_inherit 101 = .ok (.iload_n 3, 1) := by decide +kernel
theorem dX2_inherit_102 : decode cX2_inherit 102 = .ok (.if_icmp .gt 42, 3) := by decide +kernel
theorem dX2_inherit_105 : decode cX2_inherit 105 = .ok (.aload_n 0, 1) := by decide +kernel
theorem dX2_inherit_106 : decode cX2_inherit 106 = .ok (.getfield 39, 3) := by decide +kernel
theorem dX2_inherit_109 : decode cX2_inherit 109 = .ok (.iload_n 1, 1) := by decide +kernel
theorem dX2_inherit_110 : decode cX2_inherit 110 = .ok (.iconst 5, 1) := by decide +kernel
theorem dX2_inherit_111 : decode cX2_inherit 111 = .ok (.imul, 1) := by decide +kernel
theorem dX2_inherit_112 : decode cX2_inherit 112 = .ok (.iload 5, 2) := by decide +kernel
theorem dX2_inherit_114 : decode cX2_inherit 114 = .ok (.iadd, 1) := by decide +kernel
theorem dX2_inherit_115 : decode cX2_inherit 115 = .ok (.iload 5, 2) := by decide +kernel
theorem dX2_inherit_117 : decode cX2_inherit 117 = .ok (.iload 4, 2) := by decide +kernel
theorem dX2_inherit_119 : decode cX2_inherit 119 = .ok (.if_icmp .ge 17, 3) := by decide +kernel
theorem dX2_inherit_122 : decode cX2_inherit 122 = .ok (.aload_n 0, 1) := by decide +kernel
theorem dX2_inherit_123 : decode cX2_inherit 123 = .ok (.getfield 39, 3) := by decide +kernel
theorem dX2_inherit_126 : decode cX2_inherit 126 = .ok (.iload_n 2, 1) := by decide +kernel
theorem dX2_inherit_127 : decode cX2_inherit 127 = .ok (.iconst 5, 1) := by decide +kernel
theorem dX2_inherit_128 : decode cX2_inherit 128 = .ok (.imul, 1) := by decide +kernel
theorem dX2_inherit_129 : decode cX2_inherit 129 = .ok (.iload 5, 2) := by decide +kernel
theorem dX2_inherit_131 : decode cX2_inherit 131 = .ok (.iadd, 1) := by decide +kernel
theorem dX2_inherit_132 : decode cX2_inherit 132 = .ok (.iaload, 1) := by decide +kernel
theorem dX2_inherit_133 : decode cX2_inherit 133 = .ok (.goto 4, 3) := by decide +kernel
theorem dX2_inherit_136 : decode cX2_inherit 136 = .ok (.iload_n 1, 1) := by decide +kernel
theorem dX2_inherit_137 : decode cX2_inherit 137 = .ok (.iastore, 1) := by decide +kernel
theorem dX2_inherit_138 : decode cX2_inherit 138 = .ok (.iinc 5 1, 3) := by decide +kernel
theorem dX2_inherit_141 : decode cX2_inherit 141 = .ok (.goto (-42), 3) := by decide +kernel
theorem dX2_inherit_144 : decode cX2_inherit 144 = .ok (.return_, 1) := by decide +kernel
theorem dX2_hang_0 : decode cX2_hang 0 = .ok (.aload_n 0, 1) := by decide +kernel
theorem dX2_hang_1 : decode cX2_hang 1 = .ok (.getfield 9, 3) := by decide +kernel
theorem dX2_hang_4 : decode cX2_hang 4 = .ok (.iload_n 1, 1) := by decide +kernel
theorem dX2_hang_5 : decode cX2_hang 5 = .ok (.bipush (-9), 2) := by decide +kernel
theorem dX2_hang_7 : decode cX2_hang 7 = .ok (.iastore, 1) := by decide +kernel
theorem dX2_hang_8 : decode cX2_hang 8 = .ok (.aload_n 0, 1) := by decide +kernel
theorem dX2_hang_9 : decode cX2_hang 9 = .ok (.getfield 15, 3) := by decide +kernel
theorem dX2_hang_12 : decode cX2_hang 12 = .ok (.iload_n 1, 1) := by decide +kernel
theorem dX2_hang_13 : decode cX2_hang 13 = .ok (.bipush (-9), 2) := by decide +kernel
theorem dX2_hang_15 : decode cX2_hang 15 = .ok (.iastore, 1) := by decide +kernel
theorem dX2_hang_16 : decode cX2_hang 16 = .ok (.aload_n 0, 1) := by decide +kernel
theorem dX2_hang_17 : decode cX2_hang 17 = .ok (.getfield 18, 3) := by decide +kernel
theorem dX2_hang_20 : decode cX2_hang 20 = .ok (.iload_n 1, 1) := by decide +kernel
theorem dX2_hang_21 : decode cX2_hang 21 = .ok (.bipush (-9), 2) := by decide +kernel
theorem dX2_hang_23 : decode cX2_hang 23 = .ok (.iastore, 1) := by decide +kernel
theorem dX2_hang_24 : decode cX2_hang 24 = .ok (.aload_n 0, 1) := by decide +kernel
theorem dX2_hang_25 : decode cX2_hang 25 = .ok (.getfield 15, 3) := by decide +kernel
theorem dX2_hang_28 : decode cX2_hang 28 = .ok (.iload_n 2, 1) := by decide +kernel
theorem dX2_hang_29 : decode cX2_hang 29 = .ok (.iaload, 1) := by decide +kernel
theorem dX2_hang_30 : decode cX2_hang 30 = .ok (.bipush (-9), 2) := by decide +kernel
theorem dX2_hang_32 : decode cX2_hang 32 = .ok (.if_icmp .ne 13, 3) := by decide +kernel
theorem dX2_hang_35 : decode cX2_hang 35 = .ok (.aload_n 0, 1) := by decide +kernel
theorem dX2_hang_36 : decode cX2_hang 36 = .ok (.getfield 9, 3) := by decide +kernel
theorem dX2_hang_39 : decode cX2_hang 39 = .ok (.iload_n 2, 1) := by decide +kernel
theorem dX2_hang_40 : decode cX2_hang 40 = .ok (.iload_n 1, 1) := by decide +kernel
theorem dX2_hang_41 : decode cX2_hang 41 = .ok (.iastore, 1) := by decide +kernel
theorem dX2_hang_42 : decode cX2_hang 42 = .ok (.goto 15, 3) := by decide +kernel
theorem dX2_hang_45 : decode cX2_hang 45 = .ok (.aload_n 0, 1) := by decide +kernel
theorem dX2_hang_46 : decode cX2_hang 46 = .ok (.getfield 18, 3) := by decide +kernel
theorem dX2_hang_49 : decode cX2_hang 49 = .ok (.aload_n 0, 1) := by decide +kernel
theorem dX2_hang_50 : decode cX2_hang 50 = .ok (.getfield 15, 3) := by decide +kernel
theorem dX2_hang_53 : decode cX2_hang 53 = .ok (.iload_n 2, 1) := by decide +kernel
theorem dX2_hang_54 : decode cX2_hang 54 = .ok (.iaload, 1) := by decide +kernel
theorem dX2_hang_55 : decode cX2_hang 55 = .ok (.iload_n 1, 1) := by decide +kernel
theorem dX2_hang_56 : decode cX2_hang 56 = .ok (.iastore, 1) := by decide +kernel
theorem dX2_hang_57 : decode cX2_hang 57 = .ok (.aload_n 0, 1) := by decide +kernel
theorem dX2_hang_58 : decode cX2_hang 58 = .ok (.getfield 15, 3) := by decide +kernel
theorem dX2_hang_61 : decode cX2_hang 61 = .ok (.iload_n 2, 1) := by decide +kernel
theorem dX2_hang_62 : decode cX2_hang 62 = .ok (.iload_n 1, 1) := by decide +kernel
theorem dX2_hang_63 : decode cX2_hang 63 = .ok (.iastore, 1) := by decide +kernel
theorem dX2_hang_64 : decode cX2_hang 64 = .ok (.return_, 1) := by decide +kernel
theorem dX2_setAim_0 : decode cX2_setAim 0 = .ok (.aload_n 0, 1) := by decide +kernel
theorem dX2_setAim_1 : decode cX2_setAim 1 = .ok (.getfield 55, 3) := by decide +kernel
theorem dX2_setAim_4 : decode cX2_setAim 4 = .ok (.iload_n 1, 1) := by decide +kernel
theorem dX2_setAim_5 : decode cX2_setAim 5 = .ok (.iload_n 2, 1) := by decide +kernel
theorem dX2_setAim_6 : decode cX2_setAim 6 = .ok (.iastore, 1) := by decide +kernel
theorem dX2_setAim_7 : decode cX2_setAim 7 = .ok (.aload_n 0, 1) := by decide +kernel
theorem dX2_setAim_8 : decode cX2_setAim 8 = .ok (.getfield 58, 3) := by decide +kernel
theorem dX2_setAim_11 : decode cX2_setAim 11 = .ok (.iload_n 1, 1) := by decide +kernel
theorem dX2_setAim_12 : decode cX2_setAim 12 = .ok (.iload_n 3, 1) := by decide +kernel
theorem dX2_setAim_13 : decode cX2_setAim 13 = .ok (.iastore, 1) := by decide +kernel
theorem dX2_setAim_14 : decode cX2_setAim 14 = .ok (.aload_n 0, 1) := by decide +kernel
theorem dX2_setAim_15 : decode cX2_setAim 15 = .ok (.getfield 61, 3) := by decide +kernel
theorem dX2_setAim_18 : decode cX2_setAim 18 = .ok (.iload_n 1, 1) := by decide +kernel
theorem dX2_setAim_19 : decode cX2_setAim 19 = .ok (.iload 4, 2) := by decide +kernel
theorem dX2_setAim_21 : decode cX2_setAim 21 = .ok (.iastore, 1) := by decide +kernel
theorem dX2_setAim_22 : decode cX2_setAim 22 = .ok (.return_, 1) := by decide +kernel
theorem dX2_tell_0 : decode cX2_tell 0 = .ok (.iload_n 2, 1) := by decide +kernel
theorem dX2_tell_1 : decode cX2_tell 1 = .ok (.tableswitch 59 0 3 #[31, 38, 45, 52], 31) := by decide +kernel
theorem dX2_tell_32 : decode cX2_tell 32 = .ok (.aload_n 0, 1) := by decide +kernel
theorem dX2_tell_33 : decode cX2_tell 33 = .ok (.getfield 21, 3) := by decide +kernel
theorem dX2_tell_36 : decode cX2_tell 36 = .ok (.iload_n 1, 1) := by decide +kernel
theorem dX2_tell_37 : decode cX2_tell 37 = .ok (.iaload, 1) := by decide +kernel
theorem dX2_tell_38 : decode cX2_tell 38 = .ok (.ireturn, 1) := by decide +kernel
theorem dX2_tell_39 : decode cX2_tell 39 = .ok (.aload_n 0, 1) := by decide +kernel
theorem dX2_tell_40 : decode cX2_tell 40 = .ok (.getfield 24, 3) := by decide +kernel
theorem dX2_tell_43 : decode cX2_tell 43 = .ok (.iload_n 1, 1) := by decide +kernel
theorem dX2_tell_44 : decode cX2_tell 44 = .ok (.iaload, 1) := by decide +kernel
theorem dX2_tell_45 : decode cX2_tell 45 = .ok (.ireturn, 1) := by decide +kernel
theorem dX2_tell_46 : decode cX2_tell 46 = .ok (.aload_n 0, 1) := by decide +kernel
theorem dX2_tell_47 : decode cX2_tell 47 = .ok (.getfield 27, 3) := by decide +kernel
theorem dX2_tell_50 : decode cX2_tell 50 = .ok (.iload_n 1, 1) := by decide +kernel
theorem dX2_tell_51 : decode cX2_tell 51 = .ok (.iaload, 1) := by decide +kernel
theorem dX2_tell_52 : decode cX2_tell 52 = .ok (.ireturn, 1) := by decide +kernel
theorem dX2_tell_53 : decode cX2_tell 53 = .ok (.aload_n 0, 1) := by decide +kernel
theorem dX2_tell_54 : decode cX2_tell 54 = .ok (.getfield 30, 3) := by decide +kernel
theorem dX2_tell_57 : decode cX2_tell 57 = .ok (.iload_n 1, 1) := by decide +kernel
theorem dX2_tell_58 : decode cX2_tell 58 = .ok (.iaload, 1) := by decide +kernel
theorem dX2_tell_59 : decode cX2_tell 59 = .ok (.ireturn, 1) := by decide +kernel
theorem dX2_tell_60 : decode cX2_tell 60 = .ok (.aload_n 0, 1) := by decide +kernel
theorem dX2_tell_61 : decode cX2_tell 61 = .ok (.getfield 33, 3) := by decide +kernel
theorem dX2_tell_64 : decode cX2_tell 64 = .ok (.iload_n 1, 1) := by decide +kernel
theorem dX2_tell_65 : decode cX2_tell 65 = .ok (.iaload, 1) := by decide +kernel
theorem dX2_tell_66 : decode cX2_tell 66 = .ok (.ireturn, 1) := by decide +kernel
theorem dX2_placeOf_0 : decode cX2_placeOf 0 = .ok (.aload_n 0, 1) := by decide +kernel
theorem dX2_placeOf_1 : decode cX2_placeOf 1 = .ok (.getfield 39, 3) := by decide +kernel
theorem dX2_placeOf_4 : decode cX2_placeOf 4 = .ok (.aload_n 0, 1) := by decide +kernel
theorem dX2_placeOf_5 : decode cX2_placeOf 5 = .ok (.getfield 46, 3) := by decide +kernel
theorem dX2_placeOf_8 : decode cX2_placeOf 8 = .ok (.iload_n 1, 1) := by decide +kernel
theorem dX2_placeOf_9 : decode cX2_placeOf 9 = .ok (.iaload, 1) := by decide +kernel
theorem dX2_placeOf_10 : decode cX2_placeOf 10 = .ok (.iconst 5, 1) := by decide +kernel
theorem dX2_placeOf_11 : decode cX2_placeOf 11 = .ok (.imul, 1) := by decide +kernel
theorem dX2_placeOf_12 : decode cX2_placeOf 12 = .ok (.iload_n 2, 1) := by decide +kernel
theorem dX2_placeOf_13 : decode cX2_placeOf 13 = .ok (.iadd, 1) := by decide +kernel
theorem dX2_placeOf_14 : decode cX2_placeOf 14 = .ok (.iaload, 1) := by decide +kernel
theorem dX2_placeOf_15 : decode cX2_placeOf 15 = .ok (.ireturn, 1) := by decide +kernel
theorem dX2_stands_0 : decode cX2_stands 0 = .ok (.aload_n 0, 1) := by decide +kernel
theorem dX2_stands_1 : decode cX2_stands 1 = .ok (.getfield 46, 3) := by decide +kernel
theorem dX2_stands_4 : decode cX2_stands 4 = .ok (.iload_n 1, 1) := by decide +kernel
theorem dX2_stands_5 : decode cX2_stands 5 = .ok (.iaload, 1) := by decide +kernel
theorem dX2_stands_6 : decode cX2_stands 6 = .ok (.istore_n 3, 1) := by decide +kernel
theorem dX2_stands_7 : decode cX2_stands 7 = .ok (.aload_n 0, 1) := by decide +kernel
theorem dX2_stands_8 : decode cX2_stands 8 = .ok (.getfield 27, 3) := by decide +kernel
theorem dX2_stands_11 : decode cX2_stands 11 = .ok (.iload_n 2, 1) := by decide +kernel
theorem dX2_stands_12 : decode cX2_stands 12 = .ok (.iaload, 1) := by decide +kernel
theorem dX2_stands_13 : decode cX2_stands 13 = .ok (.istore 4, 2) := by decide +kernel
theorem dX2_stands_15 : decode cX2_stands 15 = .ok (.iload 4, 2) := by decide +kernel
theorem dX2_stands_17 : decode cX2_stands 17 = .ok (.aload_n 0, 1) := by decide +kernel
theorem dX2_stands_18 : decode cX2_stands 18 = .ok (.getfield 27, 3) := by decide +kernel
theorem dX2_stands_21 : decode cX2_stands 21 = .ok (.iload_n 3, 1) := by decide +kernel
theorem dX2_stands_22 : decode cX2_stands 22 = .ok (.iaload, 1) := by decide +kernel
theorem dX2_stands_23 : decode cX2_stands 23 = .ok (.if_icmp .ge 22, 3) := by decide +kernel
theorem dX2_stands_26 : decode cX2_stands 26 = .ok (.aload_n 0, 1) := by decide +kernel
theorem dX2_stands_27 : decode cX2_stands 27 = .ok (.getfield 36, 3) := by decide +kernel
theorem dX2_stands_30 : decode cX2_stands 30 = .ok (.iload_n 3, 1) := by decide +kernel
theorem dX2_stands_31 : decode cX2_stands 31 = .ok (.iconst 4, 1) := by decide +kernel
theorem dX2_stands_32 : decode cX2_stands 32 = .ok (.imul, 1) := by decide +kernel
theorem dX2_stands_33 : decode cX2_stands 33 = .ok (.iload 4, 2) := by decide +kernel
theorem dX2_stands_35 : decode cX2_stands 35 = .ok (.iadd, 1) := by decide +kernel
theorem dX2_stands_36 : decode cX2_stands 36 = .ok (.iaload, 1) := by decide +kernel
theorem dX2_stands_37 : decode cX2_stands 37 = .ok (.iload_n 2, 1) := by decide +kernel
theorem dX2_stands_38 : decode cX2_stands 38 = .ok (.if_icmp .ne 7, 3) := by decide +kernel
theorem dX2_stands_41 : decode cX2_stands 41 = .ok (.iconst 1, 1) := by decide +kernel
theorem dX2_stands_42 : decode cX2_stands 42 = .ok (.goto 4, 3) := by decide +kernel
theorem dX2_stands_45 : decode cX2_stands 45 = .ok (.iconst 0, 1) := by decide +kernel
theorem dX2_stands_46 : decode cX2_stands 46 = .ok (.ireturn, 1) := by decide +kernel
theorem dX2_hasLetter_0 : decode cX2_hasLetter 0 = .ok (.iload_n 2, 1) := by decide +kernel
theorem dX2_hasLetter_1 : decode cX2_hasLetter 1 = .ok (.aload_n 0, 1) := by decide +kernel
theorem dX2_hasLetter_2 : decode cX2_hasLetter 2 = .ok (.getfield 27, 3) := by decide +kernel
theorem dX2_hasLetter_5 : decode cX2_hasLetter 5 = .ok (.aload_n 0, 1) := by decide +kernel
theorem dX2_hasLetter_6 : decode cX2_hasLetter 6 = .ok (.getfield 46, 3) := by decide +kernel
theorem dX2_hasLetter_9 : decode cX2_hasLetter 9 = .ok (.iload_n 1, 1) := by decide +kernel
theorem dX2_hasLetter_10 : decode cX2_hasLetter 10 = .ok (.iaload, 1) := by decide +kernel
theorem dX2_hasLetter_11 : decode cX2_hasLetter 11 = .ok (.iaload, 1) := by decide +kernel
theorem dX2_hasLetter_12 : decode cX2_hasLetter 12 = .ok (.if_icmp .ge 7, 3) := by decide +kernel
theorem dX2_hasLetter_15 : decode cX2_hasLetter 15 = .ok (.iconst 1, 1) := by decide +kernel
theorem dX2_hasLetter_16 : decode cX2_hasLetter 16 = .ok (.goto 4, 3) := by decide +kernel
theorem dX2_hasLetter_19 : decode cX2_hasLetter 19 = .ok (.iconst 0, 1) := by decide +kernel
theorem dX2_hasLetter_20 : decode cX2_hasLetter 20 = .ok (.ireturn, 1) := by decide +kernel
theorem dX2_firstActIn_0 : decode cX2_firstActIn 0 = .ok (.iconst 0, 1) := by decide +kernel
theorem dX2_firstActIn_1 : decode cX2_firstActIn 1 = .ok (.istore_n 2, 1) := by decide +kernel
theorem dX2_firstActIn_2 : decode cX2_firstActIn 2 = .ok (.iload_n 2, 1) := by decide +kernel
theorem dX2_firstActIn_3 : decode cX2_firstActIn 3 = .ok (.aload_n 0, 1) := by decide +kernel
theorem dX2_firstActIn_4 : decode cX2_firstActIn 4 = .ok (.getfield 52, 3) := by decide +kernel
theorem dX2_firstActIn_7 : decode cX2_firstActIn 7 = .ok (.if_icmp .ge 20, 3) := by decide +kernel
theorem dX2_firstActIn_10 : decode cX2_firstActIn 10 = .ok (.aload_n 0, 1) := by decide +kernel
theorem dX2_firstActIn_11 : decode cX2_firstActIn 11 = .ok (.iload_n 2, 1) := by decide +kernel
theorem dX2_firstActIn_12 : decode cX2_firstActIn 12 = .ok (.iload_n 1, 1) := by decide +kernel
theorem dX2_firstActIn_13 : decode cX2_firstActIn 13 = .ok (.invokevirtual 91, 3) := by decide +kernel
theorem dX2_firstActIn_16 : decode cX2_firstActIn 16 = .ok (.ifCond .eq 5, 3) := by decide +kernel
theorem dX2_firstActIn_19 : decode cX2_firstActIn 19 = .ok (.iload_n 2, 1) := by decide +kernel
theorem dX2_firstActIn_20 : decode cX2_firstActIn 20 = .ok (.ireturn, 1) := by decide +kernel
theorem dX2_firstActIn_21 : decode cX2_firstActIn 21 = .ok (.iinc 2 1, 3) := by decide +kernel
theorem dX2_firstActIn_24 : decode cX2_firstActIn 24 = .ok (.goto (-22), 3) := by decide +kernel
theorem dX2_firstActIn_27 : decode cX2_firstActIn 27 = .ok (.bipush (-9), 2) := by decide +kernel
theorem dX2_firstActIn_29 : decode cX2_firstActIn 29 = .ok (.ireturn, 1) := by decide +kernel
theorem dX2_pair_0 : decode cX2_pair 0 = .ok (.aload_n 0, 1) := by decide +kernel
theorem dX2_pair_1 : decode cX2_pair 1 = .ok (.getfield 49, 3) := by decide +kernel
theorem dX2_pair_4 : decode cX2_pair 4 = .ok (.iload_n 1, 1) := by decide +kernel
theorem dX2_pair_5 : decode cX2_pair 5 = .ok (.iaload, 1) := by decide +kernel
theorem dX2_pair_6 : decode cX2_pair 6 = .ok (.bipush 12, 2) := by decide +kernel
theorem dX2_pair_8 : decode cX2_pair 8 = .ok (.imul, 1) := by decide +kernel
theorem dX2_pair_9 : decode cX2_pair 9 = .ok (.aload_n 0, 1) := by decide +kernel
theorem dX2_pair_10 : decode cX2_pair 10 = .ok (.getfield 49, 3) := by decide +kernel
theorem dX2_pair_13 : decode cX2_pair 13 = .ok (.iload_n 2, 1) := by decide +kernel
theorem dX2_pair_14 : decode cX2_pair 14 = .ok (.iaload, 1) := by decide +kernel
theorem dX2_pair_15 : decode cX2_pair 15 = .ok (.iadd, 1) := by decide +kernel
theorem dX2_pair_16 : decode cX2_pair 16 = .ok (.ireturn, 1) := by decide +kernel
theorem dX2_common_0 : decode cX2_common 0 = .ok (.aload_n 0, 1) := by decide +kernel
theorem dX2_common_1 : decode cX2_common 1 = .ok (.getfield 27, 3) := by decide +kernel
theorem dX2_common_4 : decode cX2_common 4 = .ok (.iload_n 1, 1) := by decide +kernel
theorem dX2_common_5 : decode cX2_common 5 = .ok (.iaload, 1) := by decide +kernel
theorem dX2_common_6 : decode cX2_common 6 = .ok (.aload_n 0, 1) := by decide +kernel
theorem dX2_common_7 : decode cX2_common 7 = .ok (.getfield 27, 3) := by decide +kernel
theorem dX2_common_10 : decode cX2_common 10 = .ok (.iload_n 2, 1) := by decide +kernel
theorem dX2_common_11 : decode cX2_common 11 = .ok (.iaload, 1) := by decide +kernel
theorem dX2_common_12 : decode cX2_common 12 = .ok (.invokestatic 95, 3) := by decide +kernel
theorem dX2_common_15 : decode cX2_common 15 = .ok (.istore_n 3, 1) := by decide +kernel
theorem dX2_common_16 : decode cX2_common 16 = .ok (.iconst 0, 1) := by decide +kernel
theorem dX2_common_17 : decode cX2_common 17 = .ok (.istore 4, 2) := by decide +kernel
theorem dX2_common_19 : decode cX2_common 19 = .ok (.iload 4, 2) := by decide +kernel
theorem dX2_common_21 : decode cX2_common 21 = .ok (.iload_n 3, 1) := by decide +kernel
theorem dX2_common_22 : decode cX2_common 22 = .ok (.if_icmp .ge 34, 3) := by decide +kernel
theorem dX2_common_25 : decode cX2_common 25 = .ok (.aload_n 0, 1) := by decide +kernel
theorem dX2_common_26 : decode cX2_common 26 = .ok (.getfield 36, 3) := by decide +kernel
theorem dX2_common_29 : decode cX2_common 29 = .ok (.iload_n 1, 1) := by decide +kernel
theorem dX2_common_30 : decode cX2_common 30 = .ok (.iconst 4, 1) := by decide +kernel
theorem dX2_common_31 : decode cX2_common 31 = .ok (.imul, 1) := by decide +kernel
theorem dX2_common_32 : decode cX2_common 32 = .ok (.iload 4, 2) := by decide +kernel
theorem dX2_common_34 : decode cX2_common 34 = .ok (.iadd, 1) := by decide +kernel
theorem dX2_common_35 : decode cX2_common 35 = .ok (.iaload, 1) := by decide +kernel
theorem dX2_common_36 : decode cX2_common 36 = .ok (.aload_n 0, 1) := by decide +kernel
theorem dX2_common_37 : decode cX2_common 37 = .ok (.getfield 36, 3) := by decide +kernel
theorem dX2_common_40 : decode cX2_common 40 = .ok (.iload_n 2, 1) := by decide +kernel
theorem dX2_common_41 : decode cX2_common 41 = .ok (.iconst 4, 1) := by decide +kernel
theorem dX2_common_42 : decode cX2_common 42 = .ok (.imul, 1) := by decide +kernel
theorem dX2_common_43 : decode cX2_common 43 = .ok (.iload 4, 2) := by decide +kernel
theorem dX2_common_45 : decode cX2_common 45 = .ok (.iadd, 1) := by decide +kernel
theorem dX2_common_46 : decode cX2_common 46 = .ok (.iaload, 1) := by decide +kernel
theorem dX2_common_47 : decode cX2_common 47 = .ok (.if_icmp .ne 9, 3) := by decide +kernel
theorem dX2_common_50 : decode cX2_common 50 = .ok (.iinc 4 1, 3) := by decide +kernel
theorem dX2_common_53 : decode cX2_common 53 = .ok (.goto (-34), 3) := by decide +kernel
theorem dX2_common_56 : decode cX2_common 56 = .ok (.iload 4, 2) := by decide +kernel
theorem dX2_common_58 : decode cX2_common 58 = .ok (.ireturn, 1) := by decide +kernel
theorem dX3_init_0 : decode cX3_init 0 = .ok (.aload_n 0, 1) := by decide +kernel
theorem dX3_init_1 : decode cX3_init 1 = .ok (.invokespecial 3, 3) := by decide +kernel
theorem dX3_init_4 : decode cX3_init 4 = .ok (.aload_n 0, 1) := by decide +kernel
theorem dX3_init_5 : decode cX3_init 5 = .ok (.new 9, 3) := by decide +kernel
theorem dX3_init_8 : decode cX3_init 8 = .ok (.dup, 1) := by decide +kernel
theorem dX3_init_9 : decode cX3_init 9 = .ok (.invokespecial 11, 3) := by decide +kernel
theorem dX3_init_12 : decode cX3_init 12 = .ok (.putfield 12, 3) := by decide +kernel
theorem dX3_init_15 : decode cX3_init 15 = .ok (.aload_n 0, 1) := by decide +kernel
theorem dX3_init_16 : decode cX3_init 16 = .ok (.new 9, 3) := by decide +kernel
theorem dX3_init_19 : decode cX3_init 19 = .ok (.dup, 1) := by decide +kernel
theorem dX3_init_20 : decode cX3_init 20 = .ok (.invokespecial 11, 3) := by decide +kernel
theorem dX3_init_23 : decode cX3_init 23 = .ok (.putfield 18, 3) := by decide +kernel
theorem dX3_init_26 : decode cX3_init 26 = .ok (.aload_n 0, 1) := by decide +kernel
theorem dX3_init_27 : decode cX3_init 27 = .ok (.bipush 20, 2) := by decide +kernel
theorem dX3_init_29 : decode cX3_init 29 = .ok (.anewarray 9, 3) := by decide +kernel
theorem dX3_init_32 : decode cX3_init 32 = .ok (.putfield 21, 3) := by decide +kernel
theorem dX3_init_35 : decode cX3_init 35 = .ok (.aload_n 0, 1) := by decide +kernel
theorem dX3_init_36 : decode cX3_init 36 = .ok (.iconst 0, 1) := by decide +kernel
theorem dX3_init_37 : decode cX3_init 37 = .ok (.putfield 25, 3) := by decide +kernel
theorem dX3_init_40 : decode cX3_init 40 = .ok (.aload_n 0, 1) := by decide +kernel
theorem dX3_init_41 : decode cX3_init 41 = .ok (.iconst 0, 1) := by decide +kernel
theorem dX3_init_42 : decode cX3_init 42 = .ok (.putfield 29, 3) := by decide +kernel
theorem dX3_init_45 : decode cX3_init 45 = .ok (.aload_n 0, 1) := by decide +kernel
theorem dX3_init_46 : decode cX3_init 46 = .ok (.aload_n 1, 1) := by decide +kernel
theorem dX3_init_47 : decode cX3_init 47 = .ok (.putfield 32, 3) := by decide +kernel
theorem dX3_init_50 : decode cX3_init 50 = .ok (.return_, 1) := by decide +kernel
theorem dX3_begin_0 : decode cX3_begin 0 = .ok (.aload_n 0, 1) := by decide +kernel
theorem dX3_begin_1 : decode cX3_begin 1 = .ok (.iconst 0, 1) := by decide +kernel
theorem dX3_begin_2 : decode cX3_begin 2 = .ok (.putfield 29, 3) := by decide +kernel
theorem dX3_begin_5 : decode cX3_begin 5 = .ok (.iconst 0, 1) := by decide +kernel
theorem dX3_begin_6 : decode cX3_begin 6 = .ok (.istore_n 1, 1) := by decide +kernel
theorem dX3_begin_7 : decode cX3_begin 7 = .ok (.iload_n 1, 1) := by decide +kernel
theorem dX3_begin_8 : decode cX3_begin 8 = .ok (.aload_n 0, 1) := by decide +kernel
theorem dX3_begin_9 : decode cX3_begin 9 = .ok (.getfield 32, 3) := by decide +kernel
theorem dX3_begin_12 : decode cX3_begin 12 = .ok (.getfield 36, 3) := by decide +kernel
theorem dX3_begin_15 : decode cX3_begin 15 = .ok (.if_icmp .ge 93, 3) := by decide +kernel
theorem dX3_begin_18 : decode cX3_begin 18 = .ok (.aload_n 0, 1) := by decide +kernel
theorem dX3_begin_19 : decode cX3_begin 19 = .ok (.getfield 12, 3) := by decide +kernel
theorem dX3_begin_22 : decode cX3_begin 22 = .ok (.getfield 41, 3) := by decide +kernel
theorem dX3_begin_25 : decode cX3_begin 25 = .ok (.iload_n 1, 1) := by decide +kernel
theorem dX3_begin_26 : decode cX3_begin 26 = .ok (.iconst 0, 1) := by decide +kernel
theorem dX3_begin_27 : decode cX3_begin 27 = .ok (.iastore, 1) := by decide +kernel
theorem dX3_begin_28 : decode cX3_begin 28 = .ok (.aload_n 0, 1) := by decide +kernel
theorem dX3_begin_29 : decode cX3_begin 29 = .ok (.getfield 32, 3) := by decide +kernel
theorem dX3_begin_32 : decode cX3_begin 32 = .ok (.getfield 45, 3) := by decide +kernel
theorem dX3_begin_35 : decode cX3_begin 35 = .ok (.aload_n 0, 1) := by decide +kernel
theorem dX3_begin_36 : decode cX3_begin 36 = .ok (.getfield 32, 3) := by decide +kernel
theorem dX3_begin_39 : decode cX3_begin 39 = .ok (.getfield 48, 3) := by decide +kernel
theorem dX3_begin_42 : decode cX3_begin 42 = .ok (.iload_n 1, 1) := by decide +kernel
theorem dX3_begin_43 : decode cX3_begin 43 = .ok (.iaload, 1) := by decide +kernel
theorem dX3_begin_44 : decode cX3_begin 44 = .ok (.iaload, 1) := by decide +kernel
theorem dX3_begin_45 : decode cX3_begin 45 = .ok (.istore_n 2, 1) := by decide +kernel
theorem dX3_begin_46 : decode cX3_begin 46 = .ok (.iconst 0, 1) := by decide +kernel
theorem dX3_begin_47 : decode cX3_begin 47 = .ok (.istore_n 3, 1) := by decide +kernel
theorem dX3_begin_48 : decode cX3_begin 48 = .ok (.iload_n 3, 1) := by decide +kernel
theorem dX3_begin_49 : decode cX3_begin 49 = .ok (.iload_n 2, 1) := by decide +kernel
theorem dX3_begin_50 : decode cX3_begin 50 = .ok (.if_icmp .ge 35, 3) := by decide +kernel
theorem dX3_begin_53 : decode cX3_begin 53 = .ok (.aload_n 0, 1) := by decide +kernel
theorem dX3_begin_54 : decode cX3_begin 54 = .ok (.getfield 12, 3) := by decide +kernel
theorem dX3_begin_57 : decode cX3_begin 57 = .ok (.iload_n 1, 1) := by decide +kernel
theorem dX3_begin_58 : decode cX3_begin 58 = .ok (.aload_n 0, 1) := by decide +kernel
theorem dX3_begin_59 : decode cX3_begin 59 = .ok (.getfield 32, 3) := by decide +kernel
theorem dX3_begin_62 : decode cX3_begin 62 = .ok (.iload_n 1, 1) := by decide +kernel
theorem dX3_begin_63 : decode cX3_begin 63 = .ok (.iload_n 3, 1) := by decide +kernel
theorem dX3_begin_64 : decode cX3_begin 64 = .ok (.invokevirtual 51, 3) := by decide +kernel
theorem dX3_begin_67 : decode cX3_begin 67 = .ok (.invokevirtual 55, 3) := by decide +kernel
theorem dX3_begin_70 : decode cX3_begin 70 = .ok (.aload_n 0, 1) := by decide +kernel
theorem dX3_begin_71 : decode cX3_begin 71 = .ok (.getfield 12, 3) := by decide +kernel
theorem dX3_begin_74 : decode cX3_begin 74 = .ok (.iload_n 1, 1) := by decide +kernel
theorem dX3_begin_75 : decode cX3_begin 75 = .ok (.iload_n 3, 1) := by decide +kernel
theorem dX3_begin_76 : decode cX3_begin 76 = .ok (.invokevirtual 59, 3) := by decide +kernel
theorem dX3_begin_79 : decode cX3_begin 79 = .ok (.iinc 3 1, 3) := by decide +kernel
theorem dX3_begin_82 : decode cX3_begin 82 = .ok (.goto (-34), 3) := by decide +kernel
theorem dX3_begin_85 : decode cX3_begin 85 = .ok (.aload_n 0, 1) := by decide +kernel
theorem dX3_begin_86 : decode cX3_begin 86 = .ok (.getfield 12, 3) := by decide +kernel
theorem dX3_begin_89 : decode cX3_begin 89 = .ok (.iload_n 1, 1) := by decide +kernel
theorem dX3_begin_90 : decode cX3_begin 90 = .ok (.aload_n 0, 1) := by decide +kernel
theorem dX3_begin_91 : decode cX3_begin 91 = .ok (.getfield 32, 3) := by decide +kernel
theorem dX3_begin_94 : decode cX3_begin 94 = .ok (.iload_n 1, 1) := by decide +kernel
theorem dX3_begin_95 : decode cX3_begin 95 = .ok (.iload_n 2, 1) := by decide +kernel
theorem dX3_begin_96 : decode cX3_begin 96 = .ok (.invokevirtual 51, 3) := by decide +kernel
theorem dX3_begin_99 : decode cX3_begin 99 = .ok (.invokevirtual 55, 3) := by decide +kernel
theorem dX3_begin_102 : decode cX3_begin 102 = .ok (.iinc 1 1, 3) := by decide +kernel
theorem dX3_begin_105 : decode cX3_begin 105 = .ok (.goto (-98), 3) := by decide +kernel
theorem dX3_begin_108 : decode cX3_begin 108 = .ok (.return_, 1) := by decide +kernel
theorem dX3_keep_0 : decode cX3_keep 0 = .ok (.aload_n 0, 1) := by decide +kernel
theorem dX3_keep_1 : decode cX3_keep 1 = .ok (.getfield 25, 3) := by decide +kernel
theorem dX3_keep_4 : decode cX3_keep 4 = .ok (.aload_n 0, 1) := by decide +kernel
theorem dX3_keep_5 : decode cX3_keep 5 = .ok (.getfield 29, 3) := by decide +kernel
theorem dX3_keep_8 : decode cX3_keep 8 = .ok (.iadd, 1) := by decide +kernel
theorem dX3_keep_9 : decode cX3_keep 9 = .ok (.bipush 20, 2) := by decide +kernel
theorem dX3_keep_11 : decode cX3_keep 11 = .ok (.irem, 1) := by decide +kernel
theorem dX3_keep_12 : decode cX3_keep 12 = .ok (.istore_n 1, 1) := by decide +kernel
theorem dX3_keep_13 : decode cX3_keep 13 = .ok (.aload_n 0, 1) := by decide +kernel
theorem dX3_keep_14 : decode cX3_keep 14 = .ok (.getfield 21, 3) := by decide +kernel
theorem dX3_keep_17 : decode cX3_keep 17 = .ok (.iload_n 1, 1) := by decide +kernel
theorem dX3_keep_18 : decode cX3_keep 18 = .ok (.aaload, 1) := by decide +kernel
theorem dX3_keep_19 : decode cX3_keep 19 = .ok (.astore_n 2, 1) := by decide +kernel
theorem dX3_keep_20 : decode cX3_keep 20 = .ok (.aload_n 2, 1) := by decide +kernel
theorem dX3_keep_21 : decode cX3_keep 21 = .ok (.ifnonnull 18, 3) := by decide +kernel
theorem dX3_keep_24 : decode cX3_keep 24 = .ok (.new 9, 3) := by decide +kernel
theorem dX3_keep_27 : decode cX3_keep 27 = .ok (.dup, 1) := by decide +kernel
theorem dX3_keep_28 : decode cX3_keep 28 = .ok (.invokespecial 11, 3) := by decide +kernel
theorem dX3_keep_31 : decode cX3_keep 31 = .ok (.astore_n 2, 1) := by decide +kernel
theorem dX3_keep_32 : decode cX3_keep 32 = .ok (.aload_n 0, 1) := by decide +kernel
theorem dX3_keep_33 : decode cX3_keep 33 = .ok (.getfield 21, 3) := by decide +kernel
theorem dX3_keep_36 : decode cX3_keep 36 = .ok (.iload_n 1, 1) := by decide +kernel
theorem dX3_keep_37 : decode cX3_keep 37 = .ok (.aload_n 2, 1) := by decide +kernel
theorem dX3_keep_38 : decode cX3_keep 38 = .ok (.aastore, 1) := by decide +kernel
theorem dX3_keep_39 : decode cX3_keep 39 = .ok (.aload_n 2, 1) := by decide +kernel
theorem dX3_keep_40 : decode cX3_keep 40 = .ok (.aload_n 0, 1) := by decide +kernel
theorem dX3_keep_41 : decode cX3_keep 41 = .ok (.getfield 12, 3) := by decide +kernel
theorem dX3_keep_44 : decode cX3_keep 44 = .ok (.aload_n 0, 1) := by decide +kernel
theorem dX3_keep_45 : decode cX3_keep 45 = .ok (.getfield 32, 3) := by decide +kernel
theorem dX3_keep_48 : decode cX3_keep 48 = .ok (.getfield 36, 3) := by decide +kernel
theorem dX3_keep_51 : decode cX3_keep 51 = .ok (.invokevirtual 62, 3) := by decide +kernel
theorem dX3_keep_54 : decode cX3_keep 54 = .ok (.aload_n 0, 1) := by decide +kernel
theorem dX3_keep_55 : decode cX3_keep 55 = .ok (.getfield 29, 3) := by decide +kernel
theorem dX3_keep_58 : decode cX3_keep 58 = .ok (.bipush 20, 2) := by decide +kernel
theorem dX3_keep_60 : decode cX3_keep 60 = .ok (.if_icmp .ge 16, 3) := by decide +kernel
theorem dX3_keep_63 : decode cX3_keep 63 = .ok (.aload_n 0, 1) := by decide +kernel
theorem dX3_keep_64 : decode cX3_keep 64 = .ok (.dup, 1) := by decide +kernel
theorem dX3_keep_65 : decode cX3_keep 65 = .ok (.getfield 29, 3) := by decide +kernel
theorem dX3_keep_68 : decode cX3_keep 68 = .ok (.iconst 1, 1) := by decide +kernel
theorem dX3_keep_69 : decode cX3_keep 69 = .ok (.iadd, 1) := by decide +kernel
theorem dX3_keep_70 : decode cX3_keep 70 = .ok (.putfield 29, 3) := by decide +kernel
theorem dX3_keep_73 : decode cX3_keep 73 = .ok (.goto 16, 3) := by decide +kernel
theorem dX3_keep_76 : decode cX3_keep 76 = .ok (.aload_n 0, 1) := by decide +kernel
theorem dX3_keep_77 : decode cX3_keep 77 = .ok (.aload_n 0, 1) := by decide +kernel
theorem dX3_keep_78 : decode cX3_keep 78 = .ok (.getfield 25, 3) := by decide +kernel
theorem dX3_keep_81 : decode cX3_keep 81 = .ok (.iconst 1, 1) := by decide +kernel
theorem dX3_keep_82 : decode cX3_keep 82 = .ok (.iadd, 1) := by decide +kernel
theorem dX3_keep_83 : decode cX3_keep 83 = .ok (.bipush 20, 2) := by decide +kernel
theorem dX3_keep_85 : decode cX3_keep 85 = .ok (.irem, 1) := by decide +kernel
theorem dX3_keep_86 : decode cX3_keep 86 = .ok (.putfield 25, 3) := by decide +kernel
theorem dX3_keep_89 : decode cX3_keep 89 = .ok (.return_, 1) := by decide +kernel
theorem dX3_takeBack_0 : decode cX3_takeBack 0 = .ok (.aload_n 0, 1) := by decide +kernel
theorem dX3_takeBack_1 : decode cX3_takeBack 1 = .ok (.dup, 1) := by decide +kernel
theorem dX3_takeBack_2 : decode cX3_takeBack 2 = .ok (.getfield 29, 3) := by decide +kernel
theorem dX3_takeBack_5 : decode cX3_takeBack 5 = .ok (.iconst 1, 1) := by decide +kernel
theorem dX3_takeBack_6 : decode cX3_takeBack 6 = .ok (.isub, 1) := by decide +kernel
theorem dX3_takeBack_7 : decode cX3_takeBack 7 = .ok (.putfield 29, 3) := by decide +kernel
theorem dX3_takeBack_10 : decode cX3_takeBack 10 = .ok (.aload_n 0, 1) := by decide +kernel
theorem dX3_takeBack_11 : decode cX3_takeBack 11 = .ok (.getfield 21, 3) := by decide +kernel
theorem dX3_takeBack_14 : decode cX3_takeBack 14 = .ok (.aload_n 0, 1) := by decide +kernel
theorem dX3_takeBack_15 : decode cX3_takeBack 15 = .ok (.getfield 25, 3) := by decide +kernel
theorem dX3_takeBack_18 : decode cX3_takeBack 18 = .ok (.aload_n 0, 1) := by decide +kernel
theorem dX3_takeBack_19 : decode cX3_takeBack 19 = .ok (.getfield 29, 3) := by decide +kernel
theorem dX3_takeBack_22 : decode cX3_takeBack 22 = .ok (.iadd, 1) := by decide +kernel
theorem dX3_takeBack_23 : decode cX3_takeBack 23 = .ok (.bipush 20, 2) := by decide +kernel
theorem dX3_takeBack_25 : decode cX3_takeBack 25 = .ok (.irem, 1) := by decide +kernel
theorem dX3_takeBack_26 : decode cX3_takeBack 26 = .ok (.aaload, 1) := by decide +kernel
theorem dX3_takeBack_27 : decode cX3_takeBack 27 = .ok (.astore_n 1, 1) := by decide +kernel
theorem dX3_takeBack_28 : decode cX3_takeBack 28 = .ok (.aload_n 1, 1) := by decide +kernel
theorem dX3_takeBack_29 : decode cX3_takeBack 29 = .ok (.ifnull 18, 3) := by decide +kernel
theorem dX3_takeBack_32 : decode cX3_takeBack 32 = .ok (.aload_n 0, 1) := by decide +kernel
theorem dX3_takeBack_33 : decode cX3_takeBack 33 = .ok (.getfield 12, 3) := by decide +kernel
theorem dX3_takeBack_36 : decode cX3_takeBack 36 = .ok (.aload_n 1, 1) := by decide +kernel
theorem dX3_takeBack_37 : decode cX3_takeBack 37 = .ok (.aload_n 0, 1) := by decide +kernel
theorem dX3_takeBack_38 : decode cX3_takeBack 38 = .ok (.getfield 32, 3) := by decide +kernel
theorem dX3_takeBack_41 : decode cX3_takeBack 41 = .ok (.getfield 36, 3) := by decide +kernel
theorem dX3_takeBack_44 : decode cX3_takeBack 44 = .ok (.invokevirtual 62, 3) := by decide +kernel
theorem dX3_takeBack_47 : decode cX3_takeBack 47 = .ok (.return_, 1) := by decide +kernel
theorem dX3_setAside_0 : decode cX3_setAside 0 = .ok (.aload_n 0, 1) := by decide +kernel
theorem dX3_setAside_1 : decode cX3_setAside 1 = .ok (.getfield 18, 3) := by decide +kernel
theorem dX3_setAside_4 : decode cX3_setAside 4 = .ok (.aload_n 0, 1) := by decide +kernel
theorem dX3_setAside_5 : decode cX3_setAside 5 = .ok (.getfield 12, 3) := by decide +kernel
theorem dX3_setAside_8 : decode cX3_setAside 8 = .ok (.aload_n 0, 1) := by decide +kernel
theorem dX3_setAside_9 : decode cX3_setAside 9 = .ok (.getfield 32, 3) := by decide +kernel
theorem dX3_setAside_12 : decode cX3_setAside 12 = .ok (.getfield 36, 3) := by decide +kernel
theorem dX3_setAside_15 : decode cX3_setAside 15 = .ok (.invokevirtual 62, 3) := by decide +kernel
theorem dX3_setAside_18 : decode cX3_setAside 18 = .ok (.return_, 1) := by decide +kernel
theorem dX3_takeAside_0 : decode cX3_takeAside 0 = .ok (.aload_n 0, 1) := by decide +kernel
theorem dX3_takeAside_1 : decode cX3_takeAside 1 = .ok (.getfield 12, 3) := by decide +kernel
theorem dX3_takeAside_4 : decode cX3_takeAside 4 = .ok (.aload_n 0, 1) := by decide +kernel
theorem dX3_takeAside_5 : decode cX3_takeAside 5 = .ok (.getfield 18, 3) := by decide +kernel
theorem dX3_takeAside_8 : decode cX3_takeAside 8 = .ok (.aload_n 0, 1) := by decide +kernel
theorem dX3_takeAside_9 : decode cX3_takeAside 9 = .ok (.getfield 32, 3) := by decide +kernel
theorem dX3_takeAside_12 : decode cX3_takeAside 12 = .ok (.getfield 36, 3) := by decide +kernel
theorem dX3_takeAside_15 : decode cX3_takeAside 15 = .ok (.invokevirtual 62, 3) := by decide +kernel
theorem dX3_takeAside_18 : decode cX3_takeAside 18 = .ok (.return_, 1) := by decide +kernel
theorem dX3_reaches_0 : decode cX3_reaches 0 = .ok (.aload_n 0, 1) := by decide +kernel
theorem dX3_reaches_1 : decode cX3_reaches 1 = .ok (.getfield 32, 3) := by decide +kernel
theorem dX3_reaches_4 : decode cX3_reaches 4 = .ok (.iload_n 1, 1) := by decide +kernel
theorem dX3_reaches_5 : decode cX3_reaches 5 = .ok (.iload_n 2, 1) := by decide +kernel
theorem dX3_reaches_6 : decode cX3_reaches 6 = .ok (.invokevirtual 66, 3) := by decide +kernel
theorem dX3_reaches_9 : decode cX3_reaches 9 = .ok (.ifCond .eq 19, 3) := by decide +kernel
theorem dX3_reaches_12 : decode cX3_reaches 12 = .ok (.aload_n 0, 1) := by decide +kernel
theorem dX3_reaches_13 : decode cX3_reaches 13 = .ok (.getfield 32, 3) := by decide +kernel
theorem dX3_reaches_16 : decode cX3_reaches 16 = .ok (.iload_n 1, 1) := by decide +kernel
theorem dX3_reaches_17 : decode cX3_reaches 17 = .ok (.iload_n 3, 1) := by decide +kernel
theorem dX3_reaches_18 : decode cX3_reaches 18 = .ok (.invokevirtual 70, 3) := by decide +kernel
theorem dX3_reaches_21 : decode cX3_reaches 21 = .ok (.ifCond .eq 7, 3) := by decide +kernel
theorem dX3_reaches_24 : decode cX3_reaches 24 = .ok (.iconst 1, 1) := by decide +kernel
theorem dX3_reaches_25 : decode cX3_reaches 25 = .ok (.goto 4, 3) := by decide +kernel
theorem dX3_reaches_28 : decode cX3_reaches 28 = .ok (.iconst 0, 1) := by decide +kernel
theorem dX3_reaches_29 : decode cX3_reaches 29 = .ok (.ireturn, 1) := by decide +kernel
theorem dX3_swapRows_0 : decode cX3_swapRows 0 = .ok (.aload_n 0, 1) := by decide +kernel
theorem dX3_swapRows_1 : decode cX3_swapRows 1 = .ok (.getfield 32, 3) := by decide +kernel
theorem dX3_swapRows_4 : decode cX3_swapRows 4 = .ok (.getfield 45, 3) := by decide +kernel
theorem dX3_swapRows_7 : decode cX3_swapRows 7 = .ok (.iload_n 1, 1) := by decide +kernel
theorem dX3_swapRows_8 : decode cX3_swapRows 8 = .ok (.iaload, 1) := by decide +kernel
theorem dX3_swapRows_9 : decode cX3_swapRows 9 = .ok (.istore_n 3, 1) := by decide +kernel
theorem dX3_swapRows_10 : decode cX3_swapRows 10 = .ok (.iconst 0, 1) := by decide +kernel
theorem dX3_swapRows_11 : decode cX3_swapRows 11 = .ok (.istore 4, 2) := by decide +kernel
theorem dX3_swapRows_13 : decode cX3_swapRows 13 = .ok (.iload 4, 2) := by decide +kernel
theorem dX3_swapRows_15 : decode cX3_swapRows 15 = .ok (.aload_n 0, 1) := by decide +kernel
theorem dX3_swapRows_16 : decode cX3_swapRows 16 = .ok (.getfield 32, 3) := by decide +kernel
theorem dX3_swapRows_19 : decode cX3_swapRows 19 = .ok (.getfield 36, 3) := by decide +kernel
theorem dX3_swapRows_22 : decode cX3_swapRows 22 = .ok (.if_icmp .ge 131, 3) := by decide +kernel
theorem dX3_swapRows_25 : decode cX3_swapRows 25 = .ok (.aload_n 0, 1) := by decide +kernel
theorem dX3_swapRows_26 : decode cX3_swapRows 26 = .ok (.iload 4, 2) := by decide +kernel
theorem dX3_swapRows_28 : decode cX3_swapRows 28 = .ok (.iload_n 1, 1) := by decide +kernel
theorem dX3_swapRows_29 : decode cX3_swapRows 29 = .ok (.iload_n 2, 1) := by decide +kernel
theorem dX3_swapRows_30 : decode cX3_swapRows 30 = .ok (.invokevirtual 73, 3) := by decide +kernel
theorem dX3_swapRows_33 : decode cX3_swapRows 33 = .ok (.ifCond .ne 6, 3) := by decide +kernel
theorem dX3_swapRows_36 : decode cX3_swapRows 36 = .ok (.goto 111, 3) := by decide +kernel
theorem dX3_swapRows_39 : decode cX3_swapRows 39 = .ok (.aload_n 0, 1) := by decide +kernel
theorem dX3_swapRows_40 : decode cX3_swapRows 40 = .ok (.getfield 12, 3) := by decide +kernel
theorem dX3_swapRows_43 : decode cX3_swapRows 43 = .ok (.iload 4, 2) := by decide +kernel
theorem dX3_swapRows_45 : decode cX3_swapRows 45 = .ok (.iload_n 3, 1) := by decide +kernel
theorem dX3_swapRows_46 : decode cX3_swapRows 46 = .ok (.invokevirtual 77, 3) := by decide +kernel
theorem dX3_swapRows_49 : decode cX3_swapRows 49 = .ok (.istore 5, 2) := by decide +kernel
theorem dX3_swapRows_51 : decode cX3_swapRows 51 = .ok (.aload_n 0, 1) := by decide +kernel
theorem dX3_swapRows_52 : decode cX3_swapRows 52 = .ok (.getfield 12, 3) := by decide +kernel
theorem dX3_swapRows_55 : decode cX3_swapRows 55 = .ok (.iload 4, 2) := by decide +kernel
theorem dX3_swapRows_57 : decode cX3_swapRows 57 = .ok (.iload_n 2, 1) := by decide +kernel
theorem dX3_swapRows_58 : decode cX3_swapRows 58 = .ok (.invokevirtual 77, 3) := by decide +kernel
theorem dX3_swapRows_61 : decode cX3_swapRows 61 = .ok (.istore 6, 2) := by decide +kernel
theorem dX3_swapRows_63 : decode cX3_swapRows 63 = .ok (.iload 5, 2) := by decide +kernel
theorem dX3_swapRows_65 : decode cX3_swapRows 65 = .ok (.ifCond .lt 82, 3) := by decide +kernel
theorem dX3_swapRows_68 : decode cX3_swapRows 68 = .ok (.iload 6, 2) := by decide +kernel
theorem dX3_swapRows_70 : decode cX3_swapRows 70 = .ok (.ifCond .ge 6, 3) := by decide +kernel
theorem dX3_swapRows_73 : decode cX3_swapRows 73 = .ok (.goto 74, 3) := by decide +kernel
theorem dX3_swapRows_76 : decode cX3_swapRows 76 = .ok (.iconst 0, 1) := by decide +kernel
theorem dX3_swapRows_77 : decode cX3_swapRows 77 = .ok (.istore 7, 2) := by decide +kernel
theorem dX3_swapRows_79 : decode cX3_swapRows 79 = .ok (.iload 7, 2) := by decide +kernel
theorem dX3_swapRows_81 : decode cX3_swapRows 81 = .ok (.iconst 5, 1) := by decide +kernel
theorem dX3_swapRows_82 : decode cX3_swapRows 82 = .ok (.if_icmp .gt 65, 3) := by decide +kernel
theorem dX3_swapRows_85 : decode cX3_swapRows 85 = .ok (.aload_n 0, 1) := by decide +kernel
theorem dX3_swapRows_86 : decode cX3_swapRows 86 = .ok (.getfield 12, 3) := by decide +kernel
theorem dX3_swapRows_89 : decode cX3_swapRows 89 = .ok (.getfield 80, 3) := by decide +kernel
theorem dX3_swapRows_92 : decode cX3_swapRows 92 = .ok (.iload 5, 2) := by decide +kernel
theorem dX3_swapRows_94 : decode cX3_swapRows 94 = .ok (.iload 7, 2) := by decide +kernel
theorem dX3_swapRows_96 : decode cX3_swapRows 96 = .ok (.iadd, 1) := by decide +kernel
theorem dX3_swapRows_97 : decode cX3_swapRows 97 = .ok (.iaload, 1) := by decide +kernel
theorem dX3_swapRows_98 : decode cX3_swapRows 98 = .ok (.istore 8, 2) := by decide +kernel
theorem dX3_swapRows_100 : decode cX3_swapRows 100 = .ok (.aload_n 0, 1) := by decide +kernel
theorem dX3_swapRows_101 : decode cX3_swapRows 101 = .ok (.getfield 12, 3) := by decide +kernel
theorem dX3_swapRows_104 : decode cX3_swapRows 104 = .ok (.getfield 80, 3) := by decide +kernel
theorem dX3_swapRows_107 : decode cX3_swapRows 107 = .ok (.iload 5, 2) := by decide +kernel
theorem dX3_swapRows_109 : decode cX3_swapRows 109 = .ok (.iload 7, 2) := by decide +kernel
theorem dX3_swapRows_111 : decode cX3_swapRows 111 = .ok (.iadd, 1) := by decide +kernel
theorem dX3_swapRows_112 : decode cX3_swapRows 112 = .ok (.aload_n 0, 1) := by decide +kernel
theorem dX3_swapRows_113 : decode cX3_swapRows 113 = .ok (.getfield 12, 3) := by decide +kernel
theorem dX3_swapRows_116 : decode cX3_swapRows 116 = .ok (.getfield 80, 3) := by decide +kernel
theorem dX3_swapRows_119 : decode cX3_swapRows 119 = .ok (.iload 6, 2) := by decide +kernel
theorem dX3_swapRows_121 : decode cX3_swapRows 121 = .ok (.iload 7, 2) := by decide +kernel
theorem dX3_swapRows_123 : decode cX3_swapRows 123 = .ok (.iadd, 1) := by decide +kernel
theorem dX3_swapRows_124 : decode cX3_swapRows 124 = .ok (.iaload, 1) := by decide +kernel
theorem dX3_swapRows_125 : decode cX3_swapRows 125 = .ok (.iastore, 1) := by decide +kernel
theorem dX3_swapRows_126 : decode cX3_swapRows 126 = .ok (.aload_n 0, 1) := by decide +kernel
theorem dX3_swapRows_127 : decode cX3_swapRows 127 = .ok (.getfield 12, 3) := by decide +kernel
theorem dX3_swapRows_130 : decode cX3_swapRows 130 = .ok (.getfield 80, 3) := by decide +kernel
theorem dX3_swapRows_133 : decode cX3_swapRows 133 = .ok (.iload 6, 2) := by decide +kernel
theorem dX3_swapRows_135 : decode cX3_swapRows 135 = .ok (.iload 7, 2) := by decide +kernel
theorem dX3_swapRows_137 : decode cX3_swapRows 137 = .ok (.iadd, 1) := by decide +kernel
theorem dX3_swapRows_138 : decode cX3_swapRows 138 = .ok (.iload 8, 2) := by decide +kernel
theorem dX3_swapRows_140 : decode cX3_swapRows 140 = .ok (.iastore, 1) := by decide +kernel
theorem dX3_swapRows_141 : decode cX3_swapRows 141 = .ok (.iinc 7 1, 3) := by decide +kernel
theorem dX3_swapRows_144 : decode cX3_swapRows 144 = .ok (.goto (-65), 3) := by decide +kernel
theorem dX3_swapRows_147 : decode cX3_swapRows 147 = .ok (.iinc 4 1, 3) := by decide +kernel
theorem dX3_swapRows_150 : decode cX3_swapRows 150 = .ok (.goto (-137), 3) := by decide +kernel
theorem dX3_swapRows_153 : decode cX3_swapRows 153 = .ok (.return_, 1) := by decide +kernel
theorem dX3_leanFits_0 : decode cX3_leanFits 0 = .ok (.aload_n 0, 1) := by decide +kernel
theorem dX3_leanFits_1 : decode cX3_leanFits 1 = .ok (.getfield 32, 3) := by decide +kernel
theorem dX3_leanFits_4 : decode cX3_leanFits 4 = .ok (.getfield 45, 3) := by decide +kernel
theorem dX3_leanFits_7 : decode cX3_leanFits 7 = .ok (.iload_n 1, 1) := by decide +kernel
theorem dX3_leanFits_8 : decode cX3_leanFits 8 = .ok (.iaload, 1) := by decide +kernel
theorem dX3_leanFits_9 : decode cX3_leanFits 9 = .ok (.istore 4, 2) := by decide +kernel
theorem dX3_leanFits_11 : decode cX3_leanFits 11 = .ok (.iconst 0, 1) := by decide +kernel
theorem dX3_leanFits_12 : decode cX3_leanFits 12 = .ok (.istore 5, 2) := by decide +kernel
theorem dX3_leanFits_14 : decode cX3_leanFits 14 = .ok (.iload 5, 2) := by decide +kernel
theorem dX3_leanFits_16 : decode cX3_leanFits 16 = .ok (.aload_n 0, 1) := by decide +kernel
theorem dX3_leanFits_17 : decode cX3_leanFits 17 = .ok (.getfield 32, 3) := by decide +kernel
theorem dX3_leanFits_20 : decode cX3_leanFits 20 = .ok (.getfield 36, 3) := by decide +kernel
theorem dX3_leanFits_23 : decode cX3_leanFits 23 = .ok (.if_icmp .ge 113, 3) := by decide +kernel
theorem dX3_leanFits_26 : decode cX3_leanFits 26 = .ok (.aload_n 0, 1) := by decide +kernel
theorem dX3_leanFits_27 : decode cX3_leanFits 27 = .ok (.iload 5, 2) := by decide +kernel
theorem dX3_leanFits_29 : decode cX3_leanFits 29 = .ok (.iload_n 1, 1) := by decide +kernel
theorem dX3_leanFits_30 : decode cX3_leanFits 30 = .ok (.iload_n 2, 1) := by decide +kernel
theorem dX3_leanFits_31 : decode cX3_leanFits 31 = .ok (.invokevirtual 73, 3) := by decide +kernel
theorem dX3_leanFits_34 : decode cX3_leanFits 34 = .ok (.ifCond .ne 6, 3) := by decide +kernel
theorem dX3_leanFits_37 : decode cX3_leanFits 37 = .ok (.goto 93, 3) := by decide +kernel
theorem dX3_leanFits_40 : decode cX3_leanFits 40 = .ok (.aload_n 0, 1) := by decide +kernel
theorem dX3_leanFits_41 : decode cX3_leanFits 41 = .ok (.getfield 12, 3) := by decide +kernel
theorem dX3_leanFits_44 : decode cX3_leanFits 44 = .ok (.iload 5, 2) := by decide +kernel
theorem dX3_leanFits_46 : decode cX3_leanFits 46 = .ok (.iload 4, 2) := by decide +kernel
theorem dX3_leanFits_48 : decode cX3_leanFits 48 = .ok (.invokevirtual 77, 3) := by decide +kernel
theorem dX3_leanFits_51 : decode cX3_leanFits 51 = .ok (.istore 6, 2) := by decide +kernel
theorem dX3_leanFits_53 : decode cX3_leanFits 53 = .ok (.aload_n 0, 1) := by decide +kernel
theorem dX3_leanFits_54 : decode cX3_leanFits 54 = .ok (.getfield 12, 3) := by decide +kernel
theorem dX3_leanFits_57 : decode cX3_leanFits 57 = .ok (.iload 5, 2) := by decide +kernel
theorem dX3_leanFits_59 : decode cX3_leanFits 59 = .ok (.iload_n 2, 1) := by decide +kernel
theorem dX3_leanFits_60 : decode cX3_leanFits 60 = .ok (.invokevirtual 77, 3) := by decide +kernel
theorem dX3_leanFits_63 : decode cX3_leanFits 63 = .ok (.istore 7, 2) := by decide +kernel
theorem dX3_leanFits_65 : decode cX3_leanFits 65 = .ok (.iload 6, 2) := by decide +kernel
theorem dX3_leanFits_67 : decode cX3_leanFits 67 = .ok (.ifCond .lt 63, 3) := by decide +kernel
theorem dX3_leanFits_70 : decode cX3_leanFits 70 = .ok (.iload 7, 2) := by decide +kernel
theorem dX3_leanFits_72 : decode cX3_leanFits 72 = .ok (.ifCond .ge 6, 3) := by decide +kernel
theorem dX3_leanFits_75 : decode cX3_leanFits 75 = .ok (.goto 55, 3) := by decide +kernel
theorem dX3_leanFits_78 : decode cX3_leanFits 78 = .ok (.iconst 0, 1) := by decide +kernel
theorem dX3_leanFits_79 : decode cX3_leanFits 79 = .ok (.istore 8, 2) := by decide +kernel
theorem dX3_leanFits_81 : decode cX3_leanFits 81 = .ok (.iload 8, 2) := by decide +kernel
theorem dX3_leanFits_83 : decode cX3_leanFits 83 = .ok (.iconst 5, 1) := by decide +kernel
theorem dX3_leanFits_84 : decode cX3_leanFits 84 = .ok (.if_icmp .ge 46, 3) := by decide +kernel
theorem dX3_leanFits_87 : decode cX3_leanFits 87 = .ok (.aload_n 0, 1) := by decide +kernel
theorem dX3_leanFits_88 : decode cX3_leanFits 88 = .ok (.getfield 12, 3) := by decide +kernel
theorem dX3_leanFits_91 : decode cX3_leanFits 91 = .ok (.getfield 80, 3) := by decide +kernel
theorem dX3_leanFits_94 : decode cX3_leanFits 94 = .ok (.iload 6, 2) := by decide +kernel
theorem dX3_leanFits_96 : decode cX3_leanFits 96 = .ok (.iload 8, 2) := by decide +kernel
theorem dX3_leanFits_98 : decode cX3_leanFits 98 = .ok (.iadd, 1) := by decide +kernel
theorem dX3_leanFits_99 : decode cX3_leanFits 99 = .ok (.iaload, 1) := by decide +kernel
theorem dX3_leanFits_100 : decode cX3_leanFits 100 = .ok (.iload_n 3, 1) := by decide +kernel
theorem dX3_leanFits_101 : decode cX3_leanFits 101 = .ok (.aload_n 0, 1) := by decide +kernel
theorem dX3_leanFits_102 : decode cX3_leanFits 102 = .ok (.getfield 12, 3) := by decide +kernel
theorem dX3_leanFits_105 : decode cX3_leanFits 105 = .ok (.getfield 80, 3) := by decide +kernel
theorem dX3_leanFits_108 : decode cX3_leanFits 108 = .ok (.iload 7, 2) := by decide +kernel
theorem dX3_leanFits_110 : decode cX3_leanFits 110 = .ok (.iload 8, 2) := by decide +kernel
theorem dX3_leanFits_112 : decode cX3_leanFits 112 = .ok (.iadd, 1) := by decide +kernel
theorem dX3_leanFits_113 : decode cX3_leanFits 113 = .ok (.iaload, 1) := by decide +kernel
theorem dX3_leanFits_114 : decode cX3_leanFits 114 = .ok (.imul, 1) := by decide +kernel
theorem dX3_leanFits_115 : decode cX3_leanFits 115 = .ok (.iadd, 1) := by decide +kernel
theorem dX3_leanFits_116 : decode cX3_leanFits 116 = .ok (.invokestatic 83, 3) := by decide +kernel
theorem dX3_leanFits_119 : decode cX3_leanFits 119 = .ok (.ifCond .ne 5, 3) := by decide +kernel
theorem dX3_leanFits_122 : decode cX3_leanFits 122 = .ok (.iconst 0, 1) := by decide +kernel
theorem dX3_leanFits_123 : decode cX3_leanFits 123 = .ok (.ireturn, 1) := by decide +kernel
theorem dX3_leanFits_124 : decode cX3_leanFits 124 = .ok (.iinc 8 1, 3) := by decide +kernel
theorem dX3_leanFits_127 : decode cX3_leanFits 127 = .ok (.goto (-46), 3) := by decide +kernel
theorem dX3_leanFits_130 : decode cX3_leanFits 130 = .ok (.iinc 5 1, 3) := by decide +kernel
theorem dX3_leanFits_133 : decode cX3_leanFits 133 = .ok (.goto (-119), 3) := by decide +kernel
theorem dX3_leanFits_136 : decode cX3_leanFits 136 = .ok (.iconst 1, 1) := by decide +kernel
theorem dX3_leanFits_137 : decode cX3_leanFits 137 = .ok (.ireturn, 1) := by decide +kernel
theorem dX3_leanRows_0 : decode cX3_leanRows 0 = .ok (.aload_n 0, 1) := by decide +kernel
theorem dX3_leanRows_1 : decode cX3_leanRows 1 = .ok (.getfield 32, 3) := by decide +kernel
theorem dX3_leanRows_4 : decode cX3_leanRows 4 = .ok (.getfield 45, 3) := by decide +kernel
theorem dX3_leanRows_7 : decode cX3_leanRows 7 = .ok (.iload_n 1, 1) := by decide +kernel
theorem dX3_leanRows_8 : decode cX3_leanRows 8 = .ok (.iaload, 1) := by decide +kernel
theorem dX3_leanRows_9 : decode cX3_leanRows 9 = .ok (.istore 4, 2) := by decide +kernel
theorem dX3_leanRows_11 : decode cX3_leanRows 11 = .ok (.iconst 0, 1) := by decide +kernel
theorem dX3_leanRows_12 : decode cX3_leanRows 12 = .ok (.istore 5, 2) := by decide +kernel
theorem dX3_leanRows_14 : decode cX3_leanRows 14 = .ok (.iload 5, 2) := by decide +kernel
theorem dX3_leanRows_16 : decode cX3_leanRows 16 = .ok (.aload_n 0, 1) := by decide +kernel
theorem dX3_leanRows_17 : decode cX3_leanRows 17 = .ok (.getfield 32, 3) := by decide +kernel
theorem dX3_leanRows_20 : decode cX3_leanRows 20 = .ok (.getfield 36, 3) := by decide +kernel
theorem dX3_leanRows_23 : decode cX3_leanRows 23 = .ok (.if_icmp .ge 107, 3) := by decide +kernel
theorem dX3_leanRows_26 : decode cX3_leanRows 26 = .ok (.aload_n 0, 1) := by decide +kernel
theorem dX3_leanRows_27 : decode cX3_leanRows 27 = .ok (.iload 5, 2) := by decide +kernel
theorem dX3_leanRows_29 : decode cX3_leanRows 29 = .ok (.iload_n 1, 1) := by decide +kernel
theorem dX3_leanRows_30 : decode cX3_leanRows 30 = .ok (.iload_n 2, 1) := by decide +kernel
theorem dX3_leanRows_31 : decode cX3_leanRows 31 = .ok (.invokevirtual 73, 3) := by decide +kernel
theorem dX3_leanRows_34 : decode cX3_leanRows 34 = .ok (.ifCond .ne 6, 3) := by decide +kernel
theorem dX3_leanRows_37 : decode cX3_leanRows 37 = .ok (.goto 87, 3) := by decide +kernel
theorem dX3_leanRows_40 : decode cX3_leanRows 40 = .ok (.aload_n 0, 1) := by decide +kernel
theorem dX3_leanRows_41 : decode cX3_leanRows 41 = .ok (.getfield 12, 3) := by decide +kernel
theorem dX3_leanRows_44 : decode cX3_leanRows 44 = .ok (.iload 5, 2) := by decide +kernel
theorem dX3_leanRows_46 : decode cX3_leanRows 46 = .ok (.iload 4, 2) := by decide +kernel
theorem dX3_leanRows_48 : decode cX3_leanRows 48 = .ok (.invokevirtual 77, 3) := by decide +kernel
theorem dX3_leanRows_51 : decode cX3_leanRows 51 = .ok (.istore 6, 2) := by decide +kernel
theorem dX3_leanRows_53 : decode cX3_leanRows 53 = .ok (.aload_n 0, 1) := by decide +kernel
theorem dX3_leanRows_54 : decode cX3_leanRows 54 = .ok (.getfield 12, 3) := by decide +kernel
theorem dX3_leanRows_57 : decode cX3_leanRows 57 = .ok (.iload 5, 2) := by decide +kernel
theorem dX3_leanRows_59 : decode cX3_leanRows 59 = .ok (.iload_n 2, 1) := by decide +kernel
theorem dX3_leanRows_60 : decode cX3_leanRows 60 = .ok (.invokevirtual 77, 3) := by decide +kernel
theorem dX3_leanRows_63 : decode cX3_leanRows 63 = .ok (.istore 7, 2) := by decide +kernel
theorem dX3_leanRows_65 : decode cX3_leanRows 65 = .ok (.iload 6, 2) := by decide +kernel
theorem dX3_leanRows_67 : decode cX3_leanRows 67 = .ok (.ifCond .lt 57, 3) := by decide +kernel
theorem dX3_leanRows_70 : decode cX3_leanRows 70 = .ok (.iload 7, 2) := by decide +kernel
theorem dX3_leanRows_72 : decode cX3_leanRows 72 = .ok (.ifCond .ge 6, 3) := by decide +kernel
theorem dX3_leanRows_75 : decode cX3_leanRows 75 = .ok (.goto 49, 3) := by decide +kernel
theorem dX3_leanRows_78 : decode cX3_leanRows 78 = .ok (.iconst 0, 1) := by decide +kernel
theorem dX3_leanRows_79 : decode cX3_leanRows 79 = .ok (.istore 8, 2) := by decide +kernel
theorem dX3_leanRows_81 : decode cX3_leanRows 81 = .ok (.iload 8, 2) := by decide +kernel
theorem dX3_leanRows_83 : decode cX3_leanRows 83 = .ok (.iconst 5, 1) := by decide +kernel
theorem dX3_leanRows_84 : decode cX3_leanRows 84 = .ok (.if_icmp .ge 40, 3) := by decide +kernel
theorem dX3_leanRows_87 : decode cX3_leanRows 87 = .ok (.aload_n 0, 1) := by decide +kernel
theorem dX3_leanRows_88 : decode cX3_leanRows 88 = .ok (.getfield 12, 3) := by decide +kernel
theorem dX3_leanRows_91 : decode cX3_leanRows 91 = .ok (.getfield 80, 3) := by decide +kernel
theorem dX3_leanRows_94 : decode cX3_leanRows 94 = .ok (.iload 6, 2) := by decide +kernel
theorem dX3_leanRows_96 : decode cX3_leanRows 96 = .ok (.iload 8, 2) := by decide +kernel
theorem dX3_leanRows_98 : decode cX3_leanRows 98 = .ok (.iadd, 1) := by decide +kernel
theorem dX3_leanRows_99 : decode cX3_leanRows 99 = .ok (.dup2, 1) := by decide +kernel
theorem dX3_leanRows_100 : decode cX3_leanRows 100 = .ok (.iaload, 1) := by decide +kernel
theorem dX3_leanRows_101 : decode cX3_leanRows 101 = .ok (.iload_n 3, 1) := by decide +kernel
theorem dX3_leanRows_102 : decode cX3_leanRows 102 = .ok (.aload_n 0, 1) := by decide +kernel
theorem dX3_leanRows_103 : decode cX3_leanRows 103 = .ok (.getfield 12, 3) := by decide +kernel
theorem dX3_leanRows_106 : decode cX3_leanRows 106 = .ok (.getfield 80, 3) := by decide +kernel
theorem dX3_leanRows_109 : decode cX3_leanRows 109 = .ok (.iload 7, 2) := by decide +kernel
theorem dX3_leanRows_111 : decode cX3_leanRows 111 = .ok (.iload 8, 2) := by decide +kernel
theorem dX3_leanRows_113 : decode cX3_leanRows 113 = .ok (.iadd, 1) := by decide +kernel
theorem dX3_leanRows_114 : decode cX3_leanRows 114 = .ok (.iaload, 1) := by decide +kernel
theorem dX3_leanRows_115 : decode cX3_leanRows 115 = .ok (.imul, 1) := by decide +kernel
theorem dX3_leanRows_116 : decode cX3_leanRows 116 = .ok (.iadd, 1) := by decide +kernel
theorem dX3_leanRows_117 : decode cX3_leanRows 117 = .ok (.iastore, 1) := by decide +kernel
theorem dX3_leanRows_118 : decode cX3_leanRows 118 = .ok (.iinc 8 1, 3) := by decide +kernel
theorem dX3_leanRows_121 : decode cX3_leanRows 121 = .ok (.goto (-40), 3) := by decide +kernel
theorem dX3_leanRows_124 : decode cX3_leanRows 124 = .ok (.iinc 5 1, 3) := by decide +kernel
theorem dX3_leanRows_127 : decode cX3_leanRows 127 = .ok (.goto (-113), 3) := by decide +kernel
theorem dX3_leanRows_130 : decode cX3_leanRows 130 = .ok (.return_, 1) := by decide +kernel
theorem dX3_turnSigns_0 : decode cX3_turnSigns 0 = .ok (.aload_n 0, 1) := by decide +kernel
theorem dX3_turnSigns_1 : decode cX3_turnSigns 1 = .ok (.getfield 32, 3) := by decide +kernel
theorem dX3_turnSigns_4 : decode cX3_turnSigns 4 = .ok (.getfield 45, 3) := by decide +kernel
theorem dX3_turnSigns_7 : decode cX3_turnSigns 7 = .ok (.iload_n 1, 1) := by decide +kernel
theorem dX3_turnSigns_8 : decode cX3_turnSigns 8 = .ok (.iaload, 1) := by decide +kernel
theorem dX3_turnSigns_9 : decode cX3_turnSigns 9 = .ok (.istore_n 2, 1) := by decide +kernel
theorem dX3_turnSigns_10 : decode cX3_turnSigns 10 = .ok (.iconst 0, 1) := by decide +kernel
theorem dX3_turnSigns_11 : decode cX3_turnSigns 11 = .ok (.istore_n 3, 1) := by decide +kernel
theorem dX3_turnSigns_12 : decode cX3_turnSigns 12 = .ok (.iload_n 3, 1) := by decide +kernel
theorem dX3_turnSigns_13 : decode cX3_turnSigns 13 = .ok (.aload_n 0, 1) := by decide +kernel
theorem dX3_turnSigns_14 : decode cX3_turnSigns 14 = .ok (.getfield 32, 3) := by decide +kernel
theorem dX3_turnSigns_17 : decode cX3_turnSigns 17 = .ok (.getfield 36, 3) := by decide +kernel
theorem dX3_turnSigns_20 : decode cX3_turnSigns 20 = .ok (.if_icmp .ge 85, 3) := by decide +kernel
theorem dX3_turnSigns_23 : decode cX3_turnSigns 23 = .ok (.aload_n 0, 1) := by decide +kernel
theorem dX3_turnSigns_24 : decode cX3_turnSigns 24 = .ok (.getfield 32, 3) := by decide +kernel
theorem dX3_turnSigns_27 : decode cX3_turnSigns 27 = .ok (.iload_n 3, 1) := by decide +kernel
theorem dX3_turnSigns_28 : decode cX3_turnSigns 28 = .ok (.iload_n 1, 1) := by decide +kernel
theorem dX3_turnSigns_29 : decode cX3_turnSigns 29 = .ok (.invokevirtual 66, 3) := by decide +kernel
theorem dX3_turnSigns_32 : decode cX3_turnSigns 32 = .ok (.ifCond .ne 6, 3) := by decide +kernel
theorem dX3_turnSigns_35 : decode cX3_turnSigns 35 = .ok (.goto 64, 3) := by decide +kernel
theorem dX3_turnSigns_38 : decode cX3_turnSigns 38 = .ok (.aload_n 0, 1) := by decide +kernel
theorem dX3_turnSigns_39 : decode cX3_turnSigns 39 = .ok (.getfield 12, 3) := by decide +kernel
theorem dX3_turnSigns_42 : decode cX3_turnSigns 42 = .ok (.iload_n 3, 1) := by decide +kernel
theorem dX3_turnSigns_43 : decode cX3_turnSigns 43 = .ok (.iload_n 2, 1) := by decide +kernel
theorem dX3_turnSigns_44 : decode cX3_turnSigns 44 = .ok (.invokevirtual 77, 3) := by decide +kernel
theorem dX3_turnSigns_47 : decode cX3_turnSigns 47 = .ok (.istore 4, 2) := by decide +kernel
theorem dX3_turnSigns_49 : decode cX3_turnSigns 49 = .ok (.iload 4, 2) := by decide +kernel
theorem dX3_turnSigns_51 : decode cX3_turnSigns 51 = .ok (.ifCond .ge 6, 3) := by decide +kernel
theorem dX3_turnSigns_54 : decode cX3_turnSigns 54 = .ok (.goto 45, 3) := by decide +kernel
theorem dX3_turnSigns_57 : decode cX3_turnSigns 57 = .ok (.iconst 0, 1) := by decide +kernel
theorem dX3_turnSigns_58 : decode cX3_turnSigns 58 = .ok (.istore 5, 2) := by decide +kernel
theorem dX3_turnSigns_60 : decode cX3_turnSigns 60 = .ok (.iload 5, 2) := by decide +kernel
theorem dX3_turnSigns_62 : decode cX3_turnSigns 62 = .ok (.iconst 5, 1) := by decide +kernel
theorem dX3_turnSigns_63 : decode cX3_turnSigns 63 = .ok (.if_icmp .ge 36, 3) := by decide +kernel
theorem dX3_turnSigns_66 : decode cX3_turnSigns 66 = .ok (.aload_n 0, 1) := by decide +kernel
theorem dX3_turnSigns_67 : decode cX3_turnSigns 67 = .ok (.getfield 12, 3) := by decide +kernel
theorem dX3_turnSigns_70 : decode cX3_turnSigns 70 = .ok (.getfield 80, 3) := by decide +kernel
theorem dX3_turnSigns_73 : decode cX3_turnSigns 73 = .ok (.iload 4, 2) := by decide +kernel
theorem dX3_turnSigns_75 : decode cX3_turnSigns 75 = .ok (.iload 5, 2) := by decide +kernel
theorem dX3_turnSigns_77 : decode cX3_turnSigns 77 = .ok (.iadd, 1) := by decide +kernel
theorem dX3_turnSigns_78 : decode cX3_turnSigns 78 = .ok (.aload_n 0, 1) := by decide +kernel
theorem dX3_turnSigns_79 : decode cX3_turnSigns 79 = .ok (.getfield 12, 3) := by decide +kernel
theorem dX3_turnSigns_82 : decode cX3_turnSigns 82 = .ok (.getfield 80, 3) := by decide +kernel
theorem dX3_turnSigns_85 : decode cX3_turnSigns 85 = .ok (.iload 4, 2) := by decide +kernel
theorem dX3_turnSigns_87 : decode cX3_turnSigns 87 = .ok (.iload 5, 2) := by decide +kernel
theorem dX3_turnSigns_89 : decode cX3_turnSigns 89 = .ok (.iadd, 1) := by decide +kernel
theorem dX3_turnSigns_90 : decode cX3_turnSigns 90 = .ok (.iaload, 1) := by decide +kernel
theorem dX3_turnSigns_91 : decode cX3_turnSigns 91 = .ok (.ineg, 1) := by decide +kernel
theorem dX3_turnSigns_92 : decode cX3_turnSigns 92 = .ok (.iastore, 1) := by decide +kernel
theorem dX3_turnSigns_93 : decode cX3_turnSigns 93 = .ok (.iinc 5 1, 3) := by decide +kernel
theorem dX3_turnSigns_96 : decode cX3_turnSigns 96 = .ok (.goto (-36), 3) := by decide +kernel
theorem dX3_turnSigns_99 : decode cX3_turnSigns 99 = .ok (.iinc 3 1, 3) := by decide +kernel
theorem dX3_turnSigns_102 : decode cX3_turnSigns 102 = .ok (.goto (-90), 3) := by decide +kernel
theorem dX3_turnSigns_105 : decode cX3_turnSigns 105 = .ok (.return_, 1) := by decide +kernel
theorem dX3_tileFits_0 : decode cX3_tileFits 0 = .ok (.aload_n 0, 1) := by decide +kernel
theorem dX3_tileFits_1 : decode cX3_tileFits 1 = .ok (.getfield 32, 3) := by decide +kernel
theorem dX3_tileFits_4 : decode cX3_tileFits 4 = .ok (.getfield 45, 3) := by decide +kernel
theorem dX3_tileFits_7 : decode cX3_tileFits 7 = .ok (.iload_n 1, 1) := by decide +kernel
theorem dX3_tileFits_8 : decode cX3_tileFits 8 = .ok (.iaload, 1) := by decide +kernel
theorem dX3_tileFits_9 : decode cX3_tileFits 9 = .ok (.istore 4, 2) := by decide +kernel
theorem dX3_tileFits_11 : decode cX3_tileFits 11 = .ok (.iconst 0, 1) := by decide +kernel
theorem dX3_tileFits_12 : decode cX3_tileFits 12 = .ok (.istore 5, 2) := by decide +kernel
theorem dX3_tileFits_14 : decode cX3_tileFits 14 = .ok (.iload 5, 2) := by decide +kernel
theorem dX3_tileFits_16 : decode cX3_tileFits 16 = .ok (.aload_n 0, 1) := by decide +kernel
theorem dX3_tileFits_17 : decode cX3_tileFits 17 = .ok (.getfield 32, 3) := by decide +kernel
theorem dX3_tileFits_20 : decode cX3_tileFits 20 = .ok (.getfield 36, 3) := by decide +kernel
theorem dX3_tileFits_23 : decode cX3_tileFits 23 = .ok (.if_icmp .ge 105, 3) := by decide +kernel
theorem dX3_tileFits_26 : decode cX3_tileFits 26 = .ok (.aload_n 0, 1) := by decide +kernel
theorem dX3_tileFits_27 : decode cX3_tileFits 27 = .ok (.iload 5, 2) := by decide +kernel
theorem dX3_tileFits_29 : decode cX3_tileFits 29 = .ok (.iload_n 1, 1) := by decide +kernel
theorem dX3_tileFits_30 : decode cX3_tileFits 30 = .ok (.iload 4, 2) := by decide +kernel
theorem dX3_tileFits_32 : decode cX3_tileFits 32 = .ok (.iload_n 2, 1) := by decide +kernel
theorem dX3_tileFits_33 : decode cX3_tileFits 33 = .ok (.iadd, 1) := by decide +kernel
theorem dX3_tileFits_34 : decode cX3_tileFits 34 = .ok (.iconst 1, 1) := by decide +kernel
theorem dX3_tileFits_35 : decode cX3_tileFits 35 = .ok (.isub, 1) := by decide +kernel
theorem dX3_tileFits_36 : decode cX3_tileFits 36 = .ok (.invokevirtual 73, 3) := by decide +kernel
theorem dX3_tileFits_39 : decode cX3_tileFits 39 = .ok (.ifCond .ne 6, 3) := by decide +kernel
theorem dX3_tileFits_42 : decode cX3_tileFits 42 = .ok (.goto 80, 3) := by decide +kernel
theorem dX3_tileFits_45 : decode cX3_tileFits 45 = .ok (.aload_n 0, 1) := by decide +kernel
theorem dX3_tileFits_46 : decode cX3_tileFits 46 = .ok (.getfield 12, 3) := by decide +kernel
theorem dX3_tileFits_49 : decode cX3_tileFits 49 = .ok (.getfield 41, 3) := by decide +kernel
theorem dX3_tileFits_52 : decode cX3_tileFits 52 = .ok (.iload 5, 2) := by decide +kernel
theorem dX3_tileFits_54 : decode cX3_tileFits 54 = .ok (.iaload, 1) := by decide +kernel
theorem dX3_tileFits_55 : decode cX3_tileFits 55 = .ok (.iload_n 2, 1) := by decide +kernel
theorem dX3_tileFits_56 : decode cX3_tileFits 56 = .ok (.iadd, 1) := by decide +kernel
theorem dX3_tileFits_57 : decode cX3_tileFits 57 = .ok (.bipush 16, 2) := by decide +kernel
theorem dX3_tileFits_59 : decode cX3_tileFits 59 = .ok (.if_icmp .le 5, 3) := by decide +kernel
theorem dX3_tileFits_62 : decode cX3_tileFits 62 = .ok (.iconst 0, 1) := by decide +kernel
theorem dX3_tileFits_63 : decode cX3_tileFits 63 = .ok (.ireturn, 1) := by decide +kernel
theorem dX3_tileFits_64 : decode cX3_tileFits 64 = .ok (.iconst 0, 1) := by decide +kernel
theorem dX3_tileFits_65 : decode cX3_tileFits 65 = .ok (.istore 6, 2) := by decide +kernel
theorem dX3_tileFits_67 : decode cX3_tileFits 67 = .ok (.iload 6, 2) := by decide +kernel
theorem dX3_tileFits_69 : decode cX3_tileFits 69 = .ok (.iload_n 2, 1) := by decide +kernel
theorem dX3_tileFits_70 : decode cX3_tileFits 70 = .ok (.if_icmp .ge 52, 3) := by decide +kernel
theorem dX3_tileFits_73 : decode cX3_tileFits 73 = .ok (.aload_n 0, 1) := by decide +kernel
theorem dX3_tileFits_74 : decode cX3_tileFits 74 = .ok (.getfield 12, 3) := by decide +kernel
theorem dX3_tileFits_77 : decode cX3_tileFits 77 = .ok (.iload 5, 2) := by decide +kernel
theorem dX3_tileFits_79 : decode cX3_tileFits 79 = .ok (.iload 4, 2) := by decide +kernel
theorem dX3_tileFits_81 : decode cX3_tileFits 81 = .ok (.iload 6, 2) := by decide +kernel
theorem dX3_tileFits_83 : decode cX3_tileFits 83 = .ok (.iadd, 1) := by decide +kernel
theorem dX3_tileFits_84 : decode cX3_tileFits 84 = .ok (.invokevirtual 77, 3) := by decide +kernel
theorem dX3_tileFits_87 : decode cX3_tileFits 87 = .ok (.istore 7, 2) := by decide +kernel
theorem dX3_tileFits_89 : decode cX3_tileFits 89 = .ok (.iload 7, 2) := by decide +kernel
theorem dX3_tileFits_91 : decode cX3_tileFits 91 = .ok (.ifCond .lt 25, 3) := by decide +kernel
theorem dX3_tileFits_94 : decode cX3_tileFits 94 = .ok (.aload_n 0, 1) := by decide +kernel
theorem dX3_tileFits_95 : decode cX3_tileFits 95 = .ok (.getfield 12, 3) := by decide +kernel
theorem dX3_tileFits_98 : decode cX3_tileFits 98 = .ok (.getfield 80, 3) := by decide +kernel
theorem dX3_tileFits_101 : decode cX3_tileFits 101 = .ok (.iload 7, 2) := by decide +kernel
theorem dX3_tileFits_103 : decode cX3_tileFits 103 = .ok (.iconst 5, 1) := by decide +kernel
theorem dX3_tileFits_104 : decode cX3_tileFits 104 = .ok (.iadd, 1) := by decide +kernel
theorem dX3_tileFits_105 : decode cX3_tileFits 105 = .ok (.iaload, 1) := by decide +kernel
theorem dX3_tileFits_106 : decode cX3_tileFits 106 = .ok (.iload_n 3, 1) := by decide +kernel
theorem dX3_tileFits_107 : decode cX3_tileFits 107 = .ok (.imul, 1) := by decide +kernel
theorem dX3_tileFits_108 : decode cX3_tileFits 108 = .ok (.sipush 400, 3) := by decide +kernel
theorem dX3_tileFits_111 : decode cX3_tileFits 111 = .ok (.if_icmp .le 5, 3) := by decide +kernel
theorem dX3_tileFits_114 : decode cX3_tileFits 114 = .ok (.iconst 0, 1) := by decide +kernel
theorem dX3_tileFits_115 : decode cX3_tileFits 115 = .ok (.ireturn, 1) := by decide +kernel
theorem dX3_tileFits_116 : decode cX3_tileFits 116 = .ok (.iinc 6 1, 3) := by decide +kernel
theorem dX3_tileFits_119 : decode cX3_tileFits 119 = .ok (.goto (-52), 3) := by decide +kernel
theorem dX3_tileFits_122 : decode cX3_tileFits 122 = .ok (.iinc 5 1, 3) := by decide +kernel
theorem dX3_tileFits_125 : decode cX3_tileFits 125 = .ok (.goto (-111), 3) := by decide +kernel
theorem dX3_tileFits_128 : decode cX3_tileFits 128 = .ok (.iconst 1, 1) := by decide +kernel
theorem dX3_tileFits_129 : decode cX3_tileFits 129 = .ok (.ireturn, 1) := by decide +kernel
theorem dX3_tileRows_0 : decode cX3_tileRows 0 = .ok (.aload_n 0, 1) := by decide +kernel
theorem dX3_tileRows_1 : decode cX3_tileRows 1 = .ok (.getfield 32, 3) := by decide +kernel
theorem dX3_tileRows_4 : decode cX3_tileRows 4 = .ok (.getfield 45, 3) := by decide +kernel
theorem dX3_tileRows_7 : decode cX3_tileRows 7 = .ok (.iload_n 1, 1) := by decide +kernel
theorem dX3_tileRows_8 : decode cX3_tileRows 8 = .ok (.iaload, 1) := by decide +kernel
theorem dX3_tileRows_9 : decode cX3_tileRows 9 = .ok (.istore 4, 2) := by decide +kernel
theorem dX3_tileRows_11 : decode cX3_tileRows 11 = .ok (.iconst 0, 1) := by decide +kernel
theorem dX3_tileRows_12 : decode cX3_tileRows 12 = .ok (.istore 5, 2) := by decide +kernel
theorem dX3_tileRows_14 : decode cX3_tileRows 14 = .ok (.iload 5, 2) := by decide +kernel
theorem dX3_tileRows_16 : decode cX3_tileRows 16 = .ok (.aload_n 0, 1) := by decide +kernel
theorem dX3_tileRows_17 : decode cX3_tileRows 17 = .ok (.getfield 32, 3) := by decide +kernel
theorem dX3_tileRows_20 : decode cX3_tileRows 20 = .ok (.getfield 36, 3) := by decide +kernel
theorem dX3_tileRows_23 : decode cX3_tileRows 23 = .ok (.if_icmp .ge 132, 3) := by decide +kernel
theorem dX3_tileRows_26 : decode cX3_tileRows 26 = .ok (.aload_n 0, 1) := by decide +kernel
theorem dX3_tileRows_27 : decode cX3_tileRows 27 = .ok (.iload 5, 2) := by decide +kernel
theorem dX3_tileRows_29 : decode cX3_tileRows 29 = .ok (.iload_n 1, 1) := by decide +kernel
theorem dX3_tileRows_30 : decode cX3_tileRows 30 = .ok (.iload 4, 2) := by decide +kernel
theorem dX3_tileRows_32 : decode cX3_tileRows 32 = .ok (.iload_n 2, 1) := by decide +kernel
theorem dX3_tileRows_33 : decode cX3_tileRows 33 = .ok (.iadd, 1) := by decide +kernel
theorem dX3_tileRows_34 : decode cX3_tileRows 34 = .ok (.iconst 1, 1) := by decide +kernel
theorem dX3_tileRows_35 : decode cX3_tileRows 35 = .ok (.isub, 1) := by decide +kernel
theorem dX3_tileRows_36 : decode cX3_tileRows 36 = .ok (.invokevirtual 73, 3) := by decide +kernel
theorem dX3_tileRows_39 : decode cX3_tileRows 39 = .ok (.ifCond .ne 6, 3) := by decide +kernel
theorem dX3_tileRows_42 : decode cX3_tileRows 42 = .ok (.goto 107, 3) := by decide +kernel
theorem dX3_tileRows_45 : decode cX3_tileRows 45 = .ok (.aload_n 0, 1) := by decide +kernel
theorem dX3_tileRows_46 : decode cX3_tileRows 46 = .ok (.getfield 12, 3) := by decide +kernel
theorem dX3_tileRows_49 : decode cX3_tileRows 49 = .ok (.iload 5, 2) := by decide +kernel
theorem dX3_tileRows_51 : decode cX3_tileRows 51 = .ok (.iload 4, 2) := by decide +kernel
theorem dX3_tileRows_53 : decode cX3_tileRows 53 = .ok (.invokevirtual 77, 3) := by decide +kernel
theorem dX3_tileRows_56 : decode cX3_tileRows 56 = .ok (.istore 6, 2) := by decide +kernel
theorem dX3_tileRows_58 : decode cX3_tileRows 58 = .ok (.iload 6, 2) := by decide +kernel
theorem dX3_tileRows_60 : decode cX3_tileRows 60 = .ok (.ifCond .ge 6, 3) := by decide +kernel
theorem dX3_tileRows_63 : decode cX3_tileRows 63 = .ok (.goto 86, 3) := by decide +kernel
theorem dX3_tileRows_66 : decode cX3_tileRows 66 = .ok (.aload_n 0, 1) := by decide +kernel
theorem dX3_tileRows_67 : decode cX3_tileRows 67 = .ok (.getfield 12, 3) := by decide +kernel
theorem dX3_tileRows_70 : decode cX3_tileRows 70 = .ok (.iload 5, 2) := by decide +kernel
theorem dX3_tileRows_72 : decode cX3_tileRows 72 = .ok (.iload 6, 2) := by decide +kernel
theorem dX3_tileRows_74 : decode cX3_tileRows 74 = .ok (.iload_n 2, 1) := by decide +kernel
theorem dX3_tileRows_75 : decode cX3_tileRows 75 = .ok (.invokevirtual 87, 3) := by decide +kernel
theorem dX3_tileRows_78 : decode cX3_tileRows 78 = .ok (.iconst 0, 1) := by decide +kernel
theorem dX3_tileRows_79 : decode cX3_tileRows 79 = .ok (.istore 7, 2) := by decide +kernel
theorem dX3_tileRows_81 : decode cX3_tileRows 81 = .ok (.iload 7, 2) := by decide +kernel
theorem dX3_tileRows_83 : decode cX3_tileRows 83 = .ok (.iload_n 2, 1) := by decide +kernel
theorem dX3_tileRows_84 : decode cX3_tileRows 84 = .ok (.if_icmp .ge 30, 3) := by decide +kernel
theorem dX3_tileRows_87 : decode cX3_tileRows 87 = .ok (.aload_n 0, 1) := by decide +kernel
theorem dX3_tileRows_88 : decode cX3_tileRows 88 = .ok (.getfield 12, 3) := by decide +kernel
theorem dX3_tileRows_91 : decode cX3_tileRows 91 = .ok (.getfield 80, 3) := by decide +kernel
theorem dX3_tileRows_94 : decode cX3_tileRows 94 = .ok (.iload 6, 2) := by decide +kernel
theorem dX3_tileRows_96 : decode cX3_tileRows 96 = .ok (.iload 7, 2) := by decide +kernel
theorem dX3_tileRows_98 : decode cX3_tileRows 98 = .ok (.bipush 7, 2) := by decide +kernel
theorem dX3_tileRows_100 : decode cX3_tileRows 100 = .ok (.imul, 1) := by decide +kernel
theorem dX3_tileRows_101 : decode cX3_tileRows 101 = .ok (.iadd, 1) := by decide +kernel
theorem dX3_tileRows_102 : decode cX3_tileRows 102 = .ok (.bipush 6, 2) := by decide +kernel
theorem dX3_tileRows_104 : decode cX3_tileRows 104 = .ok (.iadd, 1) := by decide +kernel
theorem dX3_tileRows_105 : decode cX3_tileRows 105 = .ok (.bipush (-9), 2) := by decide +kernel
theorem dX3_tileRows_107 : decode cX3_tileRows 107 = .ok (.iastore, 1) := by decide +kernel
theorem dX3_tileRows_108 : decode cX3_tileRows 108 = .ok (.iinc 7 1, 3) := by decide +kernel
theorem dX3_tileRows_111 : decode cX3_tileRows 111 = .ok (.goto (-30), 3) := by decide +kernel
theorem dX3_tileRows_114 : decode cX3_tileRows 114 = .ok (.iconst 0, 1) := by decide +kernel
theorem dX3_tileRows_115 : decode cX3_tileRows 115 = .ok (.istore 7, 2) := by decide +kernel
theorem dX3_tileRows_117 : decode cX3_tileRows 117 = .ok (.iload 7, 2) := by decide +kernel
theorem dX3_tileRows_119 : decode cX3_tileRows 119 = .ok (.iload_n 2, 1) := by decide +kernel
theorem dX3_tileRows_120 : decode cX3_tileRows 120 = .ok (.if_icmp .ge 29, 3) := by decide +kernel
theorem dX3_tileRows_123 : decode cX3_tileRows 123 = .ok (.aload_n 0, 1) := by decide +kernel
theorem dX3_tileRows_124 : decode cX3_tileRows 124 = .ok (.iload 5, 2) := by decide +kernel
theorem dX3_tileRows_126 : decode cX3_tileRows 126 = .ok (.iload 4, 2) := by decide +kernel
theorem dX3_tileRows_128 : decode cX3_tileRows 128 = .ok (.iload 7, 2) := by decide +kernel
theorem dX3_tileRows_130 : decode cX3_tileRows 130 = .ok (.iadd, 1) := by decide +kernel
theorem dX3_tileRows_131 : decode cX3_tileRows 131 = .ok (.iload 6, 2) := by decide +kernel
theorem dX3_tileRows_133 : decode cX3_tileRows 133 = .ok (.iload 7, 2) := by decide +kernel
theorem dX3_tileRows_135 : decode cX3_tileRows 135 = .ok (.bipush 7, 2) := by decide +kernel
theorem dX3_tileRows_137 : decode cX3_tileRows 137 = .ok (.imul, 1) := by decide +kernel
theorem dX3_tileRows_138 : decode cX3_tileRows 138 = .ok (.iadd, 1) := by decide +kernel
theorem dX3_tileRows_139 : decode cX3_tileRows 139 = .ok (.iload_n 3, 1) := by decide +kernel
theorem dX3_tileRows_140 : decode cX3_tileRows 140 = .ok (.invokevirtual 91, 3) := by decide +kernel
theorem dX3_tileRows_143 : decode cX3_tileRows 143 = .ok (.iinc 7 1, 3) := by decide +kernel
theorem dX3_tileRows_146 : decode cX3_tileRows 146 = .ok (.goto (-29), 3) := by decide +kernel
theorem dX3_tileRows_149 : decode cX3_tileRows 149 = .ok (.iinc 5 1, 3) := by decide +kernel
theorem dX3_tileRows_152 : decode cX3_tileRows 152 = .ok (.goto (-138), 3) := by decide +kernel
theorem dX3_tileRows_155 : decode cX3_tileRows 155 = .ok (.return_, 1) := by decide +kernel
theorem dX3_widen_0 : decode cX3_widen 0 = .ok (.aload_n 0, 1) := by decide +kernel
theorem dX3_widen_1 : decode cX3_widen 1 = .ok (.getfield 12, 3) := by decide +kernel
theorem dX3_widen_4 : decode cX3_widen 4 = .ok (.iload_n 1, 1) := by decide +kernel
theorem dX3_widen_5 : decode cX3_widen 5 = .ok (.iload_n 2, 1) := by decide +kernel
theorem dX3_widen_6 : decode cX3_widen 6 = .ok (.invokevirtual 77, 3) := by decide +kernel
theorem dX3_widen_9 : decode cX3_widen 9 = .ok (.istore 5, 2) := by decide +kernel
theorem dX3_widen_11 : decode cX3_widen 11 = .ok (.iload 5, 2) := by decide +kernel
theorem dX3_widen_13 : decode cX3_widen 13 = .ok (.ifCond .ge 4, 3) := by decide +kernel
theorem dX3_widen_16 : decode cX3_widen 16 = .ok (.return_, 1) := by decide +kernel
theorem dX3_widen_17 : decode cX3_widen 17 = .ok (.aload_n 0, 1) := by decide +kernel
theorem dX3_widen_18 : decode cX3_widen 18 = .ok (.getfield 12, 3) := by decide +kernel
theorem dX3_widen_21 : decode cX3_widen 21 = .ok (.getfield 80, 3) := by decide +kernel
theorem dX3_widen_24 : decode cX3_widen 24 = .ok (.iload 5, 2) := by decide +kernel
theorem dX3_widen_26 : decode cX3_widen 26 = .ok (.aload_n 0, 1) := by decide +kernel
theorem dX3_widen_27 : decode cX3_widen 27 = .ok (.getfield 12, 3) := by decide +kernel
theorem dX3_widen_30 : decode cX3_widen 30 = .ok (.getfield 80, 3) := by decide +kernel
theorem dX3_widen_33 : decode cX3_widen 33 = .ok (.iload_n 3, 1) := by decide +kernel
theorem dX3_widen_34 : decode cX3_widen 34 = .ok (.iconst 5, 1) := by decide +kernel
theorem dX3_widen_35 : decode cX3_widen 35 = .ok (.invokestatic 95, 3) := by decide +kernel
theorem dX3_widen_38 : decode cX3_widen 38 = .ok (.aload_n 0, 1) := by decide +kernel
theorem dX3_widen_39 : decode cX3_widen 39 = .ok (.getfield 12, 3) := by decide +kernel
theorem dX3_widen_42 : decode cX3_widen 42 = .ok (.getfield 80, 3) := by decide +kernel
theorem dX3_widen_45 : decode cX3_widen 45 = .ok (.iload_n 3, 1) := by decide +kernel
theorem dX3_widen_46 : decode cX3_widen 46 = .ok (.iconst 5, 1) := by decide +kernel
theorem dX3_widen_47 : decode cX3_widen 47 = .ok (.iadd, 1) := by decide +kernel
theorem dX3_widen_48 : decode cX3_widen 48 = .ok (.aload_n 0, 1) := by decide +kernel
theorem dX3_widen_49 : decode cX3_widen 49 = .ok (.getfield 12, 3) := by decide +kernel
theorem dX3_widen_52 : decode cX3_widen 52 = .ok (.getfield 80, 3) := by decide +kernel
theorem dX3_widen_55 : decode cX3_widen 55 = .ok (.iload 5, 2) := by decide +kernel
theorem dX3_widen_57 : decode cX3_widen 57 = .ok (.iconst 5, 1) := by decide +kernel
theorem dX3_widen_58 : decode cX3_widen 58 = .ok (.iadd, 1) := by decide +kernel
theorem dX3_widen_59 : decode cX3_widen 59 = .ok (.iaload, 1) := by decide +kernel
theorem dX3_widen_60 : decode cX3_widen 60 = .ok (.iload 4, 2) := by decide +kernel
theorem dX3_widen_62 : decode cX3_widen 62 = .ok (.imul, 1) := by decide +kernel
theorem dX3_widen_63 : decode cX3_widen 63 = .ok (.iastore, 1) := by decide +kernel
theorem dX3_widen_64 : decode cX3_widen 64 = .ok (.return_, 1) := by decide +kernel
theorem dX3_partFits_0 : decode cX3_partFits 0 = .ok (.aload_n 0, 1) := by decide +kernel
theorem dX3_partFits_1 : decode cX3_partFits 1 = .ok (.getfield 32, 3) := by decide +kernel
theorem dX3_partFits_4 : decode cX3_partFits 4 = .ok (.getfield 45, 3) := by decide +kernel
theorem dX3_partFits_7 : decode cX3_partFits 7 = .ok (.iload_n 1, 1) := by decide +kernel
theorem dX3_partFits_8 : decode cX3_partFits 8 = .ok (.iaload, 1) := by decide +kernel
theorem dX3_partFits_9 : decode cX3_partFits 9 = .ok (.istore_n 2, 1) := by decide +kernel
theorem dX3_partFits_10 : decode cX3_partFits 10 = .ok (.iconst 0, 1) := by decide +kernel
theorem dX3_partFits_11 : decode cX3_partFits 11 = .ok (.istore_n 3, 1) := by decide +kernel
theorem dX3_partFits_12 : decode cX3_partFits 12 = .ok (.iload_n 3, 1) := by decide +kernel
theorem dX3_partFits_13 : decode cX3_partFits 13 = .ok (.aload_n 0, 1) := by decide +kernel
theorem dX3_partFits_14 : decode cX3_partFits 14 = .ok (.getfield 32, 3) := by decide +kernel
theorem dX3_partFits_17 : decode cX3_partFits 17 = .ok (.getfield 36, 3) := by decide +kernel
theorem dX3_partFits_20 : decode cX3_partFits 20 = .ok (.if_icmp .ge 56, 3) := by decide +kernel
theorem dX3_partFits_23 : decode cX3_partFits 23 = .ok (.aload_n 0, 1) := by decide +kernel
theorem dX3_partFits_24 : decode cX3_partFits 24 = .ok (.getfield 32, 3) := by decide +kernel
theorem dX3_partFits_27 : decode cX3_partFits 27 = .ok (.iload_n 3, 1) := by decide +kernel
theorem dX3_partFits_28 : decode cX3_partFits 28 = .ok (.iload_n 1, 1) := by decide +kernel
theorem dX3_partFits_29 : decode cX3_partFits 29 = .ok (.invokevirtual 66, 3) := by decide +kernel
theorem dX3_partFits_32 : decode cX3_partFits 32 = .ok (.ifCond .ne 6, 3) := by decide +kernel
theorem dX3_partFits_35 : decode cX3_partFits 35 = .ok (.goto 35, 3) := by decide +kernel
theorem dX3_partFits_38 : decode cX3_partFits 38 = .ok (.aload_n 0, 1) := by decide +kernel
theorem dX3_partFits_39 : decode cX3_partFits 39 = .ok (.getfield 12, 3) := by decide +kernel
theorem dX3_partFits_42 : decode cX3_partFits 42 = .ok (.iload_n 3, 1) := by decide +kernel
theorem dX3_partFits_43 : decode cX3_partFits 43 = .ok (.iload_n 2, 1) := by decide +kernel
theorem dX3_partFits_44 : decode cX3_partFits 44 = .ok (.invokevirtual 101, 3) := by decide +kernel
theorem dX3_partFits_47 : decode cX3_partFits 47 = .ok (.istore 4, 2) := by decide +kernel
theorem dX3_partFits_49 : decode cX3_partFits 49 = .ok (.iload 4, 2) := by decide +kernel
theorem dX3_partFits_51 : decode cX3_partFits 51 = .ok (.ifCond .lt 19, 3) := by decide +kernel
theorem dX3_partFits_54 : decode cX3_partFits 54 = .ok (.aload_n 0, 1) := by decide +kernel
theorem dX3_partFits_55 : decode cX3_partFits 55 = .ok (.iload_n 3, 1) := by decide +kernel
theorem dX3_partFits_56 : decode cX3_partFits 56 = .ok (.iload_n 2, 1) := by decide +kernel
theorem dX3_partFits_57 : decode cX3_partFits 57 = .ok (.iload 4, 2) := by decide +kernel
theorem dX3_partFits_59 : decode cX3_partFits 59 = .ok (.invokevirtual 104, 3) := by decide +kernel
theorem dX3_partFits_62 : decode cX3_partFits 62 = .ok (.invokestatic 83, 3) := by decide +kernel
theorem dX3_partFits_65 : decode cX3_partFits 65 = .ok (.ifCond .ne 5, 3) := by decide +kernel
theorem dX3_partFits_68 : decode cX3_partFits 68 = .ok (.iconst 0, 1) := by decide +kernel
theorem dX3_partFits_69 : decode cX3_partFits 69 = .ok (.ireturn, 1) := by decide +kernel
theorem dX3_partFits_70 : decode cX3_partFits 70 = .ok (.iinc 3 1, 3) := by decide +kernel
theorem dX3_partFits_73 : decode cX3_partFits 73 = .ok (.goto (-61), 3) := by decide +kernel
theorem dX3_partFits_76 : decode cX3_partFits 76 = .ok (.iconst 1, 1) := by decide +kernel
theorem dX3_partFits_77 : decode cX3_partFits 77 = .ok (.ireturn, 1) := by decide +kernel
theorem dX3_partRows_0 : decode cX3_partRows 0 = .ok (.aload_n 0, 1) := by decide +kernel
theorem dX3_partRows_1 : decode cX3_partRows 1 = .ok (.getfield 32, 3) := by decide +kernel
theorem dX3_partRows_4 : decode cX3_partRows 4 = .ok (.getfield 45, 3) := by decide +kernel
theorem dX3_partRows_7 : decode cX3_partRows 7 = .ok (.iload_n 1, 1) := by decide +kernel
theorem dX3_partRows_8 : decode cX3_partRows 8 = .ok (.iaload, 1) := by decide +kernel
theorem dX3_partRows_9 : decode cX3_partRows 9 = .ok (.istore_n 2, 1) := by decide +kernel
theorem dX3_partRows_10 : decode cX3_partRows 10 = .ok (.iconst 0, 1) := by decide +kernel
theorem dX3_partRows_11 : decode cX3_partRows 11 = .ok (.istore_n 3, 1) := by decide +kernel
theorem dX3_partRows_12 : decode cX3_partRows 12 = .ok (.iload_n 3, 1) := by decide +kernel
theorem dX3_partRows_13 : decode cX3_partRows 13 = .ok (.aload_n 0, 1) := by decide +kernel
theorem dX3_partRows_14 : decode cX3_partRows 14 = .ok (.getfield 32, 3) := by decide +kernel
theorem dX3_partRows_17 : decode cX3_partRows 17 = .ok (.getfield 36, 3) := by decide +kernel
theorem dX3_partRows_20 : decode cX3_partRows 20 = .ok (.if_icmp .ge 58, 3) := by decide +kernel
theorem dX3_partRows_23 : decode cX3_partRows 23 = .ok (.aload_n 0, 1) := by decide +kernel
theorem dX3_partRows_24 : decode cX3_partRows 24 = .ok (.getfield 32, 3) := by decide +kernel
theorem dX3_partRows_27 : decode cX3_partRows 27 = .ok (.iload_n 3, 1) := by decide +kernel
theorem dX3_partRows_28 : decode cX3_partRows 28 = .ok (.iload_n 1, 1) := by decide +kernel
theorem dX3_partRows_29 : decode cX3_partRows 29 = .ok (.invokevirtual 66, 3) := by decide +kernel
theorem dX3_partRows_32 : decode cX3_partRows 32 = .ok (.ifCond .ne 6, 3) := by decide +kernel
theorem dX3_partRows_35 : decode cX3_partRows 35 = .ok (.goto 37, 3) := by decide +kernel
theorem dX3_partRows_38 : decode cX3_partRows 38 = .ok (.aload_n 0, 1) := by decide +kernel
theorem dX3_partRows_39 : decode cX3_partRows 39 = .ok (.getfield 12, 3) := by decide +kernel
theorem dX3_partRows_42 : decode cX3_partRows 42 = .ok (.iload_n 3, 1) := by decide +kernel
theorem dX3_partRows_43 : decode cX3_partRows 43 = .ok (.iload_n 2, 1) := by decide +kernel
theorem dX3_partRows_44 : decode cX3_partRows 44 = .ok (.invokevirtual 101, 3) := by decide +kernel
theorem dX3_partRows_47 : decode cX3_partRows 47 = .ok (.istore 4, 2) := by decide +kernel
theorem dX3_partRows_49 : decode cX3_partRows 49 = .ok (.iload 4, 2) := by decide +kernel
theorem dX3_partRows_51 : decode cX3_partRows 51 = .ok (.ifCond .lt 21, 3) := by decide +kernel
theorem dX3_partRows_54 : decode cX3_partRows 54 = .ok (.aload_n 0, 1) := by decide +kernel
theorem dX3_partRows_55 : decode cX3_partRows 55 = .ok (.getfield 12, 3) := by decide +kernel
theorem dX3_partRows_58 : decode cX3_partRows 58 = .ok (.getfield 80, 3) := by decide +kernel
theorem dX3_partRows_61 : decode cX3_partRows 61 = .ok (.iload 4, 2) := by decide +kernel
theorem dX3_partRows_63 : decode cX3_partRows 63 = .ok (.aload_n 0, 1) := by decide +kernel
theorem dX3_partRows_64 : decode cX3_partRows 64 = .ok (.iload_n 3, 1) := by decide +kernel
theorem dX3_partRows_65 : decode cX3_partRows 65 = .ok (.iload_n 2, 1) := by decide +kernel
theorem dX3_partRows_66 : decode cX3_partRows 66 = .ok (.iload 4, 2) := by decide +kernel
theorem dX3_partRows_68 : decode cX3_partRows 68 = .ok (.invokevirtual 104, 3) := by decide +kernel
theorem dX3_partRows_71 : decode cX3_partRows 71 = .ok (.iastore, 1) := by decide +kernel
theorem dX3_partRows_72 : decode cX3_partRows 72 = .ok (.iinc 3 1, 3) := by decide +kernel
theorem dX3_partRows_75 : decode cX3_partRows 75 = .ok (.goto (-63), 3) := by decide +kernel
theorem dX3_partRows_78 : decode cX3_partRows 78 = .ok (.return_, 1) := by decide +kernel
theorem dX3_parted_0 : decode cX3_parted 0 = .ok (.bipush 100, 2) := by decide +kernel
theorem dX3_parted_2 : decode cX3_parted 2 = .ok (.aload_n 0, 1) := by decide +kernel
theorem dX3_parted_3 : decode cX3_parted 3 = .ok (.getfield 12, 3) := by decide +kernel
theorem dX3_parted_6 : decode cX3_parted 6 = .ok (.getfield 80, 3) := by decide +kernel
theorem dX3_parted_9 : decode cX3_parted 9 = .ok (.iload_n 3, 1) := by decide +kernel
theorem dX3_parted_10 : decode cX3_parted 10 = .ok (.iaload, 1) := by decide +kernel
theorem dX3_parted_11 : decode cX3_parted 11 = .ok (.imul, 1) := by decide +kernel
theorem dX3_parted_12 : decode cX3_parted 12 = .ok (.aload_n 0, 1) := by decide +kernel
theorem dX3_parted_13 : decode cX3_parted 13 = .ok (.getfield 32, 3) := by decide +kernel
theorem dX3_parted_16 : decode cX3_parted 16 = .ok (.iload_n 1, 1) := by decide +kernel
theorem dX3_parted_17 : decode cX3_parted 17 = .ok (.iload_n 2, 1) := by decide +kernel
theorem dX3_parted_18 : decode cX3_parted 18 = .ok (.iconst 1, 1) := by decide +kernel
theorem dX3_parted_19 : decode cX3_parted 19 = .ok (.iadd, 1) := by decide +kernel
theorem dX3_parted_20 : decode cX3_parted 20 = .ok (.invokevirtual 51, 3) := by decide +kernel
theorem dX3_parted_23 : decode cX3_parted 23 = .ok (.iadd, 1) := by decide +kernel
theorem dX3_parted_24 : decode cX3_parted 24 = .ok (.ireturn, 1) := by decide +kernel
theorem dX3_joinRows_0 : decode cX3_joinRows 0 = .ok (.aload_n 0, 1) := by decide +kernel
theorem dX3_joinRows_1 : decode cX3_joinRows 1 = .ok (.getfield 32, 3) := by decide +kernel
theorem dX3_joinRows_4 : decode cX3_joinRows 4 = .ok (.getfield 45, 3) := by decide +kernel
theorem dX3_joinRows_7 : decode cX3_joinRows 7 = .ok (.iload_n 2, 1) := by decide +kernel
theorem dX3_joinRows_8 : decode cX3_joinRows 8 = .ok (.iaload, 1) := by decide +kernel
theorem dX3_joinRows_9 : decode cX3_joinRows 9 = .ok (.istore_n 3, 1) := by decide +kernel
theorem dX3_joinRows_10 : decode cX3_joinRows 10 = .ok (.aload_n 0, 1) := by decide +kernel
theorem dX3_joinRows_11 : decode cX3_joinRows 11 = .ok (.getfield 12, 3) := by decide +kernel
theorem dX3_joinRows_14 : decode cX3_joinRows 14 = .ok (.iload_n 1, 1) := by decide +kernel
theorem dX3_joinRows_15 : decode cX3_joinRows 15 = .ok (.iload_n 3, 1) := by decide +kernel
theorem dX3_joinRows_16 : decode cX3_joinRows 16 = .ok (.invokevirtual 101, 3) := by decide +kernel
theorem dX3_joinRows_19 : decode cX3_joinRows 19 = .ok (.istore 4, 2) := by decide +kernel
theorem dX3_joinRows_21 : decode cX3_joinRows 21 = .ok (.iload 4, 2) := by decide +kernel
theorem dX3_joinRows_23 : decode cX3_joinRows 23 = .ok (.ifCond .ge 4, 3) := by decide +kernel
theorem dX3_joinRows_26 : decode cX3_joinRows 26 = .ok (.return_, 1) := by decide +kernel
theorem dX3_joinRows_27 : decode cX3_joinRows 27 = .ok (.aload_n 0, 1) := by decide +kernel
theorem dX3_joinRows_28 : decode cX3_joinRows 28 = .ok (.getfield 12, 3) := by decide +kernel
theorem dX3_joinRows_31 : decode cX3_joinRows 31 = .ok (.getfield 80, 3) := by decide +kernel
theorem dX3_joinRows_34 : decode cX3_joinRows 34 = .ok (.iload 4, 2) := by decide +kernel
theorem dX3_joinRows_36 : decode cX3_joinRows 36 = .ok (.iaload, 1) := by decide +kernel
theorem dX3_joinRows_37 : decode cX3_joinRows 37 = .ok (.istore 5, 2) := by decide +kernel
theorem dX3_joinRows_39 : decode cX3_joinRows 39 = .ok (.iconst 0, 1) := by decide +kernel
theorem dX3_joinRows_40 : decode cX3_joinRows 40 = .ok (.istore 6, 2) := by decide +kernel
theorem dX3_joinRows_42 : decode cX3_joinRows 42 = .ok (.iload 6, 2) := by decide +kernel
theorem dX3_joinRows_44 : decode cX3_joinRows 44 = .ok (.aload_n 0, 1) := by decide +kernel
theorem dX3_joinRows_45 : decode cX3_joinRows 45 = .ok (.getfield 32, 3) := by decide +kernel
theorem dX3_joinRows_48 : decode cX3_joinRows 48 = .ok (.getfield 36, 3) := by decide +kernel
theorem dX3_joinRows_51 : decode cX3_joinRows 51 = .ok (.if_icmp .ge 54, 3) := by decide +kernel
theorem dX3_joinRows_54 : decode cX3_joinRows 54 = .ok (.aload_n 0, 1) := by decide +kernel
theorem dX3_joinRows_55 : decode cX3_joinRows 55 = .ok (.getfield 32, 3) := by decide +kernel
theorem dX3_joinRows_58 : decode cX3_joinRows 58 = .ok (.iload 6, 2) := by decide +kernel
theorem dX3_joinRows_60 : decode cX3_joinRows 60 = .ok (.iload_n 2, 1) := by decide +kernel
theorem dX3_joinRows_61 : decode cX3_joinRows 61 = .ok (.invokevirtual 66, 3) := by decide +kernel
theorem dX3_joinRows_64 : decode cX3_joinRows 64 = .ok (.ifCond .ne 6, 3) := by decide +kernel
theorem dX3_joinRows_67 : decode cX3_joinRows 67 = .ok (.goto 32, 3) := by decide +kernel
theorem dX3_joinRows_70 : decode cX3_joinRows 70 = .ok (.aload_n 0, 1) := by decide +kernel
theorem dX3_joinRows_71 : decode cX3_joinRows 71 = .ok (.getfield 12, 3) := by decide +kernel
theorem dX3_joinRows_74 : decode cX3_joinRows 74 = .ok (.iload 6, 2) := by decide +kernel
theorem dX3_joinRows_76 : decode cX3_joinRows 76 = .ok (.iload_n 3, 1) := by decide +kernel
theorem dX3_joinRows_77 : decode cX3_joinRows 77 = .ok (.invokevirtual 101, 3) := by decide +kernel
theorem dX3_joinRows_80 : decode cX3_joinRows 80 = .ok (.istore 7, 2) := by decide +kernel
theorem dX3_joinRows_82 : decode cX3_joinRows 82 = .ok (.iload 7, 2) := by decide +kernel
theorem dX3_joinRows_84 : decode cX3_joinRows 84 = .ok (.ifCond .lt 15, 3) := by decide +kernel
theorem dX3_joinRows_87 : decode cX3_joinRows 87 = .ok (.aload_n 0, 1) := by decide +kernel
theorem dX3_joinRows_88 : decode cX3_joinRows 88 = .ok (.getfield 12, 3) := by decide +kernel
theorem dX3_joinRows_91 : decode cX3_joinRows 91 = .ok (.getfield 80, 3) := by decide +kernel
theorem dX3_joinRows_94 : decode cX3_joinRows 94 = .ok (.iload 7, 2) := by decide +kernel
theorem dX3_joinRows_96 : decode cX3_joinRows 96 = .ok (.iload 5, 2) := by decide +kernel
theorem dX3_joinRows_98 : decode cX3_joinRows 98 = .ok (.iastore, 1) := by decide +kernel
theorem dX3_joinRows_99 : decode cX3_joinRows 99 = .ok (.iinc 6 1, 3) := by decide +kernel
theorem dX3_joinRows_102 : decode cX3_joinRows 102 = .ok (.goto (-60), 3) := by decide +kernel
theorem dX3_joinRows_105 : decode cX3_joinRows 105 = .ok (.return_, 1) := by decide +kernel
theorem dX4_init_0 : decode cX4_init 0 = .ok (.aload_n 0, 1) := by decide +kernel
theorem dX4_init_1 : decode cX4_init 1 = .ok (.invokespecial 3, 3) := by decide +kernel
theorem dX4_init_4 : decode cX4_init 4 = .ok (.aload_n 0, 1) := by decide +kernel
theorem dX4_init_5 : decode cX4_init 5 = .ok (.bipush 40, 2) := by decide +kernel
theorem dX4_init_7 : decode cX4_init 7 = .ok (.newarray .int, 2) := by decide +kernel
theorem dX4_init_9 : decode cX4_init 9 = .ok (.putfield 9, 3) := by decide +kernel
theorem dX4_init_12 : decode cX4_init 12 = .ok (.aload_n 0, 1) := by decide +kernel
theorem dX4_init_13 : decode cX4_init 13 = .ok (.bipush 40, 2) := by decide +kernel
theorem dX4_init_15 : decode cX4_init 15 = .ok (.newarray .int, 2) := by decide +kernel
theorem dX4_init_17 : decode cX4_init 17 = .ok (.putfield 15, 3) := by decide +kernel
theorem dX4_init_20 : decode cX4_init 20 = .ok (.aload_n 0, 1) := by decide +kernel
theorem dX4_init_21 : decode cX4_init 21 = .ok (.sipush 480, 3) := by decide +kernel
theorem dX4_init_24 : decode cX4_init 24 = .ok (.newarray .byte, 2) := by decide +kernel
theorem dX4_init_26 : decode cX4_init 26 = .ok (.putfield 18, 3) := by decide +kernel
theorem dX4_init_29 : decode cX4_init 29 = .ok (.return_, 1) := by decide +kernel
theorem dX4_isEmpty_0 : decode cX4_isEmpty 0 = .ok (.aload_n 0, 1) := by decide +kernel
theorem dX4_isEmpty_1 : decode cX4_isEmpty 1 = .ok (.getfield 9, 3) := by decide +kernel
theorem dX4_isEmpty_4 : decode cX4_isEmpty 4 = .ok (.iload_n 1, 1) := by decide +kernel
theorem dX4_isEmpty_5 : decode cX4_isEmpty 5 = .ok (.iaload, 1) := by decide +kernel
theorem dX4_isEmpty_6 : decode cX4_isEmpty 6 = .ok (.ifCond .ne 7, 3) := by decide +kernel
theorem dX4_isEmpty_9 : decode cX4_isEmpty 9 = .ok (.iconst 1, 1) := by decide +kernel
theorem dX4_isEmpty_10 : decode cX4_isEmpty 10 = .ok (.goto 4, 3) := by decide +kernel
theorem dX4_isEmpty_13 : decode cX4_isEmpty 13 = .ok (.iconst 0, 1) := by decide +kernel
theorem dX4_isEmpty_14 : decode cX4_isEmpty 14 = .ok (.ireturn, 1) := by decide +kernel
theorem dX4_isNode_0 : decode cX4_isNode 0 = .ok (.aload_n 0, 1) := by decide +kernel
theorem dX4_isNode_1 : decode cX4_isNode 1 = .ok (.getfield 9, 3) := by decide +kernel
theorem dX4_isNode_4 : decode cX4_isNode 4 = .ok (.iload_n 1, 1) := by decide +kernel
theorem dX4_isNode_5 : decode cX4_isNode 5 = .ok (.iaload, 1) := by decide +kernel
theorem dX4_isNode_6 : decode cX4_isNode 6 = .ok (.iconst 1, 1) := by decide +kernel
theorem dX4_isNode_7 : decode cX4_isNode 7 = .ok (.if_icmp .ne 7, 3) := by decide +kernel
theorem dX4_isNode_10 : decode cX4_isNode 10 = .ok (.iconst 1, 1) := by decide +kernel
theorem dX4_isNode_11 : decode cX4_isNode 11 = .ok (.goto 4, 3) := by decide +kernel
theorem dX4_isNode_14 : decode cX4_isNode 14 = .ok (.iconst 0, 1) := by decide +kernel
theorem dX4_isNode_15 : decode cX4_isNode 15 = .ok (.ireturn, 1) := by decide +kernel
theorem dX4_isNote_0 : decode cX4_isNote 0 = .ok (.aload_n 0, 1) := by decide +kernel
theorem dX4_isNote_1 : decode cX4_isNote 1 = .ok (.getfield 9, 3) := by decide +kernel
theorem dX4_isNote_4 : decode cX4_isNote 4 = .ok (.iload_n 1, 1) := by decide +kernel
theorem dX4_isNote_5 : decode cX4_isNote 5 = .ok (.iaload, 1) := by decide +kernel
theorem dX4_isNote_6 : decode cX4_isNote 6 = .ok (.iconst 2, 1) := by decide +kernel
theorem dX4_isNote_7 : decode cX4_isNote 7 = .ok (.if_icmp .ne 7, 3) := by decide +kernel
theorem dX4_isNote_10 : decode cX4_isNote 10 = .ok (.iconst 1, 1) := by decide +kernel
theorem dX4_isNote_11 : decode cX4_isNote 11 = .ok (.goto 4, 3) := by decide +kernel
theorem dX4_isNote_14 : decode cX4_isNote 14 = .ok (.iconst 0, 1) := by decide +kernel
theorem dX4_isNote_15 : decode cX4_isNote 15 = .ok (.ireturn, 1) := by decide +kernel
theorem dX4_empty_0 : decode cX4_empty 0 = .ok (.aload_n 0, 1) := by decide +kernel
theorem dX4_empty_1 : decode cX4_empty 1 = .ok (.getfield 9, 3) := by decide +kernel
theorem dX4_empty_4 : decode cX4_empty 4 = .ok (.iload_n 1, 1) := by decide +kernel
theorem dX4_empty_5 : decode cX4_empty 5 = .ok (.iconst 0, 1) := by decide +kernel
theorem dX4_empty_6 : decode cX4_empty 6 = .ok (.iastore, 1) := by decide +kernel
theorem dX4_empty_7 : decode cX4_empty 7 = .ok (.return_, 1) := by decide +kernel
theorem dX4_putNode_0 : decode cX4_putNode 0 = .ok (.aload_n 0, 1) := by decide +kernel
theorem dX4_putNode_1 : decode cX4_putNode 1 = .ok (.getfield 9, 3) := by decide +kernel
theorem dX4_putNode_4 : decode cX4_putNode 4 = .ok (.iload_n 1, 1) := by decide +kernel
theorem dX4_putNode_5 : decode cX4_putNode 5 = .ok (.iconst 1, 1) := by decide +kernel
theorem dX4_putNode_6 : decode cX4_putNode 6 = .ok (.iastore, 1) := by decide +kernel
theorem dX4_putNode_7 : decode cX4_putNode 7 = .ok (.aload_n 0, 1) := by decide +kernel
theorem dX4_putNode_8 : decode cX4_putNode 8 = .ok (.getfield 15, 3) := by decide +kernel
theorem dX4_putNode_11 : decode cX4_putNode 11 = .ok (.iload_n 1, 1) := by decide +kernel
theorem dX4_putNode_12 : decode cX4_putNode 12 = .ok (.iload_n 2, 1) := by decide +kernel
theorem dX4_putNode_13 : decode cX4_putNode 13 = .ok (.iastore, 1) := by decide +kernel
theorem dX4_putNode_14 : decode cX4_putNode 14 = .ok (.return_, 1) := by decide +kernel
theorem dX4_putNote_0 : decode cX4_putNote 0 = .ok (.aload_n 0, 1) := by decide +kernel
theorem dX4_putNote_1 : decode cX4_putNote 1 = .ok (.getfield 9, 3) := by decide +kernel
theorem dX4_putNote_4 : decode cX4_putNote 4 = .ok (.iload_n 1, 1) := by decide +kernel
theorem dX4_putNote_5 : decode cX4_putNote 5 = .ok (.iconst 2, 1) := by decide +kernel
theorem dX4_putNote_6 : decode cX4_putNote 6 = .ok (.iastore, 1) := by decide +kernel
theorem dX4_putNote_7 : decode cX4_putNote 7 = .ok (.aload_n 0, 1) := by decide +kernel
theorem dX4_putNote_8 : decode cX4_putNote 8 = .ok (.getfield 15, 3) := by decide +kernel
theorem dX4_putNote_11 : decode cX4_putNote 11 = .ok (.iload_n 1, 1) := by decide +kernel
theorem dX4_putNote_12 : decode cX4_putNote 12 = .ok (.iload_n 2, 1) := by decide +kernel
theorem dX4_putNote_13 : decode cX4_putNote 13 = .ok (.iastore, 1) := by decide +kernel
theorem dX4_putNote_14 : decode cX4_putNote 14 = .ok (.aload_n 0, 1) := by decide +kernel
theorem dX4_putNote_15 : decode cX4_putNote 15 = .ok (.getfield 18, 3) := by decide +kernel
theorem dX4_putNote_18 : decode cX4_putNote 18 = .ok (.iload_n 1, 1) := by decide +kernel
theorem dX4_putNote_19 : decode cX4_putNote 19 = .ok (.bipush 12, 2) := by decide +kernel
theorem dX4_putNote_21 : decode cX4_putNote 21 = .ok (.imul, 1) := by decide +kernel
theorem dX4_putNote_22 : decode cX4_putNote 22 = .ok (.iload_n 1, 1) := by decide +kernel
theorem dX4_putNote_23 : decode cX4_putNote 23 = .ok (.bipush 12, 2) := by decide +kernel
theorem dX4_putNote_25 : decode cX4_putNote 25 = .ok (.imul, 1) := by decide +kernel
theorem dX4_putNote_26 : decode cX4_putNote 26 = .ok (.iload_n 2, 1) := by decide +kernel
theorem dX4_putNote_27 : decode cX4_putNote 27 = .ok (.iadd, 1) := by decide +kernel
theorem dX4_putNote_28 : decode cX4_putNote 28 = .ok (.iconst 0, 1) := by decide +kernel
theorem dX4_putNote_29 : decode cX4_putNote 29 = .ok (.invokestatic 22, 3) := by decide +kernel
theorem dX4_putNote_32 : decode cX4_putNote 32 = .ok (.return_, 1) := by decide +kernel
theorem dX4_change_0 : decode cX4_change 0 = .ok (.aload_n 0, 1) := by decide +kernel
theorem dX4_change_1 : decode cX4_change 1 = .ok (.getfield 18, 3) := by decide +kernel
theorem dX4_change_4 : decode cX4_change 4 = .ok (.iload_n 1, 1) := by decide +kernel
theorem dX4_change_5 : decode cX4_change 5 = .ok (.bipush 12, 2) := by decide +kernel
theorem dX4_change_7 : decode cX4_change 7 = .ok (.imul, 1) := by decide +kernel
theorem dX4_change_8 : decode cX4_change 8 = .ok (.iload_n 2, 1) := by decide +kernel
theorem dX4_change_9 : decode cX4_change 9 = .ok (.iadd, 1) := by decide +kernel
theorem dX4_change_10 : decode cX4_change 10 = .ok (.baload, 1) := by decide +kernel
theorem dX4_change_11 : decode cX4_change 11 = .ok (.istore 4, 2) := by decide +kernel
theorem dX4_change_13 : decode cX4_change 13 = .ok (.aload_n 0, 1) := by decide +kernel
theorem dX4_change_14 : decode cX4_change 14 = .ok (.getfield 18, 3) := by decide +kernel
theorem dX4_change_17 : decode cX4_change 17 = .ok (.iload_n 1, 1) := by decide +kernel
theorem dX4_change_18 : decode cX4_change 18 = .ok (.bipush 12, 2) := by decide +kernel
theorem dX4_change_20 : decode cX4_change 20 = .ok (.imul, 1) := by decide +kernel
theorem dX4_change_21 : decode cX4_change 21 = .ok (.iload_n 2, 1) := by decide +kernel
theorem dX4_change_22 : decode cX4_change 22 = .ok (.iadd, 1) := by decide +kernel
theorem dX4_change_23 : decode cX4_change 23 = .ok (.iload_n 3, 1) := by decide +kernel
theorem dX4_change_24 : decode cX4_change 24 = .ok (.i2b, 1) := by decide +kernel
theorem dX4_change_25 : decode cX4_change 25 = .ok (.bastore, 1) := by decide +kernel
theorem dX4_change_26 : decode cX4_change 26 = .ok (.iload 4, 2) := by decide +kernel
theorem dX4_change_28 : decode cX4_change 28 = .ok (.ireturn, 1) := by decide +kernel
theorem dX4_spans_0 : decode cX4_spans 0 = .ok (.iload_n 2, 1) := by decide +kernel
theorem dX4_spans_1 : decode cX4_spans 1 = .ok (.ifCond .lt 27, 3) := by decide +kernel
theorem dX4_spans_4 : decode cX4_spans 4 = .ok (.iload_n 3, 1) := by decide +kernel
theorem dX4_spans_5 : decode cX4_spans 5 = .ok (.ifCond .lt 23, 3) := by decide +kernel
theorem dX4_spans_8 : decode cX4_spans 8 = .ok (.iload_n 2, 1) := by decide +kernel
theorem dX4_spans_9 : decode cX4_spans 9 = .ok (.i2l, 1) := by decide +kernel
theorem dX4_spans_10 : decode cX4_spans 10 = .ok (.iload_n 3, 1) := by decide +kernel
theorem dX4_spans_11 : decode cX4_spans 11 = .ok (.i2l, 1) := by decide +kernel
theorem dX4_spans_12 : decode cX4_spans 12 = .ok (.ladd, 1) := by decide +kernel
theorem dX4_spans_13 : decode cX4_spans 13 = .ok (.aload_n 0, 1) := by decide +kernel
theorem dX4_spans_14 : decode cX4_spans 14 = .ok (.getfield 15, 3) := by decide +kernel
theorem dX4_spans_17 : decode cX4_spans 17 = .ok (.iload_n 1, 1) := by decide +kernel
theorem dX4_spans_18 : decode cX4_spans 18 = .ok (.iaload, 1) := by decide +kernel
theorem dX4_spans_19 : decode cX4_spans 19 = .ok (.i2l, 1) := by decide +kernel
theorem dX4_spans_20 : decode cX4_spans 20 = .ok (.lcmp, 1) := by decide +kernel
theorem dX4_spans_21 : decode cX4_spans 21 = .ok (.ifCond .gt 7, 3) := by decide +kernel
theorem dX4_spans_24 : decode cX4_spans 24 = .ok (.iconst 1, 1) := by decide +kernel
theorem dX4_spans_25 : decode cX4_spans 25 = .ok (.goto 4, 3) := by decide +kernel
theorem dX4_spans_28 : decode cX4_spans 28 = .ok (.iconst 0, 1) := by decide +kernel
theorem dX4_spans_29 : decode cX4_spans 29 = .ok (.ireturn, 1) := by decide +kernel
theorem dX4_move_0 : decode cX4_move 0 = .ok (.aload_n 0, 1) := by decide +kernel
theorem dX4_move_1 : decode cX4_move 1 = .ok (.getfield 18, 3) := by decide +kernel
theorem dX4_move_4 : decode cX4_move 4 = .ok (.iload_n 1, 1) := by decide +kernel
theorem dX4_move_5 : decode cX4_move 5 = .ok (.bipush 12, 2) := by decide +kernel
theorem dX4_move_7 : decode cX4_move 7 = .ok (.imul, 1) := by decide +kernel
theorem dX4_move_8 : decode cX4_move 8 = .ok (.iload_n 2, 1) := by decide +kernel
theorem dX4_move_9 : decode cX4_move 9 = .ok (.iadd, 1) := by decide +kernel
theorem dX4_move_10 : decode cX4_move 10 = .ok (.aload_n 0, 1) := by decide +kernel
theorem dX4_move_11 : decode cX4_move 11 = .ok (.getfield 18, 3) := by decide +kernel
theorem dX4_move_14 : decode cX4_move 14 = .ok (.iload_n 3, 1) := by decide +kernel
theorem dX4_move_15 : decode cX4_move 15 = .ok (.bipush 12, 2) := by decide +kernel
theorem dX4_move_17 : decode cX4_move 17 = .ok (.imul, 1) := by decide +kernel
theorem dX4_move_18 : decode cX4_move 18 = .ok (.iload 4, 2) := by decide +kernel
theorem dX4_move_20 : decode cX4_move 20 = .ok (.iadd, 1) := by decide +kernel
theorem dX4_move_21 : decode cX4_move 21 = .ok (.iload 5, 2) := by decide +kernel
theorem dX4_move_23 : decode cX4_move 23 = .ok (.invokestatic 28, 3) := by decide +kernel
theorem dX4_move_26 : decode cX4_move 26 = .ok (.return_, 1) := by decide +kernel
theorem dX5_init_0 : decode cX5_init 0 = .ok (.aload_n 0, 1) := by decide +kernel
theorem dX5_init_1 : decode cX5_init 1 = .ok (.invokespecial 3, 3) := by decide +kernel
theorem dX5_init_4 : decode cX5_init 4 = .ok (.aload_n 0, 1) := by decide +kernel
theorem dX5_init_5 : decode cX5_init 5 = .ok (.iload_n 1, 1) := by decide +kernel
theorem dX5_init_6 : decode cX5_init 6 = .ok (.putfield 9, 3) := by decide +kernel
theorem dX5_init_9 : decode cX5_init 9 = .ok (.aload_n 0, 1) := by decide +kernel
theorem dX5_init_10 : decode cX5_init 10 = .ok (.iload_n 2, 1) := by decide +kernel
theorem dX5_init_11 : decode cX5_init 11 = .ok (.newarray .int, 2) := by decide +kernel
theorem dX5_init_13 : decode cX5_init 13 = .ok (.putfield 15, 3) := by decide +kernel
theorem dX5_init_16 : decode cX5_init 16 = .ok (.aload_n 0, 1) := by decide +kernel
theorem dX5_init_17 : decode cX5_init 17 = .ok (.iload_n 2, 1) := by decide +kernel
theorem dX5_init_18 : decode cX5_init 18 = .ok (.bipush 20, 2) := by decide +kernel
theorem dX5_init_20 : decode cX5_init 20 = .ok (.imul, 1) := by decide +kernel
theorem dX5_init_21 : decode cX5_init 21 = .ok (.newarray .long, 2) := by decide +kernel
theorem dX5_init_23 : decode cX5_init 23 = .ok (.putfield 19, 3) := by decide +kernel
theorem dX5_init_26 : decode cX5_init 26 = .ok (.aload_n 0, 1) := by decide +kernel
theorem dX5_init_27 : decode cX5_init 27 = .ok (.getfield 15, 3) := by decide +kernel
theorem dX5_init_30 : decode cX5_init 30 = .ok (.iconst (-1), 1) := by decide +kernel
theorem dX5_init_31 : decode cX5_init 31 = .ok (.invokestatic 23, 3) := by decide +kernel
theorem dX5_init_34 : decode cX5_init 34 = .ok (.return_, 1) := by decide +kernel
theorem dX5_hasRow_0 : decode cX5_hasRow 0 = .ok (.lload_n 1, 1) := by decide +kernel
theorem dX5_hasRow_1 : decode cX5_hasRow 1 = .ok (.lconst 0, 1) := by decide +kernel
theorem dX5_hasRow_2 : decode cX5_hasRow 2 = .ok (.lcmp, 1) := by decide +kernel
theorem dX5_hasRow_3 : decode cX5_hasRow 3 = .ok (.ifCond .lt 18, 3) := by decide +kernel
theorem dX5_hasRow_6 : decode cX5_hasRow 6 = .ok (.lload_n 1, 1) := by decide +kernel
theorem dX5_hasRow_7 : decode cX5_hasRow 7 = .ok (.aload_n 0, 1) := by decide +kernel
theorem dX5_hasRow_8 : decode cX5_hasRow 8 = .ok (.getfield 15, 3) := by decide +kernel
theorem dX5_hasRow_11 : decode cX5_hasRow 11 = .ok (.arraylength, 1) := by decide +kernel
theorem dX5_hasRow_12 : decode cX5_hasRow 12 = .ok (.i2l, 1) := by decide +kernel
theorem dX5_hasRow_13 : decode cX5_hasRow 13 = .ok (.lcmp, 1) := by decide +kernel
theorem dX5_hasRow_14 : decode cX5_hasRow 14 = .ok (.ifCond .ge 7, 3) := by decide +kernel
theorem dX5_hasRow_17 : decode cX5_hasRow 17 = .ok (.iconst 1, 1) := by decide +kernel
theorem dX5_hasRow_18 : decode cX5_hasRow 18 = .ok (.goto 4, 3) := by decide +kernel
theorem dX5_hasRow_21 : decode cX5_hasRow 21 = .ok (.iconst 0, 1) := by decide +kernel
theorem dX5_hasRow_22 : decode cX5_hasRow 22 = .ok (.ireturn, 1) := by decide +kernel
theorem dX5_renew_0 : decode cX5_renew 0 = .ok (.aload_n 0, 1) := by decide +kernel
theorem dX5_renew_1 : decode cX5_renew 1 = .ok (.getfield 15, 3) := by decide +kernel
theorem dX5_renew_4 : decode cX5_renew 4 = .ok (.iload_n 1, 1) := by decide +kernel
theorem dX5_renew_5 : decode cX5_renew 5 = .ok (.iload_n 2, 1) := by decide +kernel
theorem dX5_renew_6 : decode cX5_renew 6 = .ok (.iastore, 1) := by decide +kernel
theorem dX5_renew_7 : decode cX5_renew 7 = .ok (.aload_n 0, 1) := by decide +kernel
theorem dX5_renew_8 : decode cX5_renew 8 = .ok (.getfield 19, 3) := by decide +kernel
theorem dX5_renew_11 : decode cX5_renew 11 = .ok (.iload_n 1, 1) := by decide +kernel
theorem dX5_renew_12 : decode cX5_renew 12 = .ok (.bipush 20, 2) := by decide +kernel
theorem dX5_renew_14 : decode cX5_renew 14 = .ok (.imul, 1) := by decide +kernel
theorem dX5_renew_15 : decode cX5_renew 15 = .ok (.iload_n 1, 1) := by decide +kernel
theorem dX5_renew_16 : decode cX5_renew 16 = .ok (.bipush 20, 2) := by decide +kernel
theorem dX5_renew_18 : decode cX5_renew 18 = .ok (.imul, 1) := by decide +kernel
theorem dX5_renew_19 : decode cX5_renew 19 = .ok (.iload_n 2, 1) := by decide +kernel
theorem dX5_renew_20 : decode cX5_renew 20 = .ok (.iadd, 1) := by decide +kernel
theorem dX5_renew_21 : decode cX5_renew 21 = .ok (.lconst 0, 1) := by decide +kernel
theorem dX5_renew_22 : decode cX5_renew 22 = .ok (.invokestatic 29, 3) := by decide +kernel
theorem dX5_renew_25 : decode cX5_renew 25 = .ok (.return_, 1) := by decide +kernel
theorem dX5_lack_0 : decode cX5_lack 0 = .ok (.aload_n 0, 1) := by decide +kernel
theorem dX5_lack_1 : decode cX5_lack 1 = .ok (.lload_n 1, 1) := by decide +kernel
theorem dX5_lack_2 : decode cX5_lack 2 = .ok (.invokevirtual 32, 3) := by decide +kernel
theorem dX5_lack_5 : decode cX5_lack 5 = .ok (.ifCond .ne 5, 3) := by decide +kernel
theorem dX5_lack_8 : decode cX5_lack 8 = .ok (.iconst 2, 1) := by decide +kernel
theorem dX5_lack_9 : decode cX5_lack 9 = .ok (.ireturn, 1) := by decide +kernel
theorem dX5_lack_10 : decode cX5_lack 10 = .ok (.aload_n 0, 1) := by decide +kernel
theorem dX5_lack_11 : decode cX5_lack 11 = .ok (.getfield 15, 3) := by decide +kernel
theorem dX5_lack_14 : decode cX5_lack 14 = .ok (.lload_n 1, 1) := by decide +kernel
theorem dX5_lack_15 : decode cX5_lack 15 = .ok (.l2i, 1) := by decide +kernel
theorem dX5_lack_16 : decode cX5_lack 16 = .ok (.iaload, 1) := by decide +kernel
theorem dX5_lack_17 : decode cX5_lack 17 = .ok (.istore 5, 2) := by decide +kernel
theorem dX5_lack_19 : decode cX5_lack 19 = .ok (.iload 5, 2) := by decide +kernel
theorem dX5_lack_21 : decode cX5_lack 21 = .ok (.iconst (-1), 1) := by decide +kernel
theorem dX5_lack_22 : decode cX5_lack 22 = .ok (.if_icmp .ne 5, 3) := by decide +kernel
theorem dX5_lack_25 : decode cX5_lack 25 = .ok (.iconst 1, 1) := by decide +kernel
theorem dX5_lack_26 : decode cX5_lack 26 = .ok (.ireturn, 1) := by decide +kernel
theorem dX5_lack_27 : decode cX5_lack 27 = .ok (.lload_n 3, 1) := by decide +kernel
theorem dX5_lack_28 : decode cX5_lack 28 = .ok (.lconst 0, 1) := by decide +kernel
theorem dX5_lack_29 : decode cX5_lack 29 = .ok (.lcmp, 1) := by decide +kernel
theorem dX5_lack_30 : decode cX5_lack 30 = .ok (.ifCond .lt 15, 3) := by decide +kernel
theorem dX5_lack_33 : decode cX5_lack 33 = .ok (.lload_n 3, 1) := by decide +kernel
theorem dX5_lack_34 : decode cX5_lack 34 = .ok (.iload 5, 2) := by decide +kernel
theorem dX5_lack_36 : decode cX5_lack 36 = .ok (.i2l, 1) := by decide +kernel
theorem dX5_lack_37 : decode cX5_lack 37 = .ok (.lcmp, 1) := by decide +kernel
theorem dX5_lack_38 : decode cX5_lack 38 = .ok (.ifCond .ge 7, 3) := by decide +kernel
theorem dX5_lack_41 : decode cX5_lack 41 = .ok (.iconst 0, 1) := by decide +kernel
theorem dX5_lack_42 : decode cX5_lack 42 = .ok (.goto 4, 3) := by decide +kernel
theorem dX5_lack_45 : decode cX5_lack 45 = .ok (.iconst 2, 1) := by decide +kernel
theorem dX5_lack_46 : decode cX5_lack 46 = .ok (.ireturn, 1) := by decide +kernel
theorem dX5_load_0 : decode cX5_load 0 = .ok (.aload_n 0, 1) := by decide +kernel
theorem dX5_load_1 : decode cX5_load 1 = .ok (.getfield 19, 3) := by decide +kernel
theorem dX5_load_4 : decode cX5_load 4 = .ok (.iload_n 1, 1) := by decide +kernel
theorem dX5_load_5 : decode cX5_load 5 = .ok (.bipush 20, 2) := by decide +kernel
theorem dX5_load_7 : decode cX5_load 7 = .ok (.imul, 1) := by decide +kernel
theorem dX5_load_8 : decode cX5_load 8 = .ok (.iload_n 2, 1) := by decide +kernel
theorem dX5_load_9 : decode cX5_load 9 = .ok (.iadd, 1) := by decide +kernel
theorem dX5_load_10 : decode cX5_load 10 = .ok (.laload, 1) := by decide +kernel
theorem dX5_load_11 : decode cX5_load 11 = .ok (.lreturn, 1) := by decide +kernel
theorem dX5_store_0 : decode cX5_store 0 = .ok (.aload_n 0, 1) := by decide +kernel
theorem dX5_store_1 : decode cX5_store 1 = .ok (.getfield 19, 3) := by decide +kernel
theorem dX5_store_4 : decode cX5_store 4 = .ok (.iload_n 1, 1) := by decide +kernel
theorem dX5_store_5 : decode cX5_store 5 = .ok (.bipush 20, 2) := by decide +kernel
theorem dX5_store_7 : decode cX5_store 7 = .ok (.imul, 1) := by decide +kernel
theorem dX5_store_8 : decode cX5_store 8 = .ok (.iload_n 2, 1) := by decide +kernel
theorem dX5_store_9 : decode cX5_store 9 = .ok (.iadd, 1) := by decide +kernel
theorem dX5_store_10 : decode cX5_store 10 = .ok (.aload_n 0, 1) := by decide +kernel
theorem dX5_store_11 : decode cX5_store 11 = .ok (.lload_n 3, 1) := by decide +kernel
theorem dX5_store_12 : decode cX5_store 12 = .ok (.invokevirtual 36, 3) := by decide +kernel
theorem dX5_store_15 : decode cX5_store 15 = .ok (.lastore, 1) := by decide +kernel
theorem dX5_store_16 : decode cX5_store 16 = .ok (.return_, 1) := by decide +kernel
theorem dX5_cut_0 : decode cX5_cut 0 = .ok (.aload_n 0, 1) := by decide +kernel
theorem dX5_cut_1 : decode cX5_cut 1 = .ok (.getfield 9, 3) := by decide +kernel
theorem dX5_cut_4 : decode cX5_cut 4 = .ok (.tableswitch 42 0 2 #[28, 33, 38], 28) := by decide +kernel
theorem dX5_cut_32 : decode cX5_cut 32 = .ok (.lload_n 1, 1) := by decide +kernel
theorem dX5_cut_33 : decode cX5_cut 33 = .ok (.l2i, 1) := by decide +kernel
theorem dX5_cut_34 : decode cX5_cut 34 = .ok (.i2b, 1) := by decide +kernel
theorem dX5_cut_35 : decode cX5_cut 35 = .ok (.i2l, 1) := by decide +kernel
theorem dX5_cut_36 : decode cX5_cut 36 = .ok (.lreturn, 1) := by decide +kernel
theorem dX5_cut_37 : decode cX5_cut 37 = .ok (.lload_n 1, 1) := by decide +kernel
theorem dX5_cut_38 : decode cX5_cut 38 = .ok (.l2i, 1) := by decide +kernel
theorem dX5_cut_39 : decode cX5_cut 39 = .ok (.i2s, 1) := by decide +kernel
theorem dX5_cut_40 : decode cX5_cut 40 = .ok (.i2l, 1) := by decide +kernel
theorem dX5_cut_41 : decode cX5_cut 41 = .ok (.lreturn, 1) := by decide +kernel
theorem dX5_cut_42 : decode cX5_cut 42 = .ok (.lload_n 1, 1) := by decide +kernel
theorem dX5_cut_43 : decode cX5_cut 43 = .ok (.l2i, 1) := by decide +kernel
theorem dX5_cut_44 : decode cX5_cut 44 = .ok (.i2l, 1) := by decide +kernel
theorem dX5_cut_45 : decode cX5_cut 45 = .ok (.lreturn, 1) := by decide +kernel
theorem dX5_cut_46 : decode cX5_cut 46 = .ok (.lload_n 1, 1) := by decide +kernel
theorem dX5_cut_47 : decode cX5_cut 47 = .ok (.lreturn, 1) := by decide +kernel
theorem dX5_mix_0 : decode cX5_mix 0 = .ok (.iconst 0, 1) := by decide +kernel
theorem dX5_mix_1 : decode cX5_mix 1 = .ok (.istore_n 3, 1) := by decide +kernel
theorem dX5_mix_2 : decode cX5_mix 2 = .ok (.iload_n 3, 1) := by decide +kernel
theorem dX5_mix_3 : decode cX5_mix 3 = .ok (.aload_n 0, 1) := by decide +kernel
theorem dX5_mix_4 : decode cX5_mix 4 = .ok (.getfield 15, 3) := by decide +kernel
theorem dX5_mix_7 : decode cX5_mix 7 = .ok (.arraylength, 1) := by decide +kernel
theorem dX5_mix_8 : decode cX5_mix 8 = .ok (.if_icmp .ge 57, 3) := by decide +kernel
theorem dX5_mix_11 : decode cX5_mix 11 = .ok (.ldc2_w 40, 3) := by decide +kernel
theorem dX5_mix_14 : decode cX5_mix 14 = .ok (.lload_n 1, 1) := by decide +kernel
theorem dX5_mix_15 : decode cX5_mix 15 = .ok (.lmul, 1) := by decide +kernel
theorem dX5_mix_16 : decode cX5_mix 16 = .ok (.aload_n 0, 1) := by decide +kernel
theorem dX5_mix_17 : decode cX5_mix 17 = .ok (.getfield 15, 3) := by decide +kernel
theorem dX5_mix_20 : decode cX5_mix 20 = .ok (.iload_n 3, 1) := by decide +kernel
theorem dX5_mix_21 : decode cX5_mix 21 = .ok (.iaload, 1) := by decide +kernel
theorem dX5_mix_22 : decode cX5_mix 22 = .ok (.i2l, 1) := by decide +kernel
theorem dX5_mix_23 : decode cX5_mix 23 = .ok (.ladd, 1) := by decide +kernel
theorem dX5_mix_24 : decode cX5_mix 24 = .ok (.lstore_n 1, 1) := by decide +kernel
theorem dX5_mix_25 : decode cX5_mix 25 = .ok (.iconst 0, 1) := by decide +kernel
theorem dX5_mix_26 : decode cX5_mix 26 = .ok (.istore 4, 2) := by decide +kernel
theorem dX5_mix_28 : decode cX5_mix 28 = .ok (.iload 4, 2) := by decide +kernel
theorem dX5_mix_30 : decode cX5_mix 30 = .ok (.aload_n 0, 1) := by decide +kernel
theorem dX5_mix_31 : decode cX5_mix 31 = .ok (.getfield 15, 3) := by decide +kernel
theorem dX5_mix_34 : decode cX5_mix 34 = .ok (.iload_n 3, 1) := by decide +kernel
theorem dX5_mix_35 : decode cX5_mix 35 = .ok (.iaload, 1) := by decide +kernel
theorem dX5_mix_36 : decode cX5_mix 36 = .ok (.if_icmp .ge 23, 3) := by decide +kernel
theorem dX5_mix_39 : decode cX5_mix 39 = .ok (.ldc2_w 40, 3) := by decide +kernel
theorem dX5_mix_42 : decode cX5_mix 42 = .ok (.lload_n 1, 1) := by decide +kernel
theorem dX5_mix_43 : decode cX5_mix 43 = .ok (.lmul, 1) := by decide +kernel
theorem dX5_mix_44 : decode cX5_mix 44 = .ok (.aload_n 0, 1) := by decide +kernel
theorem dX5_mix_45 : decode cX5_mix 45 = .ok (.iload_n 3, 1) := by decide +kernel
theorem dX5_mix_46 : decode cX5_mix 46 = .ok (.iload 4, 2) := by decide +kernel
theorem dX5_mix_48 : decode cX5_mix 48 = .ok (.invokevirtual 42, 3) := by decide +kernel
theorem dX5_mix_51 : decode cX5_mix 51 = .ok (.ladd, 1) := by decide +kernel
theorem dX5_mix_52 : decode cX5_mix 52 = .ok (.lstore_n 1, 1) := by decide +kernel
theorem dX5_mix_53 : decode cX5_mix 53 = .ok (.iinc 4 1, 3) := by decide +kernel
theorem dX5_mix_56 : decode cX5_mix 56 = .ok (.goto (-28), 3) := by decide +kernel
theorem dX5_mix_59 : decode cX5_mix 59 = .ok (.iinc 3 1, 3) := by decide +kernel
theorem dX5_mix_62 : decode cX5_mix 62 = .ok (.goto (-60), 3) := by decide +kernel
theorem dX5_mix_65 : decode cX5_mix 65 = .ok (.lload_n 1, 1) := by decide +kernel
theorem dX5_mix_66 : decode cX5_mix 66 = .ok (.lreturn, 1) := by decide +kernel
theorem dX6_init_0 : decode cX6_init 0 = .ok (.aload_n 0, 1) := by decide +kernel
theorem dX6_init_1 : decode cX6_init 1 = .ok (.invokespecial 3, 3) := by decide +kernel
theorem dX6_init_4 : decode cX6_init 4 = .ok (.aload_n 0, 1) := by decide +kernel
theorem dX6_init_5 : decode cX6_init 5 = .ok (.bipush 16, 2) := by decide +kernel
theorem dX6_init_7 : decode cX6_init 7 = .ok (.newarray .int, 2) := by decide +kernel
theorem dX6_init_9 : decode cX6_init 9 = .ok (.putfield 9, 3) := by decide +kernel
theorem dX6_init_12 : decode cX6_init 12 = .ok (.aload_n 0, 1) := by decide +kernel
theorem dX6_init_13 : decode cX6_init 13 = .ok (.bipush 16, 2) := by decide +kernel
theorem dX6_init_15 : decode cX6_init 15 = .ok (.newarray .long, 2) := by decide +kernel
theorem dX6_init_17 : decode cX6_init 17 = .ok (.putfield 15, 3) := by decide +kernel
theorem dX6_init_20 : decode cX6_init 20 = .ok (.aload_n 0, 1) := by decide +kernel
theorem dX6_init_21 : decode cX6_init 21 = .ok (.bipush 16, 2) := by decide +kernel
theorem dX6_init_23 : decode cX6_init 23 = .ok (.newarray .long, 2) := by decide +kernel
theorem dX6_init_25 : decode cX6_init 25 = .ok (.putfield 19, 3) := by decide +kernel
theorem dX6_init_28 : decode cX6_init 28 = .ok (.aload_n 0, 1) := by decide +kernel
theorem dX6_init_29 : decode cX6_init 29 = .ok (.iconst 0, 1) := by decide +kernel
theorem dX6_init_30 : decode cX6_init 30 = .ok (.putfield 22, 3) := by decide +kernel
theorem dX6_init_33 : decode cX6_init 33 = .ok (.aload_n 0, 1) := by decide +kernel
theorem dX6_init_34 : decode cX6_init 34 = .ok (.iconst 0, 1) := by decide +kernel
theorem dX6_init_35 : decode cX6_init 35 = .ok (.putfield 26, 3) := by decide +kernel
theorem dX6_init_38 : decode cX6_init 38 = .ok (.return_, 1) := by decide +kernel
theorem dX6_clear_0 : decode cX6_clear 0 = .ok (.aload_n 0, 1) := by decide +kernel
theorem dX6_clear_1 : decode cX6_clear 1 = .ok (.iload_n 1, 1) := by decide +kernel
theorem dX6_clear_2 : decode cX6_clear 2 = .ok (.bipush 16, 2) := by decide +kernel
theorem dX6_clear_4 : decode cX6_clear 4 = .ok (.invokestatic 29, 3) := by decide +kernel
theorem dX6_clear_7 : decode cX6_clear 7 = .ok (.putfield 22, 3) := by decide +kernel
theorem dX6_clear_10 : decode cX6_clear 10 = .ok (.aload_n 0, 1) := by decide +kernel
theorem dX6_clear_11 : decode cX6_clear 11 = .ok (.iconst 0, 1) := by decide +kernel
theorem dX6_clear_12 : decode cX6_clear 12 = .ok (.putfield 26, 3) := by decide +kernel
theorem dX6_clear_15 : decode cX6_clear 15 = .ok (.return_, 1) := by decide +kernel
theorem dX6_bring_0 : decode cX6_bring 0 = .ok (.iconst 0, 1) := by decide +kernel
theorem dX6_bring_1 : decode cX6_bring 1 = .ok (.istore 6, 2) := by decide +kernel
theorem dX6_bring_3 : decode cX6_bring 3 = .ok (.iload 6, 2) := by decide +kernel
theorem dX6_bring_5 : decode cX6_bring 5 = .ok (.aload_n 0, 1) := by decide +kernel
theorem dX6_bring_6 : decode cX6_bring 6 = .ok (.getfield 26, 3) := by decide +kernel
theorem dX6_bring_9 : decode cX6_bring 9 = .ok (.if_icmp .ge 45, 3) := by decide +kernel
theorem dX6_bring_12 : decode cX6_bring 12 = .ok (.aload_n 0, 1) := by decide +kernel
theorem dX6_bring_13 : decode cX6_bring 13 = .ok (.getfield 9, 3) := by decide +kernel
theorem dX6_bring_16 : decode cX6_bring 16 = .ok (.iload 6, 2) := by decide +kernel
theorem dX6_bring_18 : decode cX6_bring 18 = .ok (.iaload, 1) := by decide +kernel
theorem dX6_bring_19 : decode cX6_bring 19 = .ok (.iload_n 1, 1) := by decide +kernel
theorem dX6_bring_20 : decode cX6_bring 20 = .ok (.if_icmp .ne 28, 3) := by decide +kernel
theorem dX6_bring_23 : decode cX6_bring 23 = .ok (.aload_n 0, 1) := by decide +kernel
theorem dX6_bring_24 : decode cX6_bring 24 = .ok (.getfield 15, 3) := by decide +kernel
theorem dX6_bring_27 : decode cX6_bring 27 = .ok (.iload 6, 2) := by decide +kernel
theorem dX6_bring_29 : decode cX6_bring 29 = .ok (.laload, 1) := by decide +kernel
theorem dX6_bring_30 : decode cX6_bring 30 = .ok (.lload_n 2, 1) := by decide +kernel
theorem dX6_bring_31 : decode cX6_bring 31 = .ok (.lcmp, 1) := by decide +kernel
theorem dX6_bring_32 : decode cX6_bring 32 = .ok (.ifCond .ne 16, 3) := by decide +kernel
theorem dX6_bring_35 : decode cX6_bring 35 = .ok (.aload_n 0, 1) := by decide +kernel
theorem dX6_bring_36 : decode cX6_bring 36 = .ok (.getfield 19, 3) := by decide +kernel
theorem dX6_bring_39 : decode cX6_bring 39 = .ok (.iload 6, 2) := by decide +kernel
theorem dX6_bring_41 : decode cX6_bring 41 = .ok (.laload, 1) := by decide +kernel
theorem dX6_bring_42 : decode cX6_bring 42 = .ok (.lload 4, 2) := by decide +kernel
theorem dX6_bring_44 : decode cX6_bring 44 = .ok (.lcmp, 1) := by decide +kernel
theorem dX6_bring_45 : decode cX6_bring 45 = .ok (.ifCond .eq 9, 3) := by decide +kernel
theorem dX6_bring_48 : decode cX6_bring 48 = .ok (.iinc 6 1, 3) := by decide +kernel
theorem dX6_bring_51 : decode cX6_bring 51 = .ok (.goto (-48), 3) := by decide +kernel
theorem dX6_bring_54 : decode cX6_bring 54 = .ok (.iload 6, 2) := by decide +kernel
theorem dX6_bring_56 : decode cX6_bring 56 = .ok (.aload_n 0, 1) := by decide +kernel
theorem dX6_bring_57 : decode cX6_bring 57 = .ok (.getfield 26, 3) := by decide +kernel
theorem dX6_bring_60 : decode cX6_bring 60 = .ok (.if_icmp .lt 7, 3) := by decide +kernel
theorem dX6_bring_63 : decode cX6_bring 63 = .ok (.iconst 1, 1) := by decide +kernel
theorem dX6_bring_64 : decode cX6_bring 64 = .ok (.goto 4, 3) := by decide +kernel
theorem dX6_bring_67 : decode cX6_bring 67 = .ok (.iconst 0, 1) := by decide +kernel
theorem dX6_bring_68 : decode cX6_bring 68 = .ok (.istore 7, 2) := by decide +kernel
theorem dX6_bring_70 : decode cX6_bring 70 = .ok (.iload 7, 2) := by decide +kernel
theorem dX6_bring_72 : decode cX6_bring 72 = .ok (.ifCond .eq 24, 3) := by decide +kernel
theorem dX6_bring_75 : decode cX6_bring 75 = .ok (.aload_n 0, 1) := by decide +kernel
theorem dX6_bring_76 : decode cX6_bring 76 = .ok (.getfield 26, 3) := by decide +kernel
theorem dX6_bring_79 : decode cX6_bring 79 = .ok (.aload_n 0, 1) := by decide +kernel
theorem dX6_bring_80 : decode cX6_bring 80 = .ok (.getfield 22, 3) := by decide +kernel
theorem dX6_bring_83 : decode cX6_bring 83 = .ok (.if_icmp .ge 13, 3) := by decide +kernel
theorem dX6_bring_86 : decode cX6_bring 86 = .ok (.aload_n 0, 1) := by decide +kernel
theorem dX6_bring_87 : decode cX6_bring 87 = .ok (.dup, 1) := by decide +kernel
theorem dX6_bring_88 : decode cX6_bring 88 = .ok (.getfield 26, 3) := by decide +kernel
theorem dX6_bring_91 : decode cX6_bring 91 = .ok (.iconst 1, 1) := by decide +kernel
theorem dX6_bring_92 : decode cX6_bring 92 = .ok (.iadd, 1) := by decide +kernel
theorem dX6_bring_93 : decode cX6_bring 93 = .ok (.putfield 26, 3) := by decide +kernel
theorem dX6_bring_96 : decode cX6_bring 96 = .ok (.iload 6, 2) := by decide +kernel
theorem dX6_bring_98 : decode cX6_bring 98 = .ok (.aload_n 0, 1) := by decide +kernel
theorem dX6_bring_99 : decode cX6_bring 99 = .ok (.getfield 26, 3) := by decide +kernel
theorem dX6_bring_102 : decode cX6_bring 102 = .ok (.iconst 1, 1) := by decide +kernel
theorem dX6_bring_103 : decode cX6_bring 103 = .ok (.isub, 1) := by decide +kernel
theorem dX6_bring_104 : decode cX6_bring 104 = .ok (.invokestatic 29, 3) := by decide +kernel
theorem dX6_bring_107 : decode cX6_bring 107 = .ok (.istore 8, 2) := by decide +kernel
theorem dX6_bring_109 : decode cX6_bring 109 = .ok (.iload 8, 2) := by decide +kernel
theorem dX6_bring_111 : decode cX6_bring 111 = .ok (.ifCond .le 57, 3) := by decide +kernel
theorem dX6_bring_114 : decode cX6_bring 114 = .ok (.aload_n 0, 1) := by decide +kernel
theorem dX6_bring_115 : decode cX6_bring 115 = .ok (.getfield 9, 3) := by decide +kernel
theorem dX6_bring_118 : decode cX6_bring 118 = .ok (.iload 8, 2) := by decide +kernel
theorem dX6_bring_120 : decode cX6_bring 120 = .ok (.aload_n 0, 1) := by decide +kernel
theorem dX6_bring_121 : decode cX6_bring 121 = .ok (.getfield 9, 3) := by decide +kernel
theorem dX6_bring_124 : decode cX6_bring 124 = .ok (.iload 8, 2) := by decide +kernel
theorem dX6_bring_126 : decode cX6_bring 126 = .ok (.iconst 1, 1) := by decide +kernel
theorem dX6_bring_127 : decode cX6_bring 127 = .ok (.isub, 1) := by decide +kernel
theorem dX6_bring_128 : decode cX6_bring 128 = .ok (.iaload, 1) := by decide +kernel
theorem dX6_bring_129 : decode cX6_bring 129 = .ok (.iastore, 1) := by decide +kernel
theorem dX6_bring_130 : decode cX6_bring 130 = .ok (.aload_n 0, 1) := by decide +kernel
theorem dX6_bring_131 : decode cX6_bring 131 = .ok (.getfield 15, 3) := by decide +kernel
theorem dX6_bring_134 : decode cX6_bring 134 = .ok (.iload 8, 2) := by decide +kernel
theorem dX6_bring_136 : decode cX6_bring 136 = .ok (.aload_n 0, 1) := by decide +kernel
theorem dX6_bring_137 : decode cX6_bring 137 = .ok (.getfield 15, 3) := by decide +kernel
theorem dX6_bring_140 : decode cX6_bring 140 = .ok (.iload 8, 2) := by decide +kernel
theorem dX6_bring_142 : decode cX6_bring 142 = .ok (.iconst 1, 1) := by decide +kernel
theorem dX6_bring_143 : decode cX6_bring 143 = .ok (.isub, 1) := by decide +kernel
theorem dX6_bring_144 : decode cX6_bring 144 = .ok (.laload, 1) := by decide +kernel
theorem dX6_bring_145 : decode cX6_bring 145 = .ok (.lastore, 1) := by decide +kernel
theorem dX6_bring_146 : decode cX6_bring 146 = .ok (.aload_n 0, 1) := by decide +kernel
theorem dX6_bring_147 : decode cX6_bring 147 = .ok (.getfield 19, 3) := by decide +kernel
theorem dX6_bring_150 : decode cX6_bring 150 = .ok (.iload 8, 2) := by decide +kernel
theorem dX6_bring_152 : decode cX6_bring 152 = .ok (.aload_n 0, 1) := by decide +kernel
theorem dX6_bring_153 : decode cX6_bring 153 = .ok (.getfield 19, 3) := by decide +kernel
theorem dX6_bring_156 : decode cX6_bring 156 = .ok (.iload 8, 2) := by decide +kernel
theorem dX6_bring_158 : decode cX6_bring 158 = .ok (.iconst 1, 1) := by decide +kernel
theorem dX6_bring_159 : decode cX6_bring 159 = .ok (.isub, 1) := by decide +kernel
theorem dX6_bring_160 : decode cX6_bring 160 = .ok (.laload, 1) := by decide +kernel
theorem dX6_bring_161 : decode cX6_bring 161 = .ok (.lastore, 1) := by decide +kernel
theorem dX6_bring_162 : decode cX6_bring 162 = .ok (.iinc 8 (-1), 3) := by decide +kernel
theorem dX6_bring_165 : decode cX6_bring 165 = .ok (.goto (-56), 3) := by decide +kernel
theorem dX6_bring_168 : decode cX6_bring 168 = .ok (.aload_n 0, 1) := by decide +kernel
theorem dX6_bring_169 : decode cX6_bring 169 = .ok (.getfield 9, 3) := by decide +kernel
theorem dX6_bring_172 : decode cX6_bring 172 = .ok (.iconst 0, 1) := by decide +kernel
theorem dX6_bring_173 : decode cX6_bring 173 = .ok (.iload_n 1, 1) := by decide +kernel
theorem dX6_bring_174 : decode cX6_bring 174 = .ok (.iastore, 1) := by decide +kernel
theorem dX6_bring_175 : decode cX6_bring 175 = .ok (.aload_n 0, 1) := by decide +kernel
theorem dX6_bring_176 : decode cX6_bring 176 = .ok (.getfield 15, 3) := by decide +kernel
theorem dX6_bring_179 : decode cX6_bring 179 = .ok (.iconst 0, 1) := by decide +kernel
theorem dX6_bring_180 : decode cX6_bring 180 = .ok (.lload_n 2, 1) := by decide +kernel
theorem dX6_bring_181 : decode cX6_bring 181 = .ok (.lastore, 1) := by decide +kernel
theorem dX6_bring_182 : decode cX6_bring 182 = .ok (.aload_n 0, 1) := by decide +kernel
theorem dX6_bring_183 : decode cX6_bring 183 = .ok (.getfield 19, 3) := by decide +kernel
theorem dX6_bring_186 : decode cX6_bring 186 = .ok (.iconst 0, 1) := by decide +kernel
theorem dX6_bring_187 : decode cX6_bring 187 = .ok (.lload 4, 2) := by decide +kernel
theorem dX6_bring_189 : decode cX6_bring 189 = .ok (.lastore, 1) := by decide +kernel
theorem dX6_bring_190 : decode cX6_bring 190 = .ok (.iload 7, 2) := by decide +kernel
theorem dX6_bring_192 : decode cX6_bring 192 = .ok (.ireturn, 1) := by decide +kernel
theorem dX7_init_0 : decode cX7_init 0 = .ok (.aload_n 0, 1) := by decide +kernel
theorem dX7_init_1 : decode cX7_init 1 = .ok (.invokespecial 3, 3) := by decide +kernel
theorem dX7_init_4 : decode cX7_init 4 = .ok (.aload_n 0, 1) := by decide +kernel
theorem dX7_init_5 : decode cX7_init 5 = .ok (.sipush 1344, 3) := by decide +kernel
theorem dX7_init_8 : decode cX7_init 8 = .ok (.newarray .int, 2) := by decide +kernel
theorem dX7_init_10 : decode cX7_init 10 = .ok (.putfield 9, 3) := by decide +kernel
theorem dX7_init_13 : decode cX7_init 13 = .ok (.aload_n 0, 1) := by decide +kernel
theorem dX7_init_14 : decode cX7_init 14 = .ok (.bipush 12, 2) := by decide +kernel
theorem dX7_init_16 : decode cX7_init 16 = .ok (.newarray .int, 2) := by decide +kernel
theorem dX7_init_18 : decode cX7_init 18 = .ok (.putfield 15, 3) := by decide +kernel
theorem dX7_init_21 : decode cX7_init 21 = .ok (.return_, 1) := by decide +kernel
theorem dX7_at_0 : decode cX7_at 0 = .ok (.iload_n 1, 1) := by decide +kernel
theorem dX7_at_1 : decode cX7_at 1 = .ok (.bipush 16, 2) := by decide +kernel
theorem dX7_at_3 : decode cX7_at 3 = .ok (.imul, 1) := by decide +kernel
theorem dX7_at_4 : decode cX7_at 4 = .ok (.iload_n 2, 1) := by decide +kernel
theorem dX7_at_5 : decode cX7_at 5 = .ok (.iadd, 1) := by decide +kernel
theorem dX7_at_6 : decode cX7_at 6 = .ok (.bipush 7, 2) := by decide +kernel
theorem dX7_at_8 : decode cX7_at 8 = .ok (.imul, 1) := by decide +kernel
theorem dX7_at_9 : decode cX7_at 9 = .ok (.ireturn, 1) := by decide +kernel
theorem dX7_take_0 : decode cX7_take 0 = .ok (.aload_n 1, 1) := by decide +kernel
theorem dX7_take_1 : decode cX7_take 1 = .ok (.getfield 9, 3) := by decide +kernel
theorem dX7_take_4 : decode cX7_take 4 = .ok (.iconst 0, 1) := by decide +kernel
theorem dX7_take_5 : decode cX7_take 5 = .ok (.aload_n 0, 1) := by decide +kernel
theorem dX7_take_6 : decode cX7_take 6 = .ok (.getfield 9, 3) := by decide +kernel
theorem dX7_take_9 : decode cX7_take 9 = .ok (.iconst 0, 1) := by decide +kernel
theorem dX7_take_10 : decode cX7_take 10 = .ok (.iload_n 2, 1) := by decide +kernel
theorem dX7_take_11 : decode cX7_take 11 = .ok (.bipush 16, 2) := by decide +kernel
theorem dX7_take_13 : decode cX7_take 13 = .ok (.imul, 1) := by decide +kernel
theorem dX7_take_14 : decode cX7_take 14 = .ok (.bipush 7, 2) := by decide +kernel
theorem dX7_take_16 : decode cX7_take 16 = .ok (.imul, 1) := by decide +kernel
theorem dX7_take_17 : decode cX7_take 17 = .ok (.invokestatic 18, 3) := by decide +kernel
theorem dX7_take_20 : decode cX7_take 20 = .ok (.aload_n 1, 1) := by decide +kernel
theorem dX7_take_21 : decode cX7_take 21 = .ok (.getfield 15, 3) := by decide +kernel
theorem dX7_take_24 : decode cX7_take 24 = .ok (.iconst 0, 1) := by decide +kernel
theorem dX7_take_25 : decode cX7_take 25 = .ok (.aload_n 0, 1) := by decide +kernel
theorem dX7_take_26 : decode cX7_take 26 = .ok (.getfield 15, 3) := by decide +kernel
theorem dX7_take_29 : decode cX7_take 29 = .ok (.iconst 0, 1) := by decide +kernel
theorem dX7_take_30 : decode cX7_take 30 = .ok (.iload_n 2, 1) := by decide +kernel
theorem dX7_take_31 : decode cX7_take 31 = .ok (.invokestatic 18, 3) := by decide +kernel
theorem dX7_take_34 : decode cX7_take 34 = .ok (.return_, 1) := by decide +kernel
theorem dX7_addPlace_0 : decode cX7_addPlace 0 = .ok (.aload_n 0, 1) := by decide +kernel
theorem dX7_addPlace_1 : decode cX7_addPlace 1 = .ok (.iload_n 1, 1) := by decide +kernel
theorem dX7_addPlace_2 : decode cX7_addPlace 2 = .ok (.invokevirtual 24, 3) := by decide +kernel
theorem dX7_addPlace_5 : decode cX7_addPlace 5 = .ok (.istore_n 3, 1) := by decide +kernel
theorem dX7_addPlace_6 : decode cX7_addPlace 6 = .ok (.aload_n 0, 1) := by decide +kernel
theorem dX7_addPlace_7 : decode cX7_addPlace 7 = .ok (.getfield 9, 3) := by decide +kernel
theorem dX7_addPlace_10 : decode cX7_addPlace 10 = .ok (.iload_n 3, 1) := by decide +kernel
theorem dX7_addPlace_11 : decode cX7_addPlace 11 = .ok (.iload_n 2, 1) := by decide +kernel
theorem dX7_addPlace_12 : decode cX7_addPlace 12 = .ok (.iastore, 1) := by decide +kernel
theorem dX7_addPlace_13 : decode cX7_addPlace 13 = .ok (.return_, 1) := by decide +kernel
theorem dX7_addLetter_0 : decode cX7_addLetter 0 = .ok (.aload_n 0, 1) := by decide +kernel
theorem dX7_addLetter_1 : decode cX7_addLetter 1 = .ok (.iload_n 1, 1) := by decide +kernel
theorem dX7_addLetter_2 : decode cX7_addLetter 2 = .ok (.invokevirtual 24, 3) := by decide +kernel
theorem dX7_addLetter_5 : decode cX7_addLetter 5 = .ok (.istore_n 3, 1) := by decide +kernel
theorem dX7_addLetter_6 : decode cX7_addLetter 6 = .ok (.aload_n 0, 1) := by decide +kernel
theorem dX7_addLetter_7 : decode cX7_addLetter 7 = .ok (.getfield 9, 3) := by decide +kernel
theorem dX7_addLetter_10 : decode cX7_addLetter 10 = .ok (.iload_n 3, 1) := by decide +kernel
theorem dX7_addLetter_11 : decode cX7_addLetter 11 = .ok (.iconst 1, 1) := by decide +kernel
theorem dX7_addLetter_12 : decode cX7_addLetter 12 = .ok (.iadd, 1) := by decide +kernel
theorem dX7_addLetter_13 : decode cX7_addLetter 13 = .ok (.iload_n 2, 1) := by decide +kernel
theorem dX7_addLetter_14 : decode cX7_addLetter 14 = .ok (.iadd, 1) := by decide +kernel
theorem dX7_addLetter_15 : decode cX7_addLetter 15 = .ok (.iconst 1, 1) := by decide +kernel
theorem dX7_addLetter_16 : decode cX7_addLetter 16 = .ok (.iastore, 1) := by decide +kernel
theorem dX7_addLetter_17 : decode cX7_addLetter 17 = .ok (.aload_n 0, 1) := by decide +kernel
theorem dX7_addLetter_18 : decode cX7_addLetter 18 = .ok (.getfield 9, 3) := by decide +kernel
theorem dX7_addLetter_21 : decode cX7_addLetter 21 = .ok (.iload_n 3, 1) := by decide +kernel
theorem dX7_addLetter_22 : decode cX7_addLetter 22 = .ok (.bipush 6, 2) := by decide +kernel
theorem dX7_addLetter_24 : decode cX7_addLetter 24 = .ok (.iadd, 1) := by decide +kernel
theorem dX7_addLetter_25 : decode cX7_addLetter 25 = .ok (.iload_n 2, 1) := by decide +kernel
theorem dX7_addLetter_26 : decode cX7_addLetter 26 = .ok (.iastore, 1) := by decide +kernel
theorem dX7_addLetter_27 : decode cX7_addLetter 27 = .ok (.return_, 1) := by decide +kernel
theorem dX7_addRow_0 : decode cX7_addRow 0 = .ok (.aload_n 0, 1) := by decide +kernel
theorem dX7_addRow_1 : decode cX7_addRow 1 = .ok (.iload_n 1, 1) := by decide +kernel
theorem dX7_addRow_2 : decode cX7_addRow 2 = .ok (.aload_n 0, 1) := by decide +kernel
theorem dX7_addRow_3 : decode cX7_addRow 3 = .ok (.getfield 15, 3) := by decide +kernel
theorem dX7_addRow_6 : decode cX7_addRow 6 = .ok (.iload_n 1, 1) := by decide +kernel
theorem dX7_addRow_7 : decode cX7_addRow 7 = .ok (.iaload, 1) := by decide +kernel
theorem dX7_addRow_8 : decode cX7_addRow 8 = .ok (.invokevirtual 28, 3) := by decide +kernel
theorem dX7_addRow_11 : decode cX7_addRow 11 = .ok (.istore_n 2, 1) := by decide +kernel
theorem dX7_addRow_12 : decode cX7_addRow 12 = .ok (.aload_n 0, 1) := by decide +kernel
theorem dX7_addRow_13 : decode cX7_addRow 13 = .ok (.getfield 9, 3) := by decide +kernel
theorem dX7_addRow_16 : decode cX7_addRow 16 = .ok (.iload_n 2, 1) := by decide +kernel
theorem dX7_addRow_17 : decode cX7_addRow 17 = .ok (.iload_n 2, 1) := by decide +kernel
theorem dX7_addRow_18 : decode cX7_addRow 18 = .ok (.bipush 7, 2) := by decide +kernel
theorem dX7_addRow_20 : decode cX7_addRow 20 = .ok (.iadd, 1) := by decide +kernel
theorem dX7_addRow_21 : decode cX7_addRow 21 = .ok (.iconst 0, 1) := by decide +kernel
theorem dX7_addRow_22 : decode cX7_addRow 22 = .ok (.invokestatic 32, 3) := by decide +kernel
theorem dX7_addRow_25 : decode cX7_addRow 25 = .ok (.aload_n 0, 1) := by decide +kernel
theorem dX7_addRow_26 : decode cX7_addRow 26 = .ok (.getfield 9, 3) := by decide +kernel
theorem dX7_addRow_29 : decode cX7_addRow 29 = .ok (.iload_n 2, 1) := by decide +kernel
theorem dX7_addRow_30 : decode cX7_addRow 30 = .ok (.iconst 5, 1) := by decide +kernel
theorem dX7_addRow_31 : decode cX7_addRow 31 = .ok (.iadd, 1) := by decide +kernel
theorem dX7_addRow_32 : decode cX7_addRow 32 = .ok (.iconst 1, 1) := by decide +kernel
theorem dX7_addRow_33 : decode cX7_addRow 33 = .ok (.iastore, 1) := by decide +kernel
theorem dX7_addRow_34 : decode cX7_addRow 34 = .ok (.aload_n 0, 1) := by decide +kernel
theorem dX7_addRow_35 : decode cX7_addRow 35 = .ok (.getfield 9, 3) := by decide +kernel
theorem dX7_addRow_38 : decode cX7_addRow 38 = .ok (.iload_n 2, 1) := by decide +kernel
theorem dX7_addRow_39 : decode cX7_addRow 39 = .ok (.bipush 6, 2) := by decide +kernel
theorem dX7_addRow_41 : decode cX7_addRow 41 = .ok (.iadd, 1) := by decide +kernel
theorem dX7_addRow_42 : decode cX7_addRow 42 = .ok (.bipush (-9), 2) := by decide +kernel
theorem dX7_addRow_44 : decode cX7_addRow 44 = .ok (.iastore, 1) := by decide +kernel
theorem dX7_addRow_45 : decode cX7_addRow 45 = .ok (.aload_n 0, 1) := by decide +kernel
theorem dX7_addRow_46 : decode cX7_addRow 46 = .ok (.getfield 15, 3) := by decide +kernel
theorem dX7_addRow_49 : decode cX7_addRow 49 = .ok (.iload_n 1, 1) := by decide +kernel
theorem dX7_addRow_50 : decode cX7_addRow 50 = .ok (.dup2, 1) := by decide +kernel
theorem dX7_addRow_51 : decode cX7_addRow 51 = .ok (.iaload, 1) := by decide +kernel
theorem dX7_addRow_52 : decode cX7_addRow 52 = .ok (.iconst 1, 1) := by decide +kernel
theorem dX7_addRow_53 : decode cX7_addRow 53 = .ok (.iadd, 1) := by decide +kernel
theorem dX7_addRow_54 : decode cX7_addRow 54 = .ok (.iastore, 1) := by decide +kernel
theorem dX7_addRow_55 : decode cX7_addRow 55 = .ok (.iload_n 2, 1) := by decide +kernel
theorem dX7_addRow_56 : decode cX7_addRow 56 = .ok (.ireturn, 1) := by decide +kernel
theorem dX7_loopRow_0 : decode cX7_loopRow 0 = .ok (.iconst 0, 1) := by decide +kernel
theorem dX7_loopRow_1 : decode cX7_loopRow 1 = .ok (.istore_n 3, 1) := by decide +kernel
theorem dX7_loopRow_2 : decode cX7_loopRow 2 = .ok (.iload_n 3, 1) := by decide +kernel
theorem dX7_loopRow_3 : decode cX7_loopRow 3 = .ok (.aload_n 0, 1) := by decide +kernel
theorem dX7_loopRow_4 : decode cX7_loopRow 4 = .ok (.getfield 15, 3) := by decide +kernel
theorem dX7_loopRow_7 : decode cX7_loopRow 7 = .ok (.iload_n 1, 1) := by decide +kernel
theorem dX7_loopRow_8 : decode cX7_loopRow 8 = .ok (.iaload, 1) := by decide +kernel
theorem dX7_loopRow_9 : decode cX7_loopRow 9 = .ok (.if_icmp .ge 34, 3) := by decide +kernel
theorem dX7_loopRow_12 : decode cX7_loopRow 12 = .ok (.aload_n 0, 1) := by decide +kernel
theorem dX7_loopRow_13 : decode cX7_loopRow 13 = .ok (.iload_n 1, 1) := by decide +kernel
theorem dX7_loopRow_14 : decode cX7_loopRow 14 = .ok (.iload_n 3, 1) := by decide +kernel
theorem dX7_loopRow_15 : decode cX7_loopRow 15 = .ok (.invokevirtual 28, 3) := by decide +kernel
theorem dX7_loopRow_18 : decode cX7_loopRow 18 = .ok (.istore 4, 2) := by decide +kernel
theorem dX7_loopRow_20 : decode cX7_loopRow 20 = .ok (.aload_n 0, 1) := by decide +kernel
theorem dX7_loopRow_21 : decode cX7_loopRow 21 = .ok (.getfield 9, 3) := by decide +kernel
theorem dX7_loopRow_24 : decode cX7_loopRow 24 = .ok (.iload 4, 2) := by decide +kernel
theorem dX7_loopRow_26 : decode cX7_loopRow 26 = .ok (.bipush 6, 2) := by decide +kernel
theorem dX7_loopRow_28 : decode cX7_loopRow 28 = .ok (.iadd, 1) := by decide +kernel
theorem dX7_loopRow_29 : decode cX7_loopRow 29 = .ok (.iaload, 1) := by decide +kernel
theorem dX7_loopRow_30 : decode cX7_loopRow 30 = .ok (.iload_n 2, 1) := by decide +kernel
theorem dX7_loopRow_31 : decode cX7_loopRow 31 = .ok (.if_icmp .ne 6, 3) := by decide +kernel
theorem dX7_loopRow_34 : decode cX7_loopRow 34 = .ok (.iload 4, 2) := by decide +kernel
theorem dX7_loopRow_36 : decode cX7_loopRow 36 = .ok (.ireturn, 1) := by decide +kernel
theorem dX7_loopRow_37 : decode cX7_loopRow 37 = .ok (.iinc 3 1, 3) := by decide +kernel
theorem dX7_loopRow_40 : decode cX7_loopRow 40 = .ok (.goto (-38), 3) := by decide +kernel
theorem dX7_loopRow_43 : decode cX7_loopRow 43 = .ok (.bipush (-9), 2) := by decide +kernel
theorem dX7_loopRow_45 : decode cX7_loopRow 45 = .ok (.ireturn, 1) := by decide +kernel
theorem dX7_rowAhead_0 : decode cX7_rowAhead 0 = .ok (.aload_n 0, 1) := by decide +kernel
theorem dX7_rowAhead_1 : decode cX7_rowAhead 1 = .ok (.iload_n 1, 1) := by decide +kernel
theorem dX7_rowAhead_2 : decode cX7_rowAhead 2 = .ok (.iload_n 2, 1) := by decide +kernel
theorem dX7_rowAhead_3 : decode cX7_rowAhead 3 = .ok (.invokevirtual 38, 3) := by decide +kernel
theorem dX7_rowAhead_6 : decode cX7_rowAhead 6 = .ok (.istore_n 3, 1) := by decide +kernel
theorem dX7_rowAhead_7 : decode cX7_rowAhead 7 = .ok (.iload_n 3, 1) := by decide +kernel
theorem dX7_rowAhead_8 : decode cX7_rowAhead 8 = .ok (.aload_n 0, 1) := by decide +kernel
theorem dX7_rowAhead_9 : decode cX7_rowAhead 9 = .ok (.iload_n 1, 1) := by decide +kernel
theorem dX7_rowAhead_10 : decode cX7_rowAhead 10 = .ok (.iconst 0, 1) := by decide +kernel
theorem dX7_rowAhead_11 : decode cX7_rowAhead 11 = .ok (.invokevirtual 28, 3) := by decide +kernel
theorem dX7_rowAhead_14 : decode cX7_rowAhead 14 = .ok (.if_icmp .le 10, 3) := by decide +kernel
theorem dX7_rowAhead_17 : decode cX7_rowAhead 17 = .ok (.iload_n 3, 1) := by decide +kernel
theorem dX7_rowAhead_18 : decode cX7_rowAhead 18 = .ok (.bipush 7, 2) := by decide +kernel
theorem dX7_rowAhead_20 : decode cX7_rowAhead 20 = .ok (.isub, 1) := by decide +kernel
theorem dX7_rowAhead_21 : decode cX7_rowAhead 21 = .ok (.goto 5, 3) := by decide +kernel
theorem dX7_rowAhead_24 : decode cX7_rowAhead 24 = .ok (.bipush (-9), 2) := by decide +kernel
theorem dX7_rowAhead_26 : decode cX7_rowAhead 26 = .ok (.ireturn, 1) := by decide +kernel
theorem dX7_openRows_0 : decode cX7_openRows 0 = .ok (.aload_n 0, 1) := by decide +kernel
theorem dX7_openRows_1 : decode cX7_openRows 1 = .ok (.iload_n 1, 1) := by decide +kernel
theorem dX7_openRows_2 : decode cX7_openRows 2 = .ok (.aload_n 0, 1) := by decide +kernel
theorem dX7_openRows_3 : decode cX7_openRows 3 = .ok (.getfield 15, 3) := by decide +kernel
theorem dX7_openRows_6 : decode cX7_openRows 6 = .ok (.iload_n 1, 1) := by decide +kernel
theorem dX7_openRows_7 : decode cX7_openRows 7 = .ok (.iaload, 1) := by decide +kernel
theorem dX7_openRows_8 : decode cX7_openRows 8 = .ok (.invokevirtual 28, 3) := by decide +kernel
theorem dX7_openRows_11 : decode cX7_openRows 11 = .ok (.istore 4, 2) := by decide +kernel
theorem dX7_openRows_13 : decode cX7_openRows 13 = .ok (.aload_n 0, 1) := by decide +kernel
theorem dX7_openRows_14 : decode cX7_openRows 14 = .ok (.getfield 9, 3) := by decide +kernel
theorem dX7_openRows_17 : decode cX7_openRows 17 = .ok (.iload_n 2, 1) := by decide +kernel
theorem dX7_openRows_18 : decode cX7_openRows 18 = .ok (.aload_n 0, 1) := by decide +kernel
theorem dX7_openRows_19 : decode cX7_openRows 19 = .ok (.getfield 9, 3) := by decide +kernel
theorem dX7_openRows_22 : decode cX7_openRows 22 = .ok (.iload_n 2, 1) := by decide +kernel
theorem dX7_openRows_23 : decode cX7_openRows 23 = .ok (.iload_n 3, 1) := by decide +kernel
theorem dX7_openRows_24 : decode cX7_openRows 24 = .ok (.bipush 7, 2) := by decide +kernel
theorem dX7_openRows_26 : decode cX7_openRows 26 = .ok (.imul, 1) := by decide +kernel
theorem dX7_openRows_27 : decode cX7_openRows 27 = .ok (.iadd, 1) := by decide +kernel
theorem dX7_openRows_28 : decode cX7_openRows 28 = .ok (.iload 4, 2) := by decide +kernel
theorem dX7_openRows_30 : decode cX7_openRows 30 = .ok (.iload_n 2, 1) := by decide +kernel
theorem dX7_openRows_31 : decode cX7_openRows 31 = .ok (.isub, 1) := by decide +kernel
theorem dX7_openRows_32 : decode cX7_openRows 32 = .ok (.invokestatic 18, 3) := by decide +kernel
theorem dX7_openRows_35 : decode cX7_openRows 35 = .ok (.aload_n 0, 1) := by decide +kernel
theorem dX7_openRows_36 : decode cX7_openRows 36 = .ok (.getfield 15, 3) := by decide +kernel
theorem dX7_openRows_39 : decode cX7_openRows 39 = .ok (.iload_n 1, 1) := by decide +kernel
theorem dX7_openRows_40 : decode cX7_openRows 40 = .ok (.dup2, 1) := by decide +kernel
theorem dX7_openRows_41 : decode cX7_openRows 41 = .ok (.iaload, 1) := by decide +kernel
theorem dX7_openRows_42 : decode cX7_openRows 42 = .ok (.iload_n 3, 1) := by decide +kernel
theorem dX7_openRows_43 : decode cX7_openRows 43 = .ok (.iadd, 1) := by decide +kernel
theorem dX7_openRows_44 : decode cX7_openRows 44 = .ok (.iastore, 1) := by decide +kernel
theorem dX7_openRows_45 : decode cX7_openRows 45 = .ok (.return_, 1) := by decide +kernel
theorem dX7_mix_0 : decode cX7_mix 0 = .ok (.iconst 0, 1) := by decide +kernel
theorem dX7_mix_1 : decode cX7_mix 1 = .ok (.istore 4, 2) := by decide +kernel
theorem dX7_mix_3 : decode cX7_mix 3 = .ok (.iload 4, 2) := by decide +kernel
theorem dX7_mix_5 : decode cX7_mix 5 = .ok (.iload_n 3, 1) := by decide +kernel
theorem dX7_mix_6 : decode cX7_mix 6 = .ok (.if_icmp .ge 61, 3) := by decide +kernel
theorem dX7_mix_9 : decode cX7_mix 9 = .ok (.aload_n 0, 1) := by decide +kernel
theorem dX7_mix_10 : decode cX7_mix 10 = .ok (.iload 4, 2) := by decide +kernel
theorem dX7_mix_12 : decode cX7_mix 12 = .ok (.aload_n 0, 1) := by decide +kernel
theorem dX7_mix_13 : decode cX7_mix 13 = .ok (.getfield 15, 3) := by decide +kernel
theorem dX7_mix_16 : decode cX7_mix 16 = .ok (.iload 4, 2) := by decide +kernel
theorem dX7_mix_18 : decode cX7_mix 18 = .ok (.iaload, 1) := by decide +kernel
theorem dX7_mix_19 : decode cX7_mix 19 = .ok (.invokevirtual 28, 3) := by decide +kernel
theorem dX7_mix_22 : decode cX7_mix 22 = .ok (.istore 5, 2) := by decide +kernel
theorem dX7_mix_24 : decode cX7_mix 24 = .ok (.aload_n 0, 1) := by decide +kernel
theorem dX7_mix_25 : decode cX7_mix 25 = .ok (.iload 4, 2) := by decide +kernel
theorem dX7_mix_27 : decode cX7_mix 27 = .ok (.iconst 0, 1) := by decide +kernel
theorem dX7_mix_28 : decode cX7_mix 28 = .ok (.invokevirtual 28, 3) := by decide +kernel
theorem dX7_mix_31 : decode cX7_mix 31 = .ok (.istore 6, 2) := by decide +kernel
theorem dX7_mix_33 : decode cX7_mix 33 = .ok (.iload 6, 2) := by decide +kernel
theorem dX7_mix_35 : decode cX7_mix 35 = .ok (.iload 5, 2) := by decide +kernel
theorem dX7_mix_37 : decode cX7_mix 37 = .ok (.if_icmp .ge 24, 3) := by decide +kernel
theorem dX7_mix_40 : decode cX7_mix 40 = .ok (.ldc2_w 41, 3) := by decide +kernel
theorem dX7_mix_43 : decode cX7_mix 43 = .ok (.lload_n 1, 1) := by decide +kernel
theorem dX7_mix_44 : decode cX7_mix 44 = .ok (.lmul, 1) := by decide +kernel
theorem dX7_mix_45 : decode cX7_mix 45 = .ok (.aload_n 0, 1) := by decide +kernel
theorem dX7_mix_46 : decode cX7_mix 46 = .ok (.getfield 9, 3) := by decide +kernel
theorem dX7_mix_49 : decode cX7_mix 49 = .ok (.iload 6, 2) := by decide +kernel
theorem dX7_mix_51 : decode cX7_mix 51 = .ok (.iaload, 1) := by decide +kernel
theorem dX7_mix_52 : decode cX7_mix 52 = .ok (.i2l, 1) := by decide +kernel
theorem dX7_mix_53 : decode cX7_mix 53 = .ok (.ladd, 1) := by decide +kernel
theorem dX7_mix_54 : decode cX7_mix 54 = .ok (.lstore_n 1, 1) := by decide +kernel
theorem dX7_mix_55 : decode cX7_mix 55 = .ok (.iinc 6 1, 3) := by decide +kernel
theorem dX7_mix_58 : decode cX7_mix 58 = .ok (.goto (-25), 3) := by decide +kernel
theorem dX7_mix_61 : decode cX7_mix 61 = .ok (.iinc 4 1, 3) := by decide +kernel
theorem dX7_mix_64 : decode cX7_mix 64 = .ok (.goto (-61), 3) := by decide +kernel
theorem dX7_mix_67 : decode cX7_mix 67 = .ok (.lload_n 1, 1) := by decide +kernel
theorem dX7_mix_68 : decode cX7_mix 68 = .ok (.lreturn, 1) := by decide +kernel
theorem dX8_init_0 : decode cX8_init 0 = .ok (.aload_n 0, 1) := by decide +kernel
theorem dX8_init_1 : decode cX8_init 1 = .ok (.invokespecial 3, 3) := by decide +kernel
theorem dX8_init_4 : decode cX8_init 4 = .ok (.aload_n 0, 1) := by decide +kernel
theorem dX8_init_5 : decode cX8_init 5 = .ok (.iconst 3, 1) := by decide +kernel
theorem dX8_init_6 : decode cX8_init 6 = .ok (.newarray .int, 2) := by decide +kernel
theorem dX8_init_8 : decode cX8_init 8 = .ok (.putfield 9, 3) := by decide +kernel
theorem dX8_init_11 : decode cX8_init 11 = .ok (.aload_n 0, 1) := by decide +kernel
theorem dX8_init_12 : decode cX8_init 12 = .ok (.bipush 8, 2) := by decide +kernel
theorem dX8_init_14 : decode cX8_init 14 = .ok (.newarray .int, 2) := by decide +kernel
theorem dX8_init_16 : decode cX8_init 16 = .ok (.putfield 15, 3) := by decide +kernel
theorem dX8_init_19 : decode cX8_init 19 = .ok (.aload_n 0, 1) := by decide +kernel
theorem dX8_init_20 : decode cX8_init 20 = .ok (.sipush 640, 3) := by decide +kernel
theorem dX8_init_23 : decode cX8_init 23 = .ok (.newarray .int, 2) := by decide +kernel
theorem dX8_init_25 : decode cX8_init 25 = .ok (.putfield 18, 3) := by decide +kernel
theorem dX8_init_28 : decode cX8_init 28 = .ok (.aload_n 0, 1) := by decide +kernel
theorem dX8_init_29 : decode cX8_init 29 = .ok (.iconst 1, 1) := by decide +kernel
theorem dX8_init_30 : decode cX8_init 30 = .ok (.putfield 21, 3) := by decide +kernel
theorem dX8_init_33 : decode cX8_init 33 = .ok (.return_, 1) := by decide +kernel
theorem dX8_known_0 : decode cX8_known 0 = .ok (.iload_n 1, 1) := by decide +kernel
theorem dX8_known_1 : decode cX8_known 1 = .ok (.ifCond .lt 15, 3) := by decide +kernel
theorem dX8_known_4 : decode cX8_known 4 = .ok (.iload_n 1, 1) := by decide +kernel
theorem dX8_known_5 : decode cX8_known 5 = .ok (.aload_n 0, 1) := by decide +kernel
theorem dX8_known_6 : decode cX8_known 6 = .ok (.getfield 21, 3) := by decide +kernel
theorem dX8_known_9 : decode cX8_known 9 = .ok (.if_icmp .ge 7, 3) := by decide +kernel
theorem dX8_known_12 : decode cX8_known 12 = .ok (.iconst 1, 1) := by decide +kernel
theorem dX8_known_13 : decode cX8_known 13 = .ok (.goto 4, 3) := by decide +kernel
theorem dX8_known_16 : decode cX8_known 16 = .ok (.iconst 0, 1) := by decide +kernel
theorem dX8_known_17 : decode cX8_known 17 = .ok (.ireturn, 1) := by decide +kernel
theorem dX8_keepDraft_0 : decode cX8_keepDraft 0 = .ok (.aload_n 0, 1) := by decide +kernel
theorem dX8_keepDraft_1 : decode cX8_keepDraft 1 = .ok (.getfield 15, 3) := by decide +kernel
theorem dX8_keepDraft_4 : decode cX8_keepDraft 4 = .ok (.iconst 0, 1) := by decide +kernel
theorem dX8_keepDraft_5 : decode cX8_keepDraft 5 = .ok (.aload_n 0, 1) := by decide +kernel
theorem dX8_keepDraft_6 : decode cX8_keepDraft 6 = .ok (.getfield 18, 3) := by decide +kernel
theorem dX8_keepDraft_9 : decode cX8_keepDraft 9 = .ok (.aload_n 0, 1) := by decide +kernel
theorem dX8_keepDraft_10 : decode cX8_keepDraft 10 = .ok (.getfield 21, 3) := by decide +kernel
theorem dX8_keepDraft_13 : decode cX8_keepDraft 13 = .ok (.bipush 8, 2) := by decide +kernel
theorem dX8_keepDraft_15 : decode cX8_keepDraft 15 = .ok (.imul, 1) := by decide +kernel
theorem dX8_keepDraft_16 : decode cX8_keepDraft 16 = .ok (.bipush 8, 2) := by decide +kernel
theorem dX8_keepDraft_18 : decode cX8_keepDraft 18 = .ok (.invokestatic 25, 3) := by decide +kernel
theorem dX8_keepDraft_21 : decode cX8_keepDraft 21 = .ok (.aload_n 0, 1) := by decide +kernel
theorem dX8_keepDraft_22 : decode cX8_keepDraft 22 = .ok (.getfield 15, 3) := by decide +kernel
theorem dX8_keepDraft_25 : decode cX8_keepDraft 25 = .ok (.iconst 0, 1) := by decide +kernel
theorem dX8_keepDraft_26 : decode cX8_keepDraft 26 = .ok (.invokestatic 31, 3) := by decide +kernel
theorem dX8_keepDraft_29 : decode cX8_keepDraft 29 = .ok (.aload_n 0, 1) := by decide +kernel
theorem dX8_keepDraft_30 : decode cX8_keepDraft 30 = .ok (.dup, 1) := by decide +kernel
theorem dX8_keepDraft_31 : decode cX8_keepDraft 31 = .ok (.getfield 21, 3) := by decide +kernel
theorem dX8_keepDraft_34 : decode cX8_keepDraft 34 = .ok (.iconst 1, 1) := by decide +kernel
theorem dX8_keepDraft_35 : decode cX8_keepDraft 35 = .ok (.iadd, 1) := by decide +kernel
theorem dX8_keepDraft_36 : decode cX8_keepDraft 36 = .ok (.putfield 21, 3) := by decide +kernel
theorem dX8_keepDraft_39 : decode cX8_keepDraft 39 = .ok (.aload_n 0, 1) := by decide +kernel
theorem dX8_keepDraft_40 : decode cX8_keepDraft 40 = .ok (.getfield 21, 3) := by decide +kernel
theorem dX8_keepDraft_43 : decode cX8_keepDraft 43 = .ok (.iconst 1, 1) := by decide +kernel
theorem dX8_keepDraft_44 : decode cX8_keepDraft 44 = .ok (.isub, 1) := by decide +kernel
theorem dX8_keepDraft_45 : decode cX8_keepDraft 45 = .ok (.ireturn, 1) := by decide +kernel
theorem dX8_fits_0 : decode cX8_fits 0 = .ok (.aload_n 0, 1) := by decide +kernel
theorem dX8_fits_1 : decode cX8_fits 1 = .ok (.iload_n 1, 1) := by decide +kernel
theorem dX8_fits_2 : decode cX8_fits 2 = .ok (.invokevirtual 37, 3) := by decide +kernel
theorem dX8_fits_5 : decode cX8_fits 5 = .ok (.ifCond .ne 5, 3) := by decide +kernel
theorem dX8_fits_8 : decode cX8_fits 8 = .ok (.iconst 0, 1) := by decide +kernel
theorem dX8_fits_9 : decode cX8_fits 9 = .ok (.ireturn, 1) := by decide +kernel
theorem dX8_fits_10 : decode cX8_fits 10 = .ok (.iload_n 1, 1) := by decide +kernel
theorem dX8_fits_11 : decode cX8_fits 11 = .ok (.bipush 8, 2) := by decide +kernel
theorem dX8_fits_13 : decode cX8_fits 13 = .ok (.imul, 1) := by decide +kernel
theorem dX8_fits_14 : decode cX8_fits 14 = .ok (.bipush 8, 2) := by decide +kernel
theorem dX8_fits_16 : decode cX8_fits 16 = .ok (.iadd, 1) := by decide +kernel
theorem dX8_fits_17 : decode cX8_fits 17 = .ok (.iconst 4, 1) := by decide +kernel
theorem dX8_fits_18 : decode cX8_fits 18 = .ok (.isub, 1) := by decide +kernel
theorem dX8_fits_19 : decode cX8_fits 19 = .ok (.istore_n 3, 1) := by decide +kernel
theorem dX8_fits_20 : decode cX8_fits 20 = .ok (.iload_n 2, 1) := by decide +kernel
theorem dX8_fits_21 : decode cX8_fits 21 = .ok (.istore 4, 2) := by decide +kernel
theorem dX8_fits_23 : decode cX8_fits 23 = .ok (.iload 4, 2) := by decide +kernel
theorem dX8_fits_25 : decode cX8_fits 25 = .ok (.iconst 4, 1) := by decide +kernel
theorem dX8_fits_26 : decode cX8_fits 26 = .ok (.if_icmp .ge 23, 3) := by decide +kernel
theorem dX8_fits_29 : decode cX8_fits 29 = .ok (.aload_n 0, 1) := by decide +kernel
theorem dX8_fits_30 : decode cX8_fits 30 = .ok (.getfield 18, 3) := by decide +kernel
theorem dX8_fits_33 : decode cX8_fits 33 = .ok (.iload_n 3, 1) := by decide +kernel
theorem dX8_fits_34 : decode cX8_fits 34 = .ok (.iload 4, 2) := by decide +kernel
theorem dX8_fits_36 : decode cX8_fits 36 = .ok (.iadd, 1) := by decide +kernel
theorem dX8_fits_37 : decode cX8_fits 37 = .ok (.iaload, 1) := by decide +kernel
theorem dX8_fits_38 : decode cX8_fits 38 = .ok (.ifCond .eq 5, 3) := by decide +kernel
theorem dX8_fits_41 : decode cX8_fits 41 = .ok (.iconst 0, 1) := by decide +kernel
theorem dX8_fits_42 : decode cX8_fits 42 = .ok (.ireturn, 1) := by decide +kernel
theorem dX8_fits_43 : decode cX8_fits 43 = .ok (.iinc 4 1, 3) := by decide +kernel
theorem dX8_fits_46 : decode cX8_fits 46 = .ok (.goto (-23), 3) := by decide +kernel
theorem dX8_fits_49 : decode cX8_fits 49 = .ok (.iconst 1, 1) := by decide +kernel
theorem dX8_fits_50 : decode cX8_fits 50 = .ok (.ireturn, 1) := by decide +kernel
theorem dX8_reckon_0 : decode cX8_reckon 0 = .ok (.iload_n 1, 1) := by decide +kernel
theorem dX8_reckon_1 : decode cX8_reckon 1 = .ok (.bipush 8, 2) := by decide +kernel
theorem dX8_reckon_3 : decode cX8_reckon 3 = .ok (.imul, 1) := by decide +kernel
theorem dX8_reckon_4 : decode cX8_reckon 4 = .ok (.istore 4, 2) := by decide +kernel
theorem dX8_reckon_6 : decode cX8_reckon 6 = .ok (.aload_n 0, 1) := by decide +kernel
theorem dX8_reckon_7 : decode cX8_reckon 7 = .ok (.getfield 18, 3) := by decide +kernel
theorem dX8_reckon_10 : decode cX8_reckon 10 = .ok (.iload 4, 2) := by decide +kernel
theorem dX8_reckon_12 : decode cX8_reckon 12 = .ok (.iaload, 1) := by decide +kernel
theorem dX8_reckon_13 : decode cX8_reckon 13 = .ok (.i2l, 1) := by decide +kernel
theorem dX8_reckon_14 : decode cX8_reckon 14 = .ok (.lstore 5, 2) := by decide +kernel
theorem dX8_reckon_16 : decode cX8_reckon 16 = .ok (.iconst 0, 1) := by decide +kernel
theorem dX8_reckon_17 : decode cX8_reckon 17 = .ok (.istore 7, 2) := by decide +kernel
theorem dX8_reckon_19 : decode cX8_reckon 19 = .ok (.iload 7, 2) := by decide +kernel
theorem dX8_reckon_21 : decode cX8_reckon 21 = .ok (.iconst 3, 1) := by decide +kernel
theorem dX8_reckon_22 : decode cX8_reckon 22 = .ok (.if_icmp .ge 36, 3) := by decide +kernel
theorem dX8_reckon_25 : decode cX8_reckon 25 = .ok (.lload 5, 2) := by decide +kernel
theorem dX8_reckon_27 : decode cX8_reckon 27 = .ok (.aload_n 0, 1) := by decide +kernel
theorem dX8_reckon_28 : decode cX8_reckon 28 = .ok (.getfield 18, 3) := by decide +kernel
theorem dX8_reckon_31 : decode cX8_reckon 31 = .ok (.iload 4, 2) := by decide +kernel
theorem dX8_reckon_33 : decode cX8_reckon 33 = .ok (.iconst 1, 1) := by decide +kernel
theorem dX8_reckon_34 : decode cX8_reckon 34 = .ok (.iadd, 1) := by decide +kernel
theorem dX8_reckon_35 : decode cX8_reckon 35 = .ok (.iload 7, 2) := by decide +kernel
theorem dX8_reckon_37 : decode cX8_reckon 37 = .ok (.iadd, 1) := by decide +kernel
theorem dX8_reckon_38 : decode cX8_reckon 38 = .ok (.iaload, 1) := by decide +kernel
theorem dX8_reckon_39 : decode cX8_reckon 39 = .ok (.i2l, 1) := by decide +kernel
theorem dX8_reckon_40 : decode cX8_reckon 40 = .ok (.aload_n 0, 1) := by decide +kernel
theorem dX8_reckon_41 : decode cX8_reckon 41 = .ok (.getfield 9, 3) := by decide +kernel
theorem dX8_reckon_44 : decode cX8_reckon 44 = .ok (.iload 7, 2) := by decide +kernel
theorem dX8_reckon_46 : decode cX8_reckon 46 = .ok (.iaload, 1) := by decide +kernel
theorem dX8_reckon_47 : decode cX8_reckon 47 = .ok (.i2l, 1) := by decide +kernel
theorem dX8_reckon_48 : decode cX8_reckon 48 = .ok (.lmul, 1) := by decide +kernel
theorem dX8_reckon_49 : decode cX8_reckon 49 = .ok (.ladd, 1) := by decide +kernel
theorem dX8_reckon_50 : decode cX8_reckon 50 = .ok (.lstore 5, 2) := by decide +kernel
theorem dX8_reckon_52 : decode cX8_reckon 52 = .ok (.iinc 7 1, 3) := by decide +kernel
theorem dX8_reckon_55 : decode cX8_reckon 55 = .ok (.goto (-36), 3) := by decide +kernel
theorem dX8_reckon_58 : decode cX8_reckon 58 = .ok (.iconst 0, 1) := by decide +kernel
theorem dX8_reckon_59 : decode cX8_reckon 59 = .ok (.istore 7, 2) := by decide +kernel
theorem dX8_reckon_61 : decode cX8_reckon 61 = .ok (.iload 7, 2) := by decide +kernel
theorem dX8_reckon_63 : decode cX8_reckon 63 = .ok (.iconst 4, 1) := by decide +kernel
theorem dX8_reckon_64 : decode cX8_reckon 64 = .ok (.if_icmp .ge 36, 3) := by decide +kernel
theorem dX8_reckon_67 : decode cX8_reckon 67 = .ok (.lload 5, 2) := by decide +kernel
theorem dX8_reckon_69 : decode cX8_reckon 69 = .ok (.aload_n 0, 1) := by decide +kernel
theorem dX8_reckon_70 : decode cX8_reckon 70 = .ok (.getfield 18, 3) := by decide +kernel
theorem dX8_reckon_73 : decode cX8_reckon 73 = .ok (.iload 4, 2) := by decide +kernel
theorem dX8_reckon_75 : decode cX8_reckon 75 = .ok (.iconst 1, 1) := by decide +kernel
theorem dX8_reckon_76 : decode cX8_reckon 76 = .ok (.iadd, 1) := by decide +kernel
theorem dX8_reckon_77 : decode cX8_reckon 77 = .ok (.iconst 3, 1) := by decide +kernel
theorem dX8_reckon_78 : decode cX8_reckon 78 = .ok (.iadd, 1) := by decide +kernel
theorem dX8_reckon_79 : decode cX8_reckon 79 = .ok (.iload 7, 2) := by decide +kernel
theorem dX8_reckon_81 : decode cX8_reckon 81 = .ok (.iadd, 1) := by decide +kernel
theorem dX8_reckon_82 : decode cX8_reckon 82 = .ok (.iaload, 1) := by decide +kernel
theorem dX8_reckon_83 : decode cX8_reckon 83 = .ok (.i2l, 1) := by decide +kernel
theorem dX8_reckon_84 : decode cX8_reckon 84 = .ok (.aload_n 2, 1) := by decide +kernel
theorem dX8_reckon_85 : decode cX8_reckon 85 = .ok (.iload_n 3, 1) := by decide +kernel
theorem dX8_reckon_86 : decode cX8_reckon 86 = .ok (.iload 7, 2) := by decide +kernel
theorem dX8_reckon_88 : decode cX8_reckon 88 = .ok (.iadd, 1) := by decide +kernel
theorem dX8_reckon_89 : decode cX8_reckon 89 = .ok (.laload, 1) := by decide +kernel
theorem dX8_reckon_90 : decode cX8_reckon 90 = .ok (.lmul, 1) := by decide +kernel
theorem dX8_reckon_91 : decode cX8_reckon 91 = .ok (.ladd, 1) := by decide +kernel
theorem dX8_reckon_92 : decode cX8_reckon 92 = .ok (.lstore 5, 2) := by decide +kernel
theorem dX8_reckon_94 : decode cX8_reckon 94 = .ok (.iinc 7 1, 3) := by decide +kernel
theorem dX8_reckon_97 : decode cX8_reckon 97 = .ok (.goto (-36), 3) := by decide +kernel
theorem dX8_reckon_100 : decode cX8_reckon 100 = .ok (.lload 5, 2) := by decide +kernel
theorem dX8_reckon_102 : decode cX8_reckon 102 = .ok (.lreturn, 1) := by decide +kernel
theorem dX9_init_0 : decode cX9_init 0 = .ok (.aload_n 0, 1) := by decide +kernel
theorem dX9_init_1 : decode cX9_init 1 = .ok (.invokespecial 3, 3) := by decide +kernel
theorem dX9_init_4 : decode cX9_init 4 = .ok (.aload_n 0, 1) := by decide +kernel
theorem dX9_init_5 : decode cX9_init 5 = .ok (.sipush 1200, 3) := by decide +kernel
theorem dX9_init_8 : decode cX9_init 8 = .ok (.newarray .long, 2) := by decide +kernel
theorem dX9_init_10 : decode cX9_init 10 = .ok (.putfield 9, 3) := by decide +kernel
theorem dX9_init_13 : decode cX9_init 13 = .ok (.aload_n 0, 1) := by decide +kernel
theorem dX9_init_14 : decode cX9_init 14 = .ok (.sipush 1200, 3) := by decide +kernel
theorem dX9_init_17 : decode cX9_init 17 = .ok (.newarray .long, 2) := by decide +kernel
theorem dX9_init_19 : decode cX9_init 19 = .ok (.putfield 15, 3) := by decide +kernel
theorem dX9_init_22 : decode cX9_init 22 = .ok (.aload_n 0, 1) := by decide +kernel
theorem dX9_init_23 : decode cX9_init 23 = .ok (.sipush 1200, 3) := by decide +kernel
theorem dX9_init_26 : decode cX9_init 26 = .ok (.newarray .int, 2) := by decide +kernel
theorem dX9_init_28 : decode cX9_init 28 = .ok (.putfield 18, 3) := by decide +kernel
theorem dX9_init_31 : decode cX9_init 31 = .ok (.aload_n 0, 1) := by decide +kernel
theorem dX9_init_32 : decode cX9_init 32 = .ok (.iconst 0, 1) := by decide +kernel
theorem dX9_init_33 : decode cX9_init 33 = .ok (.putfield 22, 3) := by decide +kernel
theorem dX9_init_36 : decode cX9_init 36 = .ok (.aload_n 0, 1) := by decide +kernel
theorem dX9_init_37 : decode cX9_init 37 = .ok (.sipush 2048, 3) := by decide +kernel
theorem dX9_init_40 : decode cX9_init 40 = .ok (.newarray .int, 2) := by decide +kernel
theorem dX9_init_42 : decode cX9_init 42 = .ok (.putfield 26, 3) := by decide +kernel
theorem dX9_init_45 : decode cX9_init 45 = .ok (.aload_n 0, 1) := by decide +kernel
theorem dX9_init_46 : decode cX9_init 46 = .ok (.iconst 0, 1) := by decide +kernel
theorem dX9_init_47 : decode cX9_init 47 = .ok (.putfield 29, 3) := by decide +kernel
theorem dX9_init_50 : decode cX9_init 50 = .ok (.aload_n 0, 1) := by decide +kernel
theorem dX9_init_51 : decode cX9_init 51 = .ok (.aload_n 1, 1) := by decide +kernel
theorem dX9_init_52 : decode cX9_init 52 = .ok (.putfield 33, 3) := by decide +kernel
theorem dX9_init_55 : decode cX9_init 55 = .ok (.aload_n 0, 1) := by decide +kernel
theorem dX9_init_56 : decode cX9_init 56 = .ok (.aload_n 2, 1) := by decide +kernel
theorem dX9_init_57 : decode cX9_init 57 = .ok (.putfield 37, 3) := by decide +kernel
theorem dX9_init_60 : decode cX9_init 60 = .ok (.aload_n 0, 1) := by decide +kernel
theorem dX9_init_61 : decode cX9_init 61 = .ok (.aload_n 3, 1) := by decide +kernel
theorem dX9_init_62 : decode cX9_init 62 = .ok (.putfield 41, 3) := by decide +kernel
theorem dX9_init_65 : decode cX9_init 65 = .ok (.return_, 1) := by decide +kernel
theorem dX9_refresh_0 : decode cX9_refresh 0 = .ok (.aload_n 0, 1) := by decide +kernel
theorem dX9_refresh_1 : decode cX9_refresh 1 = .ok (.getfield 29, 3) := by decide +kernel
theorem dX9_refresh_4 : decode cX9_refresh 4 = .ok (.ifCond .eq 4, 3) := by decide +kernel
theorem dX9_refresh_7 : decode cX9_refresh 7 = .ok (.return_, 1) := by decide +kernel
theorem dX9_refresh_8 : decode cX9_refresh 8 = .ok (.aload_n 0, 1) := by decide +kernel
theorem dX9_refresh_9 : decode cX9_refresh 9 = .ok (.iconst 0, 1) := by decide +kernel
theorem dX9_refresh_10 : decode cX9_refresh 10 = .ok (.putfield 22, 3) := by decide +kernel
theorem dX9_refresh_13 : decode cX9_refresh 13 = .ok (.aload_n 0, 1) := by decide +kernel
theorem dX9_refresh_14 : decode cX9_refresh 14 = .ok (.getfield 26, 3) := by decide +kernel
theorem dX9_refresh_17 : decode cX9_refresh 17 = .ok (.iconst 0, 1) := by decide +kernel
theorem dX9_refresh_18 : decode cX9_refresh 18 = .ok (.invokestatic 45, 3) := by decide +kernel
theorem dX9_refresh_21 : decode cX9_refresh 21 = .ok (.iconst 0, 1) := by decide +kernel
theorem dX9_refresh_22 : decode cX9_refresh 22 = .ok (.istore_n 1, 1) := by decide +kernel
theorem dX9_refresh_23 : decode cX9_refresh 23 = .ok (.iload_n 1, 1) := by decide +kernel
theorem dX9_refresh_24 : decode cX9_refresh 24 = .ok (.aload_n 0, 1) := by decide +kernel
theorem dX9_refresh_25 : decode cX9_refresh 25 = .ok (.getfield 41, 3) := by decide +kernel
theorem dX9_refresh_28 : decode cX9_refresh 28 = .ok (.getfield 51, 3) := by decide +kernel
theorem dX9_refresh_31 : decode cX9_refresh 31 = .ok (.if_icmp .ge 28, 3) := by decide +kernel
theorem dX9_refresh_34 : decode cX9_refresh 34 = .ok (.iconst 0, 1) := by decide +kernel
theorem dX9_refresh_35 : decode cX9_refresh 35 = .ok (.istore_n 2, 1) := by decide +kernel
theorem dX9_refresh_36 : decode cX9_refresh 36 = .ok (.iload_n 2, 1) := by decide +kernel
theorem dX9_refresh_37 : decode cX9_refresh 37 = .ok (.iconst 3, 1) := by decide +kernel
theorem dX9_refresh_38 : decode cX9_refresh 38 = .ok (.if_icmp .ge 15, 3) := by decide +kernel
theorem dX9_refresh_41 : decode cX9_refresh 41 = .ok (.aload_n 0, 1) := by decide +kernel
theorem dX9_refresh_42 : decode cX9_refresh 42 = .ok (.iload_n 1, 1) := by decide +kernel
theorem dX9_refresh_43 : decode cX9_refresh 43 = .ok (.iload_n 2, 1) := by decide +kernel
theorem dX9_refresh_44 : decode cX9_refresh 44 = .ok (.invokevirtual 56, 3) := by decide +kernel
theorem dX9_refresh_47 : decode cX9_refresh 47 = .ok (.iinc 2 1, 3) := by decide +kernel
theorem dX9_refresh_50 : decode cX9_refresh 50 = .ok (.goto (-14), 3) := by decide +kernel
theorem dX9_refresh_53 : decode cX9_refresh 53 = .ok (.iinc 1 1, 3) := by decide +kernel
theorem dX9_refresh_56 : decode cX9_refresh 56 = .ok (.goto (-33), 3) := by decide +kernel
theorem dX9_refresh_59 : decode cX9_refresh 59 = .ok (.aload_n 0, 1) := by decide +kernel
theorem dX9_refresh_60 : decode cX9_refresh 60 = .ok (.iconst 1, 1) := by decide +kernel
theorem dX9_refresh_61 : decode cX9_refresh 61 = .ok (.putfield 29, 3) := by decide +kernel
theorem dX9_refresh_64 : decode cX9_refresh 64 = .ok (.return_, 1) := by decide +kernel
theorem dX9_arrayAt_0 : decode cX9_arrayAt 0 = .ok (.aload_n 0, 1) := by decide +kernel
theorem dX9_arrayAt_1 : decode cX9_arrayAt 1 = .ok (.getfield 37, 3) := by decide +kernel
theorem dX9_arrayAt_4 : decode cX9_arrayAt 4 = .ok (.getfield 60, 3) := by decide +kernel
theorem dX9_arrayAt_7 : decode cX9_arrayAt 7 = .ok (.aload_n 0, 1) := by decide +kernel
theorem dX9_arrayAt_8 : decode cX9_arrayAt 8 = .ok (.getfield 41, 3) := by decide +kernel
theorem dX9_arrayAt_11 : decode cX9_arrayAt 11 = .ok (.getfield 65, 3) := by decide +kernel
theorem dX9_arrayAt_14 : decode cX9_arrayAt 14 = .ok (.iload_n 1, 1) := by decide +kernel
theorem dX9_arrayAt_15 : decode cX9_arrayAt 15 = .ok (.iaload, 1) := by decide +kernel
theorem dX9_arrayAt_16 : decode cX9_arrayAt 16 = .ok (.iconst 3, 1) := by decide +kernel
theorem dX9_arrayAt_17 : decode cX9_arrayAt 17 = .ok (.imul, 1) := by decide +kernel
theorem dX9_arrayAt_18 : decode cX9_arrayAt 18 = .ok (.iload_n 2, 1) := by decide +kernel
theorem dX9_arrayAt_19 : decode cX9_arrayAt 19 = .ok (.iadd, 1) := by decide +kernel
theorem dX9_arrayAt_20 : decode cX9_arrayAt 20 = .ok (.iaload, 1) := by decide +kernel
theorem dX9_arrayAt_21 : decode cX9_arrayAt 21 = .ok (.ireturn, 1) := by decide +kernel
theorem dX9_reckonTouch_0 : decode cX9_reckonTouch 0 = .ok (.iload_n 1, 1) := by decide +kernel
theorem dX9_reckonTouch_1 : decode cX9_reckonTouch 1 = .ok (.iconst 3, 1) := by decide +kernel
theorem dX9_reckonTouch_2 : decode cX9_reckonTouch 2 = .ok (.imul, 1) := by decide +kernel
theorem dX9_reckonTouch_3 : decode cX9_reckonTouch 3 = .ok (.iload_n 2, 1) := by decide +kernel
theorem dX9_reckonTouch_4 : decode cX9_reckonTouch 4 = .ok (.iadd, 1) := by decide +kernel
theorem dX9_reckonTouch_5 : decode cX9_reckonTouch 5 = .ok (.istore_n 3, 1) := by decide +kernel
theorem dX9_reckonTouch_6 : decode cX9_reckonTouch 6 = .ok (.aload_n 0, 1) := by decide +kernel
theorem dX9_reckonTouch_7 : decode cX9_reckonTouch 7 = .ok (.getfield 41, 3) := by decide +kernel
theorem dX9_reckonTouch_10 : decode cX9_reckonTouch 10 = .ok (.getfield 65, 3) := by decide +kernel
theorem dX9_reckonTouch_13 : decode cX9_reckonTouch 13 = .ok (.iload_n 1, 1) := by decide +kernel
theorem dX9_reckonTouch_14 : decode cX9_reckonTouch 14 = .ok (.iaload, 1) := by decide +kernel
theorem dX9_reckonTouch_15 : decode cX9_reckonTouch 15 = .ok (.iconst 3, 1) := by decide +kernel
theorem dX9_reckonTouch_16 : decode cX9_reckonTouch 16 = .ok (.imul, 1) := by decide +kernel
theorem dX9_reckonTouch_17 : decode cX9_reckonTouch 17 = .ok (.iload_n 2, 1) := by decide +kernel
theorem dX9_reckonTouch_18 : decode cX9_reckonTouch 18 = .ok (.iadd, 1) := by decide +kernel
theorem dX9_reckonTouch_19 : decode cX9_reckonTouch 19 = .ok (.istore 4, 2) := by decide +kernel
theorem dX9_reckonTouch_21 : decode cX9_reckonTouch 21 = .ok (.aload_n 0, 1) := by decide +kernel
theorem dX9_reckonTouch_22 : decode cX9_reckonTouch 22 = .ok (.getfield 18, 3) := by decide +kernel
theorem dX9_reckonTouch_25 : decode cX9_reckonTouch 25 = .ok (.iload_n 3, 1) := by decide +kernel
theorem dX9_reckonTouch_26 : decode cX9_reckonTouch 26 = .ok (.bipush (-9), 2) := by decide +kernel
theorem dX9_reckonTouch_28 : decode cX9_reckonTouch 28 = .ok (.iastore, 1) := by decide +kernel
theorem dX9_reckonTouch_29 : decode cX9_reckonTouch 29 = .ok (.aload_n 0, 1) := by decide +kernel
theorem dX9_reckonTouch_30 : decode cX9_reckonTouch 30 = .ok (.getfield 37, 3) := by decide +kernel
theorem dX9_reckonTouch_33 : decode cX9_reckonTouch 33 = .ok (.getfield 60, 3) := by decide +kernel
theorem dX9_reckonTouch_36 : decode cX9_reckonTouch 36 = .ok (.iload 4, 2) := by decide +kernel
theorem dX9_reckonTouch_38 : decode cX9_reckonTouch 38 = .ok (.iaload, 1) := by decide +kernel
theorem dX9_reckonTouch_39 : decode cX9_reckonTouch 39 = .ok (.ifCond .ge 4, 3) := by decide +kernel
theorem dX9_reckonTouch_42 : decode cX9_reckonTouch 42 = .ok (.return_, 1) := by decide +kernel
theorem dX9_reckonTouch_43 : decode cX9_reckonTouch 43 = .ok (.aload_n 0, 1) := by decide +kernel
theorem dX9_reckonTouch_44 : decode cX9_reckonTouch 44 = .ok (.getfield 9, 3) := by decide +kernel
theorem dX9_reckonTouch_47 : decode cX9_reckonTouch 47 = .ok (.iload_n 3, 1) := by decide +kernel
theorem dX9_reckonTouch_48 : decode cX9_reckonTouch 48 = .ok (.aload_n 0, 1) := by decide +kernel
theorem dX9_reckonTouch_49 : decode cX9_reckonTouch 49 = .ok (.getfield 33, 3) := by decide +kernel
theorem dX9_reckonTouch_52 : decode cX9_reckonTouch 52 = .ok (.aload_n 0, 1) := by decide +kernel
theorem dX9_reckonTouch_53 : decode cX9_reckonTouch 53 = .ok (.getfield 37, 3) := by decide +kernel
theorem dX9_reckonTouch_56 : decode cX9_reckonTouch 56 = .ok (.getfield 68, 3) := by decide +kernel
theorem dX9_reckonTouch_59 : decode cX9_reckonTouch 59 = .ok (.iload 4, 2) := by decide +kernel
theorem dX9_reckonTouch_61 : decode cX9_reckonTouch 61 = .ok (.iaload, 1) := by decide +kernel
theorem dX9_reckonTouch_62 : decode cX9_reckonTouch 62 = .ok (.aload_n 0, 1) := by decide +kernel
theorem dX9_reckonTouch_63 : decode cX9_reckonTouch 63 = .ok (.getfield 41, 3) := by decide +kernel
theorem dX9_reckonTouch_66 : decode cX9_reckonTouch 66 = .ok (.getfield 71, 3) := by decide +kernel
theorem dX9_reckonTouch_69 : decode cX9_reckonTouch 69 = .ok (.iload_n 1, 1) := by decide +kernel
theorem dX9_reckonTouch_70 : decode cX9_reckonTouch 70 = .ok (.iconst 4, 1) := by decide +kernel
theorem dX9_reckonTouch_71 : decode cX9_reckonTouch 71 = .ok (.imul, 1) := by decide +kernel
theorem dX9_reckonTouch_72 : decode cX9_reckonTouch 72 = .ok (.invokevirtual 74, 3) := by decide +kernel
theorem dX9_reckonTouch_75 : decode cX9_reckonTouch 75 = .ok (.lastore, 1) := by decide +kernel
theorem dX9_reckonTouch_76 : decode cX9_reckonTouch 76 = .ok (.aload_n 0, 1) := by decide +kernel
theorem dX9_reckonTouch_77 : decode cX9_reckonTouch 77 = .ok (.getfield 15, 3) := by decide +kernel
theorem dX9_reckonTouch_80 : decode cX9_reckonTouch 80 = .ok (.iload_n 3, 1) := by decide +kernel
theorem dX9_reckonTouch_81 : decode cX9_reckonTouch 81 = .ok (.aload_n 0, 1) := by decide +kernel
theorem dX9_reckonTouch_82 : decode cX9_reckonTouch 82 = .ok (.getfield 33, 3) := by decide +kernel
theorem dX9_reckonTouch_85 : decode cX9_reckonTouch 85 = .ok (.aload_n 0, 1) := by decide +kernel
theorem dX9_reckonTouch_86 : decode cX9_reckonTouch 86 = .ok (.getfield 37, 3) := by decide +kernel
theorem dX9_reckonTouch_89 : decode cX9_reckonTouch 89 = .ok (.getfield 80, 3) := by decide +kernel
theorem dX9_reckonTouch_92 : decode cX9_reckonTouch 92 = .ok (.iload 4, 2) := by decide +kernel
theorem dX9_reckonTouch_94 : decode cX9_reckonTouch 94 = .ok (.iaload, 1) := by decide +kernel
theorem dX9_reckonTouch_95 : decode cX9_reckonTouch 95 = .ok (.aload_n 0, 1) := by decide +kernel
theorem dX9_reckonTouch_96 : decode cX9_reckonTouch 96 = .ok (.getfield 41, 3) := by decide +kernel
theorem dX9_reckonTouch_99 : decode cX9_reckonTouch 99 = .ok (.getfield 71, 3) := by decide +kernel
theorem dX9_reckonTouch_102 : decode cX9_reckonTouch 102 = .ok (.iload_n 1, 1) := by decide +kernel
theorem dX9_reckonTouch_103 : decode cX9_reckonTouch 103 = .ok (.iconst 4, 1) := by decide +kernel
theorem dX9_reckonTouch_104 : decode cX9_reckonTouch 104 = .ok (.imul, 1) := by decide +kernel
theorem dX9_reckonTouch_105 : decode cX9_reckonTouch 105 = .ok (.invokevirtual 74, 3) := by decide +kernel
theorem dX9_reckonTouch_108 : decode cX9_reckonTouch 108 = .ok (.lastore, 1) := by decide +kernel
theorem dX9_reckonTouch_109 : decode cX9_reckonTouch 109 = .ok (.aload_n 0, 1) := by decide +kernel
theorem dX9_reckonTouch_110 : decode cX9_reckonTouch 110 = .ok (.getfield 18, 3) := by decide +kernel
theorem dX9_reckonTouch_113 : decode cX9_reckonTouch 113 = .ok (.iload_n 3, 1) := by decide +kernel
theorem dX9_reckonTouch_114 : decode cX9_reckonTouch 114 = .ok (.aload_n 0, 1) := by decide +kernel
theorem dX9_reckonTouch_115 : decode cX9_reckonTouch 115 = .ok (.iload_n 3, 1) := by decide +kernel
theorem dX9_reckonTouch_116 : decode cX9_reckonTouch 116 = .ok (.aload_n 0, 1) := by decide +kernel
theorem dX9_reckonTouch_117 : decode cX9_reckonTouch 117 = .ok (.getfield 37, 3) := by decide +kernel
theorem dX9_reckonTouch_120 : decode cX9_reckonTouch 120 = .ok (.getfield 60, 3) := by decide +kernel
theorem dX9_reckonTouch_123 : decode cX9_reckonTouch 123 = .ok (.iload 4, 2) := by decide +kernel
theorem dX9_reckonTouch_125 : decode cX9_reckonTouch 125 = .ok (.iaload, 1) := by decide +kernel
theorem dX9_reckonTouch_126 : decode cX9_reckonTouch 126 = .ok (.invokevirtual 83, 3) := by decide +kernel
theorem dX9_reckonTouch_129 : decode cX9_reckonTouch 129 = .ok (.iastore, 1) := by decide +kernel
theorem dX9_reckonTouch_130 : decode cX9_reckonTouch 130 = .ok (.return_, 1) := by decide +kernel
theorem dX9_spotOf_0 : decode cX9_spotOf 0 = .ok (.iload_n 2, 1) := by decide +kernel
theorem dX9_spotOf_1 : decode cX9_spotOf 1 = .ok (.aload_n 0, 1) := by decide +kernel
theorem dX9_spotOf_2 : decode cX9_spotOf 2 = .ok (.getfield 9, 3) := by decide +kernel
theorem dX9_spotOf_5 : decode cX9_spotOf 5 = .ok (.iload_n 1, 1) := by decide +kernel
theorem dX9_spotOf_6 : decode cX9_spotOf 6 = .ok (.laload, 1) := by decide +kernel
theorem dX9_spotOf_7 : decode cX9_spotOf 7 = .ok (.aload_n 0, 1) := by decide +kernel
theorem dX9_spotOf_8 : decode cX9_spotOf 8 = .ok (.getfield 15, 3) := by decide +kernel
theorem dX9_spotOf_11 : decode cX9_spotOf 11 = .ok (.iload_n 1, 1) := by decide +kernel
theorem dX9_spotOf_12 : decode cX9_spotOf 12 = .ok (.laload, 1) := by decide +kernel
theorem dX9_spotOf_13 : decode cX9_spotOf 13 = .ok (.invokestatic 87, 3) := by decide +kernel
theorem dX9_spotOf_16 : decode cX9_spotOf 16 = .ok (.istore_n 3, 1) := by decide +kernel
theorem dX9_spotOf_17 : decode cX9_spotOf 17 = .ok (.iconst 0, 1) := by decide +kernel
theorem dX9_spotOf_18 : decode cX9_spotOf 18 = .ok (.istore 4, 2) := by decide +kernel
theorem dX9_spotOf_20 : decode cX9_spotOf 20 = .ok (.iload 4, 2) := by decide +kernel
theorem dX9_spotOf_22 : decode cX9_spotOf 22 = .ok (.sipush 2048, 3) := by decide +kernel
theorem dX9_spotOf_25 : decode cX9_spotOf 25 = .ok (.if_icmp .ge 94, 3) := by decide +kernel
theorem dX9_spotOf_28 : decode cX9_spotOf 28 = .ok (.aload_n 0, 1) := by decide +kernel
theorem dX9_spotOf_29 : decode cX9_spotOf 29 = .ok (.getfield 26, 3) := by decide +kernel
theorem dX9_spotOf_32 : decode cX9_spotOf 32 = .ok (.iload_n 3, 1) := by decide +kernel
theorem dX9_spotOf_33 : decode cX9_spotOf 33 = .ok (.iaload, 1) := by decide +kernel
theorem dX9_spotOf_34 : decode cX9_spotOf 34 = .ok (.ifCond .eq 85, 3) := by decide +kernel
theorem dX9_spotOf_37 : decode cX9_spotOf 37 = .ok (.aload_n 0, 1) := by decide +kernel
theorem dX9_spotOf_38 : decode cX9_spotOf 38 = .ok (.getfield 26, 3) := by decide +kernel
theorem dX9_spotOf_41 : decode cX9_spotOf 41 = .ok (.iload_n 3, 1) := by decide +kernel
theorem dX9_spotOf_42 : decode cX9_spotOf 42 = .ok (.iaload, 1) := by decide +kernel
theorem dX9_spotOf_43 : decode cX9_spotOf 43 = .ok (.iconst 1, 1) := by decide +kernel
theorem dX9_spotOf_44 : decode cX9_spotOf 44 = .ok (.isub, 1) := by decide +kernel
theorem dX9_spotOf_45 : decode cX9_spotOf 45 = .ok (.istore 5, 2) := by decide +kernel
theorem dX9_spotOf_47 : decode cX9_spotOf 47 = .ok (.aload_n 0, 1) := by decide +kernel
theorem dX9_spotOf_48 : decode cX9_spotOf 48 = .ok (.getfield 9, 3) := by decide +kernel
theorem dX9_spotOf_51 : decode cX9_spotOf 51 = .ok (.iload 5, 2) := by decide +kernel
theorem dX9_spotOf_53 : decode cX9_spotOf 53 = .ok (.laload, 1) := by decide +kernel
theorem dX9_spotOf_54 : decode cX9_spotOf 54 = .ok (.aload_n 0, 1) := by decide +kernel
theorem dX9_spotOf_55 : decode cX9_spotOf 55 = .ok (.getfield 9, 3) := by decide +kernel
theorem dX9_spotOf_58 : decode cX9_spotOf 58 = .ok (.iload_n 1, 1) := by decide +kernel
theorem dX9_spotOf_59 : decode cX9_spotOf 59 = .ok (.laload, 1) := by decide +kernel
theorem dX9_spotOf_60 : decode cX9_spotOf 60 = .ok (.lcmp, 1) := by decide +kernel
theorem dX9_spotOf_61 : decode cX9_spotOf 61 = .ok (.ifCond .ne 44, 3) := by decide +kernel
theorem dX9_spotOf_64 : decode cX9_spotOf 64 = .ok (.aload_n 0, 1) := by decide +kernel
theorem dX9_spotOf_65 : decode cX9_spotOf 65 = .ok (.getfield 15, 3) := by decide +kernel
theorem dX9_spotOf_68 : decode cX9_spotOf 68 = .ok (.iload 5, 2) := by decide +kernel
theorem dX9_spotOf_70 : decode cX9_spotOf 70 = .ok (.laload, 1) := by decide +kernel
theorem dX9_spotOf_71 : decode cX9_spotOf 71 = .ok (.aload_n 0, 1) := by decide +kernel
theorem dX9_spotOf_72 : decode cX9_spotOf 72 = .ok (.getfield 15, 3) := by decide +kernel
theorem dX9_spotOf_75 : decode cX9_spotOf 75 = .ok (.iload_n 1, 1) := by decide +kernel
theorem dX9_spotOf_76 : decode cX9_spotOf 76 = .ok (.laload, 1) := by decide +kernel
theorem dX9_spotOf_77 : decode cX9_spotOf 77 = .ok (.lcmp, 1) := by decide +kernel
theorem dX9_spotOf_78 : decode cX9_spotOf 78 = .ok (.ifCond .ne 27, 3) := by decide +kernel
theorem dX9_spotOf_81 : decode cX9_spotOf 81 = .ok (.aload_n 0, 1) := by decide +kernel
theorem dX9_spotOf_82 : decode cX9_spotOf 82 = .ok (.iload 5, 2) := by decide +kernel
theorem dX9_spotOf_84 : decode cX9_spotOf 84 = .ok (.iconst 3, 1) := by decide +kernel
theorem dX9_spotOf_85 : decode cX9_spotOf 85 = .ok (.idiv, 1) := by decide +kernel
theorem dX9_spotOf_86 : decode cX9_spotOf 86 = .ok (.iload 5, 2) := by decide +kernel
theorem dX9_spotOf_88 : decode cX9_spotOf 88 = .ok (.iconst 3, 1) := by decide +kernel
theorem dX9_spotOf_89 : decode cX9_spotOf 89 = .ok (.irem, 1) := by decide +kernel
theorem dX9_spotOf_90 : decode cX9_spotOf 90 = .ok (.invokevirtual 91, 3) := by decide +kernel
theorem dX9_spotOf_93 : decode cX9_spotOf 93 = .ok (.iload_n 2, 1) := by decide +kernel
theorem dX9_spotOf_94 : decode cX9_spotOf 94 = .ok (.if_icmp .ne 11, 3) := by decide +kernel
theorem dX9_spotOf_97 : decode cX9_spotOf 97 = .ok (.aload_n 0, 1) := by decide +kernel
theorem dX9_spotOf_98 : decode cX9_spotOf 98 = .ok (.getfield 18, 3) := by decide +kernel
theorem dX9_spotOf_101 : decode cX9_spotOf 101 = .ok (.iload 5, 2) := by decide +kernel
theorem dX9_spotOf_103 : decode cX9_spotOf 103 = .ok (.iaload, 1) := by decide +kernel
theorem dX9_spotOf_104 : decode cX9_spotOf 104 = .ok (.ireturn, 1) := by decide +kernel
theorem dX9_spotOf_105 : decode cX9_spotOf 105 = .ok (.iload_n 3, 1) := by decide +kernel
theorem dX9_spotOf_106 : decode cX9_spotOf 106 = .ok (.iconst 1, 1) := by decide +kernel
theorem dX9_spotOf_107 : decode cX9_spotOf 107 = .ok (.iadd, 1) := by decide +kernel
theorem dX9_spotOf_108 : decode cX9_spotOf 108 = .ok (.sipush 2047, 3) := by decide +kernel
theorem dX9_spotOf_111 : decode cX9_spotOf 111 = .ok (.iand, 1) := by decide +kernel
theorem dX9_spotOf_112 : decode cX9_spotOf 112 = .ok (.istore_n 3, 1) := by decide +kernel
theorem dX9_spotOf_113 : decode cX9_spotOf 113 = .ok (.iinc 4 1, 3) := by decide +kernel
theorem dX9_spotOf_116 : decode cX9_spotOf 116 = .ok (.goto (-96), 3) := by decide +kernel
theorem dX9_spotOf_119 : decode cX9_spotOf 119 = .ok (.aload_n 0, 1) := by decide +kernel
theorem dX9_spotOf_120 : decode cX9_spotOf 120 = .ok (.getfield 26, 3) := by decide +kernel
theorem dX9_spotOf_123 : decode cX9_spotOf 123 = .ok (.iload_n 3, 1) := by decide +kernel
theorem dX9_spotOf_124 : decode cX9_spotOf 124 = .ok (.iload_n 1, 1) := by decide +kernel
theorem dX9_spotOf_125 : decode cX9_spotOf 125 = .ok (.iconst 1, 1) := by decide +kernel
theorem dX9_spotOf_126 : decode cX9_spotOf 126 = .ok (.iadd, 1) := by decide +kernel
theorem dX9_spotOf_127 : decode cX9_spotOf 127 = .ok (.iastore, 1) := by decide +kernel
theorem dX9_spotOf_128 : decode cX9_spotOf 128 = .ok (.aload_n 0, 1) := by decide +kernel
theorem dX9_spotOf_129 : decode cX9_spotOf 129 = .ok (.dup, 1) := by decide +kernel
theorem dX9_spotOf_130 : decode cX9_spotOf 130 = .ok (.getfield 22, 3) := by decide +kernel
theorem dX9_spotOf_133 : decode cX9_spotOf 133 = .ok (.iconst 1, 1) := by decide +kernel
theorem dX9_spotOf_134 : decode cX9_spotOf 134 = .ok (.iadd, 1) := by decide +kernel
theorem dX9_spotOf_135 : decode cX9_spotOf 135 = .ok (.putfield 22, 3) := by decide +kernel
theorem dX9_spotOf_138 : decode cX9_spotOf 138 = .ok (.aload_n 0, 1) := by decide +kernel
theorem dX9_spotOf_139 : decode cX9_spotOf 139 = .ok (.getfield 22, 3) := by decide +kernel
theorem dX9_spotOf_142 : decode cX9_spotOf 142 = .ok (.iconst 1, 1) := by decide +kernel
theorem dX9_spotOf_143 : decode cX9_spotOf 143 = .ok (.isub, 1) := by decide +kernel
theorem dX9_spotOf_144 : decode cX9_spotOf 144 = .ok (.ireturn, 1) := by decide +kernel
theorem dX9_slotOf_0 : decode cX9_slotOf 0 = .ok (.lload_n 1, 1) := by decide +kernel
theorem dX9_slotOf_1 : decode cX9_slotOf 1 = .ok (.ldc2_w 94, 3) := by decide +kernel
theorem dX9_slotOf_4 : decode cX9_slotOf 4 = .ok (.lmul, 1) := by decide +kernel
theorem dX9_slotOf_5 : decode cX9_slotOf 5 = .ok (.lload_n 3, 1) := by decide +kernel
theorem dX9_slotOf_6 : decode cX9_slotOf 6 = .ok (.ldc2_w 96, 3) := by decide +kernel
theorem dX9_slotOf_9 : decode cX9_slotOf 9 = .ok (.lmul, 1) := by decide +kernel
theorem dX9_slotOf_10 : decode cX9_slotOf 10 = .ok (.ladd, 1) := by decide +kernel
theorem dX9_slotOf_11 : decode cX9_slotOf 11 = .ok (.iload_n 0, 1) := by decide +kernel
theorem dX9_slotOf_12 : decode cX9_slotOf 12 = .ok (.i2l, 1) := by decide +kernel
theorem dX9_slotOf_13 : decode cX9_slotOf 13 = .ok (.ldc2_w 98, 3) := by decide +kernel
theorem dX9_slotOf_16 : decode cX9_slotOf 16 = .ok (.lmul, 1) := by decide +kernel
theorem dX9_slotOf_17 : decode cX9_slotOf 17 = .ok (.ladd, 1) := by decide +kernel
theorem dX9_slotOf_18 : decode cX9_slotOf 18 = .ok (.lstore 5, 2) := by decide +kernel
theorem dX9_slotOf_20 : decode cX9_slotOf 20 = .ok (.lload 5, 2) := by decide +kernel
theorem dX9_slotOf_22 : decode cX9_slotOf 22 = .ok (.bipush 48, 2) := by decide +kernel
theorem dX9_slotOf_24 : decode cX9_slotOf 24 = .ok (.lushr, 1) := by decide +kernel
theorem dX9_slotOf_25 : decode cX9_slotOf 25 = .ok (.l2i, 1) := by decide +kernel
theorem dX9_slotOf_26 : decode cX9_slotOf 26 = .ok (.sipush 2047, 3) := by decide +kernel
theorem dX9_slotOf_29 : decode cX9_slotOf 29 = .ok (.iand, 1) := by decide +kernel
theorem dX9_slotOf_30 : decode cX9_slotOf 30 = .ok (.ireturn, 1) := by decide +kernel
theorem dX9_isSame_0 : decode cX9_isSame 0 = .ok (.aload_n 0, 1) := by decide +kernel
theorem dX9_isSame_1 : decode cX9_isSame 1 = .ok (.getfield 18, 3) := by decide +kernel
theorem dX9_isSame_4 : decode cX9_isSame 4 = .ok (.iload_n 1, 1) := by decide +kernel
theorem dX9_isSame_5 : decode cX9_isSame 5 = .ok (.iaload, 1) := by decide +kernel
theorem dX9_isSame_6 : decode cX9_isSame 6 = .ok (.ifCond .lt 22, 3) := by decide +kernel
theorem dX9_isSame_9 : decode cX9_isSame 9 = .ok (.aload_n 0, 1) := by decide +kernel
theorem dX9_isSame_10 : decode cX9_isSame 10 = .ok (.getfield 18, 3) := by decide +kernel
theorem dX9_isSame_13 : decode cX9_isSame 13 = .ok (.iload_n 1, 1) := by decide +kernel
theorem dX9_isSame_14 : decode cX9_isSame 14 = .ok (.iaload, 1) := by decide +kernel
theorem dX9_isSame_15 : decode cX9_isSame 15 = .ok (.aload_n 0, 1) := by decide +kernel
theorem dX9_isSame_16 : decode cX9_isSame 16 = .ok (.getfield 18, 3) := by decide +kernel
theorem dX9_isSame_19 : decode cX9_isSame 19 = .ok (.iload_n 2, 1) := by decide +kernel
theorem dX9_isSame_20 : decode cX9_isSame 20 = .ok (.iaload, 1) := by decide +kernel
theorem dX9_isSame_21 : decode cX9_isSame 21 = .ok (.if_icmp .ne 7, 3) := by decide +kernel
theorem dX9_isSame_24 : decode cX9_isSame 24 = .ok (.iconst 1, 1) := by decide +kernel
theorem dX9_isSame_25 : decode cX9_isSame 25 = .ok (.goto 4, 3) := by decide +kernel
theorem dX9_isSame_28 : decode cX9_isSame 28 = .ok (.iconst 0, 1) := by decide +kernel
theorem dX9_isSame_29 : decode cX9_isSame 29 = .ok (.ireturn, 1) := by decide +kernel
theorem dX9_leastKind_0 : decode cX9_leastKind 0 = .ok (.iload_n 1, 1) := by decide +kernel
theorem dX9_leastKind_1 : decode cX9_leastKind 1 = .ok (.iconst 3, 1) := by decide +kernel
theorem dX9_leastKind_2 : decode cX9_leastKind 2 = .ok (.imul, 1) := by decide +kernel
theorem dX9_leastKind_3 : decode cX9_leastKind 3 = .ok (.istore_n 3, 1) := by decide +kernel
theorem dX9_leastKind_4 : decode cX9_leastKind 4 = .ok (.iload_n 2, 1) := by decide +kernel
theorem dX9_leastKind_5 : decode cX9_leastKind 5 = .ok (.iconst 3, 1) := by decide +kernel
theorem dX9_leastKind_6 : decode cX9_leastKind 6 = .ok (.imul, 1) := by decide +kernel
theorem dX9_leastKind_7 : decode cX9_leastKind 7 = .ok (.istore 4, 2) := by decide +kernel
theorem dX9_leastKind_9 : decode cX9_leastKind 9 = .ok (.aload_n 0, 1) := by decide +kernel
theorem dX9_leastKind_10 : decode cX9_leastKind 10 = .ok (.iload_n 3, 1) := by decide +kernel
theorem dX9_leastKind_11 : decode cX9_leastKind 11 = .ok (.iload 4, 2) := by decide +kernel
theorem dX9_leastKind_13 : decode cX9_leastKind 13 = .ok (.iconst 1, 1) := by decide +kernel
theorem dX9_leastKind_14 : decode cX9_leastKind 14 = .ok (.iadd, 1) := by decide +kernel
theorem dX9_leastKind_15 : decode cX9_leastKind 15 = .ok (.invokevirtual 100, 3) := by decide +kernel
theorem dX9_leastKind_18 : decode cX9_leastKind 18 = .ok (.ifCond .ne 15, 3) := by decide +kernel
theorem dX9_leastKind_21 : decode cX9_leastKind 21 = .ok (.aload_n 0, 1) := by decide +kernel
theorem dX9_leastKind_22 : decode cX9_leastKind 22 = .ok (.iload_n 3, 1) := by decide +kernel
theorem dX9_leastKind_23 : decode cX9_leastKind 23 = .ok (.iload 4, 2) := by decide +kernel
theorem dX9_leastKind_25 : decode cX9_leastKind 25 = .ok (.iconst 2, 1) := by decide +kernel
theorem dX9_leastKind_26 : decode cX9_leastKind 26 = .ok (.iadd, 1) := by decide +kernel
theorem dX9_leastKind_27 : decode cX9_leastKind 27 = .ok (.invokevirtual 100, 3) := by decide +kernel
theorem dX9_leastKind_30 : decode cX9_leastKind 30 = .ok (.ifCond .eq 5, 3) := by decide +kernel
theorem dX9_leastKind_33 : decode cX9_leastKind 33 = .ok (.iconst 0, 1) := by decide +kernel
theorem dX9_leastKind_34 : decode cX9_leastKind 34 = .ok (.ireturn, 1) := by decide +kernel
theorem dX9_leastKind_35 : decode cX9_leastKind 35 = .ok (.aload_n 0, 1) := by decide +kernel
theorem dX9_leastKind_36 : decode cX9_leastKind 36 = .ok (.iload_n 3, 1) := by decide +kernel
theorem dX9_leastKind_37 : decode cX9_leastKind 37 = .ok (.iconst 1, 1) := by decide +kernel
theorem dX9_leastKind_38 : decode cX9_leastKind 38 = .ok (.iadd, 1) := by decide +kernel
theorem dX9_leastKind_39 : decode cX9_leastKind 39 = .ok (.iload 4, 2) := by decide +kernel
theorem dX9_leastKind_41 : decode cX9_leastKind 41 = .ok (.invokevirtual 100, 3) := by decide +kernel
theorem dX9_leastKind_44 : decode cX9_leastKind 44 = .ok (.ifCond .ne 15, 3) := by decide +kernel
theorem dX9_leastKind_47 : decode cX9_leastKind 47 = .ok (.aload_n 0, 1) := by decide +kernel
theorem dX9_leastKind_48 : decode cX9_leastKind 48 = .ok (.iload_n 3, 1) := by decide +kernel
theorem dX9_leastKind_49 : decode cX9_leastKind 49 = .ok (.iconst 2, 1) := by decide +kernel
theorem dX9_leastKind_50 : decode cX9_leastKind 50 = .ok (.iadd, 1) := by decide +kernel
theorem dX9_leastKind_51 : decode cX9_leastKind 51 = .ok (.iload 4, 2) := by decide +kernel
theorem dX9_leastKind_53 : decode cX9_leastKind 53 = .ok (.invokevirtual 100, 3) := by decide +kernel
theorem dX9_leastKind_56 : decode cX9_leastKind 56 = .ok (.ifCond .eq 5, 3) := by decide +kernel
theorem dX9_leastKind_59 : decode cX9_leastKind 59 = .ok (.iconst 1, 1) := by decide +kernel
theorem dX9_leastKind_60 : decode cX9_leastKind 60 = .ok (.ireturn, 1) := by decide +kernel
theorem dX9_leastKind_61 : decode cX9_leastKind 61 = .ok (.aload_n 0, 1) := by decide +kernel
theorem dX9_leastKind_62 : decode cX9_leastKind 62 = .ok (.iload_n 3, 1) := by decide +kernel
theorem dX9_leastKind_63 : decode cX9_leastKind 63 = .ok (.iload 4, 2) := by decide +kernel
theorem dX9_leastKind_65 : decode cX9_leastKind 65 = .ok (.invokevirtual 100, 3) := by decide +kernel
theorem dX9_leastKind_68 : decode cX9_leastKind 68 = .ok (.ifCond .eq 7, 3) := by decide +kernel
theorem dX9_leastKind_71 : decode cX9_leastKind 71 = .ok (.iconst 2, 1) := by decide +kernel
theorem dX9_leastKind_72 : decode cX9_leastKind 72 = .ok (.goto 5, 3) := by decide +kernel
theorem dX9_leastKind_75 : decode cX9_leastKind 75 = .ok (.bipush (-9), 2) := by decide +kernel
theorem dX9_leastKind_77 : decode cX9_leastKind 77 = .ok (.ireturn, 1) := by decide +kernel
theorem dX10_init_0 : decode cX10_init 0 = .ok (.aload_n 0, 1) := by decide +kernel
theorem dX10_init_1 : decode cX10_init 1 = .ok (.invokespecial 3, 3) := by decide +kernel
theorem dX10_init_4 : decode cX10_init 4 = .ok (.aload_n 0, 1) := by decide +kernel
theorem dX10_init_5 : decode cX10_init 5 = .ok (.sipush 6400, 3) := by decide +kernel
theorem dX10_init_8 : decode cX10_init 8 = .ok (.newarray .long, 2) := by decide +kernel
theorem dX10_init_10 : decode cX10_init 10 = .ok (.putfield 9, 3) := by decide +kernel
theorem dX10_init_13 : decode cX10_init 13 = .ok (.aload_n 0, 1) := by decide +kernel
theorem dX10_init_14 : decode cX10_init 14 = .ok (.sipush 400, 3) := by decide +kernel
theorem dX10_init_17 : decode cX10_init 17 = .ok (.newarray .int, 2) := by decide +kernel
theorem dX10_init_19 : decode cX10_init 19 = .ok (.putfield 15, 3) := by decide +kernel
theorem dX10_init_22 : decode cX10_init 22 = .ok (.aload_n 0, 1) := by decide +kernel
theorem dX10_init_23 : decode cX10_init 23 = .ok (.sipush 400, 3) := by decide +kernel
theorem dX10_init_26 : decode cX10_init 26 = .ok (.newarray .int, 2) := by decide +kernel
theorem dX10_init_28 : decode cX10_init 28 = .ok (.putfield 19, 3) := by decide +kernel
theorem dX10_init_31 : decode cX10_init 31 = .ok (.aload_n 0, 1) := by decide +kernel
theorem dX10_init_32 : decode cX10_init 32 = .ok (.sipush 400, 3) := by decide +kernel
theorem dX10_init_35 : decode cX10_init 35 = .ok (.newarray .int, 2) := by decide +kernel
theorem dX10_init_37 : decode cX10_init 37 = .ok (.putfield 22, 3) := by decide +kernel
theorem dX10_init_40 : decode cX10_init 40 = .ok (.aload_n 0, 1) := by decide +kernel
theorem dX10_init_41 : decode cX10_init 41 = .ok (.iconst 0, 1) := by decide +kernel
theorem dX10_init_42 : decode cX10_init 42 = .ok (.putfield 25, 3) := by decide +kernel
theorem dX10_init_45 : decode cX10_init 45 = .ok (.aload_n 0, 1) := by decide +kernel
theorem dX10_init_46 : decode cX10_init 46 = .ok (.sipush 1200, 3) := by decide +kernel
theorem dX10_init_49 : decode cX10_init 49 = .ok (.newarray .int, 2) := by decide +kernel
theorem dX10_init_51 : decode cX10_init 51 = .ok (.putfield 29, 3) := by decide +kernel
theorem dX10_init_54 : decode cX10_init 54 = .ok (.aload_n 0, 1) := by decide +kernel
theorem dX10_init_55 : decode cX10_init 55 = .ok (.sipush 1200, 3) := by decide +kernel
theorem dX10_init_58 : decode cX10_init 58 = .ok (.newarray .int, 2) := by decide +kernel
theorem dX10_init_60 : decode cX10_init 60 = .ok (.putfield 32, 3) := by decide +kernel
theorem dX10_init_63 : decode cX10_init 63 = .ok (.aload_n 0, 1) := by decide +kernel
theorem dX10_init_64 : decode cX10_init 64 = .ok (.bipush (-9), 2) := by decide +kernel
theorem dX10_init_66 : decode cX10_init 66 = .ok (.putfield 35, 3) := by decide +kernel
theorem dX10_init_69 : decode cX10_init 69 = .ok (.aload_n 0, 1) := by decide +kernel
theorem dX10_init_70 : decode cX10_init 70 = .ok (.bipush (-9), 2) := by decide +kernel
theorem dX10_init_72 : decode cX10_init 72 = .ok (.putfield 39, 3) := by decide +kernel
theorem dX10_init_75 : decode cX10_init 75 = .ok (.aload_n 0, 1) := by decide +kernel
theorem dX10_init_76 : decode cX10_init 76 = .ok (.bipush (-9), 2) := by decide +kernel
theorem dX10_init_78 : decode cX10_init 78 = .ok (.putfield 42, 3) := by decide +kernel
theorem dX10_init_81 : decode cX10_init 81 = .ok (.aload_n 0, 1) := by decide +kernel
theorem dX10_init_82 : decode cX10_init 82 = .ok (.iconst 0, 1) := by decide +kernel
theorem dX10_init_83 : decode cX10_init 83 = .ok (.putfield 45, 3) := by decide +kernel
theorem dX10_init_86 : decode cX10_init 86 = .ok (.aload_n 0, 1) := by decide +kernel
theorem dX10_init_87 : decode cX10_init 87 = .ok (.sipush 401, 3) := by decide +kernel
theorem dX10_init_90 : decode cX10_init 90 = .ok (.newarray .int, 2) := by decide +kernel
theorem dX10_init_92 : decode cX10_init 92 = .ok (.putfield 48, 3) := by decide +kernel
theorem dX10_init_95 : decode cX10_init 95 = .ok (.aload_n 0, 1) := by decide +kernel
theorem dX10_init_96 : decode cX10_init 96 = .ok (.iconst 0, 1) := by decide +kernel
theorem dX10_init_97 : decode cX10_init 97 = .ok (.putfield 51, 3) := by decide +kernel
theorem dX10_init_100 : decode cX10_init 100 = .ok (.aload_n 0, 1) := by decide +kernel
theorem dX10_init_101 : decode cX10_init 101 = .ok (.iconst 0, 1) := by decide +kernel
theorem dX10_init_102 : decode cX10_init 102 = .ok (.putfield 54, 3) := by decide +kernel
theorem dX10_init_105 : decode cX10_init 105 = .ok (.aload_n 0, 1) := by decide +kernel
theorem dX10_init_106 : decode cX10_init 106 = .ok (.aload_n 1, 1) := by decide +kernel
theorem dX10_init_107 : decode cX10_init 107 = .ok (.putfield 57, 3) := by decide +kernel
theorem dX10_init_110 : decode cX10_init 110 = .ok (.aload_n 0, 1) := by decide +kernel
theorem dX10_init_111 : decode cX10_init 111 = .ok (.aload_n 2, 1) := by decide +kernel
theorem dX10_init_112 : decode cX10_init 112 = .ok (.putfield 61, 3) := by decide +kernel
theorem dX10_init_115 : decode cX10_init 115 = .ok (.aload_n 0, 1) := by decide +kernel
theorem dX10_init_116 : decode cX10_init 116 = .ok (.aload_n 3, 1) := by decide +kernel
theorem dX10_init_117 : decode cX10_init 117 = .ok (.putfield 65, 3) := by decide +kernel
theorem dX10_init_120 : decode cX10_init 120 = .ok (.return_, 1) := by decide +kernel
theorem dX10_arrange_0 : decode cX10_arrange 0 = .ok (.aload_n 0, 1) := by decide +kernel
theorem dX10_arrange_1 : decode cX10_arrange 1 = .ok (.getfield 25, 3) := by decide +kernel
theorem dX10_arrange_4 : decode cX10_arrange 4 = .ok (.ifCond .eq 4, 3) := by decide +kernel
theorem dX10_arrange_7 : decode cX10_arrange 7 = .ok (.return_, 1) := by decide +kernel
theorem dX10_arrange_8 : decode cX10_arrange 8 = .ok (.iconst 0, 1) := by decide +kernel
theorem dX10_arrange_9 : decode cX10_arrange 9 = .ok (.istore_n 1, 1) := by decide +kernel
theorem dX10_arrange_10 : decode cX10_arrange 10 = .ok (.iload_n 1, 1) := by decide +kernel
theorem dX10_arrange_11 : decode cX10_arrange 11 = .ok (.aload_n 0, 1) := by decide +kernel
theorem dX10_arrange_12 : decode cX10_arrange 12 = .ok (.getfield 61, 3) := by decide +kernel
theorem dX10_arrange_15 : decode cX10_arrange 15 = .ok (.getfield 69, 3) := by decide +kernel
theorem dX10_arrange_18 : decode cX10_arrange 18 = .ok (.if_icmp .ge 21, 3) := by decide +kernel
theorem dX10_arrange_21 : decode cX10_arrange 21 = .ok (.aload_n 0, 1) := by decide +kernel
theorem dX10_arrange_22 : decode cX10_arrange 22 = .ok (.iload_n 1, 1) := by decide +kernel
theorem dX10_arrange_23 : decode cX10_arrange 23 = .ok (.invokevirtual 74, 3) := by decide +kernel
theorem dX10_arrange_26 : decode cX10_arrange 26 = .ok (.aload_n 0, 1) := by decide +kernel
theorem dX10_arrange_27 : decode cX10_arrange 27 = .ok (.getfield 15, 3) := by decide +kernel
theorem dX10_arrange_30 : decode cX10_arrange 30 = .ok (.iload_n 1, 1) := by decide +kernel
theorem dX10_arrange_31 : decode cX10_arrange 31 = .ok (.iload_n 1, 1) := by decide +kernel
theorem dX10_arrange_32 : decode cX10_arrange 32 = .ok (.iastore, 1) := by decide +kernel
theorem dX10_arrange_33 : decode cX10_arrange 33 = .ok (.iinc 1 1, 3) := by decide +kernel
theorem dX10_arrange_36 : decode cX10_arrange 36 = .ok (.goto (-26), 3) := by decide +kernel
theorem dX10_arrange_39 : decode cX10_arrange 39 = .ok (.iconst 1, 1) := by decide +kernel
theorem dX10_arrange_40 : decode cX10_arrange 40 = .ok (.istore_n 1, 1) := by decide +kernel
theorem dX10_arrange_41 : decode cX10_arrange 41 = .ok (.iload_n 1, 1) := by decide +kernel
theorem dX10_arrange_42 : decode cX10_arrange 42 = .ok (.aload_n 0, 1) := by decide +kernel
theorem dX10_arrange_43 : decode cX10_arrange 43 = .ok (.getfield 61, 3) := by decide +kernel
theorem dX10_arrange_46 : decode cX10_arrange 46 = .ok (.getfield 69, 3) := by decide +kernel
theorem dX10_arrange_49 : decode cX10_arrange 49 = .ok (.if_icmp .ge 57, 3) := by decide +kernel
theorem dX10_arrange_52 : decode cX10_arrange 52 = .ok (.iconst 0, 1) := by decide +kernel
theorem dX10_arrange_53 : decode cX10_arrange 53 = .ok (.istore_n 2, 1) := by decide +kernel
theorem dX10_arrange_54 : decode cX10_arrange 54 = .ok (.iload_n 2, 1) := by decide +kernel
theorem dX10_arrange_55 : decode cX10_arrange 55 = .ok (.iload_n 1, 1) := by decide +kernel
theorem dX10_arrange_56 : decode cX10_arrange 56 = .ok (.iadd, 1) := by decide +kernel
theorem dX10_arrange_57 : decode cX10_arrange 57 = .ok (.aload_n 0, 1) := by decide +kernel
theorem dX10_arrange_58 : decode cX10_arrange 58 = .ok (.getfield 61, 3) := by decide +kernel
theorem dX10_arrange_61 : decode cX10_arrange 61 = .ok (.getfield 69, 3) := by decide +kernel
theorem dX10_arrange_64 : decode cX10_arrange 64 = .ok (.if_icmp .ge 35, 3) := by decide +kernel
theorem dX10_arrange_67 : decode cX10_arrange 67 = .ok (.aload_n 0, 1) := by decide +kernel
theorem dX10_arrange_68 : decode cX10_arrange 68 = .ok (.iload_n 2, 1) := by decide +kernel
theorem dX10_arrange_69 : decode cX10_arrange 69 = .ok (.iload_n 2, 1) := by decide +kernel
theorem dX10_arrange_70 : decode cX10_arrange 70 = .ok (.iload_n 1, 1) := by decide +kernel
theorem dX10_arrange_71 : decode cX10_arrange 71 = .ok (.iadd, 1) := by decide +kernel
theorem dX10_arrange_72 : decode cX10_arrange 72 = .ok (.iload_n 2, 1) := by decide +kernel
theorem dX10_arrange_73 : decode cX10_arrange 73 = .ok (.iconst 2, 1) := by decide +kernel
theorem dX10_arrange_74 : decode cX10_arrange 74 = .ok (.iload_n 1, 1) := by decide +kernel
theorem dX10_arrange_75 : decode cX10_arrange 75 = .ok (.imul, 1) := by decide +kernel
theorem dX10_arrange_76 : decode cX10_arrange 76 = .ok (.iadd, 1) := by decide +kernel
theorem dX10_arrange_77 : decode cX10_arrange 77 = .ok (.aload_n 0, 1) := by decide +kernel
theorem dX10_arrange_78 : decode cX10_arrange 78 = .ok (.getfield 61, 3) := by decide +kernel
theorem dX10_arrange_81 : decode cX10_arrange 81 = .ok (.getfield 69, 3) := by decide +kernel
theorem dX10_arrange_84 : decode cX10_arrange 84 = .ok (.invokestatic 78, 3) := by decide +kernel
theorem dX10_arrange_87 : decode cX10_arrange 87 = .ok (.invokevirtual 84, 3) := by decide +kernel
theorem dX10_arrange_90 : decode cX10_arrange 90 = .ok (.iload_n 2, 1) := by decide +kernel
theorem dX10_arrange_91 : decode cX10_arrange 91 = .ok (.iconst 2, 1) := by decide +kernel
theorem dX10_arrange_92 : decode cX10_arrange 92 = .ok (.iload_n 1, 1) := by decide +kernel
theorem dX10_arrange_93 : decode cX10_arrange 93 = .ok (.imul, 1) := by decide +kernel
theorem dX10_arrange_94 : decode cX10_arrange 94 = .ok (.iadd, 1) := by decide +kernel
theorem dX10_arrange_95 : decode cX10_arrange 95 = .ok (.istore_n 2, 1) := by decide +kernel
theorem dX10_arrange_96 : decode cX10_arrange 96 = .ok (.goto (-42), 3) := by decide +kernel
theorem dX10_arrange_99 : decode cX10_arrange 99 = .ok (.iload_n 1, 1) := by decide +kernel
theorem dX10_arrange_100 : decode cX10_arrange 100 = .ok (.iconst 2, 1) := by decide +kernel
theorem dX10_arrange_101 : decode cX10_arrange 101 = .ok (.imul, 1) := by decide +kernel
theorem dX10_arrange_102 : decode cX10_arrange 102 = .ok (.istore_n 1, 1) := by decide +kernel
theorem dX10_arrange_103 : decode cX10_arrange 103 = .ok (.goto (-62), 3) := by decide +kernel
theorem dX10_arrange_106 : decode cX10_arrange 106 = .ok (.iconst 0, 1) := by decide +kernel
theorem dX10_arrange_107 : decode cX10_arrange 107 = .ok (.istore_n 1, 1) := by decide +kernel
theorem dX10_arrange_108 : decode cX10_arrange 108 = .ok (.iload_n 1, 1) := by decide +kernel
theorem dJ9_floorDiv_f86c9_0 : decode cJ9_floorDiv_f86c9 0 = .ok (.lload_n 0, 1) := by decide +kernel
theorem dJ9_floorDiv_f86c9_1 : decode cJ9_floorDiv_f86c9 1 = .ok (.lload_n 2, 1) := by decide +kernel
theorem dJ9_floorDiv_f86c9_2 : decode cJ9_floorDiv_f86c9 2 = .ok (.ldiv, 1) := by decide +kernel
theorem dJ9_floorDiv_f86c9_3 : decode cJ9_floorDiv_f86c9 3 = .ok (.lstore 4, 2) := by decide +kernel
theorem dJ9_floorDiv_f86c9_5 : decode cJ9_floorDiv_f86c9 5 = .ok (.lload_n 0, 1) := by decide +kernel
theorem dJ9_floorDiv_f86c9_6 : decode cJ9_floorDiv_f86c9 6 = .ok (.lload_n 2, 1) := by decide +kernel
theorem dJ9_floorDiv_f86c9_7 : decode cJ9_floorDiv_f86c9 7 = .ok (.lxor, 1) := by decide +kernel
theorem dJ9_floorDiv_f86c9_8 : decode cJ9_floorDiv_f86c9 8 = .ok (.lconst 0, 1) := by decide +kernel
theorem dJ9_floorDiv_f86c9_9 : decode cJ9_floorDiv_f86c9 9 = .ok (.lcmp, 1) := by decide +kernel
theorem dJ9_floorDiv_f86c9_10 : decode cJ9_floorDiv_f86c9 10 = .ok (.ifCond .ge 17, 3) := by decide +kernel
theorem dJ9_floorDiv_f86c9_13 : decode cJ9_floorDiv_f86c9 13 = .ok (.lload 4, 2) := by decide +kernel
theorem dJ9_floorDiv_f86c9_15 : decode cJ9_floorDiv_f86c9 15 = .ok (.lload_n 2, 1) := by decide +kernel
theorem dJ9_floorDiv_f86c9_16 : decode cJ9_floorDiv_f86c9 16 = .ok (.lmul, 1) := by decide +kernel
theorem dJ9_floorDiv_f86c9_17 : decode cJ9_floorDiv_f86c9 17 = .ok (.lload_n 0, 1) := by decide +kernel
theorem dJ9_floorDiv_f86c9_18 : decode cJ9_floorDiv_f86c9 18 = .ok (.lcmp, 1) := by decide +kernel
theorem dJ9_floorDiv_f86c9_19 : decode cJ9_floorDiv_f86c9 19 = .ok (.ifCond .eq 8, 3) := by decide +kernel
theorem dJ9_floorDiv_f86c9_22 : decode cJ9_floorDiv_f86c9 22 = .ok (.lload 4, 2) := by decide +kernel
theorem dJ9_floorDiv_f86c9_24 : decode cJ9_floorDiv_f86c9 24 = .ok (.lconst 1, 1) := by decide +kernel
theorem dJ9_floorDiv_f86c9_25 : decode cJ9_floorDiv_f86c9 25 = .ok (.lsub, 1) := by decide +kernel
theorem dJ9_floorDiv_f86c9_26 : decode cJ9_floorDiv_f86c9 26 = .ok (.lreturn, 1) := by decide +kernel
theorem dJ9_floorDiv_f86c9_27 : decode cJ9_floorDiv_f86c9 27 = .ok (.lload 4, 2) := by decide +kernel
theorem dJ9_floorDiv_f86c9_29 : decode cJ9_floorDiv_f86c9 29 = .ok (.lreturn, 1) := by decide +kernel
theorem dJ9_max_7cf53_0 : decode cJ9_max_7cf53 0 = .ok (.iload_n 0, 1) := by decide +kernel
theorem dJ9_max_7cf53_1 : decode cJ9_max_7cf53 1 = .ok (.iload_n 1, 1) := by decide +kernel
theorem dJ9_max_7cf53_2 : decode cJ9_max_7cf53 2 = .ok (.if_icmp .lt 7, 3) := by decide +kernel
theorem dJ9_max_7cf53_5 : decode cJ9_max_7cf53 5 = .ok (.iload_n 0, 1) := by decide +kernel
theorem dJ9_max_7cf53_6 : decode cJ9_max_7cf53 6 = .ok (.goto 4, 3) := by decide +kernel
theorem dJ9_max_7cf53_9 : decode cJ9_max_7cf53 9 = .ok (.iload_n 1, 1) := by decide +kernel
theorem dJ9_max_7cf53_10 : decode cJ9_max_7cf53 10 = .ok (.ireturn, 1) := by decide +kernel
theorem dJ9_max_f86c9_0 : decode cJ9_max_f86c9 0 = .ok (.lload_n 0, 1) := by decide +kernel
theorem dJ9_max_f86c9_1 : decode cJ9_max_f86c9 1 = .ok (.lload_n 2, 1) := by decide +kernel
theorem dJ9_max_f86c9_2 : decode cJ9_max_f86c9 2 = .ok (.lcmp, 1) := by decide +kernel
theorem dJ9_max_f86c9_3 : decode cJ9_max_f86c9 3 = .ok (.ifCond .lt 7, 3) := by decide +kernel
theorem dJ9_max_f86c9_6 : decode cJ9_max_f86c9 6 = .ok (.lload_n 0, 1) := by decide +kernel
theorem dJ9_max_f86c9_7 : decode cJ9_max_f86c9 7 = .ok (.goto 4, 3) := by decide +kernel
theorem dJ9_max_f86c9_10 : decode cJ9_max_f86c9 10 = .ok (.lload_n 2, 1) := by decide +kernel
theorem dJ9_max_f86c9_11 : decode cJ9_max_f86c9 11 = .ok (.lreturn, 1) := by decide +kernel
theorem dJ9_min_7cf53_0 : decode cJ9_min_7cf53 0 = .ok (.iload_n 0, 1) := by decide +kernel
theorem dJ9_min_7cf53_1 : decode cJ9_min_7cf53 1 = .ok (.iload_n 1, 1) := by decide +kernel
theorem dJ9_min_7cf53_2 : decode cJ9_min_7cf53 2 = .ok (.if_icmp .gt 7, 3) := by decide +kernel
theorem dJ9_min_7cf53_5 : decode cJ9_min_7cf53 5 = .ok (.iload_n 0, 1) := by decide +kernel
theorem dJ9_min_7cf53_6 : decode cJ9_min_7cf53 6 = .ok (.goto 4, 3) := by decide +kernel
theorem dJ9_min_7cf53_9 : decode cJ9_min_7cf53 9 = .ok (.iload_n 1, 1) := by decide +kernel
theorem dJ9_min_7cf53_10 : decode cJ9_min_7cf53 10 = .ok (.ireturn, 1) := by decide +kernel
theorem dJ9_min_f86c9_0 : decode cJ9_min_f86c9 0 = .ok (.lload_n 0, 1) := by decide +kernel
theorem dJ9_min_f86c9_1 : decode cJ9_min_f86c9 1 = .ok (.lload_n 2, 1) := by decide +kernel
theorem dJ9_min_f86c9_2 : decode cJ9_min_f86c9 2 = .ok (.lcmp, 1) := by decide +kernel
theorem dJ9_min_f86c9_3 : decode cJ9_min_f86c9 3 = .ok (.ifCond .gt 7, 3) := by decide +kernel
theorem dJ9_min_f86c9_6 : decode cJ9_min_f86c9 6 = .ok (.lload_n 0, 1) := by decide +kernel
theorem dJ9_min_f86c9_7 : decode cJ9_min_f86c9 7 = .ok (.goto 4, 3) := by decide +kernel
theorem dJ9_min_f86c9_10 : decode cJ9_min_f86c9 10 = .ok (.lload_n 2, 1) := by decide +kernel
theorem dJ9_min_f86c9_11 : decode cJ9_min_f86c9 11 = .ok (.lreturn, 1) := by decide +kernel
theorem dJ7_rangeCheck_23922_0 : decode cJ7_rangeCheck_23922 0 = .ok (.iload_n 1, 1) := by decide +kernel
theorem dJ7_rangeCheck_23922_1 : decode cJ7_rangeCheck_23922 1 = .ok (.iload_n 2, 1) := by decide +kernel
theorem dJ7_rangeCheck_23922_2 : decode cJ7_rangeCheck_23922 2 = .ok (.if_icmp .le 44, 3) := by decide +kernel
theorem dJ7_rangeCheck_23922_5 : decode cJ7_rangeCheck_23922 5 = .ok (.new 43, 3) := by decide +kernel
theorem dJ7_rangeCheck_23922_8 : decode cJ7_rangeCheck_23922 8 = .ok (.dup, 1) := by decide +kernel
theorem dJ7_rangeCheck_23922_9 : decode cJ7_rangeCheck_23922 9 = .ok (.new 45, 3) := by decide +kernel
theorem dJ7_rangeCheck_23922_12 : decode cJ7_rangeCheck_23922 12 = .ok (.dup, 1) := by decide +kernel
theorem dJ7_rangeCheck_23922_13 : decode cJ7_rangeCheck_23922 13 = .ok (.invokespecial 47, 3) := by decide +kernel
theorem dJ7_rangeCheck_23922_16 : decode cJ7_rangeCheck_23922 16 = .ok (.ldc 48, 2) := by decide +kernel
theorem dJ7_rangeCheck_23922_18 : decode cJ7_rangeCheck_23922 18 = .ok (.invokevirtual 50, 3) := by decide +kernel
theorem dJ7_rangeCheck_23922_21 : decode cJ7_rangeCheck_23922 21 = .ok (.iload_n 1, 1) := by decide +kernel
theorem dJ7_rangeCheck_23922_22 : decode cJ7_rangeCheck_23922 22 = .ok (.invokevirtual 54, 3) := by decide +kernel
theorem dJ7_rangeCheck_23922_25 : decode cJ7_rangeCheck_23922 25 = .ok (.ldc 57, 2) := by decide +kernel
theorem dJ7_rangeCheck_23922_27 : decode cJ7_rangeCheck_23922 27 = .ok (.invokevirtual 50, 3) := by decide +kernel
theorem dJ7_rangeCheck_23922_30 : decode cJ7_rangeCheck_23922 30 = .ok (.iload_n 2, 1) := by decide +kernel
theorem dJ7_rangeCheck_23922_31 : decode cJ7_rangeCheck_23922 31 = .ok (.invokevirtual 54, 3) := by decide +kernel
theorem dJ7_rangeCheck_23922_34 : decode cJ7_rangeCheck_23922 34 = .ok (.ldc 59, 2) := by decide +kernel
theorem dJ7_rangeCheck_23922_36 : decode cJ7_rangeCheck_23922 36 = .ok (.invokevirtual 50, 3) := by decide +kernel
theorem dJ7_rangeCheck_23922_39 : decode cJ7_rangeCheck_23922 39 = .ok (.invokevirtual 61, 3) := by decide +kernel
theorem dJ7_rangeCheck_23922_42 : decode cJ7_rangeCheck_23922 42 = .ok (.invokespecial 65, 3) := by decide +kernel
theorem dJ7_rangeCheck_23922_45 : decode cJ7_rangeCheck_23922 45 = .ok (.athrow, 1) := by decide +kernel
theorem dJ7_rangeCheck_23922_46 : decode cJ7_rangeCheck_23922 46 = .ok (.iload_n 1, 1) := by decide +kernel
theorem dJ7_rangeCheck_23922_47 : decode cJ7_rangeCheck_23922 47 = .ok (.ifCond .ge 12, 3) := by decide +kernel
theorem dJ7_rangeCheck_23922_50 : decode cJ7_rangeCheck_23922 50 = .ok (.new 68, 3) := by decide +kernel
theorem dJ7_rangeCheck_23922_53 : decode cJ7_rangeCheck_23922 53 = .ok (.dup, 1) := by decide +kernel
theorem dJ7_rangeCheck_23922_54 : decode cJ7_rangeCheck_23922 54 = .ok (.iload_n 1, 1) := by decide +kernel
theorem dJ7_rangeCheck_23922_55 : decode cJ7_rangeCheck_23922 55 = .ok (.invokespecial 70, 3) := by decide +kernel
theorem dJ7_rangeCheck_23922_58 : decode cJ7_rangeCheck_23922 58 = .ok (.athrow, 1) := by decide +kernel
theorem dJ7_rangeCheck_23922_59 : decode cJ7_rangeCheck_23922 59 = .ok (.iload_n 2, 1) := by decide +kernel
theorem dJ7_rangeCheck_23922_60 : decode cJ7_rangeCheck_23922 60 = .ok (.iload_n 0, 1) := by decide +kernel
theorem dJ7_rangeCheck_23922_61 : decode cJ7_rangeCheck_23922 61 = .ok (.if_icmp .le 12, 3) := by decide +kernel
theorem dJ7_rangeCheck_23922_64 : decode cJ7_rangeCheck_23922 64 = .ok (.new 68, 3) := by decide +kernel
theorem dJ7_rangeCheck_23922_67 : decode cJ7_rangeCheck_23922 67 = .ok (.dup, 1) := by decide +kernel
theorem dJ7_rangeCheck_23922_68 : decode cJ7_rangeCheck_23922 68 = .ok (.iload_n 2, 1) := by decide +kernel
theorem dJ7_rangeCheck_23922_69 : decode cJ7_rangeCheck_23922 69 = .ok (.invokespecial 70, 3) := by decide +kernel
theorem dJ7_rangeCheck_23922_72 : decode cJ7_rangeCheck_23922 72 = .ok (.athrow, 1) := by decide +kernel
theorem dJ7_rangeCheck_23922_73 : decode cJ7_rangeCheck_23922 73 = .ok (.return_, 1) := by decide +kernel
theorem dJ7_fill_d0a16_0 : decode cJ7_fill_d0a16 0 = .ok (.iconst 0, 1) := by decide +kernel
theorem dJ7_fill_d0a16_1 : decode cJ7_fill_d0a16 1 = .ok (.istore_n 3, 1) := by decide +kernel
theorem dJ7_fill_d0a16_2 : decode cJ7_fill_d0a16 2 = .ok (.aload_n 0, 1) := by decide +kernel
theorem dJ7_fill_d0a16_3 : decode cJ7_fill_d0a16 3 = .ok (.arraylength, 1) := by decide +kernel
theorem dJ7_fill_d0a16_4 : decode cJ7_fill_d0a16 4 = .ok (.istore 4, 2) := by decide +kernel
theorem dJ7_fill_d0a16_6 : decode cJ7_fill_d0a16 6 = .ok (.iload_n 3, 1) := by decide +kernel
theorem dJ7_fill_d0a16_7 : decode cJ7_fill_d0a16 7 = .ok (.iload 4, 2) := by decide +kernel
theorem dJ7_fill_d0a16_9 : decode cJ7_fill_d0a16 9 = .ok (.if_icmp .ge 13, 3) := by decide +kernel
theorem dJ7_fill_d0a16_12 : decode cJ7_fill_d0a16 12 = .ok (.aload_n 0, 1) := by decide +kernel
theorem dJ7_fill_d0a16_13 : decode cJ7_fill_d0a16 13 = .ok (.iload_n 3, 1) := by decide +kernel
theorem dJ7_fill_d0a16_14 : decode cJ7_fill_d0a16 14 = .ok (.lload_n 1, 1) := by decide +kernel
theorem dJ7_fill_d0a16_15 : decode cJ7_fill_d0a16 15 = .ok (.lastore, 1) := by decide +kernel
theorem dJ7_fill_d0a16_16 : decode cJ7_fill_d0a16 16 = .ok (.iinc 3 1, 3) := by decide +kernel
theorem dJ7_fill_d0a16_19 : decode cJ7_fill_d0a16 19 = .ok (.goto (-13), 3) := by decide +kernel
theorem dJ7_fill_d0a16_22 : decode cJ7_fill_d0a16 22 = .ok (.return_, 1) := by decide +kernel
theorem dJ7_fill_bad5a_0 : decode cJ7_fill_bad5a 0 = .ok (.aload_n 0, 1) := by decide +kernel
theorem dJ7_fill_bad5a_1 : decode cJ7_fill_bad5a 1 = .ok (.arraylength, 1) := by decide +kernel
theorem dJ7_fill_bad5a_2 : decode cJ7_fill_bad5a 2 = .ok (.iload_n 1, 1) := by decide +kernel
theorem dJ7_fill_bad5a_3 : decode cJ7_fill_bad5a 3 = .ok (.iload_n 2, 1) := by decide +kernel
theorem dJ7_fill_bad5a_4 : decode cJ7_fill_bad5a 4 = .ok (.invokestatic 13, 3) := by decide +kernel
theorem dJ7_fill_bad5a_7 : decode cJ7_fill_bad5a 7 = .ok (.iload_n 1, 1) := by decide +kernel
theorem dJ7_fill_bad5a_8 : decode cJ7_fill_bad5a 8 = .ok (.istore 5, 2) := by decide +kernel
theorem dJ7_fill_bad5a_10 : decode cJ7_fill_bad5a 10 = .ok (.iload 5, 2) := by decide +kernel
theorem dJ7_fill_bad5a_12 : decode cJ7_fill_bad5a 12 = .ok (.iload_n 2, 1) := by decide +kernel
theorem dJ7_fill_bad5a_13 : decode cJ7_fill_bad5a 13 = .ok (.if_icmp .ge 14, 3) := by decide +kernel
theorem dJ7_fill_bad5a_16 : decode cJ7_fill_bad5a 16 = .ok (.aload_n 0, 1) := by decide +kernel
theorem dJ7_fill_bad5a_17 : decode cJ7_fill_bad5a 17 = .ok (.iload 5, 2) := by decide +kernel
theorem dJ7_fill_bad5a_19 : decode cJ7_fill_bad5a 19 = .ok (.lload_n 3, 1) := by decide +kernel
theorem dJ7_fill_bad5a_20 : decode cJ7_fill_bad5a 20 = .ok (.lastore, 1) := by decide +kernel
theorem dJ7_fill_bad5a_21 : decode cJ7_fill_bad5a 21 = .ok (.iinc 5 1, 3) := by decide +kernel
theorem dJ7_fill_bad5a_24 : decode cJ7_fill_bad5a 24 = .ok (.goto (-14), 3) := by decide +kernel
theorem dJ7_fill_bad5a_27 : decode cJ7_fill_bad5a 27 = .ok (.return_, 1) := by decide +kernel
theorem dJ7_fill_53178_0 : decode cJ7_fill_53178 0 = .ok (.iconst 0, 1) := by decide +kernel
theorem dJ7_fill_53178_1 : decode cJ7_fill_53178 1 = .ok (.istore_n 2, 1) := by decide +kernel
theorem dJ7_fill_53178_2 : decode cJ7_fill_53178 2 = .ok (.aload_n 0, 1) := by decide +kernel
theorem dJ7_fill_53178_3 : decode cJ7_fill_53178 3 = .ok (.arraylength, 1) := by decide +kernel
theorem dJ7_fill_53178_4 : decode cJ7_fill_53178 4 = .ok (.istore_n 3, 1) := by decide +kernel
theorem dJ7_fill_53178_5 : decode cJ7_fill_53178 5 = .ok (.iload_n 2, 1) := by decide +kernel
theorem dJ7_fill_53178_6 : decode cJ7_fill_53178 6 = .ok (.iload_n 3, 1) := by decide +kernel
theorem dJ7_fill_53178_7 : decode cJ7_fill_53178 7 = .ok (.if_icmp .ge 13, 3) := by decide +kernel
theorem dJ7_fill_53178_10 : decode cJ7_fill_53178 10 = .ok (.aload_n 0, 1) := by decide +kernel
theorem dJ7_fill_53178_11 : decode cJ7_fill_53178 11 = .ok (.iload_n 2, 1) := by decide +kernel
theorem dJ7_fill_53178_12 : decode cJ7_fill_53178 12 = .ok (.iload_n 1, 1) := by decide +kernel
theorem dJ7_fill_53178_13 : decode cJ7_fill_53178 13 = .ok (.iastore, 1) := by decide +kernel
theorem dJ7_fill_53178_14 : decode cJ7_fill_53178 14 = .ok (.iinc 2 1, 3) := by decide +kernel
theorem dJ7_fill_53178_17 : decode cJ7_fill_53178 17 = .ok (.goto (-12), 3) := by decide +kernel
theorem dJ7_fill_53178_20 : decode cJ7_fill_53178 20 = .ok (.return_, 1) := by decide +kernel
theorem dJ7_fill_fda19_0 : decode cJ7_fill_fda19 0 = .ok (.aload_n 0, 1) := by decide +kernel
theorem dJ7_fill_fda19_1 : decode cJ7_fill_fda19 1 = .ok (.arraylength, 1) := by decide +kernel
theorem dJ7_fill_fda19_2 : decode cJ7_fill_fda19 2 = .ok (.iload_n 1, 1) := by decide +kernel
theorem dJ7_fill_fda19_3 : decode cJ7_fill_fda19 3 = .ok (.iload_n 2, 1) := by decide +kernel
theorem dJ7_fill_fda19_4 : decode cJ7_fill_fda19 4 = .ok (.invokestatic 13, 3) := by decide +kernel
theorem dJ7_fill_fda19_7 : decode cJ7_fill_fda19 7 = .ok (.iload_n 1, 1) := by decide +kernel
theorem dJ7_fill_fda19_8 : decode cJ7_fill_fda19 8 = .ok (.istore 4, 2) := by decide +kernel
theorem dJ7_fill_fda19_10 : decode cJ7_fill_fda19 10 = .ok (.iload 4, 2) := by decide +kernel
theorem dJ7_fill_fda19_12 : decode cJ7_fill_fda19 12 = .ok (.iload_n 2, 1) := by decide +kernel
theorem dJ7_fill_fda19_13 : decode cJ7_fill_fda19 13 = .ok (.if_icmp .ge 14, 3) := by decide +kernel
theorem dJ7_fill_fda19_16 : decode cJ7_fill_fda19 16 = .ok (.aload_n 0, 1) := by decide +kernel
theorem dJ7_fill_fda19_17 : decode cJ7_fill_fda19 17 = .ok (.iload 4, 2) := by decide +kernel
theorem dJ7_fill_fda19_19 : decode cJ7_fill_fda19 19 = .ok (.iload_n 3, 1) := by decide +kernel
theorem dJ7_fill_fda19_20 : decode cJ7_fill_fda19 20 = .ok (.iastore, 1) := by decide +kernel
theorem dJ7_fill_fda19_21 : decode cJ7_fill_fda19 21 = .ok (.iinc 4 1, 3) := by decide +kernel
theorem dJ7_fill_fda19_24 : decode cJ7_fill_fda19 24 = .ok (.goto (-14), 3) := by decide +kernel
theorem dJ7_fill_fda19_27 : decode cJ7_fill_fda19 27 = .ok (.return_, 1) := by decide +kernel
theorem dJ7_fill_eb02e_0 : decode cJ7_fill_eb02e 0 = .ok (.aload_n 0, 1) := by decide +kernel
theorem dJ7_fill_eb02e_1 : decode cJ7_fill_eb02e 1 = .ok (.arraylength, 1) := by decide +kernel
theorem dJ7_fill_eb02e_2 : decode cJ7_fill_eb02e 2 = .ok (.iload_n 1, 1) := by decide +kernel
theorem dJ7_fill_eb02e_3 : decode cJ7_fill_eb02e 3 = .ok (.iload_n 2, 1) := by decide +kernel
theorem dJ7_fill_eb02e_4 : decode cJ7_fill_eb02e 4 = .ok (.invokestatic 13, 3) := by decide +kernel
theorem dJ7_fill_eb02e_7 : decode cJ7_fill_eb02e 7 = .ok (.iload_n 1, 1) := by decide +kernel
theorem dJ7_fill_eb02e_8 : decode cJ7_fill_eb02e 8 = .ok (.istore 4, 2) := by decide +kernel
theorem dJ7_fill_eb02e_10 : decode cJ7_fill_eb02e 10 = .ok (.iload 4, 2) := by decide +kernel
theorem dJ7_fill_eb02e_12 : decode cJ7_fill_eb02e 12 = .ok (.iload_n 2, 1) := by decide +kernel
theorem dJ7_fill_eb02e_13 : decode cJ7_fill_eb02e 13 = .ok (.if_icmp .ge 14, 3) := by decide +kernel
theorem dJ7_fill_eb02e_16 : decode cJ7_fill_eb02e 16 = .ok (.aload_n 0, 1) := by decide +kernel
theorem dJ7_fill_eb02e_17 : decode cJ7_fill_eb02e 17 = .ok (.iload 4, 2) := by decide +kernel
theorem dJ7_fill_eb02e_19 : decode cJ7_fill_eb02e 19 = .ok (.iload_n 3, 1) := by decide +kernel
theorem dJ7_fill_eb02e_20 : decode cJ7_fill_eb02e 20 = .ok (.bastore, 1) := by decide +kernel
theorem dJ7_fill_eb02e_21 : decode cJ7_fill_eb02e 21 = .ok (.iinc 4 1, 3) := by decide +kernel
theorem dJ7_fill_eb02e_24 : decode cJ7_fill_eb02e 24 = .ok (.goto (-14), 3) := by decide +kernel
theorem dJ7_fill_eb02e_27 : decode cJ7_fill_eb02e 27 = .ok (.return_, 1) := by decide +kernel
