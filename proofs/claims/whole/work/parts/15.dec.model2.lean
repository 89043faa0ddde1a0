theorem dX12_setRow_8 : decode cX12_setRow 8 = .ok (.istore 6, 2) := by decide +kernel
theorem dX12_setRow_10 : decode cX12_setRow 10 = .ok (.iload 6, 2) := by decide +kernel
theorem dX12_setRow_12 : decode cX12_setRow 12 = .ok (.iconst 5, 1) := by decide +kernel
theorem dX12_setRow_13 : decode cX12_setRow 13 = .ok (.if_icmp .ge 20, 3) := by decide +kernel
theorem dX12_setRow_16 : decode cX12_setRow 16 = .ok (.aload_n 0, 1) := by decide +kernel
theorem dX12_setRow_17 : decode cX12_setRow 17 = .ok (.getfield 102, 3) := by decide +kernel
theorem dX12_setRow_20 : decode cX12_setRow 20 = .ok (.iload 5, 2) := by decide +kernel
theorem dX12_setRow_22 : decode cX12_setRow 22 = .ok (.iload 6, 2) := by decide +kernel
theorem dX12_setRow_24 : decode cX12_setRow 24 = .ok (.iadd, 1) := by decide +kernel
theorem dX12_setRow_25 : decode cX12_setRow 25 = .ok (.iconst 0, 1) := by decide +kernel
theorem dX12_setRow_26 : decode cX12_setRow 26 = .ok (.iastore, 1) := by decide +kernel
theorem dX12_setRow_27 : decode cX12_setRow 27 = .ok (.iinc 6 1, 3) := by decide +kernel
theorem dX12_setRow_30 : decode cX12_setRow 30 = .ok (.goto (-20), 3) := by decide +kernel
theorem dX12_setRow_33 : decode cX12_setRow 33 = .ok (.aload_n 0, 1) := by decide +kernel
theorem dX12_setRow_34 : decode cX12_setRow 34 = .ok (.getfield 102, 3) := by decide +kernel
theorem dX12_setRow_37 : decode cX12_setRow 37 = .ok (.iload 5, 2) := by decide +kernel
theorem dX12_setRow_39 : decode cX12_setRow 39 = .ok (.iload_n 3, 1) := by decide +kernel
theorem dX12_setRow_40 : decode cX12_setRow 40 = .ok (.iastore, 1) := by decide +kernel
theorem dX12_setRow_41 : decode cX12_setRow 41 = .ok (.aload_n 0, 1) := by decide +kernel
theorem dX12_setRow_42 : decode cX12_setRow 42 = .ok (.getfield 102, 3) := by decide +kernel
theorem dX12_setRow_45 : decode cX12_setRow 45 = .ok (.iload 5, 2) := by decide +kernel
theorem dX12_setRow_47 : decode cX12_setRow 47 = .ok (.iconst 1, 1) := by decide +kernel
theorem dX12_setRow_48 : decode cX12_setRow 48 = .ok (.iadd, 1) := by decide +kernel
theorem dX12_setRow_49 : decode cX12_setRow 49 = .ok (.iload 4, 2) := by decide +kernel
theorem dX12_setRow_51 : decode cX12_setRow 51 = .ok (.bipush (-9), 2) := by decide +kernel
theorem dX12_setRow_53 : decode cX12_setRow 53 = .ok (.if_icmp .ne 7, 3) := by decide +kernel
theorem dX12_setRow_56 : decode cX12_setRow 56 = .ok (.iconst 0, 1) := by decide +kernel
theorem dX12_setRow_57 : decode cX12_setRow 57 = .ok (.goto 5, 3) := by decide +kernel
theorem dX12_setRow_60 : decode cX12_setRow 60 = .ok (.iload 4, 2) := by decide +kernel
theorem dX12_setRow_62 : decode cX12_setRow 62 = .ok (.iadd, 1) := by decide +kernel
theorem dX12_setRow_63 : decode cX12_setRow 63 = .ok (.iload 4, 2) := by decide +kernel
theorem dX12_setRow_65 : decode cX12_setRow 65 = .ok (.bipush (-9), 2) := by decide +kernel
theorem dX12_setRow_67 : decode cX12_setRow 67 = .ok (.if_icmp .ne 7, 3) := by decide +kernel
theorem dX12_setRow_70 : decode cX12_setRow 70 = .ok (.iconst 0, 1) := by decide +kernel
theorem dX12_setRow_71 : decode cX12_setRow 71 = .ok (.goto 4, 3) := by decide +kernel
theorem dX12_setRow_74 : decode cX12_setRow 74 = .ok (.iconst 1, 1) := by decide +kernel
theorem dX12_setRow_75 : decode cX12_setRow 75 = .ok (.iastore, 1) := by decide +kernel
theorem dX12_setRow_76 : decode cX12_setRow 76 = .ok (.aload_n 0, 1) := by decide +kernel
theorem dX12_setRow_77 : decode cX12_setRow 77 = .ok (.getfield 102, 3) := by decide +kernel
theorem dX12_setRow_80 : decode cX12_setRow 80 = .ok (.iload 5, 2) := by decide +kernel
theorem dX12_setRow_82 : decode cX12_setRow 82 = .ok (.iload_n 3, 1) := by decide +kernel
theorem dX12_setRow_83 : decode cX12_setRow 83 = .ok (.iastore, 1) := by decide +kernel
theorem dX12_setRow_84 : decode cX12_setRow 84 = .ok (.aload_n 0, 1) := by decide +kernel
theorem dX12_setRow_85 : decode cX12_setRow 85 = .ok (.getfield 102, 3) := by decide +kernel
theorem dX12_setRow_88 : decode cX12_setRow 88 = .ok (.iload 5, 2) := by decide +kernel
theorem dX12_setRow_90 : decode cX12_setRow 90 = .ok (.iconst 5, 1) := by decide +kernel
theorem dX12_setRow_91 : decode cX12_setRow 91 = .ok (.iadd, 1) := by decide +kernel
theorem dX12_setRow_92 : decode cX12_setRow 92 = .ok (.iconst 1, 1) := by decide +kernel
theorem dX12_setRow_93 : decode cX12_setRow 93 = .ok (.iastore, 1) := by decide +kernel
theorem dX12_setRow_94 : decode cX12_setRow 94 = .ok (.aload_n 0, 1) := by decide +kernel
theorem dX12_setRow_95 : decode cX12_setRow 95 = .ok (.getfield 102, 3) := by decide +kernel
theorem dX12_setRow_98 : decode cX12_setRow 98 = .ok (.iload 5, 2) := by decide +kernel
theorem dX12_setRow_100 : decode cX12_setRow 100 = .ok (.bipush 6, 2) := by decide +kernel
theorem dX12_setRow_102 : decode cX12_setRow 102 = .ok (.iadd, 1) := by decide +kernel
theorem dX12_setRow_103 : decode cX12_setRow 103 = .ok (.iload 4, 2) := by decide +kernel
theorem dX12_setRow_105 : decode cX12_setRow 105 = .ok (.iastore, 1) := by decide +kernel
theorem dX12_setRow_106 : decode cX12_setRow 106 = .ok (.return_, 1) := by decide +kernel
theorem dX12_placeOf_0 : decode cX12_placeOf 0 = .ok (.iload_n 1, 1) := by decide +kernel
theorem dX12_placeOf_1 : decode cX12_placeOf 1 = .ok (.istore_n 3, 1) := by decide +kernel
theorem dX12_placeOf_2 : decode cX12_placeOf 2 = .ok (.aload_n 0, 1) := by decide +kernel
theorem dX12_placeOf_3 : decode cX12_placeOf 3 = .ok (.getfield 29, 3) := by decide +kernel
theorem dX12_placeOf_6 : decode cX12_placeOf 6 = .ok (.iload_n 3, 1) := by decide +kernel
theorem dX12_placeOf_7 : decode cX12_placeOf 7 = .ok (.iaload, 1) := by decide +kernel
theorem dX12_placeOf_8 : decode cX12_placeOf 8 = .ok (.bipush (-9), 2) := by decide +kernel
theorem dX12_placeOf_10 : decode cX12_placeOf 10 = .ok (.if_icmp .eq 43, 3) := by decide +kernel
theorem dX12_placeOf_13 : decode cX12_placeOf 13 = .ok (.aload_n 0, 1) := by decide +kernel
theorem dX12_placeOf_14 : decode cX12_placeOf 14 = .ok (.aload_n 0, 1) := by decide +kernel
theorem dX12_placeOf_15 : decode cX12_placeOf 15 = .ok (.getfield 29, 3) := by decide +kernel
theorem dX12_placeOf_18 : decode cX12_placeOf 18 = .ok (.iload_n 3, 1) := by decide +kernel
theorem dX12_placeOf_19 : decode cX12_placeOf 19 = .ok (.iaload, 1) := by decide +kernel
theorem dX12_placeOf_20 : decode cX12_placeOf 20 = .ok (.invokevirtual 173, 3) := by decide +kernel
theorem dX12_placeOf_23 : decode cX12_placeOf 23 = .ok (.ifCond .eq 20, 3) := by decide +kernel
theorem dX12_placeOf_26 : decode cX12_placeOf 26 = .ok (.aload_n 0, 1) := by decide +kernel
theorem dX12_placeOf_27 : decode cX12_placeOf 27 = .ok (.getfield 32, 3) := by decide +kernel
theorem dX12_placeOf_30 : decode cX12_placeOf 30 = .ok (.aload_n 0, 1) := by decide +kernel
theorem dX12_placeOf_31 : decode cX12_placeOf 31 = .ok (.getfield 29, 3) := by decide +kernel
theorem dX12_placeOf_34 : decode cX12_placeOf 34 = .ok (.iload_n 3, 1) := by decide +kernel
theorem dX12_placeOf_35 : decode cX12_placeOf 35 = .ok (.iaload, 1) := by decide +kernel
theorem dX12_placeOf_36 : decode cX12_placeOf 36 = .ok (.iaload, 1) := by decide +kernel
theorem dX12_placeOf_37 : decode cX12_placeOf 37 = .ok (.iload_n 2, 1) := by decide +kernel
theorem dX12_placeOf_38 : decode cX12_placeOf 38 = .ok (.iconst 1, 1) := by decide +kernel
theorem dX12_placeOf_39 : decode cX12_placeOf 39 = .ok (.isub, 1) := by decide +kernel
theorem dX12_placeOf_40 : decode cX12_placeOf 40 = .ok (.if_icmp .eq 13, 3) := by decide +kernel
theorem dX12_placeOf_43 : decode cX12_placeOf 43 = .ok (.aload_n 0, 1) := by decide +kernel
theorem dX12_placeOf_44 : decode cX12_placeOf 44 = .ok (.getfield 29, 3) := by decide +kernel
theorem dX12_placeOf_47 : decode cX12_placeOf 47 = .ok (.iload_n 3, 1) := by decide +kernel
theorem dX12_placeOf_48 : decode cX12_placeOf 48 = .ok (.iaload, 1) := by decide +kernel
theorem dX12_placeOf_49 : decode cX12_placeOf 49 = .ok (.istore_n 3, 1) := by decide +kernel
theorem dX12_placeOf_50 : decode cX12_placeOf 50 = .ok (.goto (-48), 3) := by decide +kernel
theorem dX12_placeOf_53 : decode cX12_placeOf 53 = .ok (.iload_n 3, 1) := by decide +kernel
theorem dX12_placeOf_54 : decode cX12_placeOf 54 = .ok (.ireturn, 1) := by decide +kernel
theorem dX12_firstOrders_0 : decode cX12_firstOrders 0 = .ok (.aload_n 0, 1) := by decide +kernel
theorem dX12_firstOrders_1 : decode cX12_firstOrders 1 = .ok (.iconst 0, 1) := by decide +kernel
theorem dX12_firstOrders_2 : decode cX12_firstOrders 2 = .ok (.putfield 298, 3) := by decide +kernel
theorem dX12_firstOrders_5 : decode cX12_firstOrders 5 = .ok (.iconst 0, 1) := by decide +kernel
theorem dX12_firstOrders_6 : decode cX12_firstOrders 6 = .ok (.istore_n 1, 1) := by decide +kernel
theorem dX12_firstOrders_7 : decode cX12_firstOrders 7 = .ok (.iload_n 1, 1) := by decide +kernel
theorem dX12_firstOrders_8 : decode cX12_firstOrders 8 = .ok (.aload_n 0, 1) := by decide +kernel
theorem dX12_firstOrders_9 : decode cX12_firstOrders 9 = .ok (.getfield 170, 3) := by decide +kernel
theorem dX12_firstOrders_12 : decode cX12_firstOrders 12 = .ok (.if_icmp .ge 83, 3) := by decide +kernel
theorem dX12_firstOrders_15 : decode cX12_firstOrders 15 = .ok (.aload_n 0, 1) := by decide +kernel
theorem dX12_firstOrders_16 : decode cX12_firstOrders 16 = .ok (.getfield 26, 3) := by decide +kernel
theorem dX12_firstOrders_19 : decode cX12_firstOrders 19 = .ok (.iload_n 1, 1) := by decide +kernel
theorem dX12_firstOrders_20 : decode cX12_firstOrders 20 = .ok (.iaload, 1) := by decide +kernel
theorem dX12_firstOrders_21 : decode cX12_firstOrders 21 = .ok (.iconst 3, 1) := by decide +kernel
theorem dX12_firstOrders_22 : decode cX12_firstOrders 22 = .ok (.if_icmp .ne 67, 3) := by decide +kernel
theorem dX12_firstOrders_25 : decode cX12_firstOrders 25 = .ok (.aload_n 0, 1) := by decide +kernel
theorem dX12_firstOrders_26 : decode cX12_firstOrders 26 = .ok (.getfield 32, 3) := by decide +kernel
theorem dX12_firstOrders_29 : decode cX12_firstOrders 29 = .ok (.iload_n 1, 1) := by decide +kernel
theorem dX12_firstOrders_30 : decode cX12_firstOrders 30 = .ok (.iaload, 1) := by decide +kernel
theorem dX12_firstOrders_31 : decode cX12_firstOrders 31 = .ok (.istore_n 2, 1) := by decide +kernel
theorem dX12_firstOrders_32 : decode cX12_firstOrders 32 = .ok (.aload_n 0, 1) := by decide +kernel
theorem dX12_firstOrders_33 : decode cX12_firstOrders 33 = .ok (.getfield 99, 3) := by decide +kernel
theorem dX12_firstOrders_36 : decode cX12_firstOrders 36 = .ok (.iload_n 1, 1) := by decide +kernel
theorem dX12_firstOrders_37 : decode cX12_firstOrders 37 = .ok (.iconst 2, 1) := by decide +kernel
theorem dX12_firstOrders_38 : decode cX12_firstOrders 38 = .ok (.iload_n 2, 1) := by decide +kernel
theorem dX12_firstOrders_39 : decode cX12_firstOrders 39 = .ok (.imul, 1) := by decide +kernel
theorem dX12_firstOrders_40 : decode cX12_firstOrders 40 = .ok (.iconst 1, 1) := by decide +kernel
theorem dX12_firstOrders_41 : decode cX12_firstOrders 41 = .ok (.iadd, 1) := by decide +kernel
theorem dX12_firstOrders_42 : decode cX12_firstOrders 42 = .ok (.iastore, 1) := by decide +kernel
theorem dX12_firstOrders_43 : decode cX12_firstOrders 43 = .ok (.iconst 0, 1) := by decide +kernel
theorem dX12_firstOrders_44 : decode cX12_firstOrders 44 = .ok (.istore_n 3, 1) := by decide +kernel
theorem dX12_firstOrders_45 : decode cX12_firstOrders 45 = .ok (.iload_n 3, 1) := by decide +kernel
theorem dX12_firstOrders_46 : decode cX12_firstOrders 46 = .ok (.iload_n 2, 1) := by decide +kernel
theorem dX12_firstOrders_47 : decode cX12_firstOrders 47 = .ok (.if_icmp .gt 42, 3) := by decide +kernel
theorem dX12_firstOrders_50 : decode cX12_firstOrders 50 = .ok (.aload_n 0, 1) := by decide +kernel
theorem dX12_firstOrders_51 : decode cX12_firstOrders 51 = .ok (.iload_n 1, 1) := by decide +kernel
theorem dX12_firstOrders_52 : decode cX12_firstOrders 52 = .ok (.iconst 2, 1) := by decide +kernel
theorem dX12_firstOrders_53 : decode cX12_firstOrders 53 = .ok (.iload_n 3, 1) := by decide +kernel
theorem dX12_firstOrders_54 : decode cX12_firstOrders 54 = .ok (.imul, 1) := by decide +kernel
theorem dX12_firstOrders_55 : decode cX12_firstOrders 55 = .ok (.aload_n 0, 1) := by decide +kernel
theorem dX12_firstOrders_56 : decode cX12_firstOrders 56 = .ok (.iload_n 1, 1) := by decide +kernel
theorem dX12_firstOrders_57 : decode cX12_firstOrders 57 = .ok (.iload_n 3, 1) := by decide +kernel
theorem dX12_firstOrders_58 : decode cX12_firstOrders 58 = .ok (.invokevirtual 301, 3) := by decide +kernel
theorem dX12_firstOrders_61 : decode cX12_firstOrders 61 = .ok (.bipush (-9), 2) := by decide +kernel
theorem dX12_firstOrders_63 : decode cX12_firstOrders 63 = .ok (.invokevirtual 304, 3) := by decide +kernel
theorem dX12_firstOrders_66 : decode cX12_firstOrders 66 = .ok (.iload_n 3, 1) := by decide +kernel
theorem dX12_firstOrders_67 : decode cX12_firstOrders 67 = .ok (.iload_n 2, 1) := by decide +kernel
theorem dX12_firstOrders_68 : decode cX12_firstOrders 68 = .ok (.if_icmp .ge 15, 3) := by decide +kernel
theorem dX12_firstOrders_71 : decode cX12_firstOrders 71 = .ok (.aload_n 0, 1) := by decide +kernel
theorem dX12_firstOrders_72 : decode cX12_firstOrders 72 = .ok (.iload_n 1, 1) := by decide +kernel
theorem dX12_firstOrders_73 : decode cX12_firstOrders 73 = .ok (.iconst 2, 1) := by decide +kernel
theorem dX12_firstOrders_74 : decode cX12_firstOrders 74 = .ok (.iload_n 3, 1) := by decide +kernel
theorem dX12_firstOrders_75 : decode cX12_firstOrders 75 = .ok (.imul, 1) := by decide +kernel
theorem dX12_firstOrders_76 : decode cX12_firstOrders 76 = .ok (.iconst 1, 1) := by decide +kernel
theorem dX12_firstOrders_77 : decode cX12_firstOrders 77 = .ok (.iadd, 1) := by decide +kernel
theorem dX12_firstOrders_78 : decode cX12_firstOrders 78 = .ok (.iconst 0, 1) := by decide +kernel
theorem dX12_firstOrders_79 : decode cX12_firstOrders 79 = .ok (.iload_n 3, 1) := by decide +kernel
theorem dX12_firstOrders_80 : decode cX12_firstOrders 80 = .ok (.invokevirtual 304, 3) := by decide +kernel
theorem dX12_firstOrders_83 : decode cX12_firstOrders 83 = .ok (.iinc 3 1, 3) := by decide +kernel
theorem dX12_firstOrders_86 : decode cX12_firstOrders 86 = .ok (.goto (-41), 3) := by decide +kernel
theorem dX12_firstOrders_89 : decode cX12_firstOrders 89 = .ok (.iinc 1 1, 3) := by decide +kernel
theorem dX12_firstOrders_92 : decode cX12_firstOrders 92 = .ok (.goto (-85), 3) := by decide +kernel
theorem dX12_firstOrders_95 : decode cX12_firstOrders 95 = .ok (.return_, 1) := by decide +kernel
theorem dX12_loopRow_0 : decode cX12_loopRow 0 = .ok (.iconst 0, 1) := by decide +kernel
theorem dX12_loopRow_1 : decode cX12_loopRow 1 = .ok (.istore_n 3, 1) := by decide +kernel
theorem dX12_loopRow_2 : decode cX12_loopRow 2 = .ok (.iload_n 3, 1) := by decide +kernel
theorem dX12_loopRow_3 : decode cX12_loopRow 3 = .ok (.aload_n 0, 1) := by decide +kernel
theorem dX12_loopRow_4 : decode cX12_loopRow 4 = .ok (.getfield 99, 3) := by decide +kernel
theorem dX12_loopRow_7 : decode cX12_loopRow 7 = .ok (.iload_n 1, 1) := by decide +kernel
theorem dX12_loopRow_8 : decode cX12_loopRow 8 = .ok (.iaload, 1) := by decide +kernel
theorem dX12_loopRow_9 : decode cX12_loopRow 9 = .ok (.if_icmp .ge 28, 3) := by decide +kernel
theorem dX12_loopRow_12 : decode cX12_loopRow 12 = .ok (.aload_n 0, 1) := by decide +kernel
theorem dX12_loopRow_13 : decode cX12_loopRow 13 = .ok (.getfield 102, 3) := by decide +kernel
theorem dX12_loopRow_16 : decode cX12_loopRow 16 = .ok (.iload_n 1, 1) := by decide +kernel
theorem dX12_loopRow_17 : decode cX12_loopRow 17 = .ok (.iload_n 3, 1) := by decide +kernel
theorem dX12_loopRow_18 : decode cX12_loopRow 18 = .ok (.invokestatic 295, 3) := by decide +kernel
theorem dX12_loopRow_21 : decode cX12_loopRow 21 = .ok (.bipush 6, 2) := by decide +kernel
theorem dX12_loopRow_23 : decode cX12_loopRow 23 = .ok (.iadd, 1) := by decide +kernel
theorem dX12_loopRow_24 : decode cX12_loopRow 24 = .ok (.iaload, 1) := by decide +kernel
theorem dX12_loopRow_25 : decode cX12_loopRow 25 = .ok (.iload_n 2, 1) := by decide +kernel
theorem dX12_loopRow_26 : decode cX12_loopRow 26 = .ok (.if_icmp .ne 5, 3) := by decide +kernel
theorem dX12_loopRow_29 : decode cX12_loopRow 29 = .ok (.iload_n 3, 1) := by decide +kernel
theorem dX12_loopRow_30 : decode cX12_loopRow 30 = .ok (.ireturn, 1) := by decide +kernel
theorem dX12_loopRow_31 : decode cX12_loopRow 31 = .ok (.iinc 3 1, 3) := by decide +kernel
theorem dX12_loopRow_34 : decode cX12_loopRow 34 = .ok (.goto (-32), 3) := by decide +kernel
theorem dX12_loopRow_37 : decode cX12_loopRow 37 = .ok (.bipush (-9), 2) := by decide +kernel
theorem dX12_loopRow_39 : decode cX12_loopRow 39 = .ok (.ireturn, 1) := by decide +kernel
theorem dX12_keepTried_0 : decode cX12_keepTried 0 = .ok (.iconst 0, 1) := by decide +kernel
theorem dX12_keepTried_1 : decode cX12_keepTried 1 = .ok (.istore_n 1, 1) := by decide +kernel
theorem dX12_keepTried_2 : decode cX12_keepTried 2 = .ok (.iload_n 1, 1) := by decide +kernel
theorem dX12_keepTried_3 : decode cX12_keepTried 3 = .ok (.bipush 40, 2) := by decide +kernel
theorem dX12_keepTried_5 : decode cX12_keepTried 5 = .ok (.if_icmp .ge 21, 3) := by decide +kernel
theorem dX12_keepTried_8 : decode cX12_keepTried 8 = .ok (.aload_n 0, 1) := by decide +kernel
theorem dX12_keepTried_9 : decode cX12_keepTried 9 = .ok (.getfield 112, 3) := by decide +kernel
theorem dX12_keepTried_12 : decode cX12_keepTried 12 = .ok (.iload_n 1, 1) := by decide +kernel
theorem dX12_keepTried_13 : decode cX12_keepTried 13 = .ok (.aload_n 0, 1) := by decide +kernel
theorem dX12_keepTried_14 : decode cX12_keepTried 14 = .ok (.getfield 99, 3) := by decide +kernel
theorem dX12_keepTried_17 : decode cX12_keepTried 17 = .ok (.iload_n 1, 1) := by decide +kernel
theorem dX12_keepTried_18 : decode cX12_keepTried 18 = .ok (.iaload, 1) := by decide +kernel
theorem dX12_keepTried_19 : decode cX12_keepTried 19 = .ok (.iastore, 1) := by decide +kernel
theorem dX12_keepTried_20 : decode cX12_keepTried 20 = .ok (.iinc 1 1, 3) := by decide +kernel
theorem dX12_keepTried_23 : decode cX12_keepTried 23 = .ok (.goto (-21), 3) := by decide +kernel
theorem dX12_keepTried_26 : decode cX12_keepTried 26 = .ok (.iconst 0, 1) := by decide +kernel
theorem dX12_keepTried_27 : decode cX12_keepTried 27 = .ok (.istore_n 1, 1) := by decide +kernel
theorem dX12_keepTried_28 : decode cX12_keepTried 28 = .ok (.iload_n 1, 1) := by decide +kernel
theorem dX12_keepTried_29 : decode cX12_keepTried 29 = .ok (.sipush 4480, 3) := by decide +kernel
theorem dX12_keepTried_32 : decode cX12_keepTried 32 = .ok (.if_icmp .ge 21, 3) := by decide +kernel
theorem dX12_keepTried_35 : decode cX12_keepTried 35 = .ok (.aload_n 0, 1) := by decide +kernel
theorem dX12_keepTried_36 : decode cX12_keepTried 36 = .ok (.getfield 115, 3) := by decide +kernel
theorem dX12_keepTried_39 : decode cX12_keepTried 39 = .ok (.iload_n 1, 1) := by decide +kernel
theorem dX12_keepTried_40 : decode cX12_keepTried 40 = .ok (.aload_n 0, 1) := by decide +kernel
theorem dX12_keepTried_41 : decode cX12_keepTried 41 = .ok (.getfield 102, 3) := by decide +kernel
theorem dX12_keepTried_44 : decode cX12_keepTried 44 = .ok (.iload_n 1, 1) := by decide +kernel
theorem dX12_keepTried_45 : decode cX12_keepTried 45 = .ok (.iaload, 1) := by decide +kernel
theorem dX12_keepTried_46 : decode cX12_keepTried 46 = .ok (.iastore, 1) := by decide +kernel
theorem dX12_keepTried_47 : decode cX12_keepTried 47 = .ok (.iinc 1 1, 3) := by decide +kernel
theorem dX12_keepTried_50 : decode cX12_keepTried 50 = .ok (.goto (-22), 3) := by decide +kernel
theorem dX12_keepTried_53 : decode cX12_keepTried 53 = .ok (.return_, 1) := by decide +kernel
theorem dX12_giveTried_0 : decode cX12_giveTried 0 = .ok (.iconst 0, 1) := by decide +kernel
theorem dX12_giveTried_1 : decode cX12_giveTried 1 = .ok (.istore_n 1, 1) := by decide +kernel
theorem dX12_giveTried_2 : decode cX12_giveTried 2 = .ok (.iload_n 1, 1) := by decide +kernel
theorem dX12_giveTried_3 : decode cX12_giveTried 3 = .ok (.bipush 40, 2) := by decide +kernel
theorem dX12_giveTried_5 : decode cX12_giveTried 5 = .ok (.if_icmp .ge 21, 3) := by decide +kernel
theorem dX12_giveTried_8 : decode cX12_giveTried 8 = .ok (.aload_n 0, 1) := by decide +kernel
theorem dX12_giveTried_9 : decode cX12_giveTried 9 = .ok (.getfield 99, 3) := by decide +kernel
theorem dX12_giveTried_12 : decode cX12_giveTried 12 = .ok (.iload_n 1, 1) := by decide +kernel
theorem dX12_giveTried_13 : decode cX12_giveTried 13 = .ok (.aload_n 0, 1) := by decide +kernel
theorem dX12_giveTried_14 : decode cX12_giveTried 14 = .ok (.getfield 112, 3) := by decide +kernel
theorem dX12_giveTried_17 : decode cX12_giveTried 17 = .ok (.iload_n 1, 1) := by decide +kernel
theorem dX12_giveTried_18 : decode cX12_giveTried 18 = .ok (.iaload, 1) := by decide +kernel
theorem dX12_giveTried_19 : decode cX12_giveTried 19 = .ok (.iastore, 1) := by decide +kernel
theorem dX12_giveTried_20 : decode cX12_giveTried 20 = .ok (.iinc 1 1, 3) := by decide +kernel
theorem dX12_giveTried_23 : decode cX12_giveTried 23 = .ok (.goto (-21), 3) := by decide +kernel
theorem dX12_giveTried_26 : decode cX12_giveTried 26 = .ok (.iconst 0, 1) := by decide +kernel
theorem dX12_giveTried_27 : decode cX12_giveTried 27 = .ok (.istore_n 1, 1) := by decide +kernel
theorem dX12_giveTried_28 : decode cX12_giveTried 28 = .ok (.iload_n 1, 1) := by decide +kernel
theorem dX12_giveTried_29 : decode cX12_giveTried 29 = .ok (.sipush 4480, 3) := by decide +kernel
theorem dX12_giveTried_32 : decode cX12_giveTried 32 = .ok (.if_icmp .ge 21, 3) := by decide +kernel
theorem dX12_giveTried_35 : decode cX12_giveTried 35 = .ok (.aload_n 0, 1) := by decide +kernel
theorem dX12_giveTried_36 : decode cX12_giveTried 36 = .ok (.getfield 102, 3) := by decide +kernel
theorem dX12_giveTried_39 : decode cX12_giveTried 39 = .ok (.iload_n 1, 1) := by decide +kernel
theorem dX12_giveTried_40 : decode cX12_giveTried 40 = .ok (.aload_n 0, 1) := by decide +kernel
theorem dX12_giveTried_41 : decode cX12_giveTried 41 = .ok (.getfield 115, 3) := by decide +kernel
theorem dX12_giveTried_44 : decode cX12_giveTried 44 = .ok (.iload_n 1, 1) := by decide +kernel
theorem dX12_giveTried_45 : decode cX12_giveTried 45 = .ok (.iaload, 1) := by decide +kernel
theorem dX12_giveTried_46 : decode cX12_giveTried 46 = .ok (.iastore, 1) := by decide +kernel
theorem dX12_giveTried_47 : decode cX12_giveTried 47 = .ok (.iinc 1 1, 3) := by decide +kernel
theorem dX12_giveTried_50 : decode cX12_giveTried 50 = .ok (.goto (-22), 3) := by decide +kernel
theorem dX12_giveTried_53 : decode cX12_giveTried 53 = .ok (.return_, 1) := by decide +kernel
theorem dX12_turned_0 : decode cX12_turned 0 = .ok (.aload_n 0, 1) := by decide +kernel
theorem dX12_turned_1 : decode cX12_turned 1 = .ok (.getfield 298, 3) := by decide +kernel
theorem dX12_turned_4 : decode cX12_turned 4 = .ok (.bipush 20, 2) := by decide +kernel
theorem dX12_turned_6 : decode cX12_turned 6 = .ok (.if_icmp .ne 74, 3) := by decide +kernel
theorem dX12_turned_9 : decode cX12_turned 9 = .ok (.iconst 0, 1) := by decide +kernel
theorem dX12_turned_10 : decode cX12_turned 10 = .ok (.istore_n 1, 1) := by decide +kernel
theorem dX12_turned_11 : decode cX12_turned 11 = .ok (.iload_n 1, 1) := by decide +kernel
theorem dX12_turned_12 : decode cX12_turned 12 = .ok (.sipush 760, 3) := by decide +kernel
theorem dX12_turned_15 : decode cX12_turned 15 = .ok (.if_icmp .ge 24, 3) := by decide +kernel
theorem dX12_turned_18 : decode cX12_turned 18 = .ok (.aload_n 0, 1) := by decide +kernel
theorem dX12_turned_19 : decode cX12_turned 19 = .ok (.getfield 105, 3) := by decide +kernel
theorem dX12_turned_22 : decode cX12_turned 22 = .ok (.iload_n 1, 1) := by decide +kernel
theorem dX12_turned_23 : decode cX12_turned 23 = .ok (.aload_n 0, 1) := by decide +kernel
theorem dX12_turned_24 : decode cX12_turned 24 = .ok (.getfield 105, 3) := by decide +kernel
theorem dX12_turned_27 : decode cX12_turned 27 = .ok (.iload_n 1, 1) := by decide +kernel
theorem dX12_turned_28 : decode cX12_turned 28 = .ok (.bipush 40, 2) := by decide +kernel
theorem dX12_turned_30 : decode cX12_turned 30 = .ok (.iadd, 1) := by decide +kernel
theorem dX12_turned_31 : decode cX12_turned 31 = .ok (.iaload, 1) := by decide +kernel
theorem dX12_turned_32 : decode cX12_turned 32 = .ok (.iastore, 1) := by decide +kernel
theorem dX12_turned_33 : decode cX12_turned 33 = .ok (.iinc 1 1, 3) := by decide +kernel
theorem dX12_turned_36 : decode cX12_turned 36 = .ok (.goto (-25), 3) := by decide +kernel
theorem dX12_turned_39 : decode cX12_turned 39 = .ok (.iconst 0, 1) := by decide +kernel
theorem dX12_turned_40 : decode cX12_turned 40 = .ok (.istore_n 1, 1) := by decide +kernel
theorem dX12_turned_41 : decode cX12_turned 41 = .ok (.iload_n 1, 1) := by decide +kernel
theorem dX12_turned_42 : decode cX12_turned 42 = .ok (.ldc_w 308, 3) := by decide +kernel
theorem dX12_turned_45 : decode cX12_turned 45 = .ok (.if_icmp .ge 25, 3) := by decide +kernel
theorem dX12_turned_48 : decode cX12_turned 48 = .ok (.aload_n 0, 1) := by decide +kernel
theorem dX12_turned_49 : decode cX12_turned 49 = .ok (.getfield 109, 3) := by decide +kernel
theorem dX12_turned_52 : decode cX12_turned 52 = .ok (.iload_n 1, 1) := by decide +kernel
theorem dX12_turned_53 : decode cX12_turned 53 = .ok (.aload_n 0, 1) := by decide +kernel
theorem dX12_turned_54 : decode cX12_turned 54 = .ok (.getfield 109, 3) := by decide +kernel
theorem dX12_turned_57 : decode cX12_turned 57 = .ok (.iload_n 1, 1) := by decide +kernel
theorem dX12_turned_58 : decode cX12_turned 58 = .ok (.sipush 4480, 3) := by decide +kernel
theorem dX12_turned_61 : decode cX12_turned 61 = .ok (.iadd, 1) := by decide +kernel
theorem dX12_turned_62 : decode cX12_turned 62 = .ok (.iaload, 1) := by decide +kernel
theorem dX12_turned_63 : decode cX12_turned 63 = .ok (.iastore, 1) := by decide +kernel
theorem dX12_turned_64 : decode cX12_turned 64 = .ok (.iinc 1 1, 3) := by decide +kernel
theorem dX12_turned_67 : decode cX12_turned 67 = .ok (.goto (-26), 3) := by decide +kernel
theorem dX12_turned_70 : decode cX12_turned 70 = .ok (.aload_n 0, 1) := by decide +kernel
theorem dX12_turned_71 : decode cX12_turned 71 = .ok (.dup, 1) := by decide +kernel
theorem dX12_turned_72 : decode cX12_turned 72 = .ok (.getfield 298, 3) := by decide +kernel
theorem dX12_turned_75 : decode cX12_turned 75 = .ok (.iconst 1, 1) := by decide +kernel
theorem dX12_turned_76 : decode cX12_turned 76 = .ok (.isub, 1) := by decide +kernel
theorem dX12_turned_77 : decode cX12_turned 77 = .ok (.putfield 298, 3) := by decide +kernel
theorem dX12_turned_80 : decode cX12_turned 80 = .ok (.iconst 0, 1) := by decide +kernel
theorem dX12_turned_81 : decode cX12_turned 81 = .ok (.istore_n 1, 1) := by decide +kernel
theorem dX12_turned_82 : decode cX12_turned 82 = .ok (.iload_n 1, 1) := by decide +kernel
theorem dX12_turned_83 : decode cX12_turned 83 = .ok (.bipush 40, 2) := by decide +kernel
theorem dX12_turned_85 : decode cX12_turned 85 = .ok (.if_icmp .ge 29, 3) := by decide +kernel
theorem dX12_turned_88 : decode cX12_turned 88 = .ok (.aload_n 0, 1) := by decide +kernel
theorem dX12_turned_89 : decode cX12_turned 89 = .ok (.getfield 105, 3) := by decide +kernel
theorem dX12_turned_92 : decode cX12_turned 92 = .ok (.bipush 40, 2) := by decide +kernel
theorem dX12_turned_94 : decode cX12_turned 94 = .ok (.aload_n 0, 1) := by decide +kernel
theorem dX12_turned_95 : decode cX12_turned 95 = .ok (.getfield 298, 3) := by decide +kernel
theorem dX12_turned_98 : decode cX12_turned 98 = .ok (.imul, 1) := by decide +kernel
theorem dX12_turned_99 : decode cX12_turned 99 = .ok (.iload_n 1, 1) := by decide +kernel
theorem dX12_turned_100 : decode cX12_turned 100 = .ok (.iadd, 1) := by decide +kernel
theorem dX12_turned_101 : decode cX12_turned 101 = .ok (.aload_n 0, 1) := by decide +kernel
theorem dX12_turned_102 : decode cX12_turned 102 = .ok (.getfield 112, 3) := by decide +kernel
theorem dX12_turned_105 : decode cX12_turned 105 = .ok (.iload_n 1, 1) := by decide +kernel
theorem dX12_turned_106 : decode cX12_turned 106 = .ok (.iaload, 1) := by decide +kernel
theorem dX12_turned_107 : decode cX12_turned 107 = .ok (.iastore, 1) := by decide +kernel
theorem dX12_turned_108 : decode cX12_turned 108 = .ok (.iinc 1 1, 3) := by decide +kernel
theorem dX12_turned_111 : decode cX12_turned 111 = .ok (.goto (-29), 3) := by decide +kernel
theorem dX12_turned_114 : decode cX12_turned 114 = .ok (.iconst 0, 1) := by decide +kernel
theorem dX12_turned_115 : decode cX12_turned 115 = .ok (.istore_n 1, 1) := by decide +kernel
theorem dX12_turned_116 : decode cX12_turned 116 = .ok (.iload_n 1, 1) := by decide +kernel
theorem dX12_turned_117 : decode cX12_turned 117 = .ok (.sipush 4480, 3) := by decide +kernel
theorem dX12_turned_120 : decode cX12_turned 120 = .ok (.if_icmp .ge 30, 3) := by decide +kernel
theorem dX12_turned_123 : decode cX12_turned 123 = .ok (.aload_n 0, 1) := by decide +kernel
theorem dX12_turned_124 : decode cX12_turned 124 = .ok (.getfield 109, 3) := by decide +kernel
theorem dX12_turned_127 : decode cX12_turned 127 = .ok (.sipush 4480, 3) := by decide +kernel
theorem dX12_turned_130 : decode cX12_turned 130 = .ok (.aload_n 0, 1) := by decide +kernel
theorem dX12_turned_131 : decode cX12_turned 131 = .ok (.getfield 298, 3) := by decide +kernel
theorem dX12_turned_134 : decode cX12_turned 134 = .ok (.imul, 1) := by decide +kernel
theorem dX12_turned_135 : decode cX12_turned 135 = .ok (.iload_n 1, 1) := by decide +kernel
theorem dX12_turned_136 : decode cX12_turned 136 = .ok (.iadd, 1) := by decide +kernel
theorem dX12_turned_137 : decode cX12_turned 137 = .ok (.aload_n 0, 1) := by decide +kernel
theorem dX12_turned_138 : decode cX12_turned 138 = .ok (.getfield 115, 3) := by decide +kernel
theorem dX12_turned_141 : decode cX12_turned 141 = .ok (.iload_n 1, 1) := by decide +kernel
theorem dX12_turned_142 : decode cX12_turned 142 = .ok (.iaload, 1) := by decide +kernel
theorem dX12_turned_143 : decode cX12_turned 143 = .ok (.iastore, 1) := by decide +kernel
theorem dX12_turned_144 : decode cX12_turned 144 = .ok (.iinc 1 1, 3) := by decide +kernel
theorem dX12_turned_147 : decode cX12_turned 147 = .ok (.goto (-31), 3) := by decide +kernel
theorem dX12_turned_150 : decode cX12_turned 150 = .ok (.aload_n 0, 1) := by decide +kernel
theorem dX12_turned_151 : decode cX12_turned 151 = .ok (.dup, 1) := by decide +kernel
theorem dX12_turned_152 : decode cX12_turned 152 = .ok (.getfield 298, 3) := by decide +kernel
theorem dX12_turned_155 : decode cX12_turned 155 = .ok (.iconst 1, 1) := by decide +kernel
theorem dX12_turned_156 : decode cX12_turned 156 = .ok (.iadd, 1) := by decide +kernel
theorem dX12_turned_157 : decode cX12_turned 157 = .ok (.putfield 298, 3) := by decide +kernel
theorem dX12_turned_160 : decode cX12_turned 160 = .ok (.iconst 1, 1) := by decide +kernel
theorem dX12_turned_161 : decode cX12_turned 161 = .ok (.ireturn, 1) := by decide +kernel
theorem dX12_fits_0 : decode cX12_fits 0 = .ok (.iconst 1, 1) := by decide +kernel
theorem dX12_fits_1 : decode cX12_fits 1 = .ok (.istore_n 3, 1) := by decide +kernel
theorem dX12_fits_2 : decode cX12_fits 2 = .ok (.iconst 0, 1) := by decide +kernel
theorem dX12_fits_3 : decode cX12_fits 3 = .ok (.istore 4, 2) := by decide +kernel
theorem dX12_fits_5 : decode cX12_fits 5 = .ok (.iload 4, 2) := by decide +kernel
theorem dX12_fits_7 : decode cX12_fits 7 = .ok (.iconst 5, 1) := by decide +kernel
theorem dX12_fits_8 : decode cX12_fits 8 = .ok (.if_icmp .ge 35, 3) := by decide +kernel
theorem dX12_fits_11 : decode cX12_fits 11 = .ok (.iload_n 3, 1) := by decide +kernel
theorem dX12_fits_12 : decode cX12_fits 12 = .ok (.ifCond .eq 23, 3) := by decide +kernel
theorem dX12_fits_15 : decode cX12_fits 15 = .ok (.aload_n 2, 1) := by decide +kernel
theorem dX12_fits_16 : decode cX12_fits 16 = .ok (.iload 4, 2) := by decide +kernel
theorem dX12_fits_18 : decode cX12_fits 18 = .ok (.laload, 1) := by decide +kernel
theorem dX12_fits_19 : decode cX12_fits 19 = .ok (.ldc2_w 309, 3) := by decide +kernel
theorem dX12_fits_22 : decode cX12_fits 22 = .ok (.ldc2_w 280, 3) := by decide +kernel
theorem dX12_fits_25 : decode cX12_fits 25 = .ok (.invokestatic 154, 3) := by decide +kernel
theorem dX12_fits_28 : decode cX12_fits 28 = .ok (.ifCond .eq 7, 3) := by decide +kernel
theorem dX12_fits_31 : decode cX12_fits 31 = .ok (.iconst 1, 1) := by decide +kernel
theorem dX12_fits_32 : decode cX12_fits 32 = .ok (.goto 4, 3) := by decide +kernel
theorem dX12_fits_35 : decode cX12_fits 35 = .ok (.iconst 0, 1) := by decide +kernel
theorem dX12_fits_36 : decode cX12_fits 36 = .ok (.istore_n 3, 1) := by decide +kernel
theorem dX12_fits_37 : decode cX12_fits 37 = .ok (.iinc 4 1, 3) := by decide +kernel
theorem dX12_fits_40 : decode cX12_fits 40 = .ok (.goto (-35), 3) := by decide +kernel
theorem dX12_fits_43 : decode cX12_fits 43 = .ok (.iconst 0, 1) := by decide +kernel
theorem dX12_fits_44 : decode cX12_fits 44 = .ok (.istore 4, 2) := by decide +kernel
theorem dX12_fits_46 : decode cX12_fits 46 = .ok (.iload 4, 2) := by decide +kernel
theorem dX12_fits_48 : decode cX12_fits 48 = .ok (.iconst 5, 1) := by decide +kernel
theorem dX12_fits_49 : decode cX12_fits 49 = .ok (.if_icmp .ge 27, 3) := by decide +kernel
theorem dX12_fits_52 : decode cX12_fits 52 = .ok (.iload_n 3, 1) := by decide +kernel
theorem dX12_fits_53 : decode cX12_fits 53 = .ok (.ifCond .eq 23, 3) := by decide +kernel
theorem dX12_fits_56 : decode cX12_fits 56 = .ok (.aload_n 0, 1) := by decide +kernel
theorem dX12_fits_57 : decode cX12_fits 57 = .ok (.getfield 102, 3) := by decide +kernel
theorem dX12_fits_60 : decode cX12_fits 60 = .ok (.iload_n 1, 1) := by decide +kernel
theorem dX12_fits_61 : decode cX12_fits 61 = .ok (.iload 4, 2) := by decide +kernel
theorem dX12_fits_63 : decode cX12_fits 63 = .ok (.iadd, 1) := by decide +kernel
theorem dX12_fits_64 : decode cX12_fits 64 = .ok (.aload_n 2, 1) := by decide +kernel
theorem dX12_fits_65 : decode cX12_fits 65 = .ok (.iload 4, 2) := by decide +kernel
theorem dX12_fits_67 : decode cX12_fits 67 = .ok (.laload, 1) := by decide +kernel
theorem dX12_fits_68 : decode cX12_fits 68 = .ok (.l2i, 1) := by decide +kernel
theorem dX12_fits_69 : decode cX12_fits 69 = .ok (.iastore, 1) := by decide +kernel
theorem dX12_fits_70 : decode cX12_fits 70 = .ok (.iinc 4 1, 3) := by decide +kernel
theorem dX12_fits_73 : decode cX12_fits 73 = .ok (.goto (-27), 3) := by decide +kernel
theorem dX12_fits_76 : decode cX12_fits 76 = .ok (.iload_n 3, 1) := by decide +kernel
theorem dX12_fits_77 : decode cX12_fits 77 = .ok (.ireturn, 1) := by decide +kernel
theorem dX12_isActIn_0 : decode cX12_isActIn 0 = .ok (.aload_n 0, 1) := by decide +kernel
theorem dX12_isActIn_1 : decode cX12_isActIn 1 = .ok (.getfield 26, 3) := by decide +kernel
theorem dX12_isActIn_4 : decode cX12_isActIn 4 = .ok (.iload_n 1, 1) := by decide +kernel
theorem dX12_isActIn_5 : decode cX12_isActIn 5 = .ok (.iaload, 1) := by decide +kernel
theorem dX12_isActIn_6 : decode cX12_isActIn 6 = .ok (.iconst 3, 1) := by decide +kernel
theorem dX12_isActIn_7 : decode cX12_isActIn 7 = .ok (.if_icmp .ne 16, 3) := by decide +kernel
theorem dX12_isActIn_10 : decode cX12_isActIn 10 = .ok (.aload_n 0, 1) := by decide +kernel
theorem dX12_isActIn_11 : decode cX12_isActIn 11 = .ok (.iload_n 1, 1) := by decide +kernel
theorem dX12_isActIn_12 : decode cX12_isActIn 12 = .ok (.iload_n 2, 1) := by decide +kernel
theorem dX12_isActIn_13 : decode cX12_isActIn 13 = .ok (.invokevirtual 292, 3) := by decide +kernel
theorem dX12_isActIn_16 : decode cX12_isActIn 16 = .ok (.ifCond .eq 7, 3) := by decide +kernel
theorem dX12_isActIn_19 : decode cX12_isActIn 19 = .ok (.iconst 1, 1) := by decide +kernel
theorem dX12_isActIn_20 : decode cX12_isActIn 20 = .ok (.goto 4, 3) := by decide +kernel
theorem dX12_isActIn_23 : decode cX12_isActIn 23 = .ok (.iconst 0, 1) := by decide +kernel
theorem dX12_isActIn_24 : decode cX12_isActIn 24 = .ok (.ireturn, 1) := by decide +kernel
theorem dX12_swapRows_0 : decode cX12_swapRows 0 = .ok (.aload_n 0, 1) := by decide +kernel
theorem dX12_swapRows_1 : decode cX12_swapRows 1 = .ok (.getfield 32, 3) := by decide +kernel
theorem dX12_swapRows_4 : decode cX12_swapRows 4 = .ok (.iload_n 1, 1) := by decide +kernel
theorem dX12_swapRows_5 : decode cX12_swapRows 5 = .ok (.iaload, 1) := by decide +kernel
theorem dX12_swapRows_6 : decode cX12_swapRows 6 = .ok (.istore_n 3, 1) := by decide +kernel
theorem dX12_swapRows_7 : decode cX12_swapRows 7 = .ok (.iconst 0, 1) := by decide +kernel
theorem dX12_swapRows_8 : decode cX12_swapRows 8 = .ok (.istore 4, 2) := by decide +kernel
theorem dX12_swapRows_10 : decode cX12_swapRows 10 = .ok (.iload 4, 2) := by decide +kernel
theorem dX12_swapRows_12 : decode cX12_swapRows 12 = .ok (.aload_n 0, 1) := by decide +kernel
theorem dX12_swapRows_13 : decode cX12_swapRows 13 = .ok (.getfield 170, 3) := by decide +kernel
theorem dX12_swapRows_16 : decode cX12_swapRows 16 = .ok (.if_icmp .ge 118, 3) := by decide +kernel
theorem dX12_swapRows_19 : decode cX12_swapRows 19 = .ok (.aload_n 0, 1) := by decide +kernel
theorem dX12_swapRows_20 : decode cX12_swapRows 20 = .ok (.iload 4, 2) := by decide +kernel
theorem dX12_swapRows_22 : decode cX12_swapRows 22 = .ok (.iload_n 1, 1) := by decide +kernel
theorem dX12_swapRows_23 : decode cX12_swapRows 23 = .ok (.invokevirtual 311, 3) := by decide +kernel
theorem dX12_swapRows_26 : decode cX12_swapRows 26 = .ok (.ifCond .eq 102, 3) := by decide +kernel
theorem dX12_swapRows_29 : decode cX12_swapRows 29 = .ok (.aload_n 0, 1) := by decide +kernel
theorem dX12_swapRows_30 : decode cX12_swapRows 30 = .ok (.getfield 32, 3) := by decide +kernel
theorem dX12_swapRows_33 : decode cX12_swapRows 33 = .ok (.iload 4, 2) := by decide +kernel
theorem dX12_swapRows_35 : decode cX12_swapRows 35 = .ok (.iaload, 1) := by decide +kernel
theorem dX12_swapRows_36 : decode cX12_swapRows 36 = .ok (.iload_n 2, 1) := by decide +kernel
theorem dX12_swapRows_37 : decode cX12_swapRows 37 = .ok (.if_icmp .le 91, 3) := by decide +kernel
theorem dX12_swapRows_40 : decode cX12_swapRows 40 = .ok (.iload 4, 2) := by decide +kernel
theorem dX12_swapRows_42 : decode cX12_swapRows 42 = .ok (.aload_n 0, 1) := by decide +kernel
theorem dX12_swapRows_43 : decode cX12_swapRows 43 = .ok (.iload 4, 2) := by decide +kernel
theorem dX12_swapRows_45 : decode cX12_swapRows 45 = .ok (.iload_n 3, 1) := by decide +kernel
theorem dX12_swapRows_46 : decode cX12_swapRows 46 = .ok (.invokevirtual 314, 3) := by decide +kernel
theorem dX12_swapRows_49 : decode cX12_swapRows 49 = .ok (.invokestatic 295, 3) := by decide +kernel
theorem dX12_swapRows_52 : decode cX12_swapRows 52 = .ok (.istore 5, 2) := by decide +kernel
theorem dX12_swapRows_54 : decode cX12_swapRows 54 = .ok (.iload 4, 2) := by decide +kernel
theorem dX12_swapRows_56 : decode cX12_swapRows 56 = .ok (.aload_n 0, 1) := by decide +kernel
theorem dX12_swapRows_57 : decode cX12_swapRows 57 = .ok (.iload 4, 2) := by decide +kernel
theorem dX12_swapRows_59 : decode cX12_swapRows 59 = .ok (.iload_n 2, 1) := by decide +kernel
theorem dX12_swapRows_60 : decode cX12_swapRows 60 = .ok (.invokevirtual 314, 3) := by decide +kernel
theorem dX12_swapRows_63 : decode cX12_swapRows 63 = .ok (.invokestatic 295, 3) := by decide +kernel
theorem dX12_swapRows_66 : decode cX12_swapRows 66 = .ok (.istore 6, 2) := by decide +kernel
theorem dX12_swapRows_68 : decode cX12_swapRows 68 = .ok (.iconst 0, 1) := by decide +kernel
theorem dX12_swapRows_69 : decode cX12_swapRows 69 = .ok (.istore 7, 2) := by decide +kernel
theorem dX12_swapRows_71 : decode cX12_swapRows 71 = .ok (.iload 7, 2) := by decide +kernel
theorem dX12_swapRows_73 : decode cX12_swapRows 73 = .ok (.bipush 6, 2) := by decide +kernel
theorem dX12_swapRows_75 : decode cX12_swapRows 75 = .ok (.if_icmp .ge 53, 3) := by decide +kernel
theorem dX12_swapRows_78 : decode cX12_swapRows 78 = .ok (.aload_n 0, 1) := by decide +kernel
theorem dX12_swapRows_79 : decode cX12_swapRows 79 = .ok (.getfield 102, 3) := by decide +kernel
theorem dX12_swapRows_82 : decode cX12_swapRows 82 = .ok (.iload 5, 2) := by decide +kernel
theorem dX12_swapRows_84 : decode cX12_swapRows 84 = .ok (.iload 7, 2) := by decide +kernel
theorem dX12_swapRows_86 : decode cX12_swapRows 86 = .ok (.iadd, 1) := by decide +kernel
theorem dX12_swapRows_87 : decode cX12_swapRows 87 = .ok (.iaload, 1) := by decide +kernel
theorem dX12_swapRows_88 : decode cX12_swapRows 88 = .ok (.istore 8, 2) := by decide +kernel
theorem dX12_swapRows_90 : decode cX12_swapRows 90 = .ok (.aload_n 0, 1) := by decide +kernel
theorem dX12_swapRows_91 : decode cX12_swapRows 91 = .ok (.getfield 102, 3) := by decide +kernel
theorem dX12_swapRows_94 : decode cX12_swapRows 94 = .ok (.iload 5, 2) := by decide +kernel
theorem dX12_swapRows_96 : decode cX12_swapRows 96 = .ok (.iload 7, 2) := by decide +kernel
theorem dX12_swapRows_98 : decode cX12_swapRows 98 = .ok (.iadd, 1) := by decide +kernel
theorem dX12_swapRows_99 : decode cX12_swapRows 99 = .ok (.aload_n 0, 1) := by decide +kernel
theorem dX12_swapRows_100 : decode cX12_swapRows 100 = .ok (.getfield 102, 3) := by decide +kernel
theorem dX12_swapRows_103 : decode cX12_swapRows 103 = .ok (.iload 6, 2) := by decide +kernel
theorem dX12_swapRows_105 : decode cX12_swapRows 105 = .ok (.iload 7, 2) := by decide +kernel
theorem dX12_swapRows_107 : decode cX12_swapRows 107 = .ok (.iadd, 1) := by decide +kernel
theorem dX12_swapRows_108 : decode cX12_swapRows 108 = .ok (.iaload, 1) := by decide +kernel
theorem dX12_swapRows_109 : decode cX12_swapRows 109 = .ok (.iastore, 1) := by decide +kernel
theorem dX12_swapRows_110 : decode cX12_swapRows 110 = .ok (.aload_n 0, 1) := by decide +kernel
theorem dX12_swapRows_111 : decode cX12_swapRows 111 = .ok (.getfield 102, 3) := by decide +kernel
theorem dX12_swapRows_114 : decode cX12_swapRows 114 = .ok (.iload 6, 2) := by decide +kernel
theorem dX12_swapRows_116 : decode cX12_swapRows 116 = .ok (.iload 7, 2) := by decide +kernel
theorem dX12_swapRows_118 : decode cX12_swapRows 118 = .ok (.iadd, 1) := by decide +kernel
theorem dX12_swapRows_119 : decode cX12_swapRows 119 = .ok (.iload 8, 2) := by decide +kernel
theorem dX12_swapRows_121 : decode cX12_swapRows 121 = .ok (.iastore, 1) := by decide +kernel
theorem dX12_swapRows_122 : decode cX12_swapRows 122 = .ok (.iinc 7 1, 3) := by decide +kernel
theorem dX12_swapRows_125 : decode cX12_swapRows 125 = .ok (.goto (-54), 3) := by decide +kernel
theorem dX12_swapRows_128 : decode cX12_swapRows 128 = .ok (.iinc 4 1, 3) := by decide +kernel
theorem dX12_swapRows_131 : decode cX12_swapRows 131 = .ok (.goto (-121), 3) := by decide +kernel
theorem dX12_swapRows_134 : decode cX12_swapRows 134 = .ok (.return_, 1) := by decide +kernel
theorem dX12_swap_0 : decode cX12_swap 0 = .ok (.aload_n 0, 1) := by decide +kernel
theorem dX12_swap_1 : decode cX12_swap 1 = .ok (.iload_n 1, 1) := by decide +kernel
theorem dX12_swap_2 : decode cX12_swap 2 = .ok (.invokevirtual 177, 3) := by decide +kernel
theorem dX12_swap_5 : decode cX12_swap 5 = .ok (.ifCond .ne 5, 3) := by decide +kernel
theorem dX12_swap_8 : decode cX12_swap 8 = .ok (.iconst (-1), 1) := by decide +kernel
theorem dX12_swap_9 : decode cX12_swap 9 = .ok (.ireturn, 1) := by decide +kernel
theorem dX12_swap_10 : decode cX12_swap 10 = .ok (.aload_n 0, 1) := by decide +kernel
theorem dX12_swap_11 : decode cX12_swap 11 = .ok (.iload_n 1, 1) := by decide +kernel
theorem dX12_swap_12 : decode cX12_swap 12 = .ok (.invokevirtual 173, 3) := by decide +kernel
theorem dX12_swap_15 : decode cX12_swap 15 = .ok (.ifCond .ne 9, 3) := by decide +kernel
theorem dX12_swap_18 : decode cX12_swap 18 = .ok (.aload_n 0, 1) := by decide +kernel
theorem dX12_swap_19 : decode cX12_swap 19 = .ok (.iconst 3, 1) := by decide +kernel
theorem dX12_swap_20 : decode cX12_swap 20 = .ok (.invokevirtual 207, 3) := by decide +kernel
theorem dX12_swap_23 : decode cX12_swap 23 = .ok (.ireturn, 1) := by decide +kernel
theorem dX12_swap_24 : decode cX12_swap 24 = .ok (.iload_n 2, 1) := by decide +kernel
theorem dX12_swap_25 : decode cX12_swap 25 = .ok (.i2l, 1) := by decide +kernel
theorem dX12_swap_26 : decode cX12_swap 26 = .ok (.aload_n 0, 1) := by decide +kernel
theorem dX12_swap_27 : decode cX12_swap 27 = .ok (.getfield 32, 3) := by decide +kernel
theorem dX12_swap_30 : decode cX12_swap 30 = .ok (.iload_n 1, 1) := by decide +kernel
theorem dX12_swap_31 : decode cX12_swap 31 = .ok (.iaload, 1) := by decide +kernel
theorem dX12_swap_32 : decode cX12_swap 32 = .ok (.iconst 1, 1) := by decide +kernel
theorem dX12_swap_33 : decode cX12_swap 33 = .ok (.iadd, 1) := by decide +kernel
theorem dX12_swap_34 : decode cX12_swap 34 = .ok (.i2l, 1) := by decide +kernel
theorem dX12_swap_35 : decode cX12_swap 35 = .ok (.ldc2_w 212, 3) := by decide +kernel
theorem dX12_swap_38 : decode cX12_swap 38 = .ok (.invokestatic 154, 3) := by decide +kernel
theorem dX12_swap_41 : decode cX12_swap 41 = .ok (.ifCond .ne 5, 3) := by decide +kernel
theorem dX12_swap_44 : decode cX12_swap 44 = .ok (.iconst (-1), 1) := by decide +kernel
theorem dX12_swap_45 : decode cX12_swap 45 = .ok (.ireturn, 1) := by decide +kernel
theorem dX12_swap_46 : decode cX12_swap 46 = .ok (.aload_n 0, 1) := by decide +kernel
theorem dX12_swap_47 : decode cX12_swap 47 = .ok (.invokevirtual 317, 3) := by decide +kernel
theorem dX12_swap_50 : decode cX12_swap 50 = .ok (.aload_n 0, 1) := by decide +kernel
theorem dX12_swap_51 : decode cX12_swap 51 = .ok (.iload_n 1, 1) := by decide +kernel
theorem dX12_swap_52 : decode cX12_swap 52 = .ok (.iload_n 2, 1) := by decide +kernel
theorem dX12_swap_53 : decode cX12_swap 53 = .ok (.invokevirtual 320, 3) := by decide +kernel
theorem dX12_swap_56 : decode cX12_swap 56 = .ok (.aload_n 0, 1) := by decide +kernel
theorem dX12_swap_57 : decode cX12_swap 57 = .ok (.invokevirtual 324, 3) := by decide +kernel
theorem dX12_swap_60 : decode cX12_swap 60 = .ok (.ireturn, 1) := by decide +kernel
theorem dX12_lean_0 : decode cX12_lean 0 = .ok (.aload_n 0, 1) := by decide +kernel
theorem dX12_lean_1 : decode cX12_lean 1 = .ok (.iload_n 1, 1) := by decide +kernel
theorem dX12_lean_2 : decode cX12_lean 2 = .ok (.invokevirtual 177, 3) := by decide +kernel
theorem dX12_lean_5 : decode cX12_lean 5 = .ok (.ifCond .eq 29, 3) := by decide +kernel
theorem dX12_lean_8 : decode cX12_lean 8 = .ok (.iload_n 2, 1) := by decide +kernel
theorem dX12_lean_9 : decode cX12_lean 9 = .ok (.i2l, 1) := by decide +kernel
theorem dX12_lean_10 : decode cX12_lean 10 = .ok (.lconst 0, 1) := by decide +kernel
theorem dX12_lean_11 : decode cX12_lean 11 = .ok (.ldc2_w 212, 3) := by decide +kernel
theorem dX12_lean_14 : decode cX12_lean 14 = .ok (.invokestatic 154, 3) := by decide +kernel
theorem dX12_lean_17 : decode cX12_lean 17 = .ok (.ifCond .eq 17, 3) := by decide +kernel
theorem dX12_lean_20 : decode cX12_lean 20 = .ok (.iload_n 3, 1) := by decide +kernel
theorem dX12_lean_21 : decode cX12_lean 21 = .ok (.i2l, 1) := by decide +kernel
theorem dX12_lean_22 : decode cX12_lean 22 = .ok (.ldc2_w 328, 3) := by decide +kernel
theorem dX12_lean_25 : decode cX12_lean 25 = .ok (.ldc2_w 330, 3) := by decide +kernel
theorem dX12_lean_28 : decode cX12_lean 28 = .ok (.invokestatic 154, 3) := by decide +kernel
theorem dX12_lean_31 : decode cX12_lean 31 = .ok (.ifCond .ne 5, 3) := by decide +kernel
theorem dX12_lean_34 : decode cX12_lean 34 = .ok (.iconst (-1), 1) := by decide +kernel
theorem dX12_lean_35 : decode cX12_lean 35 = .ok (.ireturn, 1) := by decide +kernel
theorem dX12_lean_36 : decode cX12_lean 36 = .ok (.aload_n 0, 1) := by decide +kernel
theorem dX12_lean_37 : decode cX12_lean 37 = .ok (.iload_n 1, 1) := by decide +kernel
theorem dX12_lean_38 : decode cX12_lean 38 = .ok (.invokevirtual 173, 3) := by decide +kernel
theorem dX12_lean_41 : decode cX12_lean 41 = .ok (.ifCond .ne 9, 3) := by decide +kernel
theorem dX12_lean_44 : decode cX12_lean 44 = .ok (.aload_n 0, 1) := by decide +kernel
theorem dX12_lean_45 : decode cX12_lean 45 = .ok (.iconst 3, 1) := by decide +kernel
theorem dX12_lean_46 : decode cX12_lean 46 = .ok (.invokevirtual 207, 3) := by decide +kernel
theorem dX12_lean_49 : decode cX12_lean 49 = .ok (.ireturn, 1) := by decide +kernel
theorem dX12_lean_50 : decode cX12_lean 50 = .ok (.aload_n 0, 1) := by decide +kernel
theorem dX12_lean_51 : decode cX12_lean 51 = .ok (.getfield 32, 3) := by decide +kernel
theorem dX12_lean_54 : decode cX12_lean 54 = .ok (.iload_n 1, 1) := by decide +kernel
theorem dX12_lean_55 : decode cX12_lean 55 = .ok (.iaload, 1) := by decide +kernel
theorem dX12_lean_56 : decode cX12_lean 56 = .ok (.istore 4, 2) := by decide +kernel
theorem dX12_lean_58 : decode cX12_lean 58 = .ok (.iload_n 2, 1) := by decide +kernel
theorem dX12_lean_59 : decode cX12_lean 59 = .ok (.iload 4, 2) := by decide +kernel
theorem dX12_lean_61 : decode cX12_lean 61 = .ok (.if_icmp .ne 5, 3) := by decide +kernel
theorem dX12_lean_64 : decode cX12_lean 64 = .ok (.iconst (-1), 1) := by decide +kernel
theorem dX12_lean_65 : decode cX12_lean 65 = .ok (.ireturn, 1) := by decide +kernel
theorem dX12_lean_66 : decode cX12_lean 66 = .ok (.aload_n 0, 1) := by decide +kernel
theorem dX12_lean_67 : decode cX12_lean 67 = .ok (.invokevirtual 317, 3) := by decide +kernel
theorem dX12_lean_70 : decode cX12_lean 70 = .ok (.iconst 0, 1) := by decide +kernel
theorem dX12_lean_71 : decode cX12_lean 71 = .ok (.istore 5, 2) := by decide +kernel
theorem dX12_lean_73 : decode cX12_lean 73 = .ok (.iload 5, 2) := by decide +kernel
theorem dX12_lean_75 : decode cX12_lean 75 = .ok (.aload_n 0, 1) := by decide +kernel
theorem dX12_lean_76 : decode cX12_lean 76 = .ok (.getfield 170, 3) := by decide +kernel
theorem dX12_lean_79 : decode cX12_lean 79 = .ok (.if_icmp .ge 127, 3) := by decide +kernel
theorem dX12_lean_82 : decode cX12_lean 82 = .ok (.aload_n 0, 1) := by decide +kernel
theorem dX12_lean_83 : decode cX12_lean 83 = .ok (.iload 5, 2) := by decide +kernel
theorem dX12_lean_85 : decode cX12_lean 85 = .ok (.iload_n 1, 1) := by decide +kernel
theorem dX12_lean_86 : decode cX12_lean 86 = .ok (.invokevirtual 311, 3) := by decide +kernel
theorem dX12_lean_89 : decode cX12_lean 89 = .ok (.ifCond .eq 111, 3) := by decide +kernel
theorem dX12_lean_92 : decode cX12_lean 92 = .ok (.aload_n 0, 1) := by decide +kernel
theorem dX12_lean_93 : decode cX12_lean 93 = .ok (.getfield 32, 3) := by decide +kernel
theorem dX12_lean_96 : decode cX12_lean 96 = .ok (.iload 5, 2) := by decide +kernel
theorem dX12_lean_98 : decode cX12_lean 98 = .ok (.iaload, 1) := by decide +kernel
theorem dX12_lean_99 : decode cX12_lean 99 = .ok (.iload_n 2, 1) := by decide +kernel
theorem dX12_lean_100 : decode cX12_lean 100 = .ok (.if_icmp .le 100, 3) := by decide +kernel
theorem dX12_lean_103 : decode cX12_lean 103 = .ok (.iload 5, 2) := by decide +kernel
theorem dX12_lean_105 : decode cX12_lean 105 = .ok (.aload_n 0, 1) := by decide +kernel
theorem dX12_lean_106 : decode cX12_lean 106 = .ok (.iload 5, 2) := by decide +kernel
theorem dX12_lean_108 : decode cX12_lean 108 = .ok (.iload 4, 2) := by decide +kernel
theorem dX12_lean_110 : decode cX12_lean 110 = .ok (.invokevirtual 314, 3) := by decide +kernel
theorem dX12_lean_113 : decode cX12_lean 113 = .ok (.invokestatic 295, 3) := by decide +kernel
theorem dX12_lean_116 : decode cX12_lean 116 = .ok (.istore 6, 2) := by decide +kernel
theorem dX12_lean_118 : decode cX12_lean 118 = .ok (.iload 5, 2) := by decide +kernel
theorem dX12_lean_120 : decode cX12_lean 120 = .ok (.aload_n 0, 1) := by decide +kernel
theorem dX12_lean_121 : decode cX12_lean 121 = .ok (.iload 5, 2) := by decide +kernel
theorem dX12_lean_123 : decode cX12_lean 123 = .ok (.iload_n 2, 1) := by decide +kernel
theorem dX12_lean_124 : decode cX12_lean 124 = .ok (.invokevirtual 314, 3) := by decide +kernel
theorem dX12_lean_127 : decode cX12_lean 127 = .ok (.invokestatic 295, 3) := by decide +kernel
theorem dX12_lean_130 : decode cX12_lean 130 = .ok (.istore 7, 2) := by decide +kernel
theorem dX12_lean_132 : decode cX12_lean 132 = .ok (.iconst 0, 1) := by decide +kernel
theorem dX12_lean_133 : decode cX12_lean 133 = .ok (.istore 8, 2) := by decide +kernel
theorem dX12_lean_135 : decode cX12_lean 135 = .ok (.iload 8, 2) := by decide +kernel
theorem dX12_lean_137 : decode cX12_lean 137 = .ok (.iconst 5, 1) := by decide +kernel
theorem dX12_lean_138 : decode cX12_lean 138 = .ok (.if_icmp .ge 42, 3) := by decide +kernel
theorem dX12_lean_141 : decode cX12_lean 141 = .ok (.aload_n 0, 1) := by decide +kernel
theorem dX12_lean_142 : decode cX12_lean 142 = .ok (.getfield 118, 3) := by decide +kernel
theorem dX12_lean_145 : decode cX12_lean 145 = .ok (.iload 8, 2) := by decide +kernel
theorem dX12_lean_147 : decode cX12_lean 147 = .ok (.aload_n 0, 1) := by decide +kernel
theorem dX12_lean_148 : decode cX12_lean 148 = .ok (.getfield 102, 3) := by decide +kernel
theorem dX12_lean_151 : decode cX12_lean 151 = .ok (.iload 6, 2) := by decide +kernel
theorem dX12_lean_153 : decode cX12_lean 153 = .ok (.iload 8, 2) := by decide +kernel
theorem dX12_lean_155 : decode cX12_lean 155 = .ok (.iadd, 1) := by decide +kernel
theorem dX12_lean_156 : decode cX12_lean 156 = .ok (.iaload, 1) := by decide +kernel
theorem dX12_lean_157 : decode cX12_lean 157 = .ok (.i2l, 1) := by decide +kernel
theorem dX12_lean_158 : decode cX12_lean 158 = .ok (.iload_n 3, 1) := by decide +kernel
theorem dX12_lean_159 : decode cX12_lean 159 = .ok (.i2l, 1) := by decide +kernel
theorem dX12_lean_160 : decode cX12_lean 160 = .ok (.aload_n 0, 1) := by decide +kernel
theorem dX12_lean_161 : decode cX12_lean 161 = .ok (.getfield 102, 3) := by decide +kernel
theorem dX12_lean_164 : decode cX12_lean 164 = .ok (.iload 7, 2) := by decide +kernel
theorem dX12_lean_166 : decode cX12_lean 166 = .ok (.iload 8, 2) := by decide +kernel
theorem dX12_lean_168 : decode cX12_lean 168 = .ok (.iadd, 1) := by decide +kernel
theorem dX12_lean_169 : decode cX12_lean 169 = .ok (.iaload, 1) := by decide +kernel
theorem dX12_lean_170 : decode cX12_lean 170 = .ok (.i2l, 1) := by decide +kernel
theorem dX12_lean_171 : decode cX12_lean 171 = .ok (.lmul, 1) := by decide +kernel
theorem dX12_lean_172 : decode cX12_lean 172 = .ok (.ladd, 1) := by decide +kernel
theorem dX12_lean_173 : decode cX12_lean 173 = .ok (.lastore, 1) := by decide +kernel
theorem dX12_lean_174 : decode cX12_lean 174 = .ok (.iinc 8 1, 3) := by decide +kernel
theorem dX12_lean_177 : decode cX12_lean 177 = .ok (.goto (-42), 3) := by decide +kernel
theorem dX12_lean_180 : decode cX12_lean 180 = .ok (.aload_n 0, 1) := by decide +kernel
theorem dX12_lean_181 : decode cX12_lean 181 = .ok (.iload 6, 2) := by decide +kernel
theorem dX12_lean_183 : decode cX12_lean 183 = .ok (.aload_n 0, 1) := by decide +kernel
theorem dX12_lean_184 : decode cX12_lean 184 = .ok (.getfield 118, 3) := by decide +kernel
theorem dX12_lean_187 : decode cX12_lean 187 = .ok (.invokevirtual 332, 3) := by decide +kernel
theorem dX12_lean_190 : decode cX12_lean 190 = .ok (.ifCond .ne 10, 3) := by decide +kernel
theorem dX12_lean_193 : decode cX12_lean 193 = .ok (.aload_n 0, 1) := by decide +kernel
theorem dX12_lean_194 : decode cX12_lean 194 = .ok (.invokevirtual 336, 3) := by decide +kernel
theorem dX12_lean_197 : decode cX12_lean 197 = .ok (.bipush (-6), 2) := by decide +kernel
theorem dX12_lean_199 : decode cX12_lean 199 = .ok (.ireturn, 1) := by decide +kernel
theorem dX12_lean_200 : decode cX12_lean 200 = .ok (.iinc 5 1, 3) := by decide +kernel
theorem dX12_lean_203 : decode cX12_lean 203 = .ok (.goto (-130), 3) := by decide +kernel
theorem dX12_lean_206 : decode cX12_lean 206 = .ok (.aload_n 0, 1) := by decide +kernel
theorem dX12_lean_207 : decode cX12_lean 207 = .ok (.invokevirtual 324, 3) := by decide +kernel
theorem dX12_lean_210 : decode cX12_lean 210 = .ok (.ireturn, 1) := by decide +kernel
theorem dX12_turnBack_0 : decode cX12_turnBack 0 = .ok (.iconst 0, 1) := by decide +kernel
theorem dX12_turnBack_1 : decode cX12_turnBack 1 = .ok (.istore_n 2, 1) := by decide +kernel
theorem dX12_turnBack_2 : decode cX12_turnBack 2 = .ok (.iload_n 2, 1) := by decide +kernel
theorem dX12_turnBack_3 : decode cX12_turnBack 3 = .ok (.aload_n 0, 1) := by decide +kernel
theorem dX12_turnBack_4 : decode cX12_turnBack 4 = .ok (.getfield 170, 3) := by decide +kernel
theorem dX12_turnBack_7 : decode cX12_turnBack 7 = .ok (.if_icmp .ge 68, 3) := by decide +kernel
theorem dX12_turnBack_10 : decode cX12_turnBack 10 = .ok (.aload_n 0, 1) := by decide +kernel
theorem dX12_turnBack_11 : decode cX12_turnBack 11 = .ok (.iload_n 2, 1) := by decide +kernel
theorem dX12_turnBack_12 : decode cX12_turnBack 12 = .ok (.iload_n 1, 1) := by decide +kernel
theorem dX12_turnBack_13 : decode cX12_turnBack 13 = .ok (.invokevirtual 311, 3) := by decide +kernel
theorem dX12_turnBack_16 : decode cX12_turnBack 16 = .ok (.ifCond .eq 53, 3) := by decide +kernel
theorem dX12_turnBack_19 : decode cX12_turnBack 19 = .ok (.iload_n 2, 1) := by decide +kernel
theorem dX12_turnBack_20 : decode cX12_turnBack 20 = .ok (.aload_n 0, 1) := by decide +kernel
theorem dX12_turnBack_21 : decode cX12_turnBack 21 = .ok (.iload_n 2, 1) := by decide +kernel
theorem dX12_turnBack_22 : decode cX12_turnBack 22 = .ok (.aload_n 0, 1) := by decide +kernel
theorem dX12_turnBack_23 : decode cX12_turnBack 23 = .ok (.getfield 32, 3) := by decide +kernel
theorem dX12_turnBack_26 : decode cX12_turnBack 26 = .ok (.iload_n 1, 1) := by decide +kernel
theorem dX12_turnBack_27 : decode cX12_turnBack 27 = .ok (.iaload, 1) := by decide +kernel
theorem dX12_turnBack_28 : decode cX12_turnBack 28 = .ok (.invokevirtual 314, 3) := by decide +kernel
theorem dX12_turnBack_31 : decode cX12_turnBack 31 = .ok (.invokestatic 295, 3) := by decide +kernel
theorem dX12_turnBack_34 : decode cX12_turnBack 34 = .ok (.istore_n 3, 1) := by decide +kernel
theorem dX12_turnBack_35 : decode cX12_turnBack 35 = .ok (.iconst 0, 1) := by decide +kernel
theorem dX12_turnBack_36 : decode cX12_turnBack 36 = .ok (.istore 4, 2) := by decide +kernel
theorem dX12_turnBack_38 : decode cX12_turnBack 38 = .ok (.iload 4, 2) := by decide +kernel
theorem dX12_turnBack_40 : decode cX12_turnBack 40 = .ok (.iconst 5, 1) := by decide +kernel
theorem dX12_turnBack_41 : decode cX12_turnBack 41 = .ok (.if_icmp .ge 28, 3) := by decide +kernel
theorem dX12_turnBack_44 : decode cX12_turnBack 44 = .ok (.aload_n 0, 1) := by decide +kernel
theorem dX12_turnBack_45 : decode cX12_turnBack 45 = .ok (.getfield 102, 3) := by decide +kernel
theorem dX12_turnBack_48 : decode cX12_turnBack 48 = .ok (.iload_n 3, 1) := by decide +kernel
theorem dX12_turnBack_49 : decode cX12_turnBack 49 = .ok (.iload 4, 2) := by decide +kernel
theorem dX12_turnBack_51 : decode cX12_turnBack 51 = .ok (.iadd, 1) := by decide +kernel
theorem dX12_turnBack_52 : decode cX12_turnBack 52 = .ok (.aload_n 0, 1) := by decide +kernel
theorem dX12_turnBack_53 : decode cX12_turnBack 53 = .ok (.getfield 102, 3) := by decide +kernel
theorem dX12_turnBack_56 : decode cX12_turnBack 56 = .ok (.iload_n 3, 1) := by decide +kernel
theorem dX12_turnBack_57 : decode cX12_turnBack 57 = .ok (.iload 4, 2) := by decide +kernel
theorem dX12_turnBack_59 : decode cX12_turnBack 59 = .ok (.iadd, 1) := by decide +kernel
theorem dX12_turnBack_60 : decode cX12_turnBack 60 = .ok (.iaload, 1) := by decide +kernel
theorem dX12_turnBack_61 : decode cX12_turnBack 61 = .ok (.ineg, 1) := by decide +kernel
theorem dX12_turnBack_62 : decode cX12_turnBack 62 = .ok (.iastore, 1) := by decide +kernel
theorem dX12_turnBack_63 : decode cX12_turnBack 63 = .ok (.iinc 4 1, 3) := by decide +kernel
theorem dX12_turnBack_66 : decode cX12_turnBack 66 = .ok (.goto (-28), 3) := by decide +kernel
theorem dX12_turnBack_69 : decode cX12_turnBack 69 = .ok (.iinc 2 1, 3) := by decide +kernel
theorem dX12_turnBack_72 : decode cX12_turnBack 72 = .ok (.goto (-70), 3) := by decide +kernel
theorem dX12_turnBack_75 : decode cX12_turnBack 75 = .ok (.return_, 1) := by decide +kernel
theorem dX12_back_0 : decode cX12_back 0 = .ok (.aload_n 0, 1) := by decide +kernel
theorem dX12_back_1 : decode cX12_back 1 = .ok (.iload_n 1, 1) := by decide +kernel
theorem dX12_back_2 : decode cX12_back 2 = .ok (.invokevirtual 177, 3) := by decide +kernel
theorem dX12_back_5 : decode cX12_back 5 = .ok (.ifCond .ne 5, 3) := by decide +kernel
theorem dX12_back_8 : decode cX12_back 8 = .ok (.iconst (-1), 1) := by decide +kernel
theorem dX12_back_9 : decode cX12_back 9 = .ok (.ireturn, 1) := by decide +kernel
theorem dX12_back_10 : decode cX12_back 10 = .ok (.aload_n 0, 1) := by decide +kernel
theorem dX12_back_11 : decode cX12_back 11 = .ok (.iload_n 1, 1) := by decide +kernel
theorem dX12_back_12 : decode cX12_back 12 = .ok (.invokevirtual 173, 3) := by decide +kernel
theorem dX12_back_15 : decode cX12_back 15 = .ok (.ifCond .ne 9, 3) := by decide +kernel
theorem dX12_back_18 : decode cX12_back 18 = .ok (.aload_n 0, 1) := by decide +kernel
theorem dX12_back_19 : decode cX12_back 19 = .ok (.iconst 3, 1) := by decide +kernel
theorem dX12_back_20 : decode cX12_back 20 = .ok (.invokevirtual 207, 3) := by decide +kernel
theorem dX12_back_23 : decode cX12_back 23 = .ok (.ireturn, 1) := by decide +kernel
theorem dX12_back_24 : decode cX12_back 24 = .ok (.aload_n 0, 1) := by decide +kernel
theorem dX12_back_25 : decode cX12_back 25 = .ok (.invokevirtual 317, 3) := by decide +kernel
theorem dX12_back_28 : decode cX12_back 28 = .ok (.aload_n 0, 1) := by decide +kernel
theorem dX12_back_29 : decode cX12_back 29 = .ok (.iload_n 1, 1) := by decide +kernel
theorem dX12_back_30 : decode cX12_back 30 = .ok (.invokevirtual 339, 3) := by decide +kernel
theorem dX12_back_33 : decode cX12_back 33 = .ok (.aload_n 0, 1) := by decide +kernel
theorem dX12_back_34 : decode cX12_back 34 = .ok (.invokevirtual 324, 3) := by decide +kernel
theorem dX12_back_37 : decode cX12_back 37 = .ok (.ireturn, 1) := by decide +kernel
theorem dX12_shift_0 : decode cX12_shift 0 = .ok (.aload_n 0, 1) := by decide +kernel
theorem dX12_shift_1 : decode cX12_shift 1 = .ok (.iload_n 1, 1) := by decide +kernel
theorem dX12_shift_2 : decode cX12_shift 2 = .ok (.invokevirtual 177, 3) := by decide +kernel
theorem dX12_shift_5 : decode cX12_shift 5 = .ok (.ifCond .eq 29, 3) := by decide +kernel
theorem dX12_shift_8 : decode cX12_shift 8 = .ok (.iload_n 2, 1) := by decide +kernel
theorem dX12_shift_9 : decode cX12_shift 9 = .ok (.i2l, 1) := by decide +kernel
theorem dX12_shift_10 : decode cX12_shift 10 = .ok (.lconst 0, 1) := by decide +kernel
theorem dX12_shift_11 : decode cX12_shift 11 = .ok (.ldc2_w 212, 3) := by decide +kernel
theorem dX12_shift_14 : decode cX12_shift 14 = .ok (.invokestatic 154, 3) := by decide +kernel
theorem dX12_shift_17 : decode cX12_shift 17 = .ok (.ifCond .eq 17, 3) := by decide +kernel
theorem dX12_shift_20 : decode cX12_shift 20 = .ok (.iload_n 3, 1) := by decide +kernel
theorem dX12_shift_21 : decode cX12_shift 21 = .ok (.i2l, 1) := by decide +kernel
theorem dX12_shift_22 : decode cX12_shift 22 = .ok (.ldc2_w 160, 3) := by decide +kernel
theorem dX12_shift_25 : decode cX12_shift 25 = .ok (.ldc2_w 162, 3) := by decide +kernel
theorem dX12_shift_28 : decode cX12_shift 28 = .ok (.invokestatic 154, 3) := by decide +kernel
theorem dX12_shift_31 : decode cX12_shift 31 = .ok (.ifCond .ne 5, 3) := by decide +kernel
theorem dX12_shift_34 : decode cX12_shift 34 = .ok (.iconst (-1), 1) := by decide +kernel
theorem dX12_shift_35 : decode cX12_shift 35 = .ok (.ireturn, 1) := by decide +kernel
theorem dX12_shift_36 : decode cX12_shift 36 = .ok (.aload_n 0, 1) := by decide +kernel
theorem dX12_shift_37 : decode cX12_shift 37 = .ok (.getfield 26, 3) := by decide +kernel
theorem dX12_shift_40 : decode cX12_shift 40 = .ok (.iload_n 1, 1) := by decide +kernel
theorem dX12_shift_41 : decode cX12_shift 41 = .ok (.iaload, 1) := by decide +kernel
theorem dX12_shift_42 : decode cX12_shift 42 = .ok (.iconst 3, 1) := by decide +kernel
theorem dX12_shift_43 : decode cX12_shift 43 = .ok (.if_icmp .eq 9, 3) := by decide +kernel
theorem dX12_shift_46 : decode cX12_shift 46 = .ok (.aload_n 0, 1) := by decide +kernel
theorem dX12_shift_47 : decode cX12_shift 47 = .ok (.iconst 3, 1) := by decide +kernel
theorem dX12_shift_48 : decode cX12_shift 48 = .ok (.invokevirtual 207, 3) := by decide +kernel
theorem dX12_shift_51 : decode cX12_shift 51 = .ok (.ireturn, 1) := by decide +kernel
theorem dX12_shift_52 : decode cX12_shift 52 = .ok (.aload_n 0, 1) := by decide +kernel
theorem dX12_shift_53 : decode cX12_shift 53 = .ok (.getfield 32, 3) := by decide +kernel
theorem dX12_shift_56 : decode cX12_shift 56 = .ok (.iload_n 1, 1) := by decide +kernel
theorem dX12_shift_57 : decode cX12_shift 57 = .ok (.iaload, 1) := by decide +kernel
theorem dX12_shift_58 : decode cX12_shift 58 = .ok (.iload_n 2, 1) := by decide +kernel
theorem dX12_shift_59 : decode cX12_shift 59 = .ok (.if_icmp .gt 5, 3) := by decide +kernel
theorem dX12_shift_62 : decode cX12_shift 62 = .ok (.iconst (-1), 1) := by decide +kernel
theorem dX12_shift_63 : decode cX12_shift 63 = .ok (.ireturn, 1) := by decide +kernel
theorem dX12_shift_64 : decode cX12_shift 64 = .ok (.iload_n 1, 1) := by decide +kernel
theorem dX12_shift_65 : decode cX12_shift 65 = .ok (.aload_n 0, 1) := by decide +kernel
theorem dX12_shift_66 : decode cX12_shift 66 = .ok (.iload_n 1, 1) := by decide +kernel
theorem dX12_shift_67 : decode cX12_shift 67 = .ok (.iload_n 2, 1) := by decide +kernel
theorem dX12_shift_68 : decode cX12_shift 68 = .ok (.invokevirtual 314, 3) := by decide +kernel
theorem dX12_shift_71 : decode cX12_shift 71 = .ok (.invokestatic 295, 3) := by decide +kernel
theorem dX12_shift_74 : decode cX12_shift 74 = .ok (.istore 4, 2) := by decide +kernel
theorem dX12_shift_76 : decode cX12_shift 76 = .ok (.aload_n 0, 1) := by decide +kernel
theorem dX12_shift_77 : decode cX12_shift 77 = .ok (.getfield 102, 3) := by decide +kernel
theorem dX12_shift_80 : decode cX12_shift 80 = .ok (.iload 4, 2) := by decide +kernel
theorem dX12_shift_82 : decode cX12_shift 82 = .ok (.iaload, 1) := by decide +kernel
theorem dX12_shift_83 : decode cX12_shift 83 = .ok (.iload_n 3, 1) := by decide +kernel
theorem dX12_shift_84 : decode cX12_shift 84 = .ok (.iadd, 1) := by decide +kernel
theorem dX12_shift_85 : decode cX12_shift 85 = .ok (.i2l, 1) := by decide +kernel
theorem dX12_shift_86 : decode cX12_shift 86 = .ok (.ldc2_w 309, 3) := by decide +kernel
theorem dX12_shift_89 : decode cX12_shift 89 = .ok (.ldc2_w 280, 3) := by decide +kernel
theorem dX12_shift_92 : decode cX12_shift 92 = .ok (.invokestatic 154, 3) := by decide +kernel
theorem dX12_shift_95 : decode cX12_shift 95 = .ok (.ifCond .ne 6, 3) := by decide +kernel
theorem dX12_shift_98 : decode cX12_shift 98 = .ok (.bipush (-6), 2) := by decide +kernel
theorem dX12_shift_100 : decode cX12_shift 100 = .ok (.ireturn, 1) := by decide +kernel
theorem dX12_shift_101 : decode cX12_shift 101 = .ok (.aload_n 0, 1) := by decide +kernel
theorem dX12_shift_102 : decode cX12_shift 102 = .ok (.invokevirtual 317, 3) := by decide +kernel
theorem dX12_shift_105 : decode cX12_shift 105 = .ok (.aload_n 0, 1) := by decide +kernel
theorem dX12_shift_106 : decode cX12_shift 106 = .ok (.getfield 102, 3) := by decide +kernel
theorem dX12_shift_109 : decode cX12_shift 109 = .ok (.iload 4, 2) := by decide +kernel
theorem dX12_shift_111 : decode cX12_shift 111 = .ok (.dup2, 1) := by decide +kernel
theorem dX12_shift_112 : decode cX12_shift 112 = .ok (.iaload, 1) := by decide +kernel
theorem dX12_shift_113 : decode cX12_shift 113 = .ok (.iload_n 3, 1) := by decide +kernel
theorem dX12_shift_114 : decode cX12_shift 114 = .ok (.iadd, 1) := by decide +kernel
theorem dX12_shift_115 : decode cX12_shift 115 = .ok (.iastore, 1) := by decide +kernel
theorem dX12_shift_116 : decode cX12_shift 116 = .ok (.aload_n 0, 1) := by decide +kernel
theorem dX12_shift_117 : decode cX12_shift 117 = .ok (.invokevirtual 324, 3) := by decide +kernel
theorem dX12_shift_120 : decode cX12_shift 120 = .ok (.ireturn, 1) := by decide +kernel
theorem dX12_tiles_0 : decode cX12_tiles 0 = .ok (.aload_n 0, 1) := by decide +kernel
theorem dX12_tiles_1 : decode cX12_tiles 1 = .ok (.getfield 99, 3) := by decide +kernel
theorem dX12_tiles_4 : decode cX12_tiles 4 = .ok (.iload_n 1, 1) := by decide +kernel
theorem dX12_tiles_5 : decode cX12_tiles 5 = .ok (.iaload, 1) := by decide +kernel
theorem dX12_tiles_6 : decode cX12_tiles 6 = .ok (.iload_n 3, 1) := by decide +kernel
theorem dX12_tiles_7 : decode cX12_tiles 7 = .ok (.iadd, 1) := by decide +kernel
theorem dX12_tiles_8 : decode cX12_tiles 8 = .ok (.bipush 16, 2) := by decide +kernel
theorem dX12_tiles_10 : decode cX12_tiles 10 = .ok (.if_icmp .le 5, 3) := by decide +kernel
theorem dX12_tiles_13 : decode cX12_tiles 13 = .ok (.iconst 0, 1) := by decide +kernel
theorem dX12_tiles_14 : decode cX12_tiles 14 = .ok (.ireturn, 1) := by decide +kernel
theorem dX12_tiles_15 : decode cX12_tiles 15 = .ok (.aload_n 0, 1) := by decide +kernel
theorem dX12_tiles_16 : decode cX12_tiles 16 = .ok (.iload_n 1, 1) := by decide +kernel
theorem dX12_tiles_17 : decode cX12_tiles 17 = .ok (.iload_n 2, 1) := by decide +kernel
theorem dX12_tiles_18 : decode cX12_tiles 18 = .ok (.invokevirtual 314, 3) := by decide +kernel
theorem dX12_tiles_21 : decode cX12_tiles 21 = .ok (.istore 5, 2) := by decide +kernel
theorem dX12_tiles_23 : decode cX12_tiles 23 = .ok (.aload_n 0, 1) := by decide +kernel
theorem dX12_tiles_24 : decode cX12_tiles 24 = .ok (.getfield 99, 3) := by decide +kernel
theorem dX12_tiles_27 : decode cX12_tiles 27 = .ok (.iload_n 1, 1) := by decide +kernel
theorem dX12_tiles_28 : decode cX12_tiles 28 = .ok (.iaload, 1) := by decide +kernel
theorem dX12_tiles_29 : decode cX12_tiles 29 = .ok (.iconst 1, 1) := by decide +kernel
theorem dX12_tiles_30 : decode cX12_tiles 30 = .ok (.isub, 1) := by decide +kernel
theorem dX12_tiles_31 : decode cX12_tiles 31 = .ok (.istore 6, 2) := by decide +kernel
theorem dX12_tiles_33 : decode cX12_tiles 33 = .ok (.iload 6, 2) := by decide +kernel
theorem dX12_tiles_35 : decode cX12_tiles 35 = .ok (.iload 5, 2) := by decide +kernel
theorem dX12_tiles_37 : decode cX12_tiles 37 = .ok (.if_icmp .lt 55, 3) := by decide +kernel
theorem dX12_tiles_40 : decode cX12_tiles 40 = .ok (.iconst 0, 1) := by decide +kernel
theorem dX12_tiles_41 : decode cX12_tiles 41 = .ok (.istore 7, 2) := by decide +kernel
theorem dX12_tiles_43 : decode cX12_tiles 43 = .ok (.iload 7, 2) := by decide +kernel
theorem dX12_tiles_45 : decode cX12_tiles 45 = .ok (.bipush 7, 2) := by decide +kernel
theorem dX12_tiles_47 : decode cX12_tiles 47 = .ok (.if_icmp .ge 39, 3) := by decide +kernel
theorem dX12_tiles_50 : decode cX12_tiles 50 = .ok (.aload_n 0, 1) := by decide +kernel
theorem dX12_tiles_51 : decode cX12_tiles 51 = .ok (.getfield 102, 3) := by decide +kernel
theorem dX12_tiles_54 : decode cX12_tiles 54 = .ok (.iload_n 1, 1) := by decide +kernel
theorem dX12_tiles_55 : decode cX12_tiles 55 = .ok (.iload 6, 2) := by decide +kernel
theorem dX12_tiles_57 : decode cX12_tiles 57 = .ok (.iload_n 3, 1) := by decide +kernel
theorem dX12_tiles_58 : decode cX12_tiles 58 = .ok (.iadd, 1) := by decide +kernel
theorem dX12_tiles_59 : decode cX12_tiles 59 = .ok (.invokestatic 295, 3) := by decide +kernel
theorem dX12_tiles_62 : decode cX12_tiles 62 = .ok (.iload 7, 2) := by decide +kernel
theorem dX12_tiles_64 : decode cX12_tiles 64 = .ok (.iadd, 1) := by decide +kernel
theorem dX12_tiles_65 : decode cX12_tiles 65 = .ok (.aload_n 0, 1) := by decide +kernel
theorem dX12_tiles_66 : decode cX12_tiles 66 = .ok (.getfield 102, 3) := by decide +kernel
theorem dX12_tiles_69 : decode cX12_tiles 69 = .ok (.iload_n 1, 1) := by decide +kernel
theorem dX12_tiles_70 : decode cX12_tiles 70 = .ok (.iload 6, 2) := by decide +kernel
theorem dX12_tiles_72 : decode cX12_tiles 72 = .ok (.invokestatic 295, 3) := by decide +kernel
theorem dX12_tiles_75 : decode cX12_tiles 75 = .ok (.iload 7, 2) := by decide +kernel
theorem dX12_tiles_77 : decode cX12_tiles 77 = .ok (.iadd, 1) := by decide +kernel
theorem dX12_tiles_78 : decode cX12_tiles 78 = .ok (.iaload, 1) := by decide +kernel
theorem dX12_tiles_79 : decode cX12_tiles 79 = .ok (.iastore, 1) := by decide +kernel
theorem dX12_tiles_80 : decode cX12_tiles 80 = .ok (.iinc 7 1, 3) := by decide +kernel
theorem dX12_tiles_83 : decode cX12_tiles 83 = .ok (.goto (-40), 3) := by decide +kernel
theorem dX12_tiles_86 : decode cX12_tiles 86 = .ok (.iinc 6 (-1), 3) := by decide +kernel
theorem dX12_tiles_89 : decode cX12_tiles 89 = .ok (.goto (-56), 3) := by decide +kernel
theorem dX12_tiles_92 : decode cX12_tiles 92 = .ok (.aload_n 0, 1) := by decide +kernel
theorem dX12_tiles_93 : decode cX12_tiles 93 = .ok (.getfield 99, 3) := by decide +kernel
theorem dX12_tiles_96 : decode cX12_tiles 96 = .ok (.iload_n 1, 1) := by decide +kernel
theorem dX12_tiles_97 : decode cX12_tiles 97 = .ok (.dup2, 1) := by decide +kernel
theorem dX12_tiles_98 : decode cX12_tiles 98 = .ok (.iaload, 1) := by decide +kernel
theorem dX12_tiles_99 : decode cX12_tiles 99 = .ok (.iload_n 3, 1) := by decide +kernel
theorem dX12_tiles_100 : decode cX12_tiles 100 = .ok (.iadd, 1) := by decide +kernel
theorem dX12_tiles_101 : decode cX12_tiles 101 = .ok (.iastore, 1) := by decide +kernel
theorem dX12_tiles_102 : decode cX12_tiles 102 = .ok (.iconst 0, 1) := by decide +kernel
theorem dX12_tiles_103 : decode cX12_tiles 103 = .ok (.istore 6, 2) := by decide +kernel
theorem dX12_tiles_105 : decode cX12_tiles 105 = .ok (.iload 6, 2) := by decide +kernel
theorem dX12_tiles_107 : decode cX12_tiles 107 = .ok (.iload_n 3, 1) := by decide +kernel
theorem dX12_tiles_108 : decode cX12_tiles 108 = .ok (.if_icmp .ge 28, 3) := by decide +kernel
theorem dX12_tiles_111 : decode cX12_tiles 111 = .ok (.aload_n 0, 1) := by decide +kernel
theorem dX12_tiles_112 : decode cX12_tiles 112 = .ok (.getfield 102, 3) := by decide +kernel
theorem dX12_tiles_115 : decode cX12_tiles 115 = .ok (.iload_n 1, 1) := by decide +kernel
theorem dX12_tiles_116 : decode cX12_tiles 116 = .ok (.iload 5, 2) := by decide +kernel
theorem dX12_tiles_118 : decode cX12_tiles 118 = .ok (.iload 6, 2) := by decide +kernel
theorem dX12_tiles_120 : decode cX12_tiles 120 = .ok (.iadd, 1) := by decide +kernel
theorem dX12_tiles_121 : decode cX12_tiles 121 = .ok (.invokestatic 295, 3) := by decide +kernel
theorem dX12_tiles_124 : decode cX12_tiles 124 = .ok (.bipush 6, 2) := by decide +kernel
theorem dX12_tiles_126 : decode cX12_tiles 126 = .ok (.iadd, 1) := by decide +kernel
theorem dX12_tiles_127 : decode cX12_tiles 127 = .ok (.bipush (-9), 2) := by decide +kernel
theorem dX12_tiles_129 : decode cX12_tiles 129 = .ok (.iastore, 1) := by decide +kernel
theorem dX12_tiles_130 : decode cX12_tiles 130 = .ok (.iinc 6 1, 3) := by decide +kernel
theorem dX12_tiles_133 : decode cX12_tiles 133 = .ok (.goto (-28), 3) := by decide +kernel
theorem dX12_tiles_136 : decode cX12_tiles 136 = .ok (.iconst 0, 1) := by decide +kernel
theorem dX12_tiles_137 : decode cX12_tiles 137 = .ok (.istore 6, 2) := by decide +kernel
theorem dX12_tiles_139 : decode cX12_tiles 139 = .ok (.iload 6, 2) := by decide +kernel
theorem dX12_tiles_141 : decode cX12_tiles 141 = .ok (.iload_n 3, 1) := by decide +kernel
theorem dX12_tiles_142 : decode cX12_tiles 142 = .ok (.if_icmp .ge 104, 3) := by decide +kernel
theorem dX12_tiles_145 : decode cX12_tiles 145 = .ok (.iload_n 1, 1) := by decide +kernel
theorem dX12_tiles_146 : decode cX12_tiles 146 = .ok (.aload_n 0, 1) := by decide +kernel
theorem dX12_tiles_147 : decode cX12_tiles 147 = .ok (.iload_n 1, 1) := by decide +kernel
theorem dX12_tiles_148 : decode cX12_tiles 148 = .ok (.iload_n 2, 1) := by decide +kernel
theorem dX12_tiles_149 : decode cX12_tiles 149 = .ok (.iload 6, 2) := by decide +kernel
theorem dX12_tiles_151 : decode cX12_tiles 151 = .ok (.iadd, 1) := by decide +kernel
theorem dX12_tiles_152 : decode cX12_tiles 152 = .ok (.invokevirtual 314, 3) := by decide +kernel
theorem dX12_tiles_155 : decode cX12_tiles 155 = .ok (.invokestatic 295, 3) := by decide +kernel
theorem dX12_tiles_158 : decode cX12_tiles 158 = .ok (.istore 7, 2) := by decide +kernel
theorem dX12_tiles_160 : decode cX12_tiles 160 = .ok (.iconst 0, 1) := by decide +kernel
theorem dX12_tiles_161 : decode cX12_tiles 161 = .ok (.istore 8, 2) := by decide +kernel
theorem dX12_tiles_163 : decode cX12_tiles 163 = .ok (.iload 8, 2) := by decide +kernel
theorem dX12_tiles_165 : decode cX12_tiles 165 = .ok (.bipush 6, 2) := by decide +kernel
theorem dX12_tiles_167 : decode cX12_tiles 167 = .ok (.if_icmp .ge 49, 3) := by decide +kernel
theorem dX12_tiles_170 : decode cX12_tiles 170 = .ok (.aload_n 0, 1) := by decide +kernel
theorem dX12_tiles_171 : decode cX12_tiles 171 = .ok (.getfield 102, 3) := by decide +kernel
theorem dX12_tiles_174 : decode cX12_tiles 174 = .ok (.iload_n 1, 1) := by decide +kernel
theorem dX12_tiles_175 : decode cX12_tiles 175 = .ok (.iload 5, 2) := by decide +kernel
theorem dX12_tiles_177 : decode cX12_tiles 177 = .ok (.iload 6, 2) := by decide +kernel
theorem dX12_tiles_179 : decode cX12_tiles 179 = .ok (.iadd, 1) := by decide +kernel
theorem dX12_tiles_180 : decode cX12_tiles 180 = .ok (.invokestatic 295, 3) := by decide +kernel
theorem dX12_tiles_183 : decode cX12_tiles 183 = .ok (.iload 8, 2) := by decide +kernel
theorem dX12_tiles_185 : decode cX12_tiles 185 = .ok (.iadd, 1) := by decide +kernel
theorem dX12_tiles_186 : decode cX12_tiles 186 = .ok (.aload_n 0, 1) := by decide +kernel
theorem dX12_tiles_187 : decode cX12_tiles 187 = .ok (.getfield 102, 3) := by decide +kernel
theorem dX12_tiles_190 : decode cX12_tiles 190 = .ok (.iload 7, 2) := by decide +kernel
theorem dX12_tiles_192 : decode cX12_tiles 192 = .ok (.iload 8, 2) := by decide +kernel
theorem dX12_tiles_194 : decode cX12_tiles 194 = .ok (.iadd, 1) := by decide +kernel
theorem dX12_tiles_195 : decode cX12_tiles 195 = .ok (.iaload, 1) := by decide +kernel
theorem dX12_tiles_196 : decode cX12_tiles 196 = .ok (.iload 8, 2) := by decide +kernel
theorem dX12_tiles_198 : decode cX12_tiles 198 = .ok (.iconst 5, 1) := by decide +kernel
theorem dX12_tiles_199 : decode cX12_tiles 199 = .ok (.if_icmp .ne 8, 3) := by decide +kernel
theorem dX12_tiles_202 : decode cX12_tiles 202 = .ok (.iload 4, 2) := by decide +kernel
theorem dX12_tiles_204 : decode cX12_tiles 204 = .ok (.goto 4, 3) := by decide +kernel
theorem dX12_tiles_207 : decode cX12_tiles 207 = .ok (.iconst 1, 1) := by decide +kernel
theorem dX12_tiles_208 : decode cX12_tiles 208 = .ok (.imul, 1) := by decide +kernel
theorem dX12_tiles_209 : decode cX12_tiles 209 = .ok (.iastore, 1) := by decide +kernel
theorem dX12_tiles_210 : decode cX12_tiles 210 = .ok (.iinc 8 1, 3) := by decide +kernel
theorem dX12_tiles_213 : decode cX12_tiles 213 = .ok (.goto (-50), 3) := by decide +kernel
theorem dX12_tiles_216 : decode cX12_tiles 216 = .ok (.aload_n 0, 1) := by decide +kernel
theorem dX12_tiles_217 : decode cX12_tiles 217 = .ok (.getfield 102, 3) := by decide +kernel
theorem dX12_tiles_220 : decode cX12_tiles 220 = .ok (.iload_n 1, 1) := by decide +kernel
theorem dX12_tiles_221 : decode cX12_tiles 221 = .ok (.iload 5, 2) := by decide +kernel
theorem dX12_tiles_223 : decode cX12_tiles 223 = .ok (.iload 6, 2) := by decide +kernel
theorem dX12_tiles_225 : decode cX12_tiles 225 = .ok (.iadd, 1) := by decide +kernel
theorem dX12_tiles_226 : decode cX12_tiles 226 = .ok (.invokestatic 295, 3) := by decide +kernel
theorem dX12_tiles_229 : decode cX12_tiles 229 = .ok (.iconst 5, 1) := by decide +kernel
theorem dX12_tiles_230 : decode cX12_tiles 230 = .ok (.iadd, 1) := by decide +kernel
theorem dX12_tiles_231 : decode cX12_tiles 231 = .ok (.iaload, 1) := by decide +kernel
theorem dX12_tiles_232 : decode cX12_tiles 232 = .ok (.sipush 400, 3) := by decide +kernel
theorem dX12_tiles_235 : decode cX12_tiles 235 = .ok (.if_icmp .le 5, 3) := by decide +kernel
theorem dX12_tiles_238 : decode cX12_tiles 238 = .ok (.iconst 0, 1) := by decide +kernel
theorem dX12_tiles_239 : decode cX12_tiles 239 = .ok (.ireturn, 1) := by decide +kernel
theorem dX12_tiles_240 : decode cX12_tiles 240 = .ok (.iinc 6 1, 3) := by decide +kernel
theorem dX12_tiles_243 : decode cX12_tiles 243 = .ok (.goto (-104), 3) := by decide +kernel
theorem dX12_tiles_246 : decode cX12_tiles 246 = .ok (.iconst 1, 1) := by decide +kernel
theorem dX12_tiles_247 : decode cX12_tiles 247 = .ok (.ireturn, 1) := by decide +kernel
theorem dX12_tile_0 : decode cX12_tile 0 = .ok (.aload_n 0, 1) := by decide +kernel
theorem dX12_tile_1 : decode cX12_tile 1 = .ok (.iload_n 1, 1) := by decide +kernel
theorem dX12_tile_2 : decode cX12_tile 2 = .ok (.invokevirtual 177, 3) := by decide +kernel
theorem dX12_tile_5 : decode cX12_tile 5 = .ok (.ifCond .eq 29, 3) := by decide +kernel
theorem dX12_tile_8 : decode cX12_tile 8 = .ok (.iload_n 2, 1) := by decide +kernel
theorem dX12_tile_9 : decode cX12_tile 9 = .ok (.i2l, 1) := by decide +kernel
theorem dX12_tile_10 : decode cX12_tile 10 = .ok (.lconst 1, 1) := by decide +kernel
theorem dX12_tile_11 : decode cX12_tile 11 = .ok (.ldc2_w 210, 3) := by decide +kernel
theorem dX12_tile_14 : decode cX12_tile 14 = .ok (.invokestatic 154, 3) := by decide +kernel
theorem dX12_tile_17 : decode cX12_tile 17 = .ok (.ifCond .eq 17, 3) := by decide +kernel
theorem dX12_tile_20 : decode cX12_tile 20 = .ok (.iload_n 3, 1) := by decide +kernel
theorem dX12_tile_21 : decode cX12_tile 21 = .ok (.i2l, 1) := by decide +kernel
theorem dX12_tile_22 : decode cX12_tile 22 = .ok (.ldc2_w 158, 3) := by decide +kernel
theorem dX12_tile_25 : decode cX12_tile 25 = .ok (.ldc2_w 330, 3) := by decide +kernel
theorem dX12_tile_28 : decode cX12_tile 28 = .ok (.invokestatic 154, 3) := by decide +kernel
theorem dX12_tile_31 : decode cX12_tile 31 = .ok (.ifCond .ne 5, 3) := by decide +kernel
theorem dX12_tile_34 : decode cX12_tile 34 = .ok (.iconst (-1), 1) := by decide +kernel
theorem dX12_tile_35 : decode cX12_tile 35 = .ok (.ireturn, 1) := by decide +kernel
theorem dX12_tile_36 : decode cX12_tile 36 = .ok (.aload_n 0, 1) := by decide +kernel
theorem dX12_tile_37 : decode cX12_tile 37 = .ok (.iload_n 1, 1) := by decide +kernel
theorem dX12_tile_38 : decode cX12_tile 38 = .ok (.invokevirtual 173, 3) := by decide +kernel
theorem dX12_tile_41 : decode cX12_tile 41 = .ok (.ifCond .ne 9, 3) := by decide +kernel
theorem dX12_tile_44 : decode cX12_tile 44 = .ok (.aload_n 0, 1) := by decide +kernel
theorem dX12_tile_45 : decode cX12_tile 45 = .ok (.iconst 3, 1) := by decide +kernel
theorem dX12_tile_46 : decode cX12_tile 46 = .ok (.invokevirtual 207, 3) := by decide +kernel
theorem dX12_tile_49 : decode cX12_tile 49 = .ok (.ireturn, 1) := by decide +kernel
theorem dX12_tile_50 : decode cX12_tile 50 = .ok (.aload_n 0, 1) := by decide +kernel
theorem dX12_tile_51 : decode cX12_tile 51 = .ok (.getfield 32, 3) := by decide +kernel
theorem dX12_tile_54 : decode cX12_tile 54 = .ok (.iload_n 1, 1) := by decide +kernel
theorem dX12_tile_55 : decode cX12_tile 55 = .ok (.iaload, 1) := by decide +kernel
theorem dX12_tile_56 : decode cX12_tile 56 = .ok (.istore 4, 2) := by decide +kernel
theorem dX12_tile_58 : decode cX12_tile 58 = .ok (.aload_n 0, 1) := by decide +kernel
theorem dX12_tile_59 : decode cX12_tile 59 = .ok (.invokevirtual 317, 3) := by decide +kernel
theorem dX12_tile_62 : decode cX12_tile 62 = .ok (.iconst 0, 1) := by decide +kernel
theorem dX12_tile_63 : decode cX12_tile 63 = .ok (.istore 5, 2) := by decide +kernel
theorem dX12_tile_65 : decode cX12_tile 65 = .ok (.iload 5, 2) := by decide +kernel
theorem dX12_tile_67 : decode cX12_tile 67 = .ok (.aload_n 0, 1) := by decide +kernel
theorem dX12_tile_68 : decode cX12_tile 68 = .ok (.getfield 170, 3) := by decide +kernel
theorem dX12_tile_71 : decode cX12_tile 71 = .ok (.if_icmp .ge 53, 3) := by decide +kernel
theorem dX12_tile_74 : decode cX12_tile 74 = .ok (.aload_n 0, 1) := by decide +kernel
theorem dX12_tile_75 : decode cX12_tile 75 = .ok (.iload 5, 2) := by decide +kernel
theorem dX12_tile_77 : decode cX12_tile 77 = .ok (.iload_n 1, 1) := by decide +kernel
theorem dX12_tile_78 : decode cX12_tile 78 = .ok (.invokevirtual 311, 3) := by decide +kernel
theorem dX12_tile_81 : decode cX12_tile 81 = .ok (.ifCond .eq 37, 3) := by decide +kernel
theorem dX12_tile_84 : decode cX12_tile 84 = .ok (.aload_n 0, 1) := by decide +kernel
theorem dX12_tile_85 : decode cX12_tile 85 = .ok (.getfield 32, 3) := by decide +kernel
theorem dX12_tile_88 : decode cX12_tile 88 = .ok (.iload 5, 2) := by decide +kernel
theorem dX12_tile_90 : decode cX12_tile 90 = .ok (.iaload, 1) := by decide +kernel
theorem dX12_tile_91 : decode cX12_tile 91 = .ok (.iload 4, 2) := by decide +kernel
theorem dX12_tile_93 : decode cX12_tile 93 = .ok (.iload_n 2, 1) := by decide +kernel
theorem dX12_tile_94 : decode cX12_tile 94 = .ok (.iadd, 1) := by decide +kernel
theorem dX12_tile_95 : decode cX12_tile 95 = .ok (.if_icmp .lt 23, 3) := by decide +kernel
theorem dX12_tile_98 : decode cX12_tile 98 = .ok (.aload_n 0, 1) := by decide +kernel
theorem dX12_tile_99 : decode cX12_tile 99 = .ok (.iload 5, 2) := by decide +kernel
theorem dX12_tile_101 : decode cX12_tile 101 = .ok (.iload 4, 2) := by decide +kernel
theorem dX12_tile_103 : decode cX12_tile 103 = .ok (.iload_n 2, 1) := by decide +kernel
theorem dX12_tile_104 : decode cX12_tile 104 = .ok (.iload_n 3, 1) := by decide +kernel
theorem dX12_tile_105 : decode cX12_tile 105 = .ok (.invokevirtual 342, 3) := by decide +kernel
theorem dX12_tile_108 : decode cX12_tile 108 = .ok (.ifCond .ne 10, 3) := by decide +kernel
theorem dX12_tile_111 : decode cX12_tile 111 = .ok (.aload_n 0, 1) := by decide +kernel
theorem dX12_tile_112 : decode cX12_tile 112 = .ok (.invokevirtual 336, 3) := by decide +kernel
theorem dX12_tile_115 : decode cX12_tile 115 = .ok (.bipush (-2), 2) := by decide +kernel
theorem dX12_tile_117 : decode cX12_tile 117 = .ok (.ireturn, 1) := by decide +kernel
theorem dX12_tile_118 : decode cX12_tile 118 = .ok (.iinc 5 1, 3) := by decide +kernel
theorem dX12_tile_121 : decode cX12_tile 121 = .ok (.goto (-56), 3) := by decide +kernel
theorem dX12_tile_124 : decode cX12_tile 124 = .ok (.aload_n 0, 1) := by decide +kernel
theorem dX12_tile_125 : decode cX12_tile 125 = .ok (.invokevirtual 324, 3) := by decide +kernel
theorem dX12_tile_128 : decode cX12_tile 128 = .ok (.ireturn, 1) := by decide +kernel
theorem dX12_part_0 : decode cX12_part 0 = .ok (.aload_n 0, 1) := by decide +kernel
theorem dX12_part_1 : decode cX12_part 1 = .ok (.iload_n 1, 1) := by decide +kernel
theorem dX12_part_2 : decode cX12_part 2 = .ok (.invokevirtual 177, 3) := by decide +kernel
theorem dX12_part_5 : decode cX12_part 5 = .ok (.ifCond .ne 5, 3) := by decide +kernel
theorem dX12_part_8 : decode cX12_part 8 = .ok (.iconst (-1), 1) := by decide +kernel
theorem dX12_part_9 : decode cX12_part 9 = .ok (.ireturn, 1) := by decide +kernel
theorem dX12_part_10 : decode cX12_part 10 = .ok (.aload_n 0, 1) := by decide +kernel
theorem dX12_part_11 : decode cX12_part 11 = .ok (.iload_n 1, 1) := by decide +kernel
theorem dX12_part_12 : decode cX12_part 12 = .ok (.invokevirtual 173, 3) := by decide +kernel
theorem dX12_part_15 : decode cX12_part 15 = .ok (.ifCond .ne 9, 3) := by decide +kernel
theorem dX12_part_18 : decode cX12_part 18 = .ok (.aload_n 0, 1) := by decide +kernel
theorem dX12_part_19 : decode cX12_part 19 = .ok (.iconst 3, 1) := by decide +kernel
theorem dX12_part_20 : decode cX12_part 20 = .ok (.invokevirtual 207, 3) := by decide +kernel
theorem dX12_part_23 : decode cX12_part 23 = .ok (.ireturn, 1) := by decide +kernel
theorem dX12_part_24 : decode cX12_part 24 = .ok (.aload_n 0, 1) := by decide +kernel
theorem dX12_part_25 : decode cX12_part 25 = .ok (.getfield 32, 3) := by decide +kernel
theorem dX12_part_28 : decode cX12_part 28 = .ok (.iload_n 1, 1) := by decide +kernel
theorem dX12_part_29 : decode cX12_part 29 = .ok (.iaload, 1) := by decide +kernel
theorem dX12_part_30 : decode cX12_part 30 = .ok (.istore_n 2, 1) := by decide +kernel
theorem dX12_part_31 : decode cX12_part 31 = .ok (.aload_n 0, 1) := by decide +kernel
theorem dX12_part_32 : decode cX12_part 32 = .ok (.invokevirtual 317, 3) := by decide +kernel
theorem dX12_part_35 : decode cX12_part 35 = .ok (.iconst 0, 1) := by decide +kernel
theorem dX12_part_36 : decode cX12_part 36 = .ok (.istore_n 3, 1) := by decide +kernel
theorem dX12_part_37 : decode cX12_part 37 = .ok (.iload_n 3, 1) := by decide +kernel
theorem dX12_part_38 : decode cX12_part 38 = .ok (.aload_n 0, 1) := by decide +kernel
theorem dX12_part_39 : decode cX12_part 39 = .ok (.getfield 170, 3) := by decide +kernel
theorem dX12_part_42 : decode cX12_part 42 = .ok (.if_icmp .ge 87, 3) := by decide +kernel
theorem dX12_part_45 : decode cX12_part 45 = .ok (.aload_n 0, 1) := by decide +kernel
theorem dX12_part_46 : decode cX12_part 46 = .ok (.iload_n 3, 1) := by decide +kernel
theorem dX12_part_47 : decode cX12_part 47 = .ok (.iload_n 1, 1) := by decide +kernel
theorem dX12_part_48 : decode cX12_part 48 = .ok (.invokevirtual 311, 3) := by decide +kernel
theorem dX12_part_51 : decode cX12_part 51 = .ok (.ifCond .eq 72, 3) := by decide +kernel
theorem dX12_part_54 : decode cX12_part 54 = .ok (.iload_n 3, 1) := by decide +kernel
theorem dX12_part_55 : decode cX12_part 55 = .ok (.aload_n 0, 1) := by decide +kernel
theorem dX12_part_56 : decode cX12_part 56 = .ok (.iload_n 3, 1) := by decide +kernel
theorem dX12_part_57 : decode cX12_part 57 = .ok (.iload_n 2, 1) := by decide +kernel
theorem dX12_part_58 : decode cX12_part 58 = .ok (.invokevirtual 314, 3) := by decide +kernel
theorem dX12_part_61 : decode cX12_part 61 = .ok (.iconst 1, 1) := by decide +kernel
theorem dX12_part_62 : decode cX12_part 62 = .ok (.isub, 1) := by decide +kernel
theorem dX12_part_63 : decode cX12_part 63 = .ok (.invokestatic 295, 3) := by decide +kernel
theorem dX12_part_66 : decode cX12_part 66 = .ok (.istore 4, 2) := by decide +kernel
theorem dX12_part_68 : decode cX12_part 68 = .ok (.ldc2_w 345, 3) := by decide +kernel
theorem dX12_part_71 : decode cX12_part 71 = .ok (.aload_n 0, 1) := by decide +kernel
theorem dX12_part_72 : decode cX12_part 72 = .ok (.getfield 102, 3) := by decide +kernel
theorem dX12_part_75 : decode cX12_part 75 = .ok (.iload 4, 2) := by decide +kernel
theorem dX12_part_77 : decode cX12_part 77 = .ok (.iaload, 1) := by decide +kernel
theorem dX12_part_78 : decode cX12_part 78 = .ok (.i2l, 1) := by decide +kernel
theorem dX12_part_79 : decode cX12_part 79 = .ok (.lmul, 1) := by decide +kernel
theorem dX12_part_80 : decode cX12_part 80 = .ok (.aload_n 0, 1) := by decide +kernel
theorem dX12_part_81 : decode cX12_part 81 = .ok (.iload_n 3, 1) := by decide +kernel
theorem dX12_part_82 : decode cX12_part 82 = .ok (.iload_n 2, 1) := by decide +kernel
theorem dX12_part_83 : decode cX12_part 83 = .ok (.iconst 1, 1) := by decide +kernel
theorem dX12_part_84 : decode cX12_part 84 = .ok (.iadd, 1) := by decide +kernel
theorem dX12_part_85 : decode cX12_part 85 = .ok (.invokevirtual 301, 3) := by decide +kernel
theorem dX12_part_88 : decode cX12_part 88 = .ok (.i2l, 1) := by decide +kernel
theorem dX12_part_89 : decode cX12_part 89 = .ok (.ladd, 1) := by decide +kernel
theorem dX12_part_90 : decode cX12_part 90 = .ok (.lstore 5, 2) := by decide +kernel
theorem dX12_part_92 : decode cX12_part 92 = .ok (.lload 5, 2) := by decide +kernel
theorem dX12_part_94 : decode cX12_part 94 = .ok (.ldc2_w 309, 3) := by decide +kernel
theorem dX12_part_97 : decode cX12_part 97 = .ok (.ldc2_w 280, 3) := by decide +kernel
theorem dX12_part_100 : decode cX12_part 100 = .ok (.invokestatic 154, 3) := by decide +kernel
theorem dX12_part_103 : decode cX12_part 103 = .ok (.ifCond .ne 10, 3) := by decide +kernel
theorem dX12_part_106 : decode cX12_part 106 = .ok (.aload_n 0, 1) := by decide +kernel
theorem dX12_part_107 : decode cX12_part 107 = .ok (.invokevirtual 336, 3) := by decide +kernel
theorem dX12_part_110 : decode cX12_part 110 = .ok (.bipush (-6), 2) := by decide +kernel
theorem dX12_part_112 : decode cX12_part 112 = .ok (.ireturn, 1) := by decide +kernel
theorem dX12_part_113 : decode cX12_part 113 = .ok (.aload_n 0, 1) := by decide +kernel
theorem dX12_part_114 : decode cX12_part 114 = .ok (.getfield 102, 3) := by decide +kernel
theorem dX12_part_117 : decode cX12_part 117 = .ok (.iload 4, 2) := by decide +kernel
theorem dX12_part_119 : decode cX12_part 119 = .ok (.lload 5, 2) := by decide +kernel
theorem dX12_part_121 : decode cX12_part 121 = .ok (.l2i, 1) := by decide +kernel
theorem dX12_part_122 : decode cX12_part 122 = .ok (.iastore, 1) := by decide +kernel
theorem dX12_part_123 : decode cX12_part 123 = .ok (.iinc 3 1, 3) := by decide +kernel
theorem dX12_part_126 : decode cX12_part 126 = .ok (.goto (-89), 3) := by decide +kernel
theorem dX12_part_129 : decode cX12_part 129 = .ok (.aload_n 0, 1) := by decide +kernel
theorem dX12_part_130 : decode cX12_part 130 = .ok (.invokevirtual 324, 3) := by decide +kernel
theorem dX12_part_133 : decode cX12_part 133 = .ok (.ireturn, 1) := by decide +kernel
theorem dX12_firstActIn_0 : decode cX12_firstActIn 0 = .ok (.iconst 0, 1) := by decide +kernel
theorem dX12_firstActIn_1 : decode cX12_firstActIn 1 = .ok (.istore_n 2, 1) := by decide +kernel
theorem dX12_firstActIn_2 : decode cX12_firstActIn 2 = .ok (.iload_n 2, 1) := by decide +kernel
theorem dX12_firstActIn_3 : decode cX12_firstActIn 3 = .ok (.aload_n 0, 1) := by decide +kernel
theorem dX12_firstActIn_4 : decode cX12_firstActIn 4 = .ok (.getfield 170, 3) := by decide +kernel
theorem dX12_firstActIn_7 : decode cX12_firstActIn 7 = .ok (.if_icmp .ge 20, 3) := by decide +kernel
theorem dX12_firstActIn_10 : decode cX12_firstActIn 10 = .ok (.aload_n 0, 1) := by decide +kernel
theorem dX12_firstActIn_11 : decode cX12_firstActIn 11 = .ok (.iload_n 2, 1) := by decide +kernel
theorem dX12_firstActIn_12 : decode cX12_firstActIn 12 = .ok (.iload_n 1, 1) := by decide +kernel
theorem dX12_firstActIn_13 : decode cX12_firstActIn 13 = .ok (.invokevirtual 311, 3) := by decide +kernel
theorem dX12_firstActIn_16 : decode cX12_firstActIn 16 = .ok (.ifCond .eq 5, 3) := by decide +kernel
theorem dX12_firstActIn_19 : decode cX12_firstActIn 19 = .ok (.iload_n 2, 1) := by decide +kernel
theorem dX12_firstActIn_20 : decode cX12_firstActIn 20 = .ok (.ireturn, 1) := by decide +kernel
theorem dX12_firstActIn_21 : decode cX12_firstActIn 21 = .ok (.iinc 2 1, 3) := by decide +kernel
theorem dX12_firstActIn_24 : decode cX12_firstActIn 24 = .ok (.goto (-22), 3) := by decide +kernel
theorem dX12_firstActIn_27 : decode cX12_firstActIn 27 = .ok (.bipush (-9), 2) := by decide +kernel
theorem dX12_firstActIn_29 : decode cX12_firstActIn 29 = .ok (.ireturn, 1) := by decide +kernel
theorem dX12_join_0 : decode cX12_join 0 = .ok (.aload_n 0, 1) := by decide +kernel
theorem dX12_join_1 : decode cX12_join 1 = .ok (.iload_n 1, 1) := by decide +kernel
theorem dX12_join_2 : decode cX12_join 2 = .ok (.invokevirtual 177, 3) := by decide +kernel
theorem dX12_join_5 : decode cX12_join 5 = .ok (.ifCond .eq 11, 3) := by decide +kernel
theorem dX12_join_8 : decode cX12_join 8 = .ok (.aload_n 0, 1) := by decide +kernel
theorem dX12_join_9 : decode cX12_join 9 = .ok (.iload_n 2, 1) := by decide +kernel
theorem dX12_join_10 : decode cX12_join 10 = .ok (.invokevirtual 177, 3) := by decide +kernel
theorem dX12_join_13 : decode cX12_join 13 = .ok (.ifCond .ne 5, 3) := by decide +kernel
theorem dX12_join_16 : decode cX12_join 16 = .ok (.iconst (-1), 1) := by decide +kernel
theorem dX12_join_17 : decode cX12_join 17 = .ok (.ireturn, 1) := by decide +kernel
theorem dX12_join_18 : decode cX12_join 18 = .ok (.aload_n 0, 1) := by decide +kernel
theorem dX12_join_19 : decode cX12_join 19 = .ok (.iload_n 1, 1) := by decide +kernel
theorem dX12_join_20 : decode cX12_join 20 = .ok (.invokevirtual 173, 3) := by decide +kernel
theorem dX12_join_23 : decode cX12_join 23 = .ok (.ifCond .eq 11, 3) := by decide +kernel
theorem dX12_join_26 : decode cX12_join 26 = .ok (.aload_n 0, 1) := by decide +kernel
theorem dX12_join_27 : decode cX12_join 27 = .ok (.iload_n 2, 1) := by decide +kernel
theorem dX12_join_28 : decode cX12_join 28 = .ok (.invokevirtual 173, 3) := by decide +kernel
theorem dX12_join_31 : decode cX12_join 31 = .ok (.ifCond .ne 9, 3) := by decide +kernel
theorem dX12_join_34 : decode cX12_join 34 = .ok (.aload_n 0, 1) := by decide +kernel
theorem dX12_join_35 : decode cX12_join 35 = .ok (.iconst 3, 1) := by decide +kernel
theorem dX12_join_36 : decode cX12_join 36 = .ok (.invokevirtual 207, 3) := by decide +kernel
theorem dX12_join_39 : decode cX12_join 39 = .ok (.ireturn, 1) := by decide +kernel
theorem dX12_join_40 : decode cX12_join 40 = .ok (.aload_n 0, 1) := by decide +kernel
theorem dX12_join_41 : decode cX12_join 41 = .ok (.iload_n 1, 1) := by decide +kernel
theorem dX12_join_42 : decode cX12_join 42 = .ok (.invokevirtual 347, 3) := by decide +kernel
theorem dX12_join_45 : decode cX12_join 45 = .ok (.istore_n 3, 1) := by decide +kernel
theorem dX12_join_46 : decode cX12_join 46 = .ok (.aload_n 0, 1) := by decide +kernel
theorem dX12_join_47 : decode cX12_join 47 = .ok (.getfield 29, 3) := by decide +kernel
theorem dX12_join_50 : decode cX12_join 50 = .ok (.iload_n 1, 1) := by decide +kernel
theorem dX12_join_51 : decode cX12_join 51 = .ok (.iaload, 1) := by decide +kernel
theorem dX12_join_52 : decode cX12_join 52 = .ok (.aload_n 0, 1) := by decide +kernel
theorem dX12_join_53 : decode cX12_join 53 = .ok (.getfield 29, 3) := by decide +kernel
theorem dX12_join_56 : decode cX12_join 56 = .ok (.iload_n 2, 1) := by decide +kernel
theorem dX12_join_57 : decode cX12_join 57 = .ok (.iaload, 1) := by decide +kernel
theorem dX12_join_58 : decode cX12_join 58 = .ok (.if_icmp .ne 14, 3) := by decide +kernel
theorem dX12_join_61 : decode cX12_join 61 = .ok (.iload_n 2, 1) := by decide +kernel
theorem dX12_join_62 : decode cX12_join 62 = .ok (.iload_n 1, 1) := by decide +kernel
theorem dX12_join_63 : decode cX12_join 63 = .ok (.if_icmp .le 9, 3) := by decide +kernel
theorem dX12_join_66 : decode cX12_join 66 = .ok (.iload_n 3, 1) := by decide +kernel
theorem dX12_join_67 : decode cX12_join 67 = .ok (.bipush (-9), 2) := by decide +kernel
theorem dX12_join_69 : decode cX12_join 69 = .ok (.if_icmp .ne 5, 3) := by decide +kernel
theorem dX12_join_72 : decode cX12_join 72 = .ok (.iconst (-1), 1) := by decide +kernel
theorem dX12_join_73 : decode cX12_join 73 = .ok (.ireturn, 1) := by decide +kernel
theorem dX12_join_74 : decode cX12_join 74 = .ok (.aload_n 0, 1) := by decide +kernel
theorem dX12_join_75 : decode cX12_join 75 = .ok (.getfield 32, 3) := by decide +kernel
theorem dX12_join_78 : decode cX12_join 78 = .ok (.iload_n 1, 1) := by decide +kernel
theorem dX12_join_79 : decode cX12_join 79 = .ok (.iaload, 1) := by decide +kernel
theorem dX12_join_80 : decode cX12_join 80 = .ok (.istore 4, 2) := by decide +kernel
theorem dX12_join_82 : decode cX12_join 82 = .ok (.aload_n 0, 1) := by decide +kernel
theorem dX12_join_83 : decode cX12_join 83 = .ok (.invokevirtual 317, 3) := by decide +kernel
theorem dX12_join_86 : decode cX12_join 86 = .ok (.aload_n 0, 1) := by decide +kernel
theorem dX12_join_87 : decode cX12_join 87 = .ok (.getfield 102, 3) := by decide +kernel
theorem dX12_join_90 : decode cX12_join 90 = .ok (.iload_n 3, 1) := by decide +kernel
theorem dX12_join_91 : decode cX12_join 91 = .ok (.aload_n 0, 1) := by decide +kernel
theorem dX12_join_92 : decode cX12_join 92 = .ok (.iload_n 3, 1) := by decide +kernel
theorem dX12_join_93 : decode cX12_join 93 = .ok (.iload 4, 2) := by decide +kernel
theorem dX12_join_95 : decode cX12_join 95 = .ok (.invokevirtual 314, 3) := by decide +kernel
theorem dX12_join_98 : decode cX12_join 98 = .ok (.iconst 1, 1) := by decide +kernel
theorem dX12_join_99 : decode cX12_join 99 = .ok (.isub, 1) := by decide +kernel
theorem dX12_join_100 : decode cX12_join 100 = .ok (.invokestatic 295, 3) := by decide +kernel
theorem dX12_join_103 : decode cX12_join 103 = .ok (.iaload, 1) := by decide +kernel
theorem dX12_join_104 : decode cX12_join 104 = .ok (.istore 5, 2) := by decide +kernel
theorem dX12_join_106 : decode cX12_join 106 = .ok (.iconst 0, 1) := by decide +kernel
theorem dX12_join_107 : decode cX12_join 107 = .ok (.istore 6, 2) := by decide +kernel
theorem dX12_join_109 : decode cX12_join 109 = .ok (.iload 6, 2) := by decide +kernel
theorem dX12_join_111 : decode cX12_join 111 = .ok (.aload_n 0, 1) := by decide +kernel
theorem dX12_join_112 : decode cX12_join 112 = .ok (.getfield 170, 3) := by decide +kernel
theorem dX12_join_115 : decode cX12_join 115 = .ok (.if_icmp .ge 41, 3) := by decide +kernel
theorem dX12_join_118 : decode cX12_join 118 = .ok (.aload_n 0, 1) := by decide +kernel
theorem dX12_join_119 : decode cX12_join 119 = .ok (.iload 6, 2) := by decide +kernel
theorem dX12_join_121 : decode cX12_join 121 = .ok (.iload_n 2, 1) := by decide +kernel
theorem dX12_join_122 : decode cX12_join 122 = .ok (.invokevirtual 311, 3) := by decide +kernel
theorem dX12_join_125 : decode cX12_join 125 = .ok (.ifCond .eq 25, 3) := by decide +kernel
theorem dX12_join_128 : decode cX12_join 128 = .ok (.aload_n 0, 1) := by decide +kernel
theorem dX12_join_129 : decode cX12_join 129 = .ok (.getfield 102, 3) := by decide +kernel
theorem dX12_join_132 : decode cX12_join 132 = .ok (.iload 6, 2) := by decide +kernel
theorem dX12_join_134 : decode cX12_join 134 = .ok (.aload_n 0, 1) := by decide +kernel
theorem dX12_join_135 : decode cX12_join 135 = .ok (.iload 6, 2) := by decide +kernel
theorem dX12_join_137 : decode cX12_join 137 = .ok (.iload 4, 2) := by decide +kernel
theorem dX12_join_139 : decode cX12_join 139 = .ok (.invokevirtual 314, 3) := by decide +kernel
theorem dX12_join_142 : decode cX12_join 142 = .ok (.iconst 1, 1) := by decide +kernel
theorem dX12_join_143 : decode cX12_join 143 = .ok (.isub, 1) := by decide +kernel
theorem dX12_join_144 : decode cX12_join 144 = .ok (.invokestatic 295, 3) := by decide +kernel
theorem dX12_join_147 : decode cX12_join 147 = .ok (.iload 5, 2) := by decide +kernel
theorem dX12_join_149 : decode cX12_join 149 = .ok (.iastore, 1) := by decide +kernel
theorem dX12_join_150 : decode cX12_join 150 = .ok (.iinc 6 1, 3) := by decide +kernel
theorem dX12_join_153 : decode cX12_join 153 = .ok (.goto (-44), 3) := by decide +kernel
theorem dX12_join_156 : decode cX12_join 156 = .ok (.aload_n 0, 1) := by decide +kernel
theorem dX12_join_157 : decode cX12_join 157 = .ok (.invokevirtual 324, 3) := by decide +kernel
theorem dX12_join_160 : decode cX12_join 160 = .ok (.ireturn, 1) := by decide +kernel
theorem dX12_undo_0 : decode cX12_undo 0 = .ok (.aload_n 0, 1) := by decide +kernel
theorem dX12_undo_1 : decode cX12_undo 1 = .ok (.getfield 298, 3) := by decide +kernel
theorem dX12_undo_4 : decode cX12_undo 4 = .ok (.ifCond .ne 6, 3) := by decide +kernel
theorem dX12_undo_7 : decode cX12_undo 7 = .ok (.bipush (-4), 2) := by decide +kernel
theorem dX12_undo_9 : decode cX12_undo 9 = .ok (.ireturn, 1) := by decide +kernel
theorem dX12_undo_10 : decode cX12_undo 10 = .ok (.aload_n 0, 1) := by decide +kernel
theorem dX12_undo_11 : decode cX12_undo 11 = .ok (.dup, 1) := by decide +kernel
theorem dX12_undo_12 : decode cX12_undo 12 = .ok (.getfield 298, 3) := by decide +kernel
theorem dX12_undo_15 : decode cX12_undo 15 = .ok (.iconst 1, 1) := by decide +kernel
theorem dX12_undo_16 : decode cX12_undo 16 = .ok (.isub, 1) := by decide +kernel
theorem dX12_undo_17 : decode cX12_undo 17 = .ok (.putfield 298, 3) := by decide +kernel
theorem dX12_undo_20 : decode cX12_undo 20 = .ok (.iconst 0, 1) := by decide +kernel
theorem dX12_undo_21 : decode cX12_undo 21 = .ok (.istore_n 1, 1) := by decide +kernel
theorem dX12_undo_22 : decode cX12_undo 22 = .ok (.iload_n 1, 1) := by decide +kernel
theorem dX12_undo_23 : decode cX12_undo 23 = .ok (.bipush 40, 2) := by decide +kernel
theorem dX12_undo_25 : decode cX12_undo 25 = .ok (.if_icmp .ge 29, 3) := by decide +kernel
theorem dX12_undo_28 : decode cX12_undo 28 = .ok (.aload_n 0, 1) := by decide +kernel
theorem dX12_undo_29 : decode cX12_undo 29 = .ok (.getfield 99, 3) := by decide +kernel
theorem dX12_undo_32 : decode cX12_undo 32 = .ok (.iload_n 1, 1) := by decide +kernel
theorem dX12_undo_33 : decode cX12_undo 33 = .ok (.aload_n 0, 1) := by decide +kernel
theorem dX12_undo_34 : decode cX12_undo 34 = .ok (.getfield 105, 3) := by decide +kernel
theorem dX12_undo_37 : decode cX12_undo 37 = .ok (.bipush 40, 2) := by decide +kernel
theorem dX12_undo_39 : decode cX12_undo 39 = .ok (.aload_n 0, 1) := by decide +kernel
theorem dX12_undo_40 : decode cX12_undo 40 = .ok (.getfield 298, 3) := by decide +kernel
theorem dX12_undo_43 : decode cX12_undo 43 = .ok (.imul, 1) := by decide +kernel
theorem dX12_undo_44 : decode cX12_undo 44 = .ok (.iload_n 1, 1) := by decide +kernel
theorem dX12_undo_45 : decode cX12_undo 45 = .ok (.iadd, 1) := by decide +kernel
theorem dX12_undo_46 : decode cX12_undo 46 = .ok (.iaload, 1) := by decide +kernel
theorem dX12_undo_47 : decode cX12_undo 47 = .ok (.iastore, 1) := by decide +kernel
theorem dX12_undo_48 : decode cX12_undo 48 = .ok (.iinc 1 1, 3) := by decide +kernel
theorem dX12_undo_51 : decode cX12_undo 51 = .ok (.goto (-29), 3) := by decide +kernel
theorem dX12_undo_54 : decode cX12_undo 54 = .ok (.iconst 0, 1) := by decide +kernel
theorem dX12_undo_55 : decode cX12_undo 55 = .ok (.istore_n 1, 1) := by decide +kernel
theorem dX12_undo_56 : decode cX12_undo 56 = .ok (.iload_n 1, 1) := by decide +kernel
theorem dX12_undo_57 : decode cX12_undo 57 = .ok (.sipush 4480, 3) := by decide +kernel
theorem dX12_undo_60 : decode cX12_undo 60 = .ok (.if_icmp .ge 30, 3) := by decide +kernel
theorem dX12_undo_63 : decode cX12_undo 63 = .ok (.aload_n 0, 1) := by decide +kernel
theorem dX12_undo_64 : decode cX12_undo 64 = .ok (.getfield 102, 3) := by decide +kernel
theorem dX12_undo_67 : decode cX12_undo 67 = .ok (.iload_n 1, 1) := by decide +kernel
theorem dX12_undo_68 : decode cX12_undo 68 = .ok (.aload_n 0, 1) := by decide +kernel
theorem dX12_undo_69 : decode cX12_undo 69 = .ok (.getfield 109, 3) := by decide +kernel
theorem dX12_undo_72 : decode cX12_undo 72 = .ok (.sipush 4480, 3) := by decide +kernel
theorem dX12_undo_75 : decode cX12_undo 75 = .ok (.aload_n 0, 1) := by decide +kernel
theorem dX12_undo_76 : decode cX12_undo 76 = .ok (.getfield 298, 3) := by decide +kernel
theorem dX12_undo_79 : decode cX12_undo 79 = .ok (.imul, 1) := by decide +kernel
theorem dX12_undo_80 : decode cX12_undo 80 = .ok (.iload_n 1, 1) := by decide +kernel
theorem dX12_undo_81 : decode cX12_undo 81 = .ok (.iadd, 1) := by decide +kernel
theorem dX12_undo_82 : decode cX12_undo 82 = .ok (.iaload, 1) := by decide +kernel
theorem dX12_undo_83 : decode cX12_undo 83 = .ok (.iastore, 1) := by decide +kernel
theorem dX12_undo_84 : decode cX12_undo 84 = .ok (.iinc 1 1, 3) := by decide +kernel
theorem dX12_undo_87 : decode cX12_undo 87 = .ok (.goto (-31), 3) := by decide +kernel
theorem dX12_undo_90 : decode cX12_undo 90 = .ok (.aload_n 0, 1) := by decide +kernel
theorem dX12_undo_91 : decode cX12_undo 91 = .ok (.getfield 298, 3) := by decide +kernel
theorem dX12_undo_94 : decode cX12_undo 94 = .ok (.ireturn, 1) := by decide +kernel
theorem dX12_order_0 : decode cX12_order 0 = .ok (.aload_n 0, 1) := by decide +kernel
theorem dX12_order_1 : decode cX12_order 1 = .ok (.iload_n 1, 1) := by decide +kernel
theorem dX12_order_2 : decode cX12_order 2 = .ok (.invokevirtual 177, 3) := by decide +kernel
theorem dX12_order_5 : decode cX12_order 5 = .ok (.ifCond .eq 15, 3) := by decide +kernel
theorem dX12_order_8 : decode cX12_order 8 = .ok (.iload_n 3, 1) := by decide +kernel
theorem dX12_order_9 : decode cX12_order 9 = .ok (.i2l, 1) := by decide +kernel
theorem dX12_order_10 : decode cX12_order 10 = .ok (.lconst 0, 1) := by decide +kernel
theorem dX12_order_11 : decode cX12_order 11 = .ok (.ldc2_w 350, 3) := by decide +kernel
theorem dX12_order_14 : decode cX12_order 14 = .ok (.invokestatic 154, 3) := by decide +kernel
theorem dX12_order_17 : decode cX12_order 17 = .ok (.ifCond .ne 5, 3) := by decide +kernel
theorem dX12_order_20 : decode cX12_order 20 = .ok (.iconst (-1), 1) := by decide +kernel
theorem dX12_order_21 : decode cX12_order 21 = .ok (.ireturn, 1) := by decide +kernel
theorem dX12_order_22 : decode cX12_order 22 = .ok (.aload_n 0, 1) := by decide +kernel
theorem dX12_order_23 : decode cX12_order 23 = .ok (.getfield 26, 3) := by decide +kernel
theorem dX12_order_26 : decode cX12_order 26 = .ok (.iload_n 1, 1) := by decide +kernel
theorem dX12_order_27 : decode cX12_order 27 = .ok (.iaload, 1) := by decide +kernel
theorem dX12_order_28 : decode cX12_order 28 = .ok (.iconst 3, 1) := by decide +kernel
theorem dX12_order_29 : decode cX12_order 29 = .ok (.if_icmp .eq 9, 3) := by decide +kernel
theorem dX12_order_32 : decode cX12_order 32 = .ok (.aload_n 0, 1) := by decide +kernel
theorem dX12_order_33 : decode cX12_order 33 = .ok (.iconst 3, 1) := by decide +kernel
theorem dX12_order_34 : decode cX12_order 34 = .ok (.invokevirtual 207, 3) := by decide +kernel
theorem dX12_order_37 : decode cX12_order 37 = .ok (.ireturn, 1) := by decide +kernel
theorem dX12_order_38 : decode cX12_order 38 = .ok (.iload_n 2, 1) := by decide +kernel
theorem dX12_order_39 : decode cX12_order 39 = .ok (.i2l, 1) := by decide +kernel
theorem dX12_order_40 : decode cX12_order 40 = .ok (.lconst 0, 1) := by decide +kernel
theorem dX12_order_41 : decode cX12_order 41 = .ok (.aload_n 0, 1) := by decide +kernel
theorem dX12_order_42 : decode cX12_order 42 = .ok (.getfield 99, 3) := by decide +kernel
theorem dX12_order_45 : decode cX12_order 45 = .ok (.iload_n 1, 1) := by decide +kernel
theorem dX12_order_46 : decode cX12_order 46 = .ok (.iaload, 1) := by decide +kernel
theorem dX12_order_47 : decode cX12_order 47 = .ok (.iconst 1, 1) := by decide +kernel
theorem dX12_order_48 : decode cX12_order 48 = .ok (.isub, 1) := by decide +kernel
theorem dX12_order_49 : decode cX12_order 49 = .ok (.i2l, 1) := by decide +kernel
theorem dX12_order_50 : decode cX12_order 50 = .ok (.invokestatic 154, 3) := by decide +kernel
theorem dX12_order_53 : decode cX12_order 53 = .ok (.ifCond .ne 6, 3) := by decide +kernel
theorem dX12_order_56 : decode cX12_order 56 = .ok (.bipush (-9), 2) := by decide +kernel
theorem dX12_order_58 : decode cX12_order 58 = .ok (.ireturn, 1) := by decide +kernel
theorem dX12_order_59 : decode cX12_order 59 = .ok (.aload_n 0, 1) := by decide +kernel
theorem dX12_order_60 : decode cX12_order 60 = .ok (.getfield 102, 3) := by decide +kernel
theorem dX12_order_63 : decode cX12_order 63 = .ok (.iload_n 1, 1) := by decide +kernel
theorem dX12_order_64 : decode cX12_order 64 = .ok (.iload_n 2, 1) := by decide +kernel
theorem dX12_order_65 : decode cX12_order 65 = .ok (.invokestatic 295, 3) := by decide +kernel
theorem dX12_order_68 : decode cX12_order 68 = .ok (.iload_n 3, 1) := by decide +kernel
theorem dX12_order_69 : decode cX12_order 69 = .ok (.iadd, 1) := by decide +kernel
theorem dX12_order_70 : decode cX12_order 70 = .ok (.iaload, 1) := by decide +kernel
theorem dX12_order_71 : decode cX12_order 71 = .ok (.iload_n 3, 1) := by decide +kernel
theorem dX12_order_72 : decode cX12_order 72 = .ok (.iconst 5, 1) := by decide +kernel
theorem dX12_order_73 : decode cX12_order 73 = .ok (.if_icmp .ge 9, 3) := by decide +kernel
theorem dX12_order_76 : decode cX12_order 76 = .ok (.ldc_w 352, 3) := by decide +kernel
theorem dX12_order_79 : decode cX12_order 79 = .ok (.goto 4, 3) := by decide +kernel
theorem dX12_order_82 : decode cX12_order 82 = .ok (.iconst 0, 1) := by decide +kernel
theorem dX12_order_83 : decode cX12_order 83 = .ok (.iadd, 1) := by decide +kernel
theorem dX12_order_84 : decode cX12_order 84 = .ok (.ireturn, 1) := by decide +kernel
theorem dX12_cutDown_0 : decode cX12_cutDown 0 = .ok (.lload_n 0, 1) := by decide +kernel
theorem dX12_cutDown_1 : decode cX12_cutDown 1 = .ok (.iload_n 2, 1) := by decide +kernel
theorem dX12_cutDown_2 : decode cX12_cutDown 2 = .ok (.i2l, 1) := by decide +kernel
theorem dX12_cutDown_3 : decode cX12_cutDown 3 = .ok (.ldiv, 1) := by decide +kernel
theorem dX12_cutDown_4 : decode cX12_cutDown 4 = .ok (.lstore_n 3, 1) := by decide +kernel
theorem dX12_cutDown_5 : decode cX12_cutDown 5 = .ok (.lload_n 0, 1) := by decide +kernel
theorem dX12_cutDown_6 : decode cX12_cutDown 6 = .ok (.iload_n 2, 1) := by decide +kernel
theorem dX12_cutDown_7 : decode cX12_cutDown 7 = .ok (.i2l, 1) := by decide +kernel
theorem dX12_cutDown_8 : decode cX12_cutDown 8 = .ok (.lrem, 1) := by decide +kernel
theorem dX12_cutDown_9 : decode cX12_cutDown 9 = .ok (.lconst 0, 1) := by decide +kernel
theorem dX12_cutDown_10 : decode cX12_cutDown 10 = .ok (.lcmp, 1) := by decide +kernel
theorem dX12_cutDown_11 : decode cX12_cutDown 11 = .ok (.ifCond .ge 9, 3) := by decide +kernel
theorem dX12_cutDown_14 : decode cX12_cutDown 14 = .ok (.lload_n 3, 1) := by decide +kernel
theorem dX12_cutDown_15 : decode cX12_cutDown 15 = .ok (.lconst 1, 1) := by decide +kernel
theorem dX12_cutDown_16 : decode cX12_cutDown 16 = .ok (.lsub, 1) := by decide +kernel
theorem dX12_cutDown_17 : decode cX12_cutDown 17 = .ok (.goto 4, 3) := by decide +kernel
theorem dX12_cutDown_20 : decode cX12_cutDown 20 = .ok (.lload_n 3, 1) := by decide +kernel
theorem dX12_cutDown_21 : decode cX12_cutDown 21 = .ok (.lreturn, 1) := by decide +kernel
theorem dX12_isAhead_0 : decode cX12_isAhead 0 = .ok (.aload_n 0, 1) := by decide +kernel
theorem dX12_isAhead_1 : decode cX12_isAhead 1 = .ok (.getfield 99, 3) := by decide +kernel
theorem dX12_isAhead_4 : decode cX12_isAhead 4 = .ok (.aload_n 0, 1) := by decide +kernel
theorem dX12_isAhead_5 : decode cX12_isAhead 5 = .ok (.getfield 78, 3) := by decide +kernel
theorem dX12_isAhead_8 : decode cX12_isAhead 8 = .ok (.iload_n 1, 1) := by decide +kernel
theorem dX12_isAhead_9 : decode cX12_isAhead 9 = .ok (.iaload, 1) := by decide +kernel
theorem dX12_isAhead_10 : decode cX12_isAhead 10 = .ok (.iaload, 1) := by decide +kernel
theorem dX12_isAhead_11 : decode cX12_isAhead 11 = .ok (.istore_n 3, 1) := by decide +kernel
theorem dX12_isAhead_12 : decode cX12_isAhead 12 = .ok (.aload_n 0, 1) := by decide +kernel
theorem dX12_isAhead_13 : decode cX12_isAhead 13 = .ok (.getfield 99, 3) := by decide +kernel
theorem dX12_isAhead_16 : decode cX12_isAhead 16 = .ok (.aload_n 0, 1) := by decide +kernel
theorem dX12_isAhead_17 : decode cX12_isAhead 17 = .ok (.getfield 78, 3) := by decide +kernel
theorem dX12_isAhead_20 : decode cX12_isAhead 20 = .ok (.iload_n 2, 1) := by decide +kernel
theorem dX12_isAhead_21 : decode cX12_isAhead 21 = .ok (.iaload, 1) := by decide +kernel
theorem dX12_isAhead_22 : decode cX12_isAhead 22 = .ok (.iaload, 1) := by decide +kernel
theorem dX12_isAhead_23 : decode cX12_isAhead 23 = .ok (.istore 4, 2) := by decide +kernel
theorem dX12_isAhead_25 : decode cX12_isAhead 25 = .ok (.iconst 0, 1) := by decide +kernel
theorem dX12_isAhead_26 : decode cX12_isAhead 26 = .ok (.istore 5, 2) := by decide +kernel
theorem dX12_isAhead_28 : decode cX12_isAhead 28 = .ok (.iload 5, 2) := by decide +kernel
theorem dX12_isAhead_30 : decode cX12_isAhead 30 = .ok (.iload_n 3, 1) := by decide +kernel
theorem dX12_isAhead_31 : decode cX12_isAhead 31 = .ok (.if_icmp .ge 78, 3) := by decide +kernel
theorem dX12_isAhead_34 : decode cX12_isAhead 34 = .ok (.iload 5, 2) := by decide +kernel
theorem dX12_isAhead_36 : decode cX12_isAhead 36 = .ok (.iload 4, 2) := by decide +kernel
theorem dX12_isAhead_38 : decode cX12_isAhead 38 = .ok (.if_icmp .ge 71, 3) := by decide +kernel
theorem dX12_isAhead_41 : decode cX12_isAhead 41 = .ok (.aload_n 0, 1) := by decide +kernel
theorem dX12_isAhead_42 : decode cX12_isAhead 42 = .ok (.getfield 121, 3) := by decide +kernel
theorem dX12_isAhead_45 : decode cX12_isAhead 45 = .ok (.bipush 16, 2) := by decide +kernel
theorem dX12_isAhead_47 : decode cX12_isAhead 47 = .ok (.iload_n 1, 1) := by decide +kernel
theorem dX12_isAhead_48 : decode cX12_isAhead 48 = .ok (.imul, 1) := by decide +kernel
theorem dX12_isAhead_49 : decode cX12_isAhead 49 = .ok (.iload 5, 2) := by decide +kernel
theorem dX12_isAhead_51 : decode cX12_isAhead 51 = .ok (.iadd, 1) := by decide +kernel
theorem dX12_isAhead_52 : decode cX12_isAhead 52 = .ok (.laload, 1) := by decide +kernel
theorem dX12_isAhead_53 : decode cX12_isAhead 53 = .ok (.aload_n 0, 1) := by decide +kernel
theorem dX12_isAhead_54 : decode cX12_isAhead 54 = .ok (.getfield 121, 3) := by decide +kernel
theorem dX12_isAhead_57 : decode cX12_isAhead 57 = .ok (.bipush 16, 2) := by decide +kernel
theorem dX12_isAhead_59 : decode cX12_isAhead 59 = .ok (.iload_n 2, 1) := by decide +kernel
theorem dX12_isAhead_60 : decode cX12_isAhead 60 = .ok (.imul, 1) := by decide +kernel
theorem dX12_isAhead_61 : decode cX12_isAhead 61 = .ok (.iload 5, 2) := by decide +kernel
theorem dX12_isAhead_63 : decode cX12_isAhead 63 = .ok (.iadd, 1) := by decide +kernel
theorem dX12_isAhead_64 : decode cX12_isAhead 64 = .ok (.laload, 1) := by decide +kernel
theorem dX12_isAhead_65 : decode cX12_isAhead 65 = .ok (.lcmp, 1) := by decide +kernel
theorem dX12_isAhead_66 : decode cX12_isAhead 66 = .ok (.ifCond .eq 37, 3) := by decide +kernel
theorem dX12_isAhead_69 : decode cX12_isAhead 69 = .ok (.aload_n 0, 1) := by decide +kernel
theorem dX12_isAhead_70 : decode cX12_isAhead 70 = .ok (.getfield 121, 3) := by decide +kernel
theorem dX12_isAhead_73 : decode cX12_isAhead 73 = .ok (.bipush 16, 2) := by decide +kernel
theorem dX12_isAhead_75 : decode cX12_isAhead 75 = .ok (.iload_n 1, 1) := by decide +kernel
theorem dX12_isAhead_76 : decode cX12_isAhead 76 = .ok (.imul, 1) := by decide +kernel
theorem dX12_isAhead_77 : decode cX12_isAhead 77 = .ok (.iload 5, 2) := by decide +kernel
theorem dX12_isAhead_79 : decode cX12_isAhead 79 = .ok (.iadd, 1) := by decide +kernel
theorem dX12_isAhead_80 : decode cX12_isAhead 80 = .ok (.laload, 1) := by decide +kernel
theorem dX12_isAhead_81 : decode cX12_isAhead 81 = .ok (.aload_n 0, 1) := by decide +kernel
theorem dX12_isAhead_82 : decode cX12_isAhead 82 = .ok (.getfield 121, 3) := by decide +kernel
theorem dX12_isAhead_85 : decode cX12_isAhead 85 = .ok (.bipush 16, 2) := by decide +kernel
theorem dX12_isAhead_87 : decode cX12_isAhead 87 = .ok (.iload_n 2, 1) := by decide +kernel
theorem dX12_isAhead_88 : decode cX12_isAhead 88 = .ok (.imul, 1) := by decide +kernel
theorem dX12_isAhead_89 : decode cX12_isAhead 89 = .ok (.iload 5, 2) := by decide +kernel
theorem dX12_isAhead_91 : decode cX12_isAhead 91 = .ok (.iadd, 1) := by decide +kernel
theorem dX12_isAhead_92 : decode cX12_isAhead 92 = .ok (.laload, 1) := by decide +kernel
theorem dX12_isAhead_93 : decode cX12_isAhead 93 = .ok (.lcmp, 1) := by decide +kernel
theorem dX12_isAhead_94 : decode cX12_isAhead 94 = .ok (.ifCond .ge 7, 3) := by decide +kernel
theorem dX12_isAhead_97 : decode cX12_isAhead 97 = .ok (.iconst 1, 1) := by decide +kernel
theorem dX12_isAhead_98 : decode cX12_isAhead 98 = .ok (.goto 4, 3) := by decide +kernel
theorem dX12_isAhead_101 : decode cX12_isAhead 101 = .ok (.iconst 0, 1) := by decide +kernel
theorem dX12_isAhead_102 : decode cX12_isAhead 102 = .ok (.ireturn, 1) := by decide +kernel
theorem dX12_isAhead_103 : decode cX12_isAhead 103 = .ok (.iinc 5 1, 3) := by decide +kernel
theorem dX12_isAhead_106 : decode cX12_isAhead 106 = .ok (.goto (-78), 3) := by decide +kernel
theorem dX12_isAhead_109 : decode cX12_isAhead 109 = .ok (.iload_n 3, 1) := by decide +kernel
theorem dX12_isAhead_110 : decode cX12_isAhead 110 = .ok (.iload 4, 2) := by decide +kernel
theorem dX12_isAhead_112 : decode cX12_isAhead 112 = .ok (.if_icmp .eq 17, 3) := by decide +kernel
theorem dX12_isAhead_115 : decode cX12_isAhead 115 = .ok (.iload_n 3, 1) := by decide +kernel
theorem dX12_isAhead_116 : decode cX12_isAhead 116 = .ok (.iload 4, 2) := by decide +kernel
theorem dX12_isAhead_118 : decode cX12_isAhead 118 = .ok (.if_icmp .ge 7, 3) := by decide +kernel
theorem dX12_isAhead_121 : decode cX12_isAhead 121 = .ok (.iconst 1, 1) := by decide +kernel
theorem dX12_isAhead_122 : decode cX12_isAhead 122 = .ok (.goto 17, 3) := by decide +kernel
theorem dX12_isAhead_125 : decode cX12_isAhead 125 = .ok (.iconst 0, 1) := by decide +kernel
theorem dX12_isAhead_126 : decode cX12_isAhead 126 = .ok (.goto 13, 3) := by decide +kernel
theorem dX12_isAhead_129 : decode cX12_isAhead 129 = .ok (.iload_n 1, 1) := by decide +kernel
theorem dX12_isAhead_130 : decode cX12_isAhead 130 = .ok (.iload_n 2, 1) := by decide +kernel
theorem dX12_isAhead_131 : decode cX12_isAhead 131 = .ok (.if_icmp .ge 7, 3) := by decide +kernel
theorem dX12_isAhead_134 : decode cX12_isAhead 134 = .ok (.iconst 1, 1) := by decide +kernel
theorem dX12_isAhead_135 : decode cX12_isAhead 135 = .ok (.goto 4, 3) := by decide +kernel
theorem dX12_isAhead_138 : decode cX12_isAhead 138 = .ok (.iconst 0, 1) := by decide +kernel
theorem dX12_isAhead_139 : decode cX12_isAhead 139 = .ok (.ireturn, 1) := by decide +kernel
theorem dX12_layOrder_0 : decode cX12_layOrder 0 = .ok (.iconst 0, 1) := by decide +kernel
theorem dX12_layOrder_1 : decode cX12_layOrder 1 = .ok (.istore_n 1, 1) := by decide +kernel
theorem dX12_layOrder_2 : decode cX12_layOrder 2 = .ok (.iload_n 1, 1) := by decide +kernel
theorem dX12_layOrder_3 : decode cX12_layOrder 3 = .ok (.aload_n 0, 1) := by decide +kernel
theorem dX12_layOrder_4 : decode cX12_layOrder 4 = .ok (.getfield 239, 3) := by decide +kernel
theorem dX12_layOrder_7 : decode cX12_layOrder 7 = .ok (.if_icmp .ge 121, 3) := by decide +kernel
theorem dX12_layOrder_10 : decode cX12_layOrder 10 = .ok (.aload_n 0, 1) := by decide +kernel
theorem dX12_layOrder_11 : decode cX12_layOrder 11 = .ok (.getfield 78, 3) := by decide +kernel
theorem dX12_layOrder_14 : decode cX12_layOrder 14 = .ok (.iload_n 1, 1) := by decide +kernel
theorem dX12_layOrder_15 : decode cX12_layOrder 15 = .ok (.iaload, 1) := by decide +kernel
theorem dX12_layOrder_16 : decode cX12_layOrder 16 = .ok (.istore_n 2, 1) := by decide +kernel
theorem dX12_layOrder_17 : decode cX12_layOrder 17 = .ok (.iconst 0, 1) := by decide +kernel
theorem dX12_layOrder_18 : decode cX12_layOrder 18 = .ok (.istore_n 3, 1) := by decide +kernel
theorem dX12_layOrder_19 : decode cX12_layOrder 19 = .ok (.iload_n 3, 1) := by decide +kernel
theorem dX12_layOrder_20 : decode cX12_layOrder 20 = .ok (.aload_n 0, 1) := by decide +kernel
theorem dX12_layOrder_21 : decode cX12_layOrder 21 = .ok (.getfield 99, 3) := by decide +kernel
theorem dX12_layOrder_24 : decode cX12_layOrder 24 = .ok (.iload_n 2, 1) := by decide +kernel
theorem dX12_layOrder_25 : decode cX12_layOrder 25 = .ok (.iaload, 1) := by decide +kernel
theorem dX12_layOrder_26 : decode cX12_layOrder 26 = .ok (.if_icmp .ge 96, 3) := by decide +kernel
theorem dX12_layOrder_29 : decode cX12_layOrder 29 = .ok (.iload_n 2, 1) := by decide +kernel
theorem dX12_layOrder_30 : decode cX12_layOrder 30 = .ok (.iload_n 3, 1) := by decide +kernel
theorem dX12_layOrder_31 : decode cX12_layOrder 31 = .ok (.invokestatic 295, 3) := by decide +kernel
theorem dX12_layOrder_34 : decode cX12_layOrder 34 = .ok (.istore 4, 2) := by decide +kernel
theorem dX12_layOrder_36 : decode cX12_layOrder 36 = .ok (.aload_n 0, 1) := by decide +kernel
theorem dX12_layOrder_37 : decode cX12_layOrder 37 = .ok (.getfield 102, 3) := by decide +kernel
theorem dX12_layOrder_40 : decode cX12_layOrder 40 = .ok (.iload 4, 2) := by decide +kernel
theorem dX12_layOrder_42 : decode cX12_layOrder 42 = .ok (.iaload, 1) := by decide +kernel
theorem dX12_layOrder_43 : decode cX12_layOrder 43 = .ok (.i2l, 1) := by decide +kernel
theorem dX12_layOrder_44 : decode cX12_layOrder 44 = .ok (.lstore 5, 2) := by decide +kernel
theorem dX12_layOrder_46 : decode cX12_layOrder 46 = .ok (.iconst 0, 1) := by decide +kernel
theorem dX12_layOrder_47 : decode cX12_layOrder 47 = .ok (.istore 7, 2) := by decide +kernel
theorem dX12_layOrder_49 : decode cX12_layOrder 49 = .ok (.iload 7, 2) := by decide +kernel
theorem dX12_layOrder_51 : decode cX12_layOrder 51 = .ok (.iconst 4, 1) := by decide +kernel
theorem dX12_layOrder_52 : decode cX12_layOrder 52 = .ok (.if_icmp .ge 39, 3) := by decide +kernel
theorem dX12_layOrder_55 : decode cX12_layOrder 55 = .ok (.lload 5, 2) := by decide +kernel
theorem dX12_layOrder_57 : decode cX12_layOrder 57 = .ok (.aload_n 0, 1) := by decide +kernel
theorem dX12_layOrder_58 : decode cX12_layOrder 58 = .ok (.getfield 102, 3) := by decide +kernel
theorem dX12_layOrder_61 : decode cX12_layOrder 61 = .ok (.iload 4, 2) := by decide +kernel
theorem dX12_layOrder_63 : decode cX12_layOrder 63 = .ok (.iconst 1, 1) := by decide +kernel
theorem dX12_layOrder_64 : decode cX12_layOrder 64 = .ok (.iadd, 1) := by decide +kernel
theorem dX12_layOrder_65 : decode cX12_layOrder 65 = .ok (.iload 7, 2) := by decide +kernel
theorem dX12_layOrder_67 : decode cX12_layOrder 67 = .ok (.iadd, 1) := by decide +kernel
theorem dX12_layOrder_68 : decode cX12_layOrder 68 = .ok (.iaload, 1) := by decide +kernel
theorem dX12_layOrder_69 : decode cX12_layOrder 69 = .ok (.i2l, 1) := by decide +kernel
theorem dX12_layOrder_70 : decode cX12_layOrder 70 = .ok (.aload_n 0, 1) := by decide +kernel
theorem dX12_layOrder_71 : decode cX12_layOrder 71 = .ok (.getfield 81, 3) := by decide +kernel
theorem dX12_layOrder_74 : decode cX12_layOrder 74 = .ok (.iconst 4, 1) := by decide +kernel
theorem dX12_layOrder_75 : decode cX12_layOrder 75 = .ok (.iload_n 1, 1) := by decide +kernel
theorem dX12_layOrder_76 : decode cX12_layOrder 76 = .ok (.imul, 1) := by decide +kernel
theorem dX12_layOrder_77 : decode cX12_layOrder 77 = .ok (.iload 7, 2) := by decide +kernel
theorem dX12_layOrder_79 : decode cX12_layOrder 79 = .ok (.iadd, 1) := by decide +kernel
theorem dX12_layOrder_80 : decode cX12_layOrder 80 = .ok (.laload, 1) := by decide +kernel
theorem dX12_layOrder_81 : decode cX12_layOrder 81 = .ok (.lmul, 1) := by decide +kernel
theorem dX12_layOrder_82 : decode cX12_layOrder 82 = .ok (.ladd, 1) := by decide +kernel
theorem dX12_layOrder_83 : decode cX12_layOrder 83 = .ok (.lstore 5, 2) := by decide +kernel
theorem dX12_layOrder_85 : decode cX12_layOrder 85 = .ok (.iinc 7 1, 3) := by decide +kernel
theorem dX12_layOrder_88 : decode cX12_layOrder 88 = .ok (.goto (-39), 3) := by decide +kernel
theorem dX12_layOrder_91 : decode cX12_layOrder 91 = .ok (.aload_n 0, 1) := by decide +kernel
theorem dX12_layOrder_92 : decode cX12_layOrder 92 = .ok (.getfield 121, 3) := by decide +kernel
theorem dX12_layOrder_95 : decode cX12_layOrder 95 = .ok (.bipush 16, 2) := by decide +kernel
theorem dX12_layOrder_97 : decode cX12_layOrder 97 = .ok (.iload_n 1, 1) := by decide +kernel
theorem dX12_layOrder_98 : decode cX12_layOrder 98 = .ok (.imul, 1) := by decide +kernel
theorem dX12_layOrder_99 : decode cX12_layOrder 99 = .ok (.iload_n 3, 1) := by decide +kernel
theorem dX12_layOrder_100 : decode cX12_layOrder 100 = .ok (.iadd, 1) := by decide +kernel
theorem dX12_layOrder_101 : decode cX12_layOrder 101 = .ok (.lload 5, 2) := by decide +kernel
theorem dX12_layOrder_103 : decode cX12_layOrder 103 = .ok (.aload_n 0, 1) := by decide +kernel
theorem dX12_layOrder_104 : decode cX12_layOrder 104 = .ok (.getfield 102, 3) := by decide +kernel
theorem dX12_layOrder_107 : decode cX12_layOrder 107 = .ok (.iload 4, 2) := by decide +kernel
theorem dX12_layOrder_109 : decode cX12_layOrder 109 = .ok (.iconst 5, 1) := by decide +kernel
theorem dX12_layOrder_110 : decode cX12_layOrder 110 = .ok (.iadd, 1) := by decide +kernel
theorem dX12_layOrder_111 : decode cX12_layOrder 111 = .ok (.iaload, 1) := by decide +kernel
theorem dX12_layOrder_112 : decode cX12_layOrder 112 = .ok (.invokestatic 353, 3) := by decide +kernel
theorem dX12_layOrder_115 : decode cX12_layOrder 115 = .ok (.lastore, 1) := by decide +kernel
theorem dX12_layOrder_116 : decode cX12_layOrder 116 = .ok (.iinc 3 1, 3) := by decide +kernel
theorem dX12_layOrder_119 : decode cX12_layOrder 119 = .ok (.goto (-100), 3) := by decide +kernel
theorem dX12_layOrder_122 : decode cX12_layOrder 122 = .ok (.iinc 1 1, 3) := by decide +kernel
theorem dX12_layOrder_125 : decode cX12_layOrder 125 = .ok (.goto (-123), 3) := by decide +kernel
theorem dX12_layOrder_128 : decode cX12_layOrder 128 = .ok (.iconst 0, 1) := by decide +kernel
theorem dX12_layOrder_129 : decode cX12_layOrder 129 = .ok (.istore_n 1, 1) := by decide +kernel
theorem dX12_layOrder_130 : decode cX12_layOrder 130 = .ok (.iload_n 1, 1) := by decide +kernel
theorem dX12_layOrder_131 : decode cX12_layOrder 131 = .ok (.aload_n 0, 1) := by decide +kernel
theorem dX12_layOrder_132 : decode cX12_layOrder 132 = .ok (.getfield 239, 3) := by decide +kernel
theorem dX12_layOrder_135 : decode cX12_layOrder 135 = .ok (.if_icmp .ge 58, 3) := by decide +kernel
theorem dX12_layOrder_138 : decode cX12_layOrder 138 = .ok (.iload_n 1, 1) := by decide +kernel
theorem dX12_layOrder_139 : decode cX12_layOrder 139 = .ok (.istore_n 2, 1) := by decide +kernel
theorem dX12_layOrder_140 : decode cX12_layOrder 140 = .ok (.iload_n 2, 1) := by decide +kernel
theorem dX12_layOrder_141 : decode cX12_layOrder 141 = .ok (.ifCond .le 39, 3) := by decide +kernel
theorem dX12_layOrder_144 : decode cX12_layOrder 144 = .ok (.aload_n 0, 1) := by decide +kernel
theorem dX12_layOrder_145 : decode cX12_layOrder 145 = .ok (.iload_n 1, 1) := by decide +kernel
theorem dX12_layOrder_146 : decode cX12_layOrder 146 = .ok (.aload_n 0, 1) := by decide +kernel
theorem dX12_layOrder_147 : decode cX12_layOrder 147 = .ok (.getfield 124, 3) := by decide +kernel
theorem dX12_layOrder_150 : decode cX12_layOrder 150 = .ok (.iload_n 2, 1) := by decide +kernel
theorem dX12_layOrder_151 : decode cX12_layOrder 151 = .ok (.iconst 1, 1) := by decide +kernel
theorem dX12_layOrder_152 : decode cX12_layOrder 152 = .ok (.isub, 1) := by decide +kernel
theorem dX12_layOrder_153 : decode cX12_layOrder 153 = .ok (.iaload, 1) := by decide +kernel
theorem dX12_layOrder_154 : decode cX12_layOrder 154 = .ok (.invokevirtual 357, 3) := by decide +kernel
theorem dX12_layOrder_157 : decode cX12_layOrder 157 = .ok (.ifCond .eq 23, 3) := by decide +kernel
theorem dX12_layOrder_160 : decode cX12_layOrder 160 = .ok (.aload_n 0, 1) := by decide +kernel
theorem dX12_layOrder_161 : decode cX12_layOrder 161 = .ok (.getfield 124, 3) := by decide +kernel
theorem dX12_layOrder_164 : decode cX12_layOrder 164 = .ok (.iload_n 2, 1) := by decide +kernel
theorem dX12_layOrder_165 : decode cX12_layOrder 165 = .ok (.aload_n 0, 1) := by decide +kernel
theorem dX12_layOrder_166 : decode cX12_layOrder 166 = .ok (.getfield 124, 3) := by decide +kernel
theorem dX12_layOrder_169 : decode cX12_layOrder 169 = .ok (.iload_n 2, 1) := by decide +kernel
theorem dX12_layOrder_170 : decode cX12_layOrder 170 = .ok (.iconst 1, 1) := by decide +kernel
theorem dX12_layOrder_171 : decode cX12_layOrder 171 = .ok (.isub, 1) := by decide +kernel
theorem dX12_layOrder_172 : decode cX12_layOrder 172 = .ok (.iaload, 1) := by decide +kernel
theorem dX12_layOrder_173 : decode cX12_layOrder 173 = .ok (.iastore, 1) := by decide +kernel
theorem dX12_layOrder_174 : decode cX12_layOrder 174 = .ok (.iinc 2 (-1), 3) := by decide +kernel
theorem dX12_layOrder_177 : decode cX12_layOrder 177 = .ok (.goto (-37), 3) := by decide +kernel
theorem dX12_layOrder_180 : decode cX12_layOrder 180 = .ok (.aload_n 0, 1) := by decide +kernel
theorem dX12_layOrder_181 : decode cX12_layOrder 181 = .ok (.getfield 124, 3) := by decide +kernel
theorem dX12_layOrder_184 : decode cX12_layOrder 184 = .ok (.iload_n 2, 1) := by decide +kernel
theorem dX12_layOrder_185 : decode cX12_layOrder 185 = .ok (.iload_n 1, 1) := by decide +kernel
theorem dX12_layOrder_186 : decode cX12_layOrder 186 = .ok (.iastore, 1) := by decide +kernel
theorem dX12_layOrder_187 : decode cX12_layOrder 187 = .ok (.iinc 1 1, 3) := by decide +kernel
theorem dX12_layOrder_190 : decode cX12_layOrder 190 = .ok (.goto (-60), 3) := by decide +kernel
theorem dX12_layOrder_193 : decode cX12_layOrder 193 = .ok (.iconst 0, 1) := by decide +kernel
theorem dX12_layOrder_194 : decode cX12_layOrder 194 = .ok (.istore_n 1, 1) := by decide +kernel
theorem dX12_layOrder_195 : decode cX12_layOrder 195 = .ok (.iload_n 1, 1) := by decide +kernel
theorem dX12_layOrder_196 : decode cX12_layOrder 196 = .ok (.aload_n 0, 1) := by decide +kernel
theorem dX12_layOrder_197 : decode cX12_layOrder 197 = .ok (.getfield 239, 3) := by decide +kernel
theorem dX12_layOrder_200 : decode cX12_layOrder 200 = .ok (.if_icmp .ge 21, 3) := by decide +kernel
theorem dX12_layOrder_203 : decode cX12_layOrder 203 = .ok (.aload_n 0, 1) := by decide +kernel
theorem dX12_layOrder_204 : decode cX12_layOrder 204 = .ok (.getfield 127, 3) := by decide +kernel
theorem dX12_layOrder_207 : decode cX12_layOrder 207 = .ok (.aload_n 0, 1) := by decide +kernel
theorem dX12_layOrder_208 : decode cX12_layOrder 208 = .ok (.getfield 124, 3) := by decide +kernel
theorem dX12_layOrder_211 : decode cX12_layOrder 211 = .ok (.iload_n 1, 1) := by decide +kernel
theorem dX12_layOrder_212 : decode cX12_layOrder 212 = .ok (.iaload, 1) := by decide +kernel
theorem dX12_layOrder_213 : decode cX12_layOrder 213 = .ok (.iload_n 1, 1) := by decide +kernel
theorem dX12_layOrder_214 : decode cX12_layOrder 214 = .ok (.iastore, 1) := by decide +kernel
theorem dX12_layOrder_215 : decode cX12_layOrder 215 = .ok (.iinc 1 1, 3) := by decide +kernel
theorem dX12_layOrder_218 : decode cX12_layOrder 218 = .ok (.goto (-23), 3) := by decide +kernel
theorem dX12_layOrder_221 : decode cX12_layOrder 221 = .ok (.return_, 1) := by decide +kernel
theorem dX12_isAllowed_0 : decode cX12_isAllowed 0 = .ok (.aload_n 0, 1) := by decide +kernel
theorem dX12_isAllowed_1 : decode cX12_isAllowed 1 = .ok (.invokevirtual 277, 3) := by decide +kernel
theorem dX12_isAllowed_4 : decode cX12_isAllowed 4 = .ok (.aload_n 0, 1) := by decide +kernel
theorem dX12_isAllowed_5 : decode cX12_isAllowed 5 = .ok (.invokevirtual 282, 3) := by decide +kernel
theorem dX12_isAllowed_8 : decode cX12_isAllowed 8 = .ok (.iconst 0, 1) := by decide +kernel
theorem dX12_isAllowed_9 : decode cX12_isAllowed 9 = .ok (.istore_n 1, 1) := by decide +kernel
theorem dX12_isAllowed_10 : decode cX12_isAllowed 10 = .ok (.iload_n 1, 1) := by decide +kernel
theorem dX12_isAllowed_11 : decode cX12_isAllowed 11 = .ok (.aload_n 0, 1) := by decide +kernel
theorem dX12_isAllowed_12 : decode cX12_isAllowed 12 = .ok (.getfield 239, 3) := by decide +kernel
theorem dX12_isAllowed_15 : decode cX12_isAllowed 15 = .ok (.if_icmp .ge 77, 3) := by decide +kernel
theorem dX12_isAllowed_18 : decode cX12_isAllowed 18 = .ok (.iconst 0, 1) := by decide +kernel
theorem dX12_isAllowed_19 : decode cX12_isAllowed 19 = .ok (.istore_n 2, 1) := by decide +kernel
theorem dX12_isAllowed_20 : decode cX12_isAllowed 20 = .ok (.iload_n 2, 1) := by decide +kernel
theorem dX12_isAllowed_21 : decode cX12_isAllowed 21 = .ok (.iload_n 1, 1) := by decide +kernel
theorem dX12_isAllowed_22 : decode cX12_isAllowed 22 = .ok (.if_icmp .ge 64, 3) := by decide +kernel
theorem dX12_isAllowed_25 : decode cX12_isAllowed 25 = .ok (.iconst 0, 1) := by decide +kernel
theorem dX12_isAllowed_26 : decode cX12_isAllowed 26 = .ok (.istore_n 3, 1) := by decide +kernel
theorem dX12_isAllowed_27 : decode cX12_isAllowed 27 = .ok (.iload_n 3, 1) := by decide +kernel
theorem dX12_isAllowed_28 : decode cX12_isAllowed 28 = .ok (.iconst 3, 1) := by decide +kernel
theorem dX12_isAllowed_29 : decode cX12_isAllowed 29 = .ok (.if_icmp .ge 51, 3) := by decide +kernel
theorem dX12_isAllowed_32 : decode cX12_isAllowed 32 = .ok (.aload_n 0, 1) := by decide +kernel
theorem dX12_isAllowed_33 : decode cX12_isAllowed 33 = .ok (.getfield 127, 3) := by decide +kernel
theorem dX12_isAllowed_36 : decode cX12_isAllowed 36 = .ok (.iload_n 2, 1) := by decide +kernel
theorem dX12_isAllowed_37 : decode cX12_isAllowed 37 = .ok (.iaload, 1) := by decide +kernel
theorem dX12_isAllowed_38 : decode cX12_isAllowed 38 = .ok (.aload_n 0, 1) := by decide +kernel
theorem dX12_isAllowed_39 : decode cX12_isAllowed 39 = .ok (.getfield 127, 3) := by decide +kernel
theorem dX12_isAllowed_42 : decode cX12_isAllowed 42 = .ok (.iload_n 1, 1) := by decide +kernel
theorem dX12_isAllowed_43 : decode cX12_isAllowed 43 = .ok (.iaload, 1) := by decide +kernel
theorem dX12_isAllowed_44 : decode cX12_isAllowed 44 = .ok (.if_icmp .le 36, 3) := by decide +kernel
theorem dX12_isAllowed_47 : decode cX12_isAllowed 47 = .ok (.aload_n 0, 1) := by decide +kernel
theorem dX12_isAllowed_48 : decode cX12_isAllowed 48 = .ok (.iload_n 2, 1) := by decide +kernel
theorem dX12_isAllowed_49 : decode cX12_isAllowed 49 = .ok (.iload_n 1, 1) := by decide +kernel
theorem dX12_isAllowed_50 : decode cX12_isAllowed 50 = .ok (.iload_n 3, 1) := by decide +kernel
theorem dX12_isAllowed_51 : decode cX12_isAllowed 51 = .ok (.invokevirtual 285, 3) := by decide +kernel
theorem dX12_isAllowed_54 : decode cX12_isAllowed 54 = .ok (.ifCond .eq 20, 3) := by decide +kernel
theorem dX12_isAllowed_57 : decode cX12_isAllowed 57 = .ok (.aload_n 0, 1) := by decide +kernel
theorem dX12_isAllowed_58 : decode cX12_isAllowed 58 = .ok (.iload_n 2, 1) := by decide +kernel
theorem dX12_isAllowed_59 : decode cX12_isAllowed 59 = .ok (.putfield 360, 3) := by decide +kernel
theorem dX12_isAllowed_62 : decode cX12_isAllowed 62 = .ok (.aload_n 0, 1) := by decide +kernel
theorem dX12_isAllowed_63 : decode cX12_isAllowed 63 = .ok (.iload_n 1, 1) := by decide +kernel
theorem dX12_isAllowed_64 : decode cX12_isAllowed 64 = .ok (.putfield 363, 3) := by decide +kernel
theorem dX12_isAllowed_67 : decode cX12_isAllowed 67 = .ok (.aload_n 0, 1) := by decide +kernel
theorem dX12_isAllowed_68 : decode cX12_isAllowed 68 = .ok (.iload_n 3, 1) := by decide +kernel
theorem dX12_isAllowed_69 : decode cX12_isAllowed 69 = .ok (.putfield 366, 3) := by decide +kernel
theorem dX12_isAllowed_72 : decode cX12_isAllowed 72 = .ok (.iconst 0, 1) := by decide +kernel
theorem dX12_isAllowed_73 : decode cX12_isAllowed 73 = .ok (.ireturn, 1) := by decide +kernel
theorem dX12_isAllowed_74 : decode cX12_isAllowed 74 = .ok (.iinc 3 1, 3) := by decide +kernel
theorem dX12_isAllowed_77 : decode cX12_isAllowed 77 = .ok (.goto (-50), 3) := by decide +kernel
theorem dX12_isAllowed_80 : decode cX12_isAllowed 80 = .ok (.iinc 2 1, 3) := by decide +kernel
theorem dX12_isAllowed_83 : decode cX12_isAllowed 83 = .ok (.goto (-63), 3) := by decide +kernel
theorem dX12_isAllowed_86 : decode cX12_isAllowed 86 = .ok (.iinc 1 1, 3) := by decide +kernel
theorem dX12_isAllowed_89 : decode cX12_isAllowed 89 = .ok (.goto (-79), 3) := by decide +kernel
theorem dX12_isAllowed_92 : decode cX12_isAllowed 92 = .ok (.iconst 1, 1) := by decide +kernel
theorem dX12_isAllowed_93 : decode cX12_isAllowed 93 = .ok (.ireturn, 1) := by decide +kernel
theorem dX12_allowed_0 : decode cX12_allowed 0 = .ok (.aload_n 0, 1) := by decide +kernel
theorem dX12_allowed_1 : decode cX12_allowed 1 = .ok (.invokevirtual 273, 3) := by decide +kernel
theorem dX12_allowed_4 : decode cX12_allowed 4 = .ok (.ifCond .eq 8, 3) := by decide +kernel
theorem dX12_allowed_7 : decode cX12_allowed 7 = .ok (.bipush (-6), 2) := by decide +kernel
theorem dX12_allowed_9 : decode cX12_allowed 9 = .ok (.goto 15, 3) := by decide +kernel
theorem dX12_allowed_12 : decode cX12_allowed 12 = .ok (.aload_n 0, 1) := by decide +kernel
theorem dX12_allowed_13 : decode cX12_allowed 13 = .ok (.invokevirtual 369, 3) := by decide +kernel
theorem dX12_allowed_16 : decode cX12_allowed 16 = .ok (.ifCond .eq 7, 3) := by decide +kernel
theorem dX12_allowed_19 : decode cX12_allowed 19 = .ok (.iconst 1, 1) := by decide +kernel
theorem dX12_allowed_20 : decode cX12_allowed 20 = .ok (.goto 4, 3) := by decide +kernel
theorem dX12_allowed_23 : decode cX12_allowed 23 = .ok (.iconst 0, 1) := by decide +kernel
theorem dX12_allowed_24 : decode cX12_allowed 24 = .ok (.ireturn, 1) := by decide +kernel
theorem dX12_why_0 : decode cX12_why 0 = .ok (.iload_n 1, 1) := by decide +kernel
theorem dX12_why_1 : decode cX12_why 1 = .ok (.i2l, 1) := by decide +kernel
theorem dX12_why_2 : decode cX12_why 2 = .ok (.lconst 0, 1) := by decide +kernel
theorem dX12_why_3 : decode cX12_why 3 = .ok (.ldc2_w 158, 3) := by decide +kernel
theorem dX12_why_6 : decode cX12_why 6 = .ok (.invokestatic 154, 3) := by decide +kernel
theorem dX12_why_9 : decode cX12_why 9 = .ok (.ifCond .ne 5, 3) := by decide +kernel
theorem dX12_why_12 : decode cX12_why 12 = .ok (.iconst (-1), 1) := by decide +kernel
theorem dX12_why_13 : decode cX12_why 13 = .ok (.ireturn, 1) := by decide +kernel
theorem dX12_why_14 : decode cX12_why 14 = .ok (.aload_n 0, 1) := by decide +kernel
theorem dX12_why_15 : decode cX12_why 15 = .ok (.invokevirtual 273, 3) := by decide +kernel
theorem dX12_why_18 : decode cX12_why 18 = .ok (.ifCond .eq 6, 3) := by decide +kernel
theorem dX12_why_21 : decode cX12_why 21 = .ok (.bipush (-6), 2) := by decide +kernel
theorem dX12_why_23 : decode cX12_why 23 = .ok (.ireturn, 1) := by decide +kernel
theorem dX12_why_24 : decode cX12_why 24 = .ok (.aload_n 0, 1) := by decide +kernel
theorem dX12_why_25 : decode cX12_why 25 = .ok (.invokevirtual 369, 3) := by decide +kernel
theorem dX12_why_28 : decode cX12_why 28 = .ok (.ifCond .eq 8, 3) := by decide +kernel
theorem dX12_why_31 : decode cX12_why 31 = .ok (.bipush (-9), 2) := by decide +kernel
theorem dX12_why_33 : decode cX12_why 33 = .ok (.goto 30, 3) := by decide +kernel
theorem dX12_why_36 : decode cX12_why 36 = .ok (.iload_n 1, 1) := by decide +kernel
theorem dX12_why_37 : decode cX12_why 37 = .ok (.ifCond .ne 10, 3) := by decide +kernel
theorem dX12_why_40 : decode cX12_why 40 = .ok (.aload_n 0, 1) := by decide +kernel
theorem dX12_why_41 : decode cX12_why 41 = .ok (.getfield 360, 3) := by decide +kernel
theorem dX12_why_44 : decode cX12_why 44 = .ok (.goto 19, 3) := by decide +kernel
theorem dX12_why_47 : decode cX12_why 47 = .ok (.iload_n 1, 1) := by decide +kernel
theorem dX12_why_48 : decode cX12_why 48 = .ok (.iconst 1, 1) := by decide +kernel
theorem dX12_why_49 : decode cX12_why 49 = .ok (.if_icmp .ne 10, 3) := by decide +kernel
theorem dX12_why_52 : decode cX12_why 52 = .ok (.aload_n 0, 1) := by decide +kernel
theorem dX12_why_53 : decode cX12_why 53 = .ok (.getfield 363, 3) := by decide +kernel
theorem dX12_why_56 : decode cX12_why 56 = .ok (.goto 7, 3) := by decide +kernel
theorem dX12_why_59 : decode cX12_why 59 = .ok (.aload_n 0, 1) := by decide +kernel
theorem dX12_why_60 : decode cX12_why 60 = .ok (.getfield 366, 3) := by decide +kernel
theorem dX12_why_63 : decode cX12_why 63 = .ok (.ireturn, 1) := by decide +kernel
theorem dX12_meetsAt_0 : decode cX12_meetsAt 0 = .ok (.iconst 3, 1) := by decide +kernel
theorem dX12_meetsAt_1 : decode cX12_meetsAt 1 = .ok (.iload_n 1, 1) := by decide +kernel
theorem dX12_meetsAt_2 : decode cX12_meetsAt 2 = .ok (.imul, 1) := by decide +kernel
theorem dX12_meetsAt_3 : decode cX12_meetsAt 3 = .ok (.iload_n 2, 1) := by decide +kernel
theorem dX12_meetsAt_4 : decode cX12_meetsAt 4 = .ok (.iadd, 1) := by decide +kernel
theorem dX12_meetsAt_5 : decode cX12_meetsAt 5 = .ok (.istore_n 3, 1) := by decide +kernel
theorem dX12_meetsAt_6 : decode cX12_meetsAt 6 = .ok (.aload_n 0, 1) := by decide +kernel
theorem dX12_meetsAt_7 : decode cX12_meetsAt 7 = .ok (.aload_n 0, 1) := by decide +kernel
theorem dX12_meetsAt_8 : decode cX12_meetsAt 8 = .ok (.getfield 41, 3) := by decide +kernel
theorem dX12_meetsAt_11 : decode cX12_meetsAt 11 = .ok (.iload_n 3, 1) := by decide +kernel
theorem dX12_meetsAt_12 : decode cX12_meetsAt 12 = .ok (.iaload, 1) := by decide +kernel
theorem dX12_meetsAt_13 : decode cX12_meetsAt 13 = .ok (.aload_n 0, 1) := by decide +kernel
theorem dX12_meetsAt_14 : decode cX12_meetsAt 14 = .ok (.aload_n 0, 1) := by decide +kernel
theorem dX12_meetsAt_15 : decode cX12_meetsAt 15 = .ok (.getfield 44, 3) := by decide +kernel
theorem dX12_meetsAt_18 : decode cX12_meetsAt 18 = .ok (.iload_n 3, 1) := by decide +kernel
theorem dX12_meetsAt_19 : decode cX12_meetsAt 19 = .ok (.iaload, 1) := by decide +kernel
theorem dX12_meetsAt_20 : decode cX12_meetsAt 20 = .ok (.invokevirtual 250, 3) := by decide +kernel
theorem dX12_meetsAt_23 : decode cX12_meetsAt 23 = .ok (.aload_n 0, 1) := by decide +kernel
theorem dX12_meetsAt_24 : decode cX12_meetsAt 24 = .ok (.aload_n 0, 1) := by decide +kernel
theorem dX12_meetsAt_25 : decode cX12_meetsAt 25 = .ok (.getfield 47, 3) := by decide +kernel
theorem dX12_meetsAt_28 : decode cX12_meetsAt 28 = .ok (.iload_n 3, 1) := by decide +kernel
theorem dX12_meetsAt_29 : decode cX12_meetsAt 29 = .ok (.iaload, 1) := by decide +kernel
theorem dX12_meetsAt_30 : decode cX12_meetsAt 30 = .ok (.invokevirtual 250, 3) := by decide +kernel
theorem dX12_meetsAt_33 : decode cX12_meetsAt 33 = .ok (.invokevirtual 217, 3) := by decide +kernel
theorem dX12_meetsAt_36 : decode cX12_meetsAt 36 = .ok (.ireturn, 1) := by decide +kernel
theorem dX12_placeAt_0 : decode cX12_placeAt 0 = .ok (.iconst 3, 1) := by decide +kernel
theorem dX12_placeAt_1 : decode cX12_placeAt 1 = .ok (.iload_n 1, 1) := by decide +kernel
theorem dX12_placeAt_2 : decode cX12_placeAt 2 = .ok (.imul, 1) := by decide +kernel
theorem dX12_placeAt_3 : decode cX12_placeAt 3 = .ok (.iload_n 2, 1) := by decide +kernel
theorem dX12_placeAt_4 : decode cX12_placeAt 4 = .ok (.iadd, 1) := by decide +kernel
theorem dX12_placeAt_5 : decode cX12_placeAt 5 = .ok (.istore_n 3, 1) := by decide +kernel
theorem dX12_placeAt_6 : decode cX12_placeAt 6 = .ok (.aload_n 0, 1) := by decide +kernel
theorem dX12_placeAt_7 : decode cX12_placeAt 7 = .ok (.aload_n 0, 1) := by decide +kernel
theorem dX12_placeAt_8 : decode cX12_placeAt 8 = .ok (.getfield 41, 3) := by decide +kernel
theorem dX12_placeAt_11 : decode cX12_placeAt 11 = .ok (.iload_n 3, 1) := by decide +kernel
theorem dX12_placeAt_12 : decode cX12_placeAt 12 = .ok (.iaload, 1) := by decide +kernel
theorem dX12_placeAt_13 : decode cX12_placeAt 13 = .ok (.aload_n 0, 1) := by decide +kernel
theorem dX12_placeAt_14 : decode cX12_placeAt 14 = .ok (.aload_n 0, 1) := by decide +kernel
theorem dX12_placeAt_15 : decode cX12_placeAt 15 = .ok (.getfield 44, 3) := by decide +kernel
theorem dX12_placeAt_18 : decode cX12_placeAt 18 = .ok (.iload_n 3, 1) := by decide +kernel
theorem dX12_placeAt_19 : decode cX12_placeAt 19 = .ok (.iaload, 1) := by decide +kernel
theorem dX12_placeAt_20 : decode cX12_placeAt 20 = .ok (.invokevirtual 250, 3) := by decide +kernel
theorem dX12_placeAt_23 : decode cX12_placeAt 23 = .ok (.aload_n 0, 1) := by decide +kernel
theorem dX12_placeAt_24 : decode cX12_placeAt 24 = .ok (.aload_n 0, 1) := by decide +kernel
theorem dX12_placeAt_25 : decode cX12_placeAt 25 = .ok (.getfield 47, 3) := by decide +kernel
theorem dX12_placeAt_28 : decode cX12_placeAt 28 = .ok (.iload_n 3, 1) := by decide +kernel
theorem dX12_placeAt_29 : decode cX12_placeAt 29 = .ok (.iaload, 1) := by decide +kernel
theorem dX12_placeAt_30 : decode cX12_placeAt 30 = .ok (.invokevirtual 250, 3) := by decide +kernel
theorem dX12_placeAt_33 : decode cX12_placeAt 33 = .ok (.invokevirtual 221, 3) := by decide +kernel
theorem dX12_placeAt_36 : decode cX12_placeAt 36 = .ok (.ireturn, 1) := by decide +kernel
theorem dX12_doVisit_0 : decode cX12_doVisit 0 = .ok (.aload_n 0, 1) := by decide +kernel
theorem dX12_doVisit_1 : decode cX12_doVisit 1 = .ok (.iload_n 1, 1) := by decide +kernel
theorem dX12_doVisit_2 : decode cX12_doVisit 2 = .ok (.invokevirtual 260, 3) := by decide +kernel
theorem dX12_doVisit_5 : decode cX12_doVisit 5 = .ok (.aload_n 0, 1) := by decide +kernel
theorem dX12_doVisit_6 : decode cX12_doVisit 6 = .ok (.getfield 78, 3) := by decide +kernel
theorem dX12_doVisit_9 : decode cX12_doVisit 9 = .ok (.iload_n 1, 1) := by decide +kernel
theorem dX12_doVisit_10 : decode cX12_doVisit 10 = .ok (.iaload, 1) := by decide +kernel
theorem dX12_doVisit_11 : decode cX12_doVisit 11 = .ok (.istore_n 2, 1) := by decide +kernel
theorem dX12_doVisit_12 : decode cX12_doVisit 12 = .ok (.aload_n 0, 1) := by decide +kernel
theorem dX12_doVisit_13 : decode cX12_doVisit 13 = .ok (.lconst 0, 1) := by decide +kernel
theorem dX12_doVisit_14 : decode cX12_doVisit 14 = .ok (.putfield 372, 3) := by decide +kernel
theorem dX12_doVisit_17 : decode cX12_doVisit 17 = .ok (.aload_n 0, 1) := by decide +kernel
theorem dX12_doVisit_18 : decode cX12_doVisit 18 = .ok (.lconst 0, 1) := by decide +kernel
theorem dX12_doVisit_19 : decode cX12_doVisit 19 = .ok (.putfield 375, 3) := by decide +kernel
theorem dX12_doVisit_22 : decode cX12_doVisit 22 = .ok (.iconst 1, 1) := by decide +kernel
theorem dX12_doVisit_23 : decode cX12_doVisit 23 = .ok (.istore_n 3, 1) := by decide +kernel
theorem dX12_doVisit_24 : decode cX12_doVisit 24 = .ok (.iload_n 3, 1) := by decide +kernel
theorem dX12_doVisit_25 : decode cX12_doVisit 25 = .ok (.iconst 3, 1) := by decide +kernel
theorem dX12_doVisit_26 : decode cX12_doVisit 26 = .ok (.if_icmp .ge 83, 3) := by decide +kernel
theorem dX12_doVisit_29 : decode cX12_doVisit 29 = .ok (.aload_n 0, 1) := by decide +kernel
theorem dX12_doVisit_30 : decode cX12_doVisit 30 = .ok (.iload_n 1, 1) := by decide +kernel
theorem dX12_doVisit_31 : decode cX12_doVisit 31 = .ok (.iload_n 3, 1) := by decide +kernel
theorem dX12_doVisit_32 : decode cX12_doVisit 32 = .ok (.invokevirtual 263, 3) := by decide +kernel
theorem dX12_doVisit_35 : decode cX12_doVisit 35 = .ok (.ifCond .eq 68, 3) := by decide +kernel
theorem dX12_doVisit_38 : decode cX12_doVisit 38 = .ok (.aload_n 0, 1) := by decide +kernel
theorem dX12_doVisit_39 : decode cX12_doVisit 39 = .ok (.iload_n 2, 1) := by decide +kernel
theorem dX12_doVisit_40 : decode cX12_doVisit 40 = .ok (.iload_n 3, 1) := by decide +kernel
theorem dX12_doVisit_41 : decode cX12_doVisit 41 = .ok (.invokevirtual 378, 3) := by decide +kernel
theorem dX12_doVisit_44 : decode cX12_doVisit 44 = .ok (.istore 4, 2) := by decide +kernel
theorem dX12_doVisit_46 : decode cX12_doVisit 46 = .ok (.iload 4, 2) := by decide +kernel
theorem dX12_doVisit_48 : decode cX12_doVisit 48 = .ok (.ifCond .le 6, 3) := by decide +kernel
theorem dX12_doVisit_51 : decode cX12_doVisit 51 = .ok (.iload 4, 2) := by decide +kernel
theorem dX12_doVisit_53 : decode cX12_doVisit 53 = .ok (.ireturn, 1) := by decide +kernel
theorem dX12_doVisit_54 : decode cX12_doVisit 54 = .ok (.aload_n 0, 1) := by decide +kernel
theorem dX12_doVisit_55 : decode cX12_doVisit 55 = .ok (.getfield 75, 3) := by decide +kernel
theorem dX12_doVisit_58 : decode cX12_doVisit 58 = .ok (.aload_n 0, 1) := by decide +kernel
theorem dX12_doVisit_59 : decode cX12_doVisit 59 = .ok (.iload_n 2, 1) := by decide +kernel
theorem dX12_doVisit_60 : decode cX12_doVisit 60 = .ok (.iload_n 3, 1) := by decide +kernel
theorem dX12_doVisit_61 : decode cX12_doVisit 61 = .ok (.invokevirtual 381, 3) := by decide +kernel
theorem dX12_doVisit_64 : decode cX12_doVisit 64 = .ok (.laload, 1) := by decide +kernel
theorem dX12_doVisit_65 : decode cX12_doVisit 65 = .ok (.lstore 5, 2) := by decide +kernel
theorem dX12_doVisit_67 : decode cX12_doVisit 67 = .ok (.aload_n 0, 1) := by decide +kernel
theorem dX12_doVisit_68 : decode cX12_doVisit 68 = .ok (.iload_n 3, 1) := by decide +kernel
theorem dX12_doVisit_69 : decode cX12_doVisit 69 = .ok (.iconst 1, 1) := by decide +kernel
theorem dX12_doVisit_70 : decode cX12_doVisit 70 = .ok (.if_icmp .ne 8, 3) := by decide +kernel
theorem dX12_doVisit_73 : decode cX12_doVisit 73 = .ok (.lload 5, 2) := by decide +kernel
theorem dX12_doVisit_75 : decode cX12_doVisit 75 = .ok (.goto 7, 3) := by decide +kernel
theorem dX12_doVisit_78 : decode cX12_doVisit 78 = .ok (.aload_n 0, 1) := by decide +kernel
theorem dX12_doVisit_79 : decode cX12_doVisit 79 = .ok (.getfield 372, 3) := by decide +kernel
theorem dX12_doVisit_82 : decode cX12_doVisit 82 = .ok (.putfield 372, 3) := by decide +kernel
theorem dX12_doVisit_85 : decode cX12_doVisit 85 = .ok (.aload_n 0, 1) := by decide +kernel
theorem dX12_doVisit_86 : decode cX12_doVisit 86 = .ok (.iload_n 3, 1) := by decide +kernel
theorem dX12_doVisit_87 : decode cX12_doVisit 87 = .ok (.iconst 2, 1) := by decide +kernel
theorem dX12_doVisit_88 : decode cX12_doVisit 88 = .ok (.if_icmp .ne 8, 3) := by decide +kernel
theorem dX12_doVisit_91 : decode cX12_doVisit 91 = .ok (.lload 5, 2) := by decide +kernel
theorem dX12_doVisit_93 : decode cX12_doVisit 93 = .ok (.goto 7, 3) := by decide +kernel
theorem dX12_doVisit_96 : decode cX12_doVisit 96 = .ok (.aload_n 0, 1) := by decide +kernel
theorem dX12_doVisit_97 : decode cX12_doVisit 97 = .ok (.getfield 375, 3) := by decide +kernel
theorem dX12_doVisit_100 : decode cX12_doVisit 100 = .ok (.putfield 375, 3) := by decide +kernel
theorem dX12_doVisit_103 : decode cX12_doVisit 103 = .ok (.iinc 3 1, 3) := by decide +kernel
theorem dX12_doVisit_106 : decode cX12_doVisit 106 = .ok (.goto (-82), 3) := by decide +kernel
theorem dX12_doVisit_109 : decode cX12_doVisit 109 = .ok (.aload_n 0, 1) := by decide +kernel
theorem dX12_doVisit_110 : decode cX12_doVisit 110 = .ok (.getfield 35, 3) := by decide +kernel
theorem dX12_doVisit_113 : decode cX12_doVisit 113 = .ok (.iload_n 2, 1) := by decide +kernel
theorem dX12_doVisit_114 : decode cX12_doVisit 114 = .ok (.iaload, 1) := by decide +kernel
theorem dX12_doVisit_115 : decode cX12_doVisit 115 = .ok (.iconst 3, 1) := by decide +kernel
theorem dX12_doVisit_116 : decode cX12_doVisit 116 = .ok (.if_icmp .ne 14, 3) := by decide +kernel
theorem dX12_doVisit_119 : decode cX12_doVisit 119 = .ok (.aload_n 0, 1) := by decide +kernel
theorem dX12_doVisit_120 : decode cX12_doVisit 120 = .ok (.getfield 375, 3) := by decide +kernel
theorem dX12_doVisit_123 : decode cX12_doVisit 123 = .ok (.lconst 0, 1) := by decide +kernel
theorem dX12_doVisit_124 : decode cX12_doVisit 124 = .ok (.lcmp, 1) := by decide +kernel
theorem dX12_doVisit_125 : decode cX12_doVisit 125 = .ok (.ifCond .ne 5, 3) := by decide +kernel
theorem dX12_doVisit_128 : decode cX12_doVisit 128 = .ok (.iconst 4, 1) := by decide +kernel
theorem dX12_doVisit_129 : decode cX12_doVisit 129 = .ok (.ireturn, 1) := by decide +kernel
theorem dX12_doVisit_130 : decode cX12_doVisit 130 = .ok (.aload_n 0, 1) := by decide +kernel
theorem dX12_doVisit_131 : decode cX12_doVisit 131 = .ok (.aload_n 0, 1) := by decide +kernel
theorem dX12_doVisit_132 : decode cX12_doVisit 132 = .ok (.getfield 35, 3) := by decide +kernel
theorem dX12_doVisit_135 : decode cX12_doVisit 135 = .ok (.iload_n 2, 1) := by decide +kernel
theorem dX12_doVisit_136 : decode cX12_doVisit 136 = .ok (.iaload, 1) := by decide +kernel
theorem dX12_doVisit_137 : decode cX12_doVisit 137 = .ok (.aload_n 0, 1) := by decide +kernel
theorem dX12_doVisit_138 : decode cX12_doVisit 138 = .ok (.getfield 38, 3) := by decide +kernel
theorem dX12_doVisit_141 : decode cX12_doVisit 141 = .ok (.iload_n 2, 1) := by decide +kernel
theorem dX12_doVisit_142 : decode cX12_doVisit 142 = .ok (.iaload, 1) := by decide +kernel
theorem dX12_doVisit_143 : decode cX12_doVisit 143 = .ok (.invokevirtual 384, 3) := by decide +kernel
theorem dX12_doVisit_146 : decode cX12_doVisit 146 = .ok (.lstore_n 3, 1) := by decide +kernel
theorem dX12_doVisit_147 : decode cX12_doVisit 147 = .ok (.aload_n 0, 1) := by decide +kernel
theorem dX12_doVisit_148 : decode cX12_doVisit 148 = .ok (.iload_n 1, 1) := by decide +kernel
theorem dX12_doVisit_149 : decode cX12_doVisit 149 = .ok (.iconst 0, 1) := by decide +kernel
theorem dX12_doVisit_150 : decode cX12_doVisit 150 = .ok (.invokevirtual 263, 3) := by decide +kernel
theorem dX12_doVisit_153 : decode cX12_doVisit 153 = .ok (.ifCond .eq 47, 3) := by decide +kernel
theorem dX12_doVisit_156 : decode cX12_doVisit 156 = .ok (.aload_n 0, 1) := by decide +kernel
theorem dX12_doVisit_157 : decode cX12_doVisit 157 = .ok (.iload_n 2, 1) := by decide +kernel
theorem dX12_doVisit_158 : decode cX12_doVisit 158 = .ok (.iconst 0, 1) := by decide +kernel
theorem dX12_doVisit_159 : decode cX12_doVisit 159 = .ok (.invokevirtual 378, 3) := by decide +kernel
theorem dX12_doVisit_162 : decode cX12_doVisit 162 = .ok (.istore 5, 2) := by decide +kernel
theorem dX12_doVisit_164 : decode cX12_doVisit 164 = .ok (.iload 5, 2) := by decide +kernel
theorem dX12_doVisit_166 : decode cX12_doVisit 166 = .ok (.ifCond .le 6, 3) := by decide +kernel
theorem dX12_doVisit_169 : decode cX12_doVisit 169 = .ok (.iload 5, 2) := by decide +kernel
theorem dX12_doVisit_171 : decode cX12_doVisit 171 = .ok (.ireturn, 1) := by decide +kernel
theorem dX12_doVisit_172 : decode cX12_doVisit 172 = .ok (.aload_n 0, 1) := by decide +kernel
theorem dX12_doVisit_173 : decode cX12_doVisit 173 = .ok (.getfield 75, 3) := by decide +kernel
theorem dX12_doVisit_176 : decode cX12_doVisit 176 = .ok (.aload_n 0, 1) := by decide +kernel
theorem dX12_doVisit_177 : decode cX12_doVisit 177 = .ok (.iload_n 2, 1) := by decide +kernel
theorem dX12_doVisit_178 : decode cX12_doVisit 178 = .ok (.iconst 0, 1) := by decide +kernel
theorem dX12_doVisit_179 : decode cX12_doVisit 179 = .ok (.invokevirtual 381, 3) := by decide +kernel
theorem dX12_doVisit_182 : decode cX12_doVisit 182 = .ok (.aload_n 0, 1) := by decide +kernel
theorem dX12_doVisit_183 : decode cX12_doVisit 183 = .ok (.getfield 66, 3) := by decide +kernel
theorem dX12_doVisit_186 : decode cX12_doVisit 186 = .ok (.aload_n 0, 1) := by decide +kernel
theorem dX12_doVisit_187 : decode cX12_doVisit 187 = .ok (.getfield 41, 3) := by decide +kernel
theorem dX12_doVisit_190 : decode cX12_doVisit 190 = .ok (.iconst 3, 1) := by decide +kernel
theorem dX12_doVisit_191 : decode cX12_doVisit 191 = .ok (.iload_n 2, 1) := by decide +kernel
theorem dX12_doVisit_192 : decode cX12_doVisit 192 = .ok (.imul, 1) := by decide +kernel
theorem dX12_doVisit_193 : decode cX12_doVisit 193 = .ok (.iaload, 1) := by decide +kernel
theorem dX12_doVisit_194 : decode cX12_doVisit 194 = .ok (.iaload, 1) := by decide +kernel
theorem dX12_doVisit_195 : decode cX12_doVisit 195 = .ok (.lload_n 3, 1) := by decide +kernel
theorem dX12_doVisit_196 : decode cX12_doVisit 196 = .ok (.invokestatic 224, 3) := by decide +kernel
theorem dX12_doVisit_199 : decode cX12_doVisit 199 = .ok (.lastore, 1) := by decide +kernel
theorem dX12_doVisit_200 : decode cX12_doVisit 200 = .ok (.iconst 0, 1) := by decide +kernel
theorem dX12_doVisit_201 : decode cX12_doVisit 201 = .ok (.ireturn, 1) := by decide +kernel
theorem dX12_workedOut_0 : decode cX12_workedOut 0 = .ok (.iload_n 1, 1) := by decide +kernel
theorem dX12_workedOut_1 : decode cX12_workedOut 1 = .ok (.tableswitch 92 0 4 #[35, 40, 50, 60, 89], 35) := by decide +kernel
theorem dX12_workedOut_36 : decode cX12_workedOut 36 = .ok (.aload_n 0, 1) := by decide +kernel
theorem dX12_workedOut_37 : decode cX12_workedOut 37 = .ok (.getfield 372, 3) := by decide +kernel
theorem dX12_workedOut_40 : decode cX12_workedOut 40 = .ok (.lreturn, 1) := by decide +kernel
theorem dX12_workedOut_41 : decode cX12_workedOut 41 = .ok (.aload_n 0, 1) := by decide +kernel
theorem dX12_workedOut_42 : decode cX12_workedOut 42 = .ok (.getfield 372, 3) := by decide +kernel
theorem dX12_workedOut_45 : decode cX12_workedOut 45 = .ok (.aload_n 0, 1) := by decide +kernel
theorem dX12_workedOut_46 : decode cX12_workedOut 46 = .ok (.getfield 375, 3) := by decide +kernel
theorem dX12_workedOut_49 : decode cX12_workedOut 49 = .ok (.ladd, 1) := by decide +kernel
theorem dX12_workedOut_50 : decode cX12_workedOut 50 = .ok (.lreturn, 1) := by decide +kernel
theorem dX12_workedOut_51 : decode cX12_workedOut 51 = .ok (.aload_n 0, 1) := by decide +kernel
theorem dX12_workedOut_52 : decode cX12_workedOut 52 = .ok (.getfield 372, 3) := by decide +kernel
theorem dX12_workedOut_55 : decode cX12_workedOut 55 = .ok (.aload_n 0, 1) := by decide +kernel
theorem dX12_workedOut_56 : decode cX12_workedOut 56 = .ok (.getfield 375, 3) := by decide +kernel
theorem dX12_workedOut_59 : decode cX12_workedOut 59 = .ok (.lmul, 1) := by decide +kernel
theorem dX12_workedOut_60 : decode cX12_workedOut 60 = .ok (.lreturn, 1) := by decide +kernel
theorem dX12_workedOut_61 : decode cX12_workedOut 61 = .ok (.aload_n 0, 1) := by decide +kernel
theorem dX12_workedOut_62 : decode cX12_workedOut 62 = .ok (.getfield 375, 3) := by decide +kernel
theorem dX12_workedOut_65 : decode cX12_workedOut 65 = .ok (.ldc2_w 388, 3) := by decide +kernel
theorem dX12_workedOut_68 : decode cX12_workedOut 68 = .ok (.lcmp, 1) := by decide +kernel
theorem dX12_workedOut_69 : decode cX12_workedOut 69 = .ok (.ifCond .ne 11, 3) := by decide +kernel
theorem dX12_workedOut_72 : decode cX12_workedOut 72 = .ok (.aload_n 0, 1) := by decide +kernel
theorem dX12_workedOut_73 : decode cX12_workedOut 73 = .ok (.getfield 372, 3) := by decide +kernel
theorem dX12_workedOut_76 : decode cX12_workedOut 76 = .ok (.lneg, 1) := by decide +kernel
theorem dX12_workedOut_77 : decode cX12_workedOut 77 = .ok (.goto 12, 3) := by decide +kernel
theorem dX12_workedOut_80 : decode cX12_workedOut 80 = .ok (.aload_n 0, 1) := by decide +kernel
theorem dX12_workedOut_81 : decode cX12_workedOut 81 = .ok (.getfield 372, 3) := by decide +kernel
theorem dX12_workedOut_84 : decode cX12_workedOut 84 = .ok (.aload_n 0, 1) := by decide +kernel
theorem dX12_workedOut_85 : decode cX12_workedOut 85 = .ok (.getfield 375, 3) := by decide +kernel
theorem dX12_workedOut_88 : decode cX12_workedOut 88 = .ok (.ldiv, 1) := by decide +kernel
theorem dX12_workedOut_89 : decode cX12_workedOut 89 = .ok (.lreturn, 1) := by decide +kernel
theorem dX12_workedOut_90 : decode cX12_workedOut 90 = .ok (.iload_n 2, 1) := by decide +kernel
theorem dX12_workedOut_91 : decode cX12_workedOut 91 = .ok (.i2l, 1) := by decide +kernel
theorem dX12_workedOut_92 : decode cX12_workedOut 92 = .ok (.lreturn, 1) := by decide +kernel
theorem dX12_workedOut_93 : decode cX12_workedOut 93 = .ok (.aload_n 0, 1) := by decide +kernel
theorem dX12_workedOut_94 : decode cX12_workedOut 94 = .ok (.getfield 372, 3) := by decide +kernel
theorem dX12_workedOut_97 : decode cX12_workedOut 97 = .ok (.iload_n 2, 1) := by decide +kernel
theorem dX12_workedOut_98 : decode cX12_workedOut 98 = .ok (.i2l, 1) := by decide +kernel
theorem dX12_workedOut_99 : decode cX12_workedOut 99 = .ok (.ladd, 1) := by decide +kernel
theorem dX12_workedOut_100 : decode cX12_workedOut 100 = .ok (.lreturn, 1) := by decide +kernel
theorem dX12_run_0 : decode cX12_run 0 = .ok (.aload_n 0, 1) := by decide +kernel
theorem dX12_run_1 : decode cX12_run 1 = .ok (.invokevirtual 273, 3) := by decide +kernel
theorem dX12_run_4 : decode cX12_run 4 = .ok (.ifCond .eq 6, 3) := by decide +kernel
theorem dX12_run_7 : decode cX12_run 7 = .ok (.bipush (-6), 2) := by decide +kernel
theorem dX12_run_9 : decode cX12_run 9 = .ok (.ireturn, 1) := by decide +kernel
theorem dX12_run_10 : decode cX12_run 10 = .ok (.iload_n 1, 1) := by decide +kernel
theorem dX12_run_11 : decode cX12_run 11 = .ok (.ifCond .eq 7, 3) := by decide +kernel
theorem dX12_run_14 : decode cX12_run 14 = .ok (.aload_n 0, 1) := by decide +kernel
theorem dX12_run_15 : decode cX12_run 15 = .ok (.invokevirtual 277, 3) := by decide +kernel
theorem dX12_run_18 : decode cX12_run 18 = .ok (.iconst 1, 1) := by decide +kernel
theorem dX12_run_19 : decode cX12_run 19 = .ok (.istore_n 2, 1) := by decide +kernel
theorem dX12_run_20 : decode cX12_run 20 = .ok (.iload_n 2, 1) := by decide +kernel
theorem dX12_run_21 : decode cX12_run 21 = .ok (.bipush 6, 2) := by decide +kernel
theorem dX12_run_23 : decode cX12_run 23 = .ok (.if_icmp .ge 17, 3) := by decide +kernel
theorem dX12_run_26 : decode cX12_run 26 = .ok (.aload_n 0, 1) := by decide +kernel
theorem dX12_run_27 : decode cX12_run 27 = .ok (.getfield 130, 3) := by decide +kernel
theorem dX12_run_30 : decode cX12_run 30 = .ok (.iload_n 2, 1) := by decide +kernel
theorem dX12_run_31 : decode cX12_run 31 = .ok (.bipush (-9), 2) := by decide +kernel
theorem dX12_run_33 : decode cX12_run 33 = .ok (.iastore, 1) := by decide +kernel
theorem dX12_run_34 : decode cX12_run 34 = .ok (.iinc 2 1, 3) := by decide +kernel
theorem dX12_run_37 : decode cX12_run 37 = .ok (.goto (-17), 3) := by decide +kernel
theorem dX12_run_40 : decode cX12_run 40 = .ok (.iconst 0, 1) := by decide +kernel
theorem dX12_run_41 : decode cX12_run 41 = .ok (.istore_n 2, 1) := by decide +kernel
theorem dX12_run_42 : decode cX12_run 42 = .ok (.iload_n 2, 1) := by decide +kernel
theorem dX12_run_43 : decode cX12_run 43 = .ok (.aload_n 0, 1) := by decide +kernel
theorem dX12_run_44 : decode cX12_run 44 = .ok (.getfield 239, 3) := by decide +kernel
theorem dX12_run_47 : decode cX12_run 47 = .ok (.if_icmp .ge 102, 3) := by decide +kernel
theorem dX12_run_50 : decode cX12_run 50 = .ok (.iload_n 1, 1) := by decide +kernel
theorem dX12_run_51 : decode cX12_run 51 = .ok (.ifCond .eq 12, 3) := by decide +kernel
theorem dX12_run_54 : decode cX12_run 54 = .ok (.aload_n 0, 1) := by decide +kernel
theorem dX12_run_55 : decode cX12_run 55 = .ok (.getfield 124, 3) := by decide +kernel
theorem dX12_run_58 : decode cX12_run 58 = .ok (.iload_n 2, 1) := by decide +kernel
theorem dX12_run_59 : decode cX12_run 59 = .ok (.iaload, 1) := by decide +kernel
theorem dX12_run_60 : decode cX12_run 60 = .ok (.goto 4, 3) := by decide +kernel
theorem dX12_run_63 : decode cX12_run 63 = .ok (.iload_n 2, 1) := by decide +kernel
theorem dX12_run_64 : decode cX12_run 64 = .ok (.istore_n 3, 1) := by decide +kernel
theorem dX12_run_65 : decode cX12_run 65 = .ok (.aload_n 0, 1) := by decide +kernel
theorem dX12_run_66 : decode cX12_run 66 = .ok (.iload_n 3, 1) := by decide +kernel
theorem dX12_run_67 : decode cX12_run 67 = .ok (.invokevirtual 390, 3) := by decide +kernel
theorem dX12_run_70 : decode cX12_run 70 = .ok (.istore 4, 2) := by decide +kernel
theorem dX12_run_72 : decode cX12_run 72 = .ok (.iload 4, 2) := by decide +kernel
theorem dX12_run_74 : decode cX12_run 74 = .ok (.ifCond .le 69, 3) := by decide +kernel
theorem dX12_run_77 : decode cX12_run 77 = .ok (.aload_n 0, 1) := by decide +kernel
theorem dX12_run_78 : decode cX12_run 78 = .ok (.getfield 130, 3) := by decide +kernel
theorem dX12_run_81 : decode cX12_run 81 = .ok (.iconst 0, 1) := by decide +kernel
theorem dX12_run_82 : decode cX12_run 82 = .ok (.iload_n 2, 1) := by decide +kernel
theorem dX12_run_83 : decode cX12_run 83 = .ok (.iastore, 1) := by decide +kernel
theorem dX12_run_84 : decode cX12_run 84 = .ok (.aload_n 0, 1) := by decide +kernel
theorem dX12_run_85 : decode cX12_run 85 = .ok (.getfield 130, 3) := by decide +kernel
theorem dX12_run_88 : decode cX12_run 88 = .ok (.iconst 1, 1) := by decide +kernel
theorem dX12_run_89 : decode cX12_run 89 = .ok (.aload_n 0, 1) := by decide +kernel
theorem dX12_run_90 : decode cX12_run 90 = .ok (.getfield 78, 3) := by decide +kernel
theorem dX12_run_93 : decode cX12_run 93 = .ok (.iload_n 3, 1) := by decide +kernel
theorem dX12_run_94 : decode cX12_run 94 = .ok (.iaload, 1) := by decide +kernel
theorem dX12_run_95 : decode cX12_run 95 = .ok (.iastore, 1) := by decide +kernel
theorem dX12_run_96 : decode cX12_run 96 = .ok (.iconst 0, 1) := by decide +kernel
theorem dX12_run_97 : decode cX12_run 97 = .ok (.istore 5, 2) := by decide +kernel
theorem dX12_run_99 : decode cX12_run 99 = .ok (.iload 5, 2) := by decide +kernel
theorem dX12_run_101 : decode cX12_run 101 = .ok (.iconst 4, 1) := by decide +kernel
theorem dX12_run_102 : decode cX12_run 102 = .ok (.if_icmp .ge 34, 3) := by decide +kernel
theorem dX12_run_105 : decode cX12_run 105 = .ok (.aload_n 0, 1) := by decide +kernel
theorem dX12_run_106 : decode cX12_run 106 = .ok (.getfield 130, 3) := by decide +kernel
theorem dX12_run_109 : decode cX12_run 109 = .ok (.iconst 2, 1) := by decide +kernel
theorem dX12_run_110 : decode cX12_run 110 = .ok (.iload 5, 2) := by decide +kernel
theorem dX12_run_112 : decode cX12_run 112 = .ok (.iadd, 1) := by decide +kernel
theorem dX12_run_113 : decode cX12_run 113 = .ok (.ldc2_w 280, 3) := by decide +kernel
theorem dX12_run_116 : decode cX12_run 116 = .ok (.aload_n 0, 1) := by decide +kernel
theorem dX12_run_117 : decode cX12_run 117 = .ok (.getfield 81, 3) := by decide +kernel
theorem dX12_run_120 : decode cX12_run 120 = .ok (.iconst 4, 1) := by decide +kernel
theorem dX12_run_121 : decode cX12_run 121 = .ok (.iload_n 3, 1) := by decide +kernel
theorem dX12_run_122 : decode cX12_run 122 = .ok (.imul, 1) := by decide +kernel
theorem dX12_run_123 : decode cX12_run 123 = .ok (.iload 5, 2) := by decide +kernel
theorem dX12_run_125 : decode cX12_run 125 = .ok (.iadd, 1) := by decide +kernel
theorem dX12_run_126 : decode cX12_run 126 = .ok (.laload, 1) := by decide +kernel
theorem dX12_run_127 : decode cX12_run 127 = .ok (.ladd, 1) := by decide +kernel
theorem dX12_run_128 : decode cX12_run 128 = .ok (.l2i, 1) := by decide +kernel
theorem dX12_run_129 : decode cX12_run 129 = .ok (.iastore, 1) := by decide +kernel
theorem dX12_run_130 : decode cX12_run 130 = .ok (.iinc 5 1, 3) := by decide +kernel
theorem dX12_run_133 : decode cX12_run 133 = .ok (.goto (-34), 3) := by decide +kernel
theorem dX12_run_136 : decode cX12_run 136 = .ok (.aload_n 0, 1) := by decide +kernel
theorem dX12_run_137 : decode cX12_run 137 = .ok (.iload 4, 2) := by decide +kernel
theorem dX12_run_139 : decode cX12_run 139 = .ok (.invokevirtual 207, 3) := by decide +kernel
theorem dX12_run_142 : decode cX12_run 142 = .ok (.ireturn, 1) := by decide +kernel
theorem dX12_run_143 : decode cX12_run 143 = .ok (.iinc 2 1, 3) := by decide +kernel
theorem dX12_run_146 : decode cX12_run 146 = .ok (.goto (-104), 3) := by decide +kernel
theorem dX12_run_149 : decode cX12_run 149 = .ok (.aload_n 0, 1) := by decide +kernel
theorem dX12_run_150 : decode cX12_run 150 = .ok (.getfield 130, 3) := by decide +kernel
theorem dX12_run_153 : decode cX12_run 153 = .ok (.iconst 0, 1) := by decide +kernel
theorem dX12_run_154 : decode cX12_run 154 = .ok (.aload_n 0, 1) := by decide +kernel
theorem dX12_run_155 : decode cX12_run 155 = .ok (.getfield 239, 3) := by decide +kernel
theorem dX12_run_158 : decode cX12_run 158 = .ok (.iastore, 1) := by decide +kernel
theorem dX12_run_159 : decode cX12_run 159 = .ok (.aload_n 0, 1) := by decide +kernel
theorem dX12_run_160 : decode cX12_run 160 = .ok (.getfield 239, 3) := by decide +kernel
theorem dX12_run_163 : decode cX12_run 163 = .ok (.ireturn, 1) := by decide +kernel
theorem dX12_ended_0 : decode cX12_ended 0 = .ok (.iload_n 1, 1) := by decide +kernel
theorem dX12_ended_1 : decode cX12_ended 1 = .ok (.i2l, 1) := by decide +kernel
theorem dX12_ended_2 : decode cX12_ended 2 = .ok (.lconst 0, 1) := by decide +kernel
theorem dX12_ended_3 : decode cX12_ended 3 = .ok (.ldc2_w 152, 3) := by decide +kernel
theorem dX12_ended_6 : decode cX12_ended 6 = .ok (.invokestatic 154, 3) := by decide +kernel
theorem dX12_ended_9 : decode cX12_ended 9 = .ok (.ifCond .eq 12, 3) := by decide +kernel
theorem dX12_ended_12 : decode cX12_ended 12 = .ok (.aload_n 0, 1) := by decide +kernel
theorem dX12_ended_13 : decode cX12_ended 13 = .ok (.getfield 130, 3) := by decide +kernel
theorem dX12_ended_16 : decode cX12_ended 16 = .ok (.iload_n 1, 1) := by decide +kernel
theorem dX12_ended_17 : decode cX12_ended 17 = .ok (.iaload, 1) := by decide +kernel
theorem dX12_ended_18 : decode cX12_ended 18 = .ok (.goto 4, 3) := by decide +kernel
theorem dX12_ended_21 : decode cX12_ended 21 = .ok (.iconst (-1), 1) := by decide +kernel
theorem dX12_ended_22 : decode cX12_ended 22 = .ok (.ireturn, 1) := by decide +kernel
theorem dX12_fetches_0 : decode cX12_fetches 0 = .ok (.iconst 0, 1) := by decide +kernel
theorem dX12_fetches_1 : decode cX12_fetches 1 = .ok (.istore 7, 2) := by decide +kernel
theorem dX12_fetches_3 : decode cX12_fetches 3 = .ok (.iload 7, 2) := by decide +kernel
theorem dX12_fetches_5 : decode cX12_fetches 5 = .ok (.aload_n 0, 1) := by decide +kernel
theorem dX12_fetches_6 : decode cX12_fetches 6 = .ok (.getfield 393, 3) := by decide +kernel
theorem dX12_fetches_9 : decode cX12_fetches 9 = .ok (.if_icmp .ge 45, 3) := by decide +kernel
theorem dX12_fetches_12 : decode cX12_fetches 12 = .ok (.aload_n 0, 1) := by decide +kernel
theorem dX12_fetches_13 : decode cX12_fetches 13 = .ok (.getfield 133, 3) := by decide +kernel
theorem dX12_fetches_16 : decode cX12_fetches 16 = .ok (.iload 7, 2) := by decide +kernel
theorem dX12_fetches_18 : decode cX12_fetches 18 = .ok (.iaload, 1) := by decide +kernel
theorem dX12_fetches_19 : decode cX12_fetches 19 = .ok (.iload_n 1, 1) := by decide +kernel
theorem dX12_fetches_20 : decode cX12_fetches 20 = .ok (.if_icmp .ne 28, 3) := by decide +kernel
theorem dX12_fetches_23 : decode cX12_fetches 23 = .ok (.aload_n 0, 1) := by decide +kernel
theorem dX12_fetches_24 : decode cX12_fetches 24 = .ok (.getfield 136, 3) := by decide +kernel
theorem dX12_fetches_27 : decode cX12_fetches 27 = .ok (.iload 7, 2) := by decide +kernel
theorem dX12_fetches_29 : decode cX12_fetches 29 = .ok (.laload, 1) := by decide +kernel
theorem dX12_fetches_30 : decode cX12_fetches 30 = .ok (.lload_n 2, 1) := by decide +kernel
theorem dX12_fetches_31 : decode cX12_fetches 31 = .ok (.lcmp, 1) := by decide +kernel
theorem dX12_fetches_32 : decode cX12_fetches 32 = .ok (.ifCond .ne 16, 3) := by decide +kernel
theorem dX12_fetches_35 : decode cX12_fetches 35 = .ok (.aload_n 0, 1) := by decide +kernel
theorem dX12_fetches_36 : decode cX12_fetches 36 = .ok (.getfield 139, 3) := by decide +kernel
theorem dX12_fetches_39 : decode cX12_fetches 39 = .ok (.iload 7, 2) := by decide +kernel
theorem dX12_fetches_41 : decode cX12_fetches 41 = .ok (.laload, 1) := by decide +kernel
theorem dX12_fetches_42 : decode cX12_fetches 42 = .ok (.lload 4, 2) := by decide +kernel
theorem dX12_fetches_44 : decode cX12_fetches 44 = .ok (.lcmp, 1) := by decide +kernel
theorem dX12_fetches_45 : decode cX12_fetches 45 = .ok (.ifCond .eq 9, 3) := by decide +kernel
theorem dX12_fetches_48 : decode cX12_fetches 48 = .ok (.iinc 7 1, 3) := by decide +kernel
theorem dX12_fetches_51 : decode cX12_fetches 51 = .ok (.goto (-48), 3) := by decide +kernel
theorem dX12_fetches_54 : decode cX12_fetches 54 = .ok (.iload 7, 2) := by decide +kernel
theorem dX12_fetches_56 : decode cX12_fetches 56 = .ok (.aload_n 0, 1) := by decide +kernel
theorem dX12_fetches_57 : decode cX12_fetches 57 = .ok (.getfield 393, 3) := by decide +kernel
theorem dX12_fetches_60 : decode cX12_fetches 60 = .ok (.if_icmp .ne 7, 3) := by decide +kernel
theorem dX12_fetches_63 : decode cX12_fetches 63 = .ok (.iconst 1, 1) := by decide +kernel
theorem dX12_fetches_64 : decode cX12_fetches 64 = .ok (.goto 4, 3) := by decide +kernel
theorem dX12_fetches_67 : decode cX12_fetches 67 = .ok (.iconst 0, 1) := by decide +kernel
theorem dX12_fetches_68 : decode cX12_fetches 68 = .ok (.istore 8, 2) := by decide +kernel
theorem dX12_fetches_70 : decode cX12_fetches 70 = .ok (.iload 8, 2) := by decide +kernel
theorem dX12_fetches_72 : decode cX12_fetches 72 = .ok (.ifCond .eq 22, 3) := by decide +kernel
theorem dX12_fetches_75 : decode cX12_fetches 75 = .ok (.aload_n 0, 1) := by decide +kernel
theorem dX12_fetches_76 : decode cX12_fetches 76 = .ok (.getfield 393, 3) := by decide +kernel
theorem dX12_fetches_79 : decode cX12_fetches 79 = .ok (.iload 6, 2) := by decide +kernel
theorem dX12_fetches_81 : decode cX12_fetches 81 = .ok (.if_icmp .ge 13, 3) := by decide +kernel
theorem dX12_fetches_84 : decode cX12_fetches 84 = .ok (.aload_n 0, 1) := by decide +kernel
theorem dX12_fetches_85 : decode cX12_fetches 85 = .ok (.dup, 1) := by decide +kernel
theorem dX12_fetches_86 : decode cX12_fetches 86 = .ok (.getfield 393, 3) := by decide +kernel
theorem dX12_fetches_89 : decode cX12_fetches 89 = .ok (.iconst 1, 1) := by decide +kernel
theorem dX12_fetches_90 : decode cX12_fetches 90 = .ok (.iadd, 1) := by decide +kernel
theorem dX12_fetches_91 : decode cX12_fetches 91 = .ok (.putfield 393, 3) := by decide +kernel
theorem dX12_fetches_94 : decode cX12_fetches 94 = .ok (.iload 8, 2) := by decide +kernel
theorem dX12_fetches_96 : decode cX12_fetches 96 = .ok (.ifCond .eq 12, 3) := by decide +kernel
theorem dX12_fetches_99 : decode cX12_fetches 99 = .ok (.aload_n 0, 1) := by decide +kernel
theorem dX12_fetches_100 : decode cX12_fetches 100 = .ok (.getfield 393, 3) := by decide +kernel
theorem dX12_fetches_103 : decode cX12_fetches 103 = .ok (.iconst 1, 1) := by decide +kernel
theorem dX12_fetches_104 : decode cX12_fetches 104 = .ok (.isub, 1) := by decide +kernel
theorem dX12_fetches_105 : decode cX12_fetches 105 = .ok (.goto 5, 3) := by decide +kernel
theorem dX12_fetches_108 : decode cX12_fetches 108 = .ok (.iload 7, 2) := by decide +kernel
theorem dX12_fetches_110 : decode cX12_fetches 110 = .ok (.istore 9, 2) := by decide +kernel
theorem dX12_fetches_112 : decode cX12_fetches 112 = .ok (.iload 9, 2) := by decide +kernel
theorem dX12_fetches_114 : decode cX12_fetches 114 = .ok (.ifCond .le 57, 3) := by decide +kernel
theorem dX12_fetches_117 : decode cX12_fetches 117 = .ok (.aload_n 0, 1) := by decide +kernel
theorem dX12_fetches_118 : decode cX12_fetches 118 = .ok (.getfield 133, 3) := by decide +kernel
theorem dX12_fetches_121 : decode cX12_fetches 121 = .ok (.iload 9, 2) := by decide +kernel
theorem dX12_fetches_123 : decode cX12_fetches 123 = .ok (.aload_n 0, 1) := by decide +kernel
theorem dX12_fetches_124 : decode cX12_fetches 124 = .ok (.getfield 133, 3) := by decide +kernel
theorem dX12_fetches_127 : decode cX12_fetches 127 = .ok (.iload 9, 2) := by decide +kernel
theorem dX12_fetches_129 : decode cX12_fetches 129 = .ok (.iconst 1, 1) := by decide +kernel
theorem dX12_fetches_130 : decode cX12_fetches 130 = .ok (.isub, 1) := by decide +kernel
theorem dX12_fetches_131 : decode cX12_fetches 131 = .ok (.iaload, 1) := by decide +kernel
theorem dX12_fetches_132 : decode cX12_fetches 132 = .ok (.iastore, 1) := by decide +kernel
theorem dX12_fetches_133 : decode cX12_fetches 133 = .ok (.aload_n 0, 1) := by decide +kernel
theorem dX12_fetches_134 : decode cX12_fetches 134 = .ok (.getfield 136, 3) := by decide +kernel
theorem dX12_fetches_137 : decode cX12_fetches 137 = .ok (.iload 9, 2) := by decide +kernel
theorem dX12_fetches_139 : decode cX12_fetches 139 = .ok (.aload_n 0, 1) := by decide +kernel
theorem dX12_fetches_140 : decode cX12_fetches 140 = .ok (.getfield 136, 3) := by decide +kernel
theorem dX12_fetches_143 : decode cX12_fetches 143 = .ok (.iload 9, 2) := by decide +kernel
theorem dX12_fetches_145 : decode cX12_fetches 145 = .ok (.iconst 1, 1) := by decide +kernel
theorem dX12_fetches_146 : decode cX12_fetches 146 = .ok (.isub, 1) := by decide +kernel
theorem dX12_fetches_147 : decode cX12_fetches 147 = .ok (.laload, 1) := by decide +kernel
theorem dX12_fetches_148 : decode cX12_fetches 148 = .ok (.lastore, 1) := by decide +kernel
theorem dX12_fetches_149 : decode cX12_fetches 149 = .ok (.aload_n 0, 1) := by decide +kernel
theorem dX12_fetches_150 : decode cX12_fetches 150 = .ok (.getfield 139, 3) := by decide +kernel
theorem dX12_fetches_153 : decode cX12_fetches 153 = .ok (.iload 9, 2) := by decide +kernel
theorem dX12_fetches_155 : decode cX12_fetches 155 = .ok (.aload_n 0, 1) := by decide +kernel
theorem dX12_fetches_156 : decode cX12_fetches 156 = .ok (.getfield 139, 3) := by decide +kernel
theorem dX12_fetches_159 : decode cX12_fetches 159 = .ok (.iload 9, 2) := by decide +kernel
theorem dX12_fetches_161 : decode cX12_fetches 161 = .ok (.iconst 1, 1) := by decide +kernel
theorem dX12_fetches_162 : decode cX12_fetches 162 = .ok (.isub, 1) := by decide +kernel
theorem dX12_fetches_163 : decode cX12_fetches 163 = .ok (.laload, 1) := by decide +kernel
theorem dX12_fetches_164 : decode cX12_fetches 164 = .ok (.lastore, 1) := by decide +kernel
theorem dX12_fetches_165 : decode cX12_fetches 165 = .ok (.iinc 9 (-1), 3) := by decide +kernel
theorem dX12_fetches_168 : decode cX12_fetches 168 = .ok (.goto (-56), 3) := by decide +kernel
theorem dX12_fetches_171 : decode cX12_fetches 171 = .ok (.aload_n 0, 1) := by decide +kernel
theorem dX12_fetches_172 : decode cX12_fetches 172 = .ok (.getfield 133, 3) := by decide +kernel
theorem dX12_fetches_175 : decode cX12_fetches 175 = .ok (.iconst 0, 1) := by decide +kernel
theorem dX12_fetches_176 : decode cX12_fetches 176 = .ok (.iload_n 1, 1) := by decide +kernel
theorem dX12_fetches_177 : decode cX12_fetches 177 = .ok (.iastore, 1) := by decide +kernel
theorem dX12_fetches_178 : decode cX12_fetches 178 = .ok (.aload_n 0, 1) := by decide +kernel
theorem dX12_fetches_179 : decode cX12_fetches 179 = .ok (.getfield 136, 3) := by decide +kernel
theorem dX12_fetches_182 : decode cX12_fetches 182 = .ok (.iconst 0, 1) := by decide +kernel
theorem dX12_fetches_183 : decode cX12_fetches 183 = .ok (.lload_n 2, 1) := by decide +kernel
theorem dX12_fetches_184 : decode cX12_fetches 184 = .ok (.lastore, 1) := by decide +kernel
theorem dX12_fetches_185 : decode cX12_fetches 185 = .ok (.aload_n 0, 1) := by decide +kernel
theorem dX12_fetches_186 : decode cX12_fetches 186 = .ok (.getfield 139, 3) := by decide +kernel
theorem dX12_fetches_189 : decode cX12_fetches 189 = .ok (.iconst 0, 1) := by decide +kernel
theorem dX12_fetches_190 : decode cX12_fetches 190 = .ok (.lload 4, 2) := by decide +kernel
theorem dX12_fetches_192 : decode cX12_fetches 192 = .ok (.lastore, 1) := by decide +kernel
theorem dX12_fetches_193 : decode cX12_fetches 193 = .ok (.iload 8, 2) := by decide +kernel
theorem dX12_fetches_195 : decode cX12_fetches 195 = .ok (.ireturn, 1) := by decide +kernel
theorem dX12_fetchedMany_0 : decode cX12_fetchedMany 0 = .ok (.aload_n 0, 1) := by decide +kernel
theorem dX12_fetchedMany_1 : decode cX12_fetchedMany 1 = .ok (.iconst 0, 1) := by decide +kernel
theorem dX12_fetchedMany_2 : decode cX12_fetchedMany 2 = .ok (.putfield 393, 3) := by decide +kernel
theorem dX12_fetchedMany_5 : decode cX12_fetchedMany 5 = .ok (.iconst 0, 1) := by decide +kernel
theorem dX12_fetchedMany_6 : decode cX12_fetchedMany 6 = .ok (.istore_n 3, 1) := by decide +kernel
theorem dX12_fetchedMany_7 : decode cX12_fetchedMany 7 = .ok (.iconst 0, 1) := by decide +kernel
theorem dX12_fetchedMany_8 : decode cX12_fetchedMany 8 = .ok (.istore 4, 2) := by decide +kernel
theorem dX12_fetchedMany_10 : decode cX12_fetchedMany 10 = .ok (.iload 4, 2) := by decide +kernel
theorem dX12_fetchedMany_12 : decode cX12_fetchedMany 12 = .ok (.aload_n 0, 1) := by decide +kernel
theorem dX12_fetchedMany_13 : decode cX12_fetchedMany 13 = .ok (.getfield 239, 3) := by decide +kernel
theorem dX12_fetchedMany_16 : decode cX12_fetchedMany 16 = .ok (.if_icmp .ge 115, 3) := by decide +kernel
theorem dX12_fetchedMany_19 : decode cX12_fetchedMany 19 = .ok (.aload_n 0, 1) := by decide +kernel
theorem dX12_fetchedMany_20 : decode cX12_fetchedMany 20 = .ok (.getfield 124, 3) := by decide +kernel
theorem dX12_fetchedMany_23 : decode cX12_fetchedMany 23 = .ok (.iload 4, 2) := by decide +kernel
theorem dX12_fetchedMany_25 : decode cX12_fetchedMany 25 = .ok (.iaload, 1) := by decide +kernel
theorem dX12_fetchedMany_26 : decode cX12_fetchedMany 26 = .ok (.istore 5, 2) := by decide +kernel
theorem dX12_fetchedMany_28 : decode cX12_fetchedMany 28 = .ok (.iconst 1, 1) := by decide +kernel
theorem dX12_fetchedMany_29 : decode cX12_fetchedMany 29 = .ok (.istore 6, 2) := by decide +kernel
theorem dX12_fetchedMany_31 : decode cX12_fetchedMany 31 = .ok (.iload 6, 2) := by decide +kernel
theorem dX12_fetchedMany_33 : decode cX12_fetchedMany 33 = .ok (.iconst 4, 1) := by decide +kernel
theorem dX12_fetchedMany_34 : decode cX12_fetchedMany 34 = .ok (.if_icmp .ge 91, 3) := by decide +kernel
theorem dX12_fetchedMany_37 : decode cX12_fetchedMany 37 = .ok (.iload 6, 2) := by decide +kernel
theorem dX12_fetchedMany_39 : decode cX12_fetchedMany 39 = .ok (.iconst 3, 1) := by decide +kernel
theorem dX12_fetchedMany_40 : decode cX12_fetchedMany 40 = .ok (.irem, 1) := by decide +kernel
theorem dX12_fetchedMany_41 : decode cX12_fetchedMany 41 = .ok (.istore 7, 2) := by decide +kernel
theorem dX12_fetchedMany_43 : decode cX12_fetchedMany 43 = .ok (.aload_n 0, 1) := by decide +kernel
theorem dX12_fetchedMany_44 : decode cX12_fetchedMany 44 = .ok (.iload 5, 2) := by decide +kernel
theorem dX12_fetchedMany_46 : decode cX12_fetchedMany 46 = .ok (.iload 7, 2) := by decide +kernel
theorem dX12_fetchedMany_48 : decode cX12_fetchedMany 48 = .ok (.invokevirtual 263, 3) := by decide +kernel
theorem dX12_fetchedMany_51 : decode cX12_fetchedMany 51 = .ok (.ifCond .eq 68, 3) := by decide +kernel
theorem dX12_fetchedMany_54 : decode cX12_fetchedMany 54 = .ok (.aload_n 0, 1) := by decide +kernel
theorem dX12_fetchedMany_55 : decode cX12_fetchedMany 55 = .ok (.aload_n 0, 1) := by decide +kernel
theorem dX12_fetchedMany_56 : decode cX12_fetchedMany 56 = .ok (.getfield 41, 3) := by decide +kernel
theorem dX12_fetchedMany_59 : decode cX12_fetchedMany 59 = .ok (.iconst 3, 1) := by decide +kernel
theorem dX12_fetchedMany_60 : decode cX12_fetchedMany 60 = .ok (.aload_n 0, 1) := by decide +kernel
theorem dX12_fetchedMany_61 : decode cX12_fetchedMany 61 = .ok (.getfield 78, 3) := by decide +kernel
theorem dX12_fetchedMany_64 : decode cX12_fetchedMany 64 = .ok (.iload 5, 2) := by decide +kernel
theorem dX12_fetchedMany_66 : decode cX12_fetchedMany 66 = .ok (.iaload, 1) := by decide +kernel
theorem dX12_fetchedMany_67 : decode cX12_fetchedMany 67 = .ok (.imul, 1) := by decide +kernel
theorem dX12_fetchedMany_68 : decode cX12_fetchedMany 68 = .ok (.iload 7, 2) := by decide +kernel
theorem dX12_fetchedMany_70 : decode cX12_fetchedMany 70 = .ok (.iadd, 1) := by decide +kernel
theorem dX12_fetchedMany_71 : decode cX12_fetchedMany 71 = .ok (.iaload, 1) := by decide +kernel
theorem dX12_fetchedMany_72 : decode cX12_fetchedMany 72 = .ok (.aload_n 0, 1) := by decide +kernel
theorem dX12_fetchedMany_73 : decode cX12_fetchedMany 73 = .ok (.getfield 93, 3) := by decide +kernel
theorem dX12_fetchedMany_76 : decode cX12_fetchedMany 76 = .ok (.iconst 3, 1) := by decide +kernel
theorem dX12_fetchedMany_77 : decode cX12_fetchedMany 77 = .ok (.iload 5, 2) := by decide +kernel
theorem dX12_fetchedMany_79 : decode cX12_fetchedMany 79 = .ok (.imul, 1) := by decide +kernel
theorem dX12_fetchedMany_80 : decode cX12_fetchedMany 80 = .ok (.iload 7, 2) := by decide +kernel
theorem dX12_fetchedMany_82 : decode cX12_fetchedMany 82 = .ok (.iadd, 1) := by decide +kernel
theorem dX12_fetchedMany_83 : decode cX12_fetchedMany 83 = .ok (.laload, 1) := by decide +kernel
theorem dX12_fetchedMany_84 : decode cX12_fetchedMany 84 = .ok (.aload_n 0, 1) := by decide +kernel
theorem dX12_fetchedMany_85 : decode cX12_fetchedMany 85 = .ok (.getfield 96, 3) := by decide +kernel
theorem dX12_fetchedMany_88 : decode cX12_fetchedMany 88 = .ok (.iconst 3, 1) := by decide +kernel
theorem dX12_fetchedMany_89 : decode cX12_fetchedMany 89 = .ok (.iload 5, 2) := by decide +kernel
theorem dX12_fetchedMany_91 : decode cX12_fetchedMany 91 = .ok (.imul, 1) := by decide +kernel
theorem dX12_fetchedMany_92 : decode cX12_fetchedMany 92 = .ok (.iload 7, 2) := by decide +kernel
theorem dX12_fetchedMany_94 : decode cX12_fetchedMany 94 = .ok (.iadd, 1) := by decide +kernel
theorem dX12_fetchedMany_95 : decode cX12_fetchedMany 95 = .ok (.laload, 1) := by decide +kernel
theorem dX12_fetchedMany_96 : decode cX12_fetchedMany 96 = .ok (.iload_n 2, 1) := by decide +kernel
theorem dX12_fetchedMany_97 : decode cX12_fetchedMany 97 = .ok (.invokestatic 353, 3) := by decide +kernel
theorem dX12_fetchedMany_100 : decode cX12_fetchedMany 100 = .ok (.iload_n 1, 1) := by decide +kernel
theorem dX12_fetchedMany_101 : decode cX12_fetchedMany 101 = .ok (.invokevirtual 396, 3) := by decide +kernel
theorem dX12_fetchedMany_104 : decode cX12_fetchedMany 104 = .ok (.istore 8, 2) := by decide +kernel
theorem dX12_fetchedMany_106 : decode cX12_fetchedMany 106 = .ok (.iload_n 3, 1) := by decide +kernel
theorem dX12_fetchedMany_107 : decode cX12_fetchedMany 107 = .ok (.iload 8, 2) := by decide +kernel
theorem dX12_fetchedMany_109 : decode cX12_fetchedMany 109 = .ok (.ifCond .eq 7, 3) := by decide +kernel
theorem dX12_fetchedMany_112 : decode cX12_fetchedMany 112 = .ok (.iconst 1, 1) := by decide +kernel
theorem dX12_fetchedMany_113 : decode cX12_fetchedMany 113 = .ok (.goto 4, 3) := by decide +kernel
theorem dX12_fetchedMany_116 : decode cX12_fetchedMany 116 = .ok (.iconst 0, 1) := by decide +kernel
theorem dX12_fetchedMany_117 : decode cX12_fetchedMany 117 = .ok (.iadd, 1) := by decide +kernel
theorem dX12_fetchedMany_118 : decode cX12_fetchedMany 118 = .ok (.istore_n 3, 1) := by decide +kernel
theorem dX12_fetchedMany_119 : decode cX12_fetchedMany 119 = .ok (.iinc 6 1, 3) := by decide +kernel
theorem dX12_fetchedMany_122 : decode cX12_fetchedMany 122 = .ok (.goto (-91), 3) := by decide +kernel
theorem dX12_fetchedMany_125 : decode cX12_fetchedMany 125 = .ok (.iinc 4 1, 3) := by decide +kernel
theorem dX12_fetchedMany_128 : decode cX12_fetchedMany 128 = .ok (.goto (-118), 3) := by decide +kernel
theorem dX12_fetchedMany_131 : decode cX12_fetchedMany 131 = .ok (.iload_n 3, 1) := by decide +kernel
theorem dX12_fetchedMany_132 : decode cX12_fetchedMany 132 = .ok (.ireturn, 1) := by decide +kernel
theorem dX12_fetched_0 : decode cX12_fetched 0 = .ok (.iload_n 1, 1) := by decide +kernel
theorem dX12_fetched_1 : decode cX12_fetched 1 = .ok (.i2l, 1) := by decide +kernel
theorem dX12_fetched_2 : decode cX12_fetched 2 = .ok (.lconst 1, 1) := by decide +kernel
theorem dX12_fetched_3 : decode cX12_fetched 3 = .ok (.ldc2_w 400, 3) := by decide +kernel
theorem dX12_fetched_6 : decode cX12_fetched 6 = .ok (.invokestatic 154, 3) := by decide +kernel
theorem dX12_fetched_9 : decode cX12_fetched 9 = .ok (.ifCond .eq 15, 3) := by decide +kernel
theorem dX12_fetched_12 : decode cX12_fetched 12 = .ok (.iload_n 2, 1) := by decide +kernel
theorem dX12_fetched_13 : decode cX12_fetched 13 = .ok (.i2l, 1) := by decide +kernel
theorem dX12_fetched_14 : decode cX12_fetched 14 = .ok (.lconst 1, 1) := by decide +kernel
theorem dX12_fetched_15 : decode cX12_fetched 15 = .ok (.ldc2_w 330, 3) := by decide +kernel
theorem dX12_fetched_18 : decode cX12_fetched 18 = .ok (.invokestatic 154, 3) := by decide +kernel
theorem dX12_fetched_21 : decode cX12_fetched 21 = .ok (.ifCond .ne 5, 3) := by decide +kernel
theorem dX12_fetched_24 : decode cX12_fetched 24 = .ok (.iconst (-1), 1) := by decide +kernel
theorem dX12_fetched_25 : decode cX12_fetched 25 = .ok (.ireturn, 1) := by decide +kernel
theorem dX12_fetched_26 : decode cX12_fetched 26 = .ok (.aload_n 0, 1) := by decide +kernel
theorem dX12_fetched_27 : decode cX12_fetched 27 = .ok (.invokevirtual 273, 3) := by decide +kernel
theorem dX12_fetched_30 : decode cX12_fetched 30 = .ok (.ifCond .eq 6, 3) := by decide +kernel
theorem dX12_fetched_33 : decode cX12_fetched 33 = .ok (.bipush (-6), 2) := by decide +kernel
theorem dX12_fetched_35 : decode cX12_fetched 35 = .ok (.ireturn, 1) := by decide +kernel
theorem dX12_fetched_36 : decode cX12_fetched 36 = .ok (.aload_n 0, 1) := by decide +kernel
theorem dX12_fetched_37 : decode cX12_fetched 37 = .ok (.invokevirtual 277, 3) := by decide +kernel
theorem dX12_fetched_40 : decode cX12_fetched 40 = .ok (.aload_n 0, 1) := by decide +kernel
theorem dX12_fetched_41 : decode cX12_fetched 41 = .ok (.invokevirtual 282, 3) := by decide +kernel
theorem dX12_fetched_44 : decode cX12_fetched 44 = .ok (.aload_n 0, 1) := by decide +kernel
theorem dX12_fetched_45 : decode cX12_fetched 45 = .ok (.iload_n 1, 1) := by decide +kernel
theorem dX12_fetched_46 : decode cX12_fetched 46 = .ok (.iload_n 2, 1) := by decide +kernel
theorem dX12_fetched_47 : decode cX12_fetched 47 = .ok (.invokevirtual 402, 3) := by decide +kernel
theorem dX12_fetched_50 : decode cX12_fetched 50 = .ok (.ireturn, 1) := by decide +kernel
theorem dX12_best_0 : decode cX12_best 0 = .ok (.aload_n 0, 1) := by decide +kernel
theorem dX12_best_1 : decode cX12_best 1 = .ok (.iload_n 1, 1) := by decide +kernel
theorem dX12_best_2 : decode cX12_best 2 = .ok (.invokevirtual 177, 3) := by decide +kernel
theorem dX12_best_5 : decode cX12_best 5 = .ok (.ifCond .eq 27, 3) := by decide +kernel
theorem dX12_best_8 : decode cX12_best 8 = .ok (.iload_n 2, 1) := by decide +kernel
theorem dX12_best_9 : decode cX12_best 9 = .ok (.i2l, 1) := by decide +kernel
theorem dX12_best_10 : decode cX12_best 10 = .ok (.lconst 1, 1) := by decide +kernel
theorem dX12_best_11 : decode cX12_best 11 = .ok (.ldc2_w 400, 3) := by decide +kernel
theorem dX12_best_14 : decode cX12_best 14 = .ok (.invokestatic 154, 3) := by decide +kernel
theorem dX12_best_17 : decode cX12_best 17 = .ok (.ifCond .eq 15, 3) := by decide +kernel
theorem dX12_best_20 : decode cX12_best 20 = .ok (.iload_n 3, 1) := by decide +kernel
theorem dX12_best_21 : decode cX12_best 21 = .ok (.i2l, 1) := by decide +kernel
theorem dX12_best_22 : decode cX12_best 22 = .ok (.lconst 1, 1) := by decide +kernel
theorem dX12_best_23 : decode cX12_best 23 = .ok (.ldc2_w 330, 3) := by decide +kernel
theorem dX12_best_26 : decode cX12_best 26 = .ok (.invokestatic 154, 3) := by decide +kernel
theorem dX12_best_29 : decode cX12_best 29 = .ok (.ifCond .ne 5, 3) := by decide +kernel
theorem dX12_best_32 : decode cX12_best 32 = .ok (.iconst (-1), 1) := by decide +kernel
theorem dX12_best_33 : decode cX12_best 33 = .ok (.ireturn, 1) := by decide +kernel
theorem dX12_best_34 : decode cX12_best 34 = .ok (.aload_n 0, 1) := by decide +kernel
theorem dX12_best_35 : decode cX12_best 35 = .ok (.invokevirtual 273, 3) := by decide +kernel
theorem dX12_best_38 : decode cX12_best 38 = .ok (.ifCond .eq 6, 3) := by decide +kernel
theorem dX12_best_41 : decode cX12_best 41 = .ok (.bipush (-6), 2) := by decide +kernel
theorem dX12_best_43 : decode cX12_best 43 = .ok (.ireturn, 1) := by decide +kernel
theorem dX12_best_44 : decode cX12_best 44 = .ok (.aload_n 0, 1) := by decide +kernel
theorem dX12_best_45 : decode cX12_best 45 = .ok (.iload_n 1, 1) := by decide +kernel
theorem dX12_best_46 : decode cX12_best 46 = .ok (.invokevirtual 173, 3) := by decide +kernel
theorem dX12_best_49 : decode cX12_best 49 = .ok (.ifCond .ne 9, 3) := by decide +kernel
theorem dX12_best_52 : decode cX12_best 52 = .ok (.aload_n 0, 1) := by decide +kernel
theorem dX12_best_53 : decode cX12_best 53 = .ok (.iconst 3, 1) := by decide +kernel
theorem dX12_best_54 : decode cX12_best 54 = .ok (.invokevirtual 207, 3) := by decide +kernel
theorem dX12_best_57 : decode cX12_best 57 = .ok (.ireturn, 1) := by decide +kernel
theorem dX12_best_58 : decode cX12_best 58 = .ok (.aload_n 0, 1) := by decide +kernel
theorem dX12_best_59 : decode cX12_best 59 = .ok (.invokevirtual 317, 3) := by decide +kernel
theorem dX12_best_62 : decode cX12_best 62 = .ok (.bipush (-9), 2) := by decide +kernel
theorem dX12_best_64 : decode cX12_best 64 = .ok (.istore 4, 2) := by decide +kernel
theorem dX12_best_66 : decode cX12_best 66 = .ok (.iconst 0, 1) := by decide +kernel
theorem dX12_best_67 : decode cX12_best 67 = .ok (.istore 5, 2) := by decide +kernel
theorem dX12_best_69 : decode cX12_best 69 = .ok (.aload_n 0, 1) := by decide +kernel
theorem dX12_best_70 : decode cX12_best 70 = .ok (.getfield 32, 3) := by decide +kernel
theorem dX12_best_73 : decode cX12_best 73 = .ok (.iload_n 1, 1) := by decide +kernel
theorem dX12_best_74 : decode cX12_best 74 = .ok (.iaload, 1) := by decide +kernel
theorem dX12_best_75 : decode cX12_best 75 = .ok (.istore 6, 2) := by decide +kernel
theorem dX12_best_77 : decode cX12_best 77 = .ok (.iconst 0, 1) := by decide +kernel
theorem dX12_best_78 : decode cX12_best 78 = .ok (.istore 7, 2) := by decide +kernel
theorem dX12_best_80 : decode cX12_best 80 = .ok (.iload 7, 2) := by decide +kernel
theorem dX12_best_82 : decode cX12_best 82 = .ok (.iconst 5, 1) := by decide +kernel
theorem dX12_best_83 : decode cX12_best 83 = .ok (.if_icmp .ge 69, 3) := by decide +kernel
theorem dX12_best_86 : decode cX12_best 86 = .ok (.iload 7, 2) := by decide +kernel
theorem dX12_best_88 : decode cX12_best 88 = .ok (.ifCond .eq 10, 3) := by decide +kernel
theorem dX12_best_91 : decode cX12_best 91 = .ok (.iload 7, 2) := by decide +kernel
theorem dX12_best_93 : decode cX12_best 93 = .ok (.iload 6, 2) := by decide +kernel
theorem dX12_best_95 : decode cX12_best 95 = .ok (.if_icmp .le 51, 3) := by decide +kernel
theorem dX12_best_98 : decode cX12_best 98 = .ok (.aload_n 0, 1) := by decide +kernel
theorem dX12_best_99 : decode cX12_best 99 = .ok (.iload_n 1, 1) := by decide +kernel
theorem dX12_best_100 : decode cX12_best 100 = .ok (.iload 7, 2) := by decide +kernel
theorem dX12_best_102 : decode cX12_best 102 = .ok (.invokevirtual 405, 3) := by decide +kernel
theorem dX12_best_105 : decode cX12_best 105 = .ok (.aload_n 0, 1) := by decide +kernel
theorem dX12_best_106 : decode cX12_best 106 = .ok (.invokevirtual 369, 3) := by decide +kernel
theorem dX12_best_109 : decode cX12_best 109 = .ok (.ifCond .eq 33, 3) := by decide +kernel
theorem dX12_best_112 : decode cX12_best 112 = .ok (.aload_n 0, 1) := by decide +kernel
theorem dX12_best_113 : decode cX12_best 113 = .ok (.iload_n 2, 1) := by decide +kernel
theorem dX12_best_114 : decode cX12_best 114 = .ok (.iload_n 3, 1) := by decide +kernel
theorem dX12_best_115 : decode cX12_best 115 = .ok (.invokevirtual 402, 3) := by decide +kernel
theorem dX12_best_118 : decode cX12_best 118 = .ok (.istore 8, 2) := by decide +kernel
theorem dX12_best_120 : decode cX12_best 120 = .ok (.iload 4, 2) := by decide +kernel
theorem dX12_best_122 : decode cX12_best 122 = .ok (.bipush (-9), 2) := by decide +kernel
theorem dX12_best_124 : decode cX12_best 124 = .ok (.if_icmp .eq 10, 3) := by decide +kernel
theorem dX12_best_127 : decode cX12_best 127 = .ok (.iload 8, 2) := by decide +kernel
theorem dX12_best_129 : decode cX12_best 129 = .ok (.iload 5, 2) := by decide +kernel
theorem dX12_best_131 : decode cX12_best 131 = .ok (.if_icmp .ge 11, 3) := by decide +kernel
theorem dX12_best_134 : decode cX12_best 134 = .ok (.iload 7, 2) := by decide +kernel
theorem dX12_best_136 : decode cX12_best 136 = .ok (.istore 4, 2) := by decide +kernel
theorem dX12_best_138 : decode cX12_best 138 = .ok (.iload 8, 2) := by decide +kernel
theorem dX12_best_140 : decode cX12_best 140 = .ok (.istore 5, 2) := by decide +kernel
theorem dX12_best_142 : decode cX12_best 142 = .ok (.aload_n 0, 1) := by decide +kernel
theorem dX12_best_143 : decode cX12_best 143 = .ok (.invokevirtual 336, 3) := by decide +kernel
theorem dX12_best_146 : decode cX12_best 146 = .ok (.iinc 7 1, 3) := by decide +kernel
theorem dX12_best_149 : decode cX12_best 149 = .ok (.goto (-69), 3) := by decide +kernel
theorem dX12_best_152 : decode cX12_best 152 = .ok (.iload 4, 2) := by decide +kernel
theorem dX12_best_154 : decode cX12_best 154 = .ok (.bipush (-9), 2) := by decide +kernel
theorem dX12_best_156 : decode cX12_best 156 = .ok (.if_icmp .ne 6, 3) := by decide +kernel
theorem dX12_best_159 : decode cX12_best 159 = .ok (.bipush (-9), 2) := by decide +kernel
theorem dX12_best_161 : decode cX12_best 161 = .ok (.ireturn, 1) := by decide +kernel
theorem dX12_best_162 : decode cX12_best 162 = .ok (.iload 4, 2) := by decide +kernel
theorem dX12_best_164 : decode cX12_best 164 = .ok (.ifCond .le 16, 3) := by decide +kernel
theorem dX12_best_167 : decode cX12_best 167 = .ok (.aload_n 0, 1) := by decide +kernel
theorem dX12_best_168 : decode cX12_best 168 = .ok (.iload_n 1, 1) := by decide +kernel
theorem dX12_best_169 : decode cX12_best 169 = .ok (.iload 4, 2) := by decide +kernel
theorem dX12_best_171 : decode cX12_best 171 = .ok (.invokevirtual 405, 3) := by decide +kernel
theorem dX12_best_174 : decode cX12_best 174 = .ok (.aload_n 0, 1) := by decide +kernel
theorem dX12_best_175 : decode cX12_best 175 = .ok (.invokevirtual 324, 3) := by decide +kernel
theorem dX12_best_178 : decode cX12_best 178 = .ok (.istore 7, 2) := by decide +kernel
theorem dX12_best_180 : decode cX12_best 180 = .ok (.iload 5, 2) := by decide +kernel
theorem dX12_best_182 : decode cX12_best 182 = .ok (.ireturn, 1) := by decide +kernel
theorem dX12_make_0 : decode cX12_make 0 = .ok (.iload_n 2, 1) := by decide +kernel
theorem dX12_make_1 : decode cX12_make 1 = .ok (.iconst 4, 1) := by decide +kernel
theorem dX12_make_2 : decode cX12_make 2 = .ok (.if_icmp .ne 11, 3) := by decide +kernel
theorem dX12_make_5 : decode cX12_make 5 = .ok (.aload_n 0, 1) := by decide +kernel
theorem dX12_make_6 : decode cX12_make 6 = .ok (.iload_n 1, 1) := by decide +kernel
theorem dX12_make_7 : decode cX12_make 7 = .ok (.invokevirtual 339, 3) := by decide +kernel
theorem dX12_make_10 : decode cX12_make 10 = .ok (.goto 13, 3) := by decide +kernel
theorem dX12_make_13 : decode cX12_make 13 = .ok (.iload_n 2, 1) := by decide +kernel
theorem dX12_make_14 : decode cX12_make 14 = .ok (.ifCond .le 9, 3) := by decide +kernel
theorem dX12_make_17 : decode cX12_make 17 = .ok (.aload_n 0, 1) := by decide +kernel
theorem dX12_make_18 : decode cX12_make 18 = .ok (.iload_n 1, 1) := by decide +kernel
theorem dX12_make_19 : decode cX12_make 19 = .ok (.iload_n 2, 1) := by decide +kernel
theorem dX12_make_20 : decode cX12_make 20 = .ok (.invokevirtual 320, 3) := by decide +kernel
theorem dX12_make_23 : decode cX12_make 23 = .ok (.return_, 1) := by decide +kernel
theorem dX12_goesOnWith_0 : decode cX12_goesOnWith 0 = .ok (.aload_n 0, 1) := by decide +kernel
theorem dX12_goesOnWith_1 : decode cX12_goesOnWith 1 = .ok (.getfield 124, 3) := by decide +kernel
theorem dX12_goesOnWith_4 : decode cX12_goesOnWith 4 = .ok (.iload_n 1, 1) := by decide +kernel
theorem dX12_goesOnWith_5 : decode cX12_goesOnWith 5 = .ok (.iaload, 1) := by decide +kernel
theorem dX12_goesOnWith_6 : decode cX12_goesOnWith 6 = .ok (.istore_n 3, 1) := by decide +kernel
theorem dX12_goesOnWith_7 : decode cX12_goesOnWith 7 = .ok (.aload_n 0, 1) := by decide +kernel
theorem dX12_goesOnWith_8 : decode cX12_goesOnWith 8 = .ok (.getfield 124, 3) := by decide +kernel
theorem dX12_goesOnWith_11 : decode cX12_goesOnWith 11 = .ok (.iload_n 2, 1) := by decide +kernel
theorem dX12_goesOnWith_12 : decode cX12_goesOnWith 12 = .ok (.iconst 1, 1) := by decide +kernel
theorem dX12_goesOnWith_13 : decode cX12_goesOnWith 13 = .ok (.isub, 1) := by decide +kernel
theorem dX12_goesOnWith_14 : decode cX12_goesOnWith 14 = .ok (.iaload, 1) := by decide +kernel
theorem dX12_goesOnWith_15 : decode cX12_goesOnWith 15 = .ok (.istore 4, 2) := by decide +kernel
theorem dX12_goesOnWith_17 : decode cX12_goesOnWith 17 = .ok (.aload_n 0, 1) := by decide +kernel
theorem dX12_goesOnWith_18 : decode cX12_goesOnWith 18 = .ok (.getfield 124, 3) := by decide +kernel
theorem dX12_goesOnWith_21 : decode cX12_goesOnWith 21 = .ok (.iload_n 2, 1) := by decide +kernel
theorem dX12_goesOnWith_22 : decode cX12_goesOnWith 22 = .ok (.iaload, 1) := by decide +kernel
theorem dX12_goesOnWith_23 : decode cX12_goesOnWith 23 = .ok (.istore 5, 2) := by decide +kernel
theorem dX12_goesOnWith_25 : decode cX12_goesOnWith 25 = .ok (.aload_n 0, 1) := by decide +kernel
theorem dX12_goesOnWith_26 : decode cX12_goesOnWith 26 = .ok (.getfield 78, 3) := by decide +kernel
theorem dX12_goesOnWith_29 : decode cX12_goesOnWith 29 = .ok (.iload 5, 2) := by decide +kernel
theorem dX12_goesOnWith_31 : decode cX12_goesOnWith 31 = .ok (.iaload, 1) := by decide +kernel
theorem dX12_goesOnWith_32 : decode cX12_goesOnWith 32 = .ok (.aload_n 0, 1) := by decide +kernel
theorem dX12_goesOnWith_33 : decode cX12_goesOnWith 33 = .ok (.getfield 78, 3) := by decide +kernel
theorem dX12_goesOnWith_36 : decode cX12_goesOnWith 36 = .ok (.iload_n 3, 1) := by decide +kernel
theorem dX12_goesOnWith_37 : decode cX12_goesOnWith 37 = .ok (.iaload, 1) := by decide +kernel
theorem dX12_goesOnWith_38 : decode cX12_goesOnWith 38 = .ok (.if_icmp .eq 5, 3) := by decide +kernel
theorem dX12_goesOnWith_41 : decode cX12_goesOnWith 41 = .ok (.iconst 0, 1) := by decide +kernel
theorem dX12_goesOnWith_42 : decode cX12_goesOnWith 42 = .ok (.ireturn, 1) := by decide +kernel
theorem dX12_goesOnWith_43 : decode cX12_goesOnWith 43 = .ok (.aload_n 0, 1) := by decide +kernel
theorem dX12_goesOnWith_44 : decode cX12_goesOnWith 44 = .ok (.getfield 124, 3) := by decide +kernel
theorem dX12_goesOnWith_47 : decode cX12_goesOnWith 47 = .ok (.iload_n 1, 1) := by decide +kernel
theorem dX12_goesOnWith_48 : decode cX12_goesOnWith 48 = .ok (.iconst 1, 1) := by decide +kernel
theorem dX12_goesOnWith_49 : decode cX12_goesOnWith 49 = .ok (.iadd, 1) := by decide +kernel
theorem dX12_goesOnWith_50 : decode cX12_goesOnWith 50 = .ok (.iaload, 1) := by decide +kernel
theorem dX12_goesOnWith_51 : decode cX12_goesOnWith 51 = .ok (.istore 6, 2) := by decide +kernel
theorem dX12_goesOnWith_53 : decode cX12_goesOnWith 53 = .ok (.iconst 1, 1) := by decide +kernel
theorem dX12_goesOnWith_54 : decode cX12_goesOnWith 54 = .ok (.istore 7, 2) := by decide +kernel
theorem dX12_goesOnWith_56 : decode cX12_goesOnWith 56 = .ok (.iconst 0, 1) := by decide +kernel
theorem dX12_goesOnWith_57 : decode cX12_goesOnWith 57 = .ok (.istore 8, 2) := by decide +kernel
theorem dX12_goesOnWith_59 : decode cX12_goesOnWith 59 = .ok (.iload 8, 2) := by decide +kernel
theorem dX12_goesOnWith_61 : decode cX12_goesOnWith 61 = .ok (.iconst 4, 1) := by decide +kernel
theorem dX12_goesOnWith_62 : decode cX12_goesOnWith 62 = .ok (.if_icmp .ge 74, 3) := by decide +kernel
theorem dX12_goesOnWith_65 : decode cX12_goesOnWith 65 = .ok (.iload 7, 2) := by decide +kernel
theorem dX12_goesOnWith_67 : decode cX12_goesOnWith 67 = .ok (.ifCond .eq 60, 3) := by decide +kernel
theorem dX12_goesOnWith_70 : decode cX12_goesOnWith 70 = .ok (.aload_n 0, 1) := by decide +kernel
theorem dX12_goesOnWith_71 : decode cX12_goesOnWith 71 = .ok (.getfield 81, 3) := by decide +kernel
theorem dX12_goesOnWith_74 : decode cX12_goesOnWith 74 = .ok (.iconst 4, 1) := by decide +kernel
theorem dX12_goesOnWith_75 : decode cX12_goesOnWith 75 = .ok (.iload 5, 2) := by decide +kernel
theorem dX12_goesOnWith_77 : decode cX12_goesOnWith 77 = .ok (.imul, 1) := by decide +kernel
theorem dX12_goesOnWith_78 : decode cX12_goesOnWith 78 = .ok (.iload 8, 2) := by decide +kernel
theorem dX12_goesOnWith_80 : decode cX12_goesOnWith 80 = .ok (.iadd, 1) := by decide +kernel
theorem dX12_goesOnWith_81 : decode cX12_goesOnWith 81 = .ok (.laload, 1) := by decide +kernel
theorem dX12_goesOnWith_82 : decode cX12_goesOnWith 82 = .ok (.aload_n 0, 1) := by decide +kernel
theorem dX12_goesOnWith_83 : decode cX12_goesOnWith 83 = .ok (.getfield 81, 3) := by decide +kernel
theorem dX12_goesOnWith_86 : decode cX12_goesOnWith 86 = .ok (.iconst 4, 1) := by decide +kernel
theorem dX12_goesOnWith_87 : decode cX12_goesOnWith 87 = .ok (.iload 4, 2) := by decide +kernel
theorem dX12_goesOnWith_89 : decode cX12_goesOnWith 89 = .ok (.imul, 1) := by decide +kernel
theorem dX12_goesOnWith_90 : decode cX12_goesOnWith 90 = .ok (.iload 8, 2) := by decide +kernel
theorem dX12_goesOnWith_92 : decode cX12_goesOnWith 92 = .ok (.iadd, 1) := by decide +kernel
theorem dX12_goesOnWith_93 : decode cX12_goesOnWith 93 = .ok (.laload, 1) := by decide +kernel
theorem dX12_goesOnWith_94 : decode cX12_goesOnWith 94 = .ok (.lsub, 1) := by decide +kernel
theorem dX12_goesOnWith_95 : decode cX12_goesOnWith 95 = .ok (.aload_n 0, 1) := by decide +kernel
theorem dX12_goesOnWith_96 : decode cX12_goesOnWith 96 = .ok (.getfield 81, 3) := by decide +kernel
theorem dX12_goesOnWith_99 : decode cX12_goesOnWith 99 = .ok (.iconst 4, 1) := by decide +kernel
theorem dX12_goesOnWith_100 : decode cX12_goesOnWith 100 = .ok (.iload 6, 2) := by decide +kernel
theorem dX12_goesOnWith_102 : decode cX12_goesOnWith 102 = .ok (.imul, 1) := by decide +kernel
theorem dX12_goesOnWith_103 : decode cX12_goesOnWith 103 = .ok (.iload 8, 2) := by decide +kernel
theorem dX12_goesOnWith_105 : decode cX12_goesOnWith 105 = .ok (.iadd, 1) := by decide +kernel
theorem dX12_goesOnWith_106 : decode cX12_goesOnWith 106 = .ok (.laload, 1) := by decide +kernel
theorem dX12_goesOnWith_107 : decode cX12_goesOnWith 107 = .ok (.aload_n 0, 1) := by decide +kernel
theorem dX12_goesOnWith_108 : decode cX12_goesOnWith 108 = .ok (.getfield 81, 3) := by decide +kernel
theorem dX12_goesOnWith_111 : decode cX12_goesOnWith 111 = .ok (.iconst 4, 1) := by decide +kernel
theorem dX12_goesOnWith_112 : decode cX12_goesOnWith 112 = .ok (.iload_n 3, 1) := by decide +kernel
theorem dX12_goesOnWith_113 : decode cX12_goesOnWith 113 = .ok (.imul, 1) := by decide +kernel
theorem dX12_goesOnWith_114 : decode cX12_goesOnWith 114 = .ok (.iload 8, 2) := by decide +kernel
theorem dX12_goesOnWith_116 : decode cX12_goesOnWith 116 = .ok (.iadd, 1) := by decide +kernel
theorem dX12_goesOnWith_117 : decode cX12_goesOnWith 117 = .ok (.laload, 1) := by decide +kernel
theorem dX12_goesOnWith_118 : decode cX12_goesOnWith 118 = .ok (.lsub, 1) := by decide +kernel
theorem dX12_goesOnWith_119 : decode cX12_goesOnWith 119 = .ok (.lcmp, 1) := by decide +kernel
theorem dX12_goesOnWith_120 : decode cX12_goesOnWith 120 = .ok (.ifCond .ne 7, 3) := by decide +kernel
theorem dX12_goesOnWith_123 : decode cX12_goesOnWith 123 = .ok (.iconst 1, 1) := by decide +kernel
theorem dX12_goesOnWith_124 : decode cX12_goesOnWith 124 = .ok (.goto 4, 3) := by decide +kernel
theorem dX12_goesOnWith_127 : decode cX12_goesOnWith 127 = .ok (.iconst 0, 1) := by decide +kernel
theorem dX12_goesOnWith_128 : decode cX12_goesOnWith 128 = .ok (.istore 7, 2) := by decide +kernel
theorem dX12_goesOnWith_130 : decode cX12_goesOnWith 130 = .ok (.iinc 8 1, 3) := by decide +kernel
theorem dX12_goesOnWith_133 : decode cX12_goesOnWith 133 = .ok (.goto (-74), 3) := by decide +kernel
theorem dX12_goesOnWith_136 : decode cX12_goesOnWith 136 = .ok (.iload 7, 2) := by decide +kernel
theorem dX12_goesOnWith_138 : decode cX12_goesOnWith 138 = .ok (.ireturn, 1) := by decide +kernel
theorem dX12_layLines_0 : decode cX12_layLines 0 = .ok (.aload_n 0, 1) := by decide +kernel
theorem dX12_layLines_1 : decode cX12_layLines 1 = .ok (.invokevirtual 277, 3) := by decide +kernel
theorem dX12_layLines_4 : decode cX12_layLines 4 = .ok (.aload_n 0, 1) := by decide +kernel
theorem dX12_layLines_5 : decode cX12_layLines 5 = .ok (.iconst 0, 1) := by decide +kernel
theorem dX12_layLines_6 : decode cX12_layLines 6 = .ok (.putfield 408, 3) := by decide +kernel
theorem dX12_layLines_9 : decode cX12_layLines 9 = .ok (.iconst 0, 1) := by decide +kernel
theorem dX12_layLines_10 : decode cX12_layLines 10 = .ok (.istore_n 1, 1) := by decide +kernel
theorem dX12_layLines_11 : decode cX12_layLines 11 = .ok (.iload_n 1, 1) := by decide +kernel
theorem dX12_layLines_12 : decode cX12_layLines 12 = .ok (.aload_n 0, 1) := by decide +kernel
theorem dX12_layLines_13 : decode cX12_layLines 13 = .ok (.getfield 239, 3) := by decide +kernel
theorem dX12_layLines_16 : decode cX12_layLines 16 = .ok (.if_icmp .ge 54, 3) := by decide +kernel
theorem dX12_layLines_19 : decode cX12_layLines 19 = .ok (.aload_n 0, 1) := by decide +kernel
theorem dX12_layLines_20 : decode cX12_layLines 20 = .ok (.getfield 142, 3) := by decide +kernel
theorem dX12_layLines_23 : decode cX12_layLines 23 = .ok (.aload_n 0, 1) := by decide +kernel
theorem dX12_layLines_24 : decode cX12_layLines 24 = .ok (.getfield 408, 3) := by decide +kernel
theorem dX12_layLines_27 : decode cX12_layLines 27 = .ok (.iload_n 1, 1) := by decide +kernel
theorem dX12_layLines_28 : decode cX12_layLines 28 = .ok (.iastore, 1) := by decide +kernel
theorem dX12_layLines_29 : decode cX12_layLines 29 = .ok (.aload_n 0, 1) := by decide +kernel
theorem dX12_layLines_30 : decode cX12_layLines 30 = .ok (.dup, 1) := by decide +kernel
theorem dX12_layLines_31 : decode cX12_layLines 31 = .ok (.getfield 408, 3) := by decide +kernel
theorem dX12_layLines_34 : decode cX12_layLines 34 = .ok (.iconst 1, 1) := by decide +kernel
theorem dX12_layLines_35 : decode cX12_layLines 35 = .ok (.iadd, 1) := by decide +kernel
theorem dX12_layLines_36 : decode cX12_layLines 36 = .ok (.putfield 408, 3) := by decide +kernel
theorem dX12_layLines_39 : decode cX12_layLines 39 = .ok (.iload_n 1, 1) := by decide +kernel
theorem dX12_layLines_40 : decode cX12_layLines 40 = .ok (.istore_n 2, 1) := by decide +kernel
theorem dX12_layLines_41 : decode cX12_layLines 41 = .ok (.iinc 1 1, 3) := by decide +kernel
theorem dX12_layLines_44 : decode cX12_layLines 44 = .ok (.iload_n 1, 1) := by decide +kernel
theorem dX12_layLines_45 : decode cX12_layLines 45 = .ok (.aload_n 0, 1) := by decide +kernel
theorem dX12_layLines_46 : decode cX12_layLines 46 = .ok (.getfield 239, 3) := by decide +kernel
theorem dX12_layLines_49 : decode cX12_layLines 49 = .ok (.if_icmp .ge 18, 3) := by decide +kernel
theorem dX12_layLines_52 : decode cX12_layLines 52 = .ok (.aload_n 0, 1) := by decide +kernel
theorem dX12_layLines_53 : decode cX12_layLines 53 = .ok (.iload_n 2, 1) := by decide +kernel
theorem dX12_layLines_54 : decode cX12_layLines 54 = .ok (.iload_n 1, 1) := by decide +kernel
theorem dX12_layLines_55 : decode cX12_layLines 55 = .ok (.invokevirtual 411, 3) := by decide +kernel
theorem dX12_layLines_58 : decode cX12_layLines 58 = .ok (.ifCond .eq 9, 3) := by decide +kernel
theorem dX12_layLines_61 : decode cX12_layLines 61 = .ok (.iinc 1 1, 3) := by decide +kernel
theorem dX12_layLines_64 : decode cX12_layLines 64 = .ok (.goto (-20), 3) := by decide +kernel
theorem dX12_layLines_67 : decode cX12_layLines 67 = .ok (.goto (-56), 3) := by decide +kernel
theorem dX12_layLines_70 : decode cX12_layLines 70 = .ok (.aload_n 0, 1) := by decide +kernel
theorem dX12_layLines_71 : decode cX12_layLines 71 = .ok (.getfield 142, 3) := by decide +kernel
theorem dX12_layLines_74 : decode cX12_layLines 74 = .ok (.aload_n 0, 1) := by decide +kernel
theorem dX12_layLines_75 : decode cX12_layLines 75 = .ok (.getfield 408, 3) := by decide +kernel
theorem dX12_layLines_78 : decode cX12_layLines 78 = .ok (.aload_n 0, 1) := by decide +kernel
theorem dX12_layLines_79 : decode cX12_layLines 79 = .ok (.getfield 239, 3) := by decide +kernel
theorem dX12_layLines_82 : decode cX12_layLines 82 = .ok (.iastore, 1) := by decide +kernel
theorem dX12_layLines_83 : decode cX12_layLines 83 = .ok (.return_, 1) := by decide +kernel
theorem dX12_lines_0 : decode cX12_lines 0 = .ok (.aload_n 0, 1) := by decide +kernel
theorem dX12_lines_1 : decode cX12_lines 1 = .ok (.invokevirtual 273, 3) := by decide +kernel
theorem dX12_lines_4 : decode cX12_lines 4 = .ok (.ifCond .eq 6, 3) := by decide +kernel
theorem dX12_lines_7 : decode cX12_lines 7 = .ok (.bipush (-6), 2) := by decide +kernel
theorem dX12_lines_9 : decode cX12_lines 9 = .ok (.ireturn, 1) := by decide +kernel
theorem dX12_lines_10 : decode cX12_lines 10 = .ok (.aload_n 0, 1) := by decide +kernel
theorem dX12_lines_11 : decode cX12_lines 11 = .ok (.invokevirtual 414, 3) := by decide +kernel
theorem dX12_lines_14 : decode cX12_lines 14 = .ok (.aload_n 0, 1) := by decide +kernel
theorem dX12_lines_15 : decode cX12_lines 15 = .ok (.getfield 408, 3) := by decide +kernel
theorem dX12_lines_18 : decode cX12_lines 18 = .ok (.ireturn, 1) := by decide +kernel
theorem dX12_written_0 : decode cX12_written 0 = .ok (.iload_n 2, 1) := by decide +kernel
theorem dX12_written_1 : decode cX12_written 1 = .ok (.i2l, 1) := by decide +kernel
theorem dX12_written_2 : decode cX12_written 2 = .ok (.lconst 0, 1) := by decide +kernel
theorem dX12_written_3 : decode cX12_written 3 = .ok (.ldc2_w 417, 3) := by decide +kernel
theorem dX12_written_6 : decode cX12_written 6 = .ok (.invokestatic 154, 3) := by decide +kernel
theorem dX12_written_9 : decode cX12_written 9 = .ok (.ifCond .ne 5, 3) := by decide +kernel
theorem dX12_written_12 : decode cX12_written 12 = .ok (.iconst (-1), 1) := by decide +kernel
theorem dX12_written_13 : decode cX12_written 13 = .ok (.ireturn, 1) := by decide +kernel
theorem dX12_written_14 : decode cX12_written 14 = .ok (.aload_n 0, 1) := by decide +kernel
theorem dX12_written_15 : decode cX12_written 15 = .ok (.invokevirtual 273, 3) := by decide +kernel
theorem dX12_written_18 : decode cX12_written 18 = .ok (.ifCond .eq 6, 3) := by decide +kernel
theorem dX12_written_21 : decode cX12_written 21 = .ok (.bipush (-6), 2) := by decide +kernel
theorem dX12_written_23 : decode cX12_written 23 = .ok (.ireturn, 1) := by decide +kernel
theorem dX12_written_24 : decode cX12_written 24 = .ok (.aload_n 0, 1) := by decide +kernel
theorem dX12_written_25 : decode cX12_written 25 = .ok (.invokevirtual 414, 3) := by decide +kernel
theorem dX12_written_28 : decode cX12_written 28 = .ok (.iload_n 1, 1) := by decide +kernel
theorem dX12_written_29 : decode cX12_written 29 = .ok (.i2l, 1) := by decide +kernel
theorem dX12_written_30 : decode cX12_written 30 = .ok (.lconst 0, 1) := by decide +kernel
theorem dX12_written_31 : decode cX12_written 31 = .ok (.aload_n 0, 1) := by decide +kernel
theorem dX12_written_32 : decode cX12_written 32 = .ok (.getfield 408, 3) := by decide +kernel
theorem dX12_written_35 : decode cX12_written 35 = .ok (.iconst 1, 1) := by decide +kernel
theorem dX12_written_36 : decode cX12_written 36 = .ok (.isub, 1) := by decide +kernel
theorem dX12_written_37 : decode cX12_written 37 = .ok (.i2l, 1) := by decide +kernel
theorem dX12_written_38 : decode cX12_written 38 = .ok (.invokestatic 154, 3) := by decide +kernel
theorem dX12_written_41 : decode cX12_written 41 = .ok (.ifCond .ne 6, 3) := by decide +kernel
theorem dX12_written_44 : decode cX12_written 44 = .ok (.bipush (-9), 2) := by decide +kernel
theorem dX12_written_46 : decode cX12_written 46 = .ok (.ireturn, 1) := by decide +kernel
theorem dX12_written_47 : decode cX12_written 47 = .ok (.aload_n 0, 1) := by decide +kernel
theorem dX12_written_48 : decode cX12_written 48 = .ok (.getfield 142, 3) := by decide +kernel
theorem dX12_written_51 : decode cX12_written 51 = .ok (.iload_n 1, 1) := by decide +kernel
theorem dX12_written_52 : decode cX12_written 52 = .ok (.iaload, 1) := by decide +kernel
theorem dX12_written_53 : decode cX12_written 53 = .ok (.istore_n 3, 1) := by decide +kernel
theorem dX12_written_54 : decode cX12_written 54 = .ok (.aload_n 0, 1) := by decide +kernel
theorem dX12_written_55 : decode cX12_written 55 = .ok (.getfield 142, 3) := by decide +kernel
theorem dX12_written_58 : decode cX12_written 58 = .ok (.iload_n 1, 1) := by decide +kernel
theorem dX12_written_59 : decode cX12_written 59 = .ok (.iconst 1, 1) := by decide +kernel
theorem dX12_written_60 : decode cX12_written 60 = .ok (.iadd, 1) := by decide +kernel
theorem dX12_written_61 : decode cX12_written 61 = .ok (.iaload, 1) := by decide +kernel
theorem dX12_written_62 : decode cX12_written 62 = .ok (.iload_n 3, 1) := by decide +kernel
theorem dX12_written_63 : decode cX12_written 63 = .ok (.isub, 1) := by decide +kernel
theorem dX12_written_64 : decode cX12_written 64 = .ok (.istore 4, 2) := by decide +kernel
theorem dX12_written_66 : decode cX12_written 66 = .ok (.aload_n 0, 1) := by decide +kernel
theorem dX12_written_67 : decode cX12_written 67 = .ok (.getfield 124, 3) := by decide +kernel
theorem dX12_written_70 : decode cX12_written 70 = .ok (.iload_n 3, 1) := by decide +kernel
theorem dX12_written_71 : decode cX12_written 71 = .ok (.iaload, 1) := by decide +kernel
theorem dX12_written_72 : decode cX12_written 72 = .ok (.istore 5, 2) := by decide +kernel
theorem dX12_written_74 : decode cX12_written 74 = .ok (.iload_n 2, 1) := by decide +kernel
theorem dX12_written_75 : decode cX12_written 75 = .ok (.ifCond .eq 9, 3) := by decide +kernel
theorem dX12_written_78 : decode cX12_written 78 = .ok (.iload_n 2, 1) := by decide +kernel
theorem dX12_written_79 : decode cX12_written 79 = .ok (.bipush 9, 2) := by decide +kernel
theorem dX12_written_81 : decode cX12_written 81 = .ok (.if_icmp .ne 28, 3) := by decide +kernel
theorem dX12_written_84 : decode cX12_written 84 = .ok (.aload_n 0, 1) := by decide +kernel
theorem dX12_written_85 : decode cX12_written 85 = .ok (.iload_n 2, 1) := by decide +kernel
theorem dX12_written_86 : decode cX12_written 86 = .ok (.ifCond .ne 14, 3) := by decide +kernel
theorem dX12_written_89 : decode cX12_written 89 = .ok (.aload_n 0, 1) := by decide +kernel
theorem dX12_written_90 : decode cX12_written 90 = .ok (.getfield 78, 3) := by decide +kernel
theorem dX12_written_93 : decode cX12_written 93 = .ok (.iload 5, 2) := by decide +kernel
theorem dX12_written_95 : decode cX12_written 95 = .ok (.iaload, 1) := by decide +kernel
theorem dX12_written_96 : decode cX12_written 96 = .ok (.i2l, 1) := by decide +kernel
theorem dX12_written_97 : decode cX12_written 97 = .ok (.goto 6, 3) := by decide +kernel
theorem dX12_written_100 : decode cX12_written 100 = .ok (.iload 4, 2) := by decide +kernel
theorem dX12_written_102 : decode cX12_written 102 = .ok (.i2l, 1) := by decide +kernel
theorem dX12_written_103 : decode cX12_written 103 = .ok (.putfield 228, 3) := by decide +kernel
theorem dX12_written_106 : decode cX12_written 106 = .ok (.goto 75, 3) := by decide +kernel
theorem dX12_written_109 : decode cX12_written 109 = .ok (.iload_n 2, 1) := by decide +kernel
theorem dX12_written_110 : decode cX12_written 110 = .ok (.iconst 5, 1) := by decide +kernel
theorem dX12_written_111 : decode cX12_written 111 = .ok (.if_icmp .ge 23, 3) := by decide +kernel
theorem dX12_written_114 : decode cX12_written 114 = .ok (.aload_n 0, 1) := by decide +kernel
theorem dX12_written_115 : decode cX12_written 115 = .ok (.aload_n 0, 1) := by decide +kernel
theorem dX12_written_116 : decode cX12_written 116 = .ok (.getfield 81, 3) := by decide +kernel
theorem dX12_written_119 : decode cX12_written 119 = .ok (.iconst 4, 1) := by decide +kernel
theorem dX12_written_120 : decode cX12_written 120 = .ok (.iload 5, 2) := by decide +kernel
theorem dX12_written_122 : decode cX12_written 122 = .ok (.imul, 1) := by decide +kernel
theorem dX12_written_123 : decode cX12_written 123 = .ok (.iload_n 2, 1) := by decide +kernel
theorem dX12_written_124 : decode cX12_written 124 = .ok (.iadd, 1) := by decide +kernel
theorem dX12_written_125 : decode cX12_written 125 = .ok (.iconst 1, 1) := by decide +kernel
theorem dX12_written_126 : decode cX12_written 126 = .ok (.isub, 1) := by decide +kernel
theorem dX12_written_127 : decode cX12_written 127 = .ok (.laload, 1) := by decide +kernel
theorem dX12_written_128 : decode cX12_written 128 = .ok (.putfield 228, 3) := by decide +kernel
theorem dX12_written_131 : decode cX12_written 131 = .ok (.goto 50, 3) := by decide +kernel
theorem dX12_written_134 : decode cX12_written 134 = .ok (.aload_n 0, 1) := by decide +kernel
theorem dX12_written_135 : decode cX12_written 135 = .ok (.iload 4, 2) := by decide +kernel
theorem dX12_written_137 : decode cX12_written 137 = .ok (.iconst 1, 1) := by decide +kernel
theorem dX12_written_138 : decode cX12_written 138 = .ok (.if_icmp .ne 7, 3) := by decide +kernel
theorem dX12_written_141 : decode cX12_written 141 = .ok (.lconst 0, 1) := by decide +kernel
theorem dX12_written_142 : decode cX12_written 142 = .ok (.goto 36, 3) := by decide +kernel
theorem dX12_written_145 : decode cX12_written 145 = .ok (.aload_n 0, 1) := by decide +kernel
theorem dX12_written_146 : decode cX12_written 146 = .ok (.getfield 81, 3) := by decide +kernel
theorem dX12_written_149 : decode cX12_written 149 = .ok (.iconst 4, 1) := by decide +kernel
theorem dX12_written_150 : decode cX12_written 150 = .ok (.aload_n 0, 1) := by decide +kernel
theorem dX12_written_151 : decode cX12_written 151 = .ok (.getfield 124, 3) := by decide +kernel
theorem dX12_written_154 : decode cX12_written 154 = .ok (.iload_n 3, 1) := by decide +kernel
theorem dX12_written_155 : decode cX12_written 155 = .ok (.iconst 1, 1) := by decide +kernel
theorem dX12_written_156 : decode cX12_written 156 = .ok (.iadd, 1) := by decide +kernel
theorem dX12_written_157 : decode cX12_written 157 = .ok (.iaload, 1) := by decide +kernel
theorem dX12_written_158 : decode cX12_written 158 = .ok (.imul, 1) := by decide +kernel
theorem dX12_written_159 : decode cX12_written 159 = .ok (.iload_n 2, 1) := by decide +kernel
theorem dX12_written_160 : decode cX12_written 160 = .ok (.iadd, 1) := by decide +kernel
theorem dX12_written_161 : decode cX12_written 161 = .ok (.iconst 5, 1) := by decide +kernel
theorem dX12_written_162 : decode cX12_written 162 = .ok (.isub, 1) := by decide +kernel
theorem dX12_written_163 : decode cX12_written 163 = .ok (.laload, 1) := by decide +kernel
theorem dX12_written_164 : decode cX12_written 164 = .ok (.aload_n 0, 1) := by decide +kernel
theorem dX12_written_165 : decode cX12_written 165 = .ok (.getfield 81, 3) := by decide +kernel
theorem dX12_written_168 : decode cX12_written 168 = .ok (.iconst 4, 1) := by decide +kernel
theorem dX12_written_169 : decode cX12_written 169 = .ok (.iload 5, 2) := by decide +kernel
theorem dX12_written_171 : decode cX12_written 171 = .ok (.imul, 1) := by decide +kernel
theorem dX12_written_172 : decode cX12_written 172 = .ok (.iload_n 2, 1) := by decide +kernel
theorem dX12_written_173 : decode cX12_written 173 = .ok (.iadd, 1) := by decide +kernel
theorem dX12_written_174 : decode cX12_written 174 = .ok (.iconst 5, 1) := by decide +kernel
theorem dX12_written_175 : decode cX12_written 175 = .ok (.isub, 1) := by decide +kernel
theorem dX12_written_176 : decode cX12_written 176 = .ok (.laload, 1) := by decide +kernel
theorem dX12_written_177 : decode cX12_written 177 = .ok (.lsub, 1) := by decide +kernel
theorem dX12_written_178 : decode cX12_written 178 = .ok (.putfield 228, 3) := by decide +kernel
theorem dX12_written_181 : decode cX12_written 181 = .ok (.iconst 1, 1) := by decide +kernel
theorem dX12_written_182 : decode cX12_written 182 = .ok (.ireturn, 1) := by decide +kernel
theorem dX12_count_0 : decode cX12_count 0 = .ok (.iload_n 1, 1) := by decide +kernel
theorem dX12_count_1 : decode cX12_count 1 = .ok (.tableswitch 60 0 4 #[35, 40, 45, 50, 55], 35) := by decide +kernel
theorem dX12_count_36 : decode cX12_count 36 = .ok (.aload_n 0, 1) := by decide +kernel
theorem dX12_count_37 : decode cX12_count 37 = .ok (.getfield 145, 3) := by decide +kernel
theorem dX12_count_40 : decode cX12_count 40 = .ok (.ireturn, 1) := by decide +kernel
theorem dX12_count_41 : decode cX12_count 41 = .ok (.aload_n 0, 1) := by decide +kernel
theorem dX12_count_42 : decode cX12_count 42 = .ok (.getfield 170, 3) := by decide +kernel
theorem dX12_count_45 : decode cX12_count 45 = .ok (.ireturn, 1) := by decide +kernel
theorem dX12_count_46 : decode cX12_count 46 = .ok (.aload_n 0, 1) := by decide +kernel
theorem dX12_count_47 : decode cX12_count 47 = .ok (.getfield 201, 3) := by decide +kernel
theorem dX12_count_50 : decode cX12_count 50 = .ok (.ireturn, 1) := by decide +kernel
theorem dX12_count_51 : decode cX12_count 51 = .ok (.aload_n 0, 1) := by decide +kernel
theorem dX12_count_52 : decode cX12_count 52 = .ok (.getfield 204, 3) := by decide +kernel
theorem dX12_count_55 : decode cX12_count 55 = .ok (.ireturn, 1) := by decide +kernel
theorem dX12_count_56 : decode cX12_count 56 = .ok (.aload_n 0, 1) := by decide +kernel
theorem dX12_count_57 : decode cX12_count 57 = .ok (.getfield 298, 3) := by decide +kernel
theorem dX12_count_60 : decode cX12_count 60 = .ok (.ireturn, 1) := by decide +kernel
theorem dX12_count_61 : decode cX12_count 61 = .ok (.iconst (-1), 1) := by decide +kernel
theorem dX12_count_62 : decode cX12_count 62 = .ok (.ireturn, 1) := by decide +kernel
theorem dX12_digest_0 : decode cX12_digest 0 = .ok (.ldc2_w 419, 3) := by decide +kernel
theorem dX12_digest_3 : decode cX12_digest 3 = .ok (.lstore_n 1, 1) := by decide +kernel
theorem dX12_digest_4 : decode cX12_digest 4 = .ok (.iconst 0, 1) := by decide +kernel
theorem dX12_digest_5 : decode cX12_digest 5 = .ok (.istore_n 3, 1) := by decide +kernel
theorem dX12_digest_6 : decode cX12_digest 6 = .ok (.iload_n 3, 1) := by decide +kernel
theorem dX12_digest_7 : decode cX12_digest 7 = .ok (.iconst 3, 1) := by decide +kernel
theorem dX12_digest_8 : decode cX12_digest 8 = .ok (.if_icmp .ge 23, 3) := by decide +kernel
theorem dX12_digest_11 : decode cX12_digest 11 = .ok (.ldc2_w 421, 3) := by decide +kernel
theorem dX12_digest_14 : decode cX12_digest 14 = .ok (.lload_n 1, 1) := by decide +kernel
theorem dX12_digest_15 : decode cX12_digest 15 = .ok (.lmul, 1) := by decide +kernel
theorem dX12_digest_16 : decode cX12_digest 16 = .ok (.aload_n 0, 1) := by decide +kernel
theorem dX12_digest_17 : decode cX12_digest 17 = .ok (.getfield 13, 3) := by decide +kernel
theorem dX12_digest_20 : decode cX12_digest 20 = .ok (.iload_n 3, 1) := by decide +kernel
theorem dX12_digest_21 : decode cX12_digest 21 = .ok (.iaload, 1) := by decide +kernel
theorem dX12_digest_22 : decode cX12_digest 22 = .ok (.i2l, 1) := by decide +kernel
theorem dX12_digest_23 : decode cX12_digest 23 = .ok (.ladd, 1) := by decide +kernel
theorem dX12_digest_24 : decode cX12_digest 24 = .ok (.lstore_n 1, 1) := by decide +kernel
theorem dX12_digest_25 : decode cX12_digest 25 = .ok (.iinc 3 1, 3) := by decide +kernel
theorem dX12_digest_28 : decode cX12_digest 28 = .ok (.goto (-22), 3) := by decide +kernel
theorem dX12_digest_31 : decode cX12_digest 31 = .ok (.iconst 0, 1) := by decide +kernel
theorem dX12_digest_32 : decode cX12_digest 32 = .ok (.istore_n 3, 1) := by decide +kernel
theorem dX12_digest_33 : decode cX12_digest 33 = .ok (.iload_n 3, 1) := by decide +kernel
theorem dX12_digest_34 : decode cX12_digest 34 = .ok (.aload_n 0, 1) := by decide +kernel
theorem dX12_digest_35 : decode cX12_digest 35 = .ok (.getfield 170, 3) := by decide +kernel
theorem dX12_digest_38 : decode cX12_digest 38 = .ok (.if_icmp .ge 39, 3) := by decide +kernel
theorem dX12_digest_41 : decode cX12_digest 41 = .ok (.iconst 0, 1) := by decide +kernel
theorem dX12_digest_42 : decode cX12_digest 42 = .ok (.istore 4, 2) := by decide +kernel
theorem dX12_digest_44 : decode cX12_digest 44 = .ok (.iload 4, 2) := by decide +kernel
theorem dX12_digest_46 : decode cX12_digest 46 = .ok (.iconst 5, 1) := by decide +kernel
theorem dX12_digest_47 : decode cX12_digest 47 = .ok (.if_icmp .ge 24, 3) := by decide +kernel
theorem dX12_digest_50 : decode cX12_digest 50 = .ok (.ldc2_w 421, 3) := by decide +kernel
theorem dX12_digest_53 : decode cX12_digest 53 = .ok (.lload_n 1, 1) := by decide +kernel
theorem dX12_digest_54 : decode cX12_digest 54 = .ok (.lmul, 1) := by decide +kernel
theorem dX12_digest_55 : decode cX12_digest 55 = .ok (.aload_n 0, 1) := by decide +kernel
theorem dX12_digest_56 : decode cX12_digest 56 = .ok (.iload_n 3, 1) := by decide +kernel
theorem dX12_digest_57 : decode cX12_digest 57 = .ok (.iload 4, 2) := by decide +kernel
theorem dX12_digest_59 : decode cX12_digest 59 = .ok (.invokevirtual 423, 3) := by decide +kernel
theorem dX12_digest_62 : decode cX12_digest 62 = .ok (.i2l, 1) := by decide +kernel
theorem dX12_digest_63 : decode cX12_digest 63 = .ok (.ladd, 1) := by decide +kernel
theorem dX12_digest_64 : decode cX12_digest 64 = .ok (.lstore_n 1, 1) := by decide +kernel
theorem dX12_digest_65 : decode cX12_digest 65 = .ok (.iinc 4 1, 3) := by decide +kernel
theorem dX12_digest_68 : decode cX12_digest 68 = .ok (.goto (-24), 3) := by decide +kernel
theorem dX12_digest_71 : decode cX12_digest 71 = .ok (.iinc 3 1, 3) := by decide +kernel
theorem dX12_digest_74 : decode cX12_digest 74 = .ok (.goto (-41), 3) := by decide +kernel
theorem dX12_digest_77 : decode cX12_digest 77 = .ok (.iconst 0, 1) := by decide +kernel
theorem dX12_digest_78 : decode cX12_digest 78 = .ok (.istore_n 3, 1) := by decide +kernel
theorem dX12_digest_79 : decode cX12_digest 79 = .ok (.iload_n 3, 1) := by decide +kernel
theorem dX12_digest_80 : decode cX12_digest 80 = .ok (.aload_n 0, 1) := by decide +kernel
theorem dX12_digest_81 : decode cX12_digest 81 = .ok (.getfield 170, 3) := by decide +kernel
theorem dX12_digest_84 : decode cX12_digest 84 = .ok (.if_icmp .ge 77, 3) := by decide +kernel
theorem dX12_digest_87 : decode cX12_digest 87 = .ok (.iconst 0, 1) := by decide +kernel
theorem dX12_digest_88 : decode cX12_digest 88 = .ok (.istore 4, 2) := by decide +kernel
theorem dX12_digest_90 : decode cX12_digest 90 = .ok (.iload 4, 2) := by decide +kernel
theorem dX12_digest_92 : decode cX12_digest 92 = .ok (.aload_n 0, 1) := by decide +kernel
theorem dX12_digest_93 : decode cX12_digest 93 = .ok (.getfield 99, 3) := by decide +kernel
theorem dX12_digest_96 : decode cX12_digest 96 = .ok (.iload_n 3, 1) := by decide +kernel
theorem dX12_digest_97 : decode cX12_digest 97 = .ok (.iaload, 1) := by decide +kernel
theorem dX12_digest_98 : decode cX12_digest 98 = .ok (.if_icmp .ge 57, 3) := by decide +kernel
theorem dX12_digest_101 : decode cX12_digest 101 = .ok (.aload_n 0, 1) := by decide +kernel
theorem dX12_digest_102 : decode cX12_digest 102 = .ok (.getfield 26, 3) := by decide +kernel
theorem dX12_digest_105 : decode cX12_digest 105 = .ok (.iload_n 3, 1) := by decide +kernel
theorem dX12_digest_106 : decode cX12_digest 106 = .ok (.iaload, 1) := by decide +kernel
theorem dX12_digest_107 : decode cX12_digest 107 = .ok (.iconst 3, 1) := by decide +kernel
theorem dX12_digest_108 : decode cX12_digest 108 = .ok (.if_icmp .ne 47, 3) := by decide +kernel
theorem dX12_digest_111 : decode cX12_digest 111 = .ok (.iconst 0, 1) := by decide +kernel
theorem dX12_digest_112 : decode cX12_digest 112 = .ok (.istore 5, 2) := by decide +kernel
theorem dX12_digest_114 : decode cX12_digest 114 = .ok (.iload 5, 2) := by decide +kernel
theorem dX12_digest_116 : decode cX12_digest 116 = .ok (.bipush 7, 2) := by decide +kernel
theorem dX12_digest_118 : decode cX12_digest 118 = .ok (.if_icmp .ge 31, 3) := by decide +kernel
theorem dX12_digest_121 : decode cX12_digest 121 = .ok (.ldc2_w 421, 3) := by decide +kernel
theorem dX12_digest_124 : decode cX12_digest 124 = .ok (.lload_n 1, 1) := by decide +kernel
theorem dX12_digest_125 : decode cX12_digest 125 = .ok (.lmul, 1) := by decide +kernel
theorem dX12_digest_126 : decode cX12_digest 126 = .ok (.aload_n 0, 1) := by decide +kernel
theorem dX12_digest_127 : decode cX12_digest 127 = .ok (.getfield 102, 3) := by decide +kernel
theorem dX12_digest_130 : decode cX12_digest 130 = .ok (.iload_n 3, 1) := by decide +kernel
theorem dX12_digest_131 : decode cX12_digest 131 = .ok (.iload 4, 2) := by decide +kernel
theorem dX12_digest_133 : decode cX12_digest 133 = .ok (.invokestatic 295, 3) := by decide +kernel
theorem dX12_digest_136 : decode cX12_digest 136 = .ok (.iload 5, 2) := by decide +kernel
theorem dX12_digest_138 : decode cX12_digest 138 = .ok (.iadd, 1) := by decide +kernel
theorem dX12_digest_139 : decode cX12_digest 139 = .ok (.iaload, 1) := by decide +kernel
theorem dX12_digest_140 : decode cX12_digest 140 = .ok (.i2l, 1) := by decide +kernel
theorem dX12_digest_141 : decode cX12_digest 141 = .ok (.ladd, 1) := by decide +kernel
theorem dX12_digest_142 : decode cX12_digest 142 = .ok (.lstore_n 1, 1) := by decide +kernel
theorem dX12_digest_143 : decode cX12_digest 143 = .ok (.iinc 5 1, 3) := by decide +kernel
theorem dX12_digest_146 : decode cX12_digest 146 = .ok (.goto (-32), 3) := by decide +kernel
theorem dX12_digest_149 : decode cX12_digest 149 = .ok (.iinc 4 1, 3) := by decide +kernel
theorem dX12_digest_152 : decode cX12_digest 152 = .ok (.goto (-62), 3) := by decide +kernel
theorem dX12_digest_155 : decode cX12_digest 155 = .ok (.iinc 3 1, 3) := by decide +kernel
theorem dX12_digest_158 : decode cX12_digest 158 = .ok (.goto (-79), 3) := by decide +kernel
theorem dX12_digest_161 : decode cX12_digest 161 = .ok (.iconst 0, 1) := by decide +kernel
theorem dX12_digest_162 : decode cX12_digest 162 = .ok (.istore_n 3, 1) := by decide +kernel
theorem dX12_digest_163 : decode cX12_digest 163 = .ok (.iload_n 3, 1) := by decide +kernel
theorem dX12_digest_164 : decode cX12_digest 164 = .ok (.aload_n 0, 1) := by decide +kernel
theorem dX12_digest_165 : decode cX12_digest 165 = .ok (.getfield 204, 3) := by decide +kernel
theorem dX12_digest_168 : decode cX12_digest 168 = .ok (.if_icmp .ge 103, 3) := by decide +kernel
theorem dX12_digest_171 : decode cX12_digest 171 = .ok (.iconst 0, 1) := by decide +kernel
theorem dX12_digest_172 : decode cX12_digest 172 = .ok (.istore 4, 2) := by decide +kernel
theorem dX12_digest_174 : decode cX12_digest 174 = .ok (.iload 4, 2) := by decide +kernel
theorem dX12_digest_176 : decode cX12_digest 176 = .ok (.aload_n 0, 1) := by decide +kernel
theorem dX12_digest_177 : decode cX12_digest 177 = .ok (.getfield 69, 3) := by decide +kernel
theorem dX12_digest_180 : decode cX12_digest 180 = .ok (.iload_n 3, 1) := by decide +kernel
theorem dX12_digest_181 : decode cX12_digest 181 = .ok (.iaload, 1) := by decide +kernel
theorem dX12_digest_182 : decode cX12_digest 182 = .ok (.if_icmp .ge 83, 3) := by decide +kernel
theorem dX12_digest_185 : decode cX12_digest 185 = .ok (.aload_n 0, 1) := by decide +kernel
theorem dX12_digest_186 : decode cX12_digest 186 = .ok (.getfield 72, 3) := by decide +kernel
theorem dX12_digest_189 : decode cX12_digest 189 = .ok (.bipush 20, 2) := by decide +kernel
theorem dX12_digest_191 : decode cX12_digest 191 = .ok (.iload_n 3, 1) := by decide +kernel
theorem dX12_digest_192 : decode cX12_digest 192 = .ok (.imul, 1) := by decide +kernel
theorem dX12_digest_193 : decode cX12_digest 193 = .ok (.iload 4, 2) := by decide +kernel
theorem dX12_digest_195 : decode cX12_digest 195 = .ok (.iadd, 1) := by decide +kernel
theorem dX12_digest_196 : decode cX12_digest 196 = .ok (.iaload, 1) := by decide +kernel
theorem dX12_digest_197 : decode cX12_digest 197 = .ok (.istore 5, 2) := by decide +kernel
theorem dX12_digest_199 : decode cX12_digest 199 = .ok (.ldc2_w 421, 3) := by decide +kernel
theorem dX12_digest_202 : decode cX12_digest 202 = .ok (.lload_n 1, 1) := by decide +kernel
theorem dX12_digest_203 : decode cX12_digest 203 = .ok (.lmul, 1) := by decide +kernel
theorem dX12_digest_204 : decode cX12_digest 204 = .ok (.iload 5, 2) := by decide +kernel
theorem dX12_digest_206 : decode cX12_digest 206 = .ok (.bipush (-9), 2) := by decide +kernel
theorem dX12_digest_208 : decode cX12_digest 208 = .ok (.if_icmp .ne 7, 3) := by decide +kernel
theorem dX12_digest_211 : decode cX12_digest 211 = .ok (.iconst (-1), 1) := by decide +kernel
theorem dX12_digest_212 : decode cX12_digest 212 = .ok (.goto 5, 3) := by decide +kernel
theorem dX12_digest_215 : decode cX12_digest 215 = .ok (.iload 5, 2) := by decide +kernel
theorem dX12_digest_217 : decode cX12_digest 217 = .ok (.i2l, 1) := by decide +kernel
theorem dX12_digest_218 : decode cX12_digest 218 = .ok (.ladd, 1) := by decide +kernel
theorem dX12_digest_219 : decode cX12_digest 219 = .ok (.lstore_n 1, 1) := by decide +kernel
theorem dX12_digest_220 : decode cX12_digest 220 = .ok (.iconst 0, 1) := by decide +kernel
theorem dX12_digest_221 : decode cX12_digest 221 = .ok (.istore 6, 2) := by decide +kernel
theorem dX12_digest_223 : decode cX12_digest 223 = .ok (.iload 6, 2) := by decide +kernel
theorem dX12_digest_225 : decode cX12_digest 225 = .ok (.iload 5, 2) := by decide +kernel
theorem dX12_digest_227 : decode cX12_digest 227 = .ok (.if_icmp .ge 32, 3) := by decide +kernel
theorem dX12_digest_230 : decode cX12_digest 230 = .ok (.ldc2_w 421, 3) := by decide +kernel
theorem dX12_digest_233 : decode cX12_digest 233 = .ok (.lload_n 1, 1) := by decide +kernel
theorem dX12_digest_234 : decode cX12_digest 234 = .ok (.lmul, 1) := by decide +kernel
theorem dX12_digest_235 : decode cX12_digest 235 = .ok (.aload_n 0, 1) := by decide +kernel
theorem dX12_digest_236 : decode cX12_digest 236 = .ok (.getfield 75, 3) := by decide +kernel
theorem dX12_digest_239 : decode cX12_digest 239 = .ok (.aload_n 0, 1) := by decide +kernel
theorem dX12_digest_240 : decode cX12_digest 240 = .ok (.iload_n 3, 1) := by decide +kernel
theorem dX12_digest_241 : decode cX12_digest 241 = .ok (.iload 4, 2) := by decide +kernel
theorem dX12_digest_243 : decode cX12_digest 243 = .ok (.i2l, 1) := by decide +kernel
theorem dX12_digest_244 : decode cX12_digest 244 = .ok (.iload 6, 2) := by decide +kernel
theorem dX12_digest_246 : decode cX12_digest 246 = .ok (.i2l, 1) := by decide +kernel
theorem dX12_digest_247 : decode cX12_digest 247 = .ok (.invokevirtual 221, 3) := by decide +kernel
theorem dX12_digest_250 : decode cX12_digest 250 = .ok (.laload, 1) := by decide +kernel
theorem dX12_digest_251 : decode cX12_digest 251 = .ok (.ladd, 1) := by decide +kernel
theorem dX12_digest_252 : decode cX12_digest 252 = .ok (.lstore_n 1, 1) := by decide +kernel
theorem dX12_digest_253 : decode cX12_digest 253 = .ok (.iinc 6 1, 3) := by decide +kernel
theorem dX12_digest_256 : decode cX12_digest 256 = .ok (.goto (-33), 3) := by decide +kernel
theorem dX12_digest_259 : decode cX12_digest 259 = .ok (.iinc 4 1, 3) := by decide +kernel
theorem dX12_digest_262 : decode cX12_digest 262 = .ok (.goto (-88), 3) := by decide +kernel
theorem dX12_digest_265 : decode cX12_digest 265 = .ok (.iinc 3 1, 3) := by decide +kernel
theorem dX12_digest_268 : decode cX12_digest 268 = .ok (.goto (-105), 3) := by decide +kernel
theorem dX12_digest_271 : decode cX12_digest 271 = .ok (.lload_n 1, 1) := by decide +kernel
theorem dX12_digest_272 : decode cX12_digest 272 = .ok (.lreturn, 1) := by decide +kernel
