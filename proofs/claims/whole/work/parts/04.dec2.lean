theorem dX5_init_0 : decode cX5_init 0 = .ok (.aload_n 0, 1) := by decide +kernel
theorem dX5_init_1 : decode cX5_init 1 = .ok (.invokespecial 3, 3) := by decide +kernel
theorem dX5_init_4 : decode cX5_init 4 = .ok (.aload_n 0, 1) := by decide +kernel
theorem dX5_init_5 : decode cX5_init 5 = .ok (.aload_n 1, 1) := by decide +kernel
theorem dX5_init_6 : decode cX5_init 6 = .ok (.putfield 9, 3) := by decide +kernel
theorem dX5_init_9 : decode cX5_init 9 = .ok (.aload_n 0, 1) := by decide +kernel
theorem dX5_init_10 : decode cX5_init 10 = .ok (.aload_n 2, 1) := by decide +kernel
theorem dX5_init_11 : decode cX5_init 11 = .ok (.putfield 15, 3) := by decide +kernel
theorem dX5_init_14 : decode cX5_init 14 = .ok (.aload_n 0, 1) := by decide +kernel
theorem dX5_init_15 : decode cX5_init 15 = .ok (.bipush 12, 2) := by decide +kernel
theorem dX5_init_17 : decode cX5_init 17 = .ok (.newarray .int, 2) := by decide +kernel
theorem dX5_init_19 : decode cX5_init 19 = .ok (.putfield 19, 3) := by decide +kernel
theorem dX5_init_22 : decode cX5_init 22 = .ok (.aload_n 0, 1) := by decide +kernel
theorem dX5_init_23 : decode cX5_init 23 = .ok (.bipush 12, 2) := by decide +kernel
theorem dX5_init_25 : decode cX5_init 25 = .ok (.newarray .int, 2) := by decide +kernel
theorem dX5_init_27 : decode cX5_init 27 = .ok (.putfield 23, 3) := by decide +kernel
theorem dX5_init_30 : decode cX5_init 30 = .ok (.aload_n 0, 1) := by decide +kernel
theorem dX5_init_31 : decode cX5_init 31 = .ok (.bipush 12, 2) := by decide +kernel
theorem dX5_init_33 : decode cX5_init 33 = .ok (.newarray .int, 2) := by decide +kernel
theorem dX5_init_35 : decode cX5_init 35 = .ok (.putfield 26, 3) := by decide +kernel
theorem dX5_init_38 : decode cX5_init 38 = .ok (.return_, 1) := by decide +kernel
theorem dX5_mayBeFrom_0 : decode cX5_mayBeFrom 0 = .ok (.aload_n 0, 1) := by decide +kernel
theorem dX5_mayBeFrom_1 : decode cX5_mayBeFrom 1 = .ok (.getfield 15, 3) := by decide +kernel
theorem dX5_mayBeFrom_4 : decode cX5_mayBeFrom 4 = .ok (.invokevirtual 29, 3) := by decide +kernel
theorem dX5_mayBeFrom_7 : decode cX5_mayBeFrom 7 = .ok (.aload_n 0, 1) := by decide +kernel
theorem dX5_mayBeFrom_8 : decode cX5_mayBeFrom 8 = .ok (.iload_n 1, 1) := by decide +kernel
theorem dX5_mayBeFrom_9 : decode cX5_mayBeFrom 9 = .ok (.invokevirtual 34, 3) := by decide +kernel
theorem dX5_mayBeFrom_12 : decode cX5_mayBeFrom 12 = .ok (.ireturn, 1) := by decide +kernel
theorem dX5_longestRow_0 : decode cX5_longestRow 0 = .ok (.aload_n 0, 1) := by decide +kernel
theorem dX5_longestRow_1 : decode cX5_longestRow 1 = .ok (.getfield 15, 3) := by decide +kernel
theorem dX5_longestRow_4 : decode cX5_longestRow 4 = .ok (.invokevirtual 29, 3) := by decide +kernel
theorem dX5_longestRow_7 : decode cX5_longestRow 7 = .ok (.iconst 0, 1) := by decide +kernel
theorem dX5_longestRow_8 : decode cX5_longestRow 8 = .ok (.istore_n 2, 1) := by decide +kernel
theorem dX5_longestRow_9 : decode cX5_longestRow 9 = .ok (.iload_n 2, 1) := by decide +kernel
theorem dX5_longestRow_10 : decode cX5_longestRow 10 = .ok (.aload_n 0, 1) := by decide +kernel
theorem dX5_longestRow_11 : decode cX5_longestRow 11 = .ok (.getfield 9, 3) := by decide +kernel
theorem dX5_longestRow_14 : decode cX5_longestRow 14 = .ok (.getfield 38, 3) := by decide +kernel
theorem dX5_longestRow_17 : decode cX5_longestRow 17 = .ok (.if_icmp .ge 20, 3) := by decide +kernel
theorem dX5_longestRow_20 : decode cX5_longestRow 20 = .ok (.aload_n 0, 1) := by decide +kernel
theorem dX5_longestRow_21 : decode cX5_longestRow 21 = .ok (.getfield 19, 3) := by decide +kernel
theorem dX5_longestRow_24 : decode cX5_longestRow 24 = .ok (.iload_n 2, 1) := by decide +kernel
theorem dX5_longestRow_25 : decode cX5_longestRow 25 = .ok (.aload_n 0, 1) := by decide +kernel
theorem dX5_longestRow_26 : decode cX5_longestRow 26 = .ok (.iload_n 2, 1) := by decide +kernel
theorem dX5_longestRow_27 : decode cX5_longestRow 27 = .ok (.invokevirtual 34, 3) := by decide +kernel
theorem dX5_longestRow_30 : decode cX5_longestRow 30 = .ok (.iastore, 1) := by decide +kernel
theorem dX5_longestRow_31 : decode cX5_longestRow 31 = .ok (.iinc 2 1, 3) := by decide +kernel
theorem dX5_longestRow_34 : decode cX5_longestRow 34 = .ok (.goto (-25), 3) := by decide +kernel
theorem dX5_longestRow_37 : decode cX5_longestRow 37 = .ok (.aload_n 0, 1) := by decide +kernel
theorem dX5_longestRow_38 : decode cX5_longestRow 38 = .ok (.invokevirtual 44, 3) := by decide +kernel
theorem dX5_longestRow_41 : decode cX5_longestRow 41 = .ok (.aload_n 0, 1) := by decide +kernel
theorem dX5_longestRow_42 : decode cX5_longestRow 42 = .ok (.invokevirtual 47, 3) := by decide +kernel
theorem dX5_longestRow_45 : decode cX5_longestRow 45 = .ok (.iload_n 1, 1) := by decide +kernel
theorem dX5_longestRow_46 : decode cX5_longestRow 46 = .ok (.iconst (-1), 1) := by decide +kernel
theorem dX5_longestRow_47 : decode cX5_longestRow 47 = .ok (.if_icmp .ne 8, 3) := by decide +kernel
theorem dX5_longestRow_50 : decode cX5_longestRow 50 = .ok (.aload_n 0, 1) := by decide +kernel
theorem dX5_longestRow_51 : decode cX5_longestRow 51 = .ok (.getfield 50, 3) := by decide +kernel
theorem dX5_longestRow_54 : decode cX5_longestRow 54 = .ok (.ireturn, 1) := by decide +kernel
theorem dX5_longestRow_55 : decode cX5_longestRow 55 = .ok (.iload_n 1, 1) := by decide +kernel
theorem dX5_longestRow_56 : decode cX5_longestRow 56 = .ok (.bipush (-2), 2) := by decide +kernel
theorem dX5_longestRow_58 : decode cX5_longestRow 58 = .ok (.if_icmp .ne 49, 3) := by decide +kernel
theorem dX5_longestRow_61 : decode cX5_longestRow 61 = .ok (.aload_n 0, 1) := by decide +kernel
theorem dX5_longestRow_62 : decode cX5_longestRow 62 = .ok (.getfield 50, 3) := by decide +kernel
theorem dX5_longestRow_65 : decode cX5_longestRow 65 = .ok (.ifCond .ne 7, 3) := by decide +kernel
theorem dX5_longestRow_68 : decode cX5_longestRow 68 = .ok (.iconst 0, 1) := by decide +kernel
theorem dX5_longestRow_69 : decode cX5_longestRow 69 = .ok (.goto 37, 3) := by decide +kernel
theorem dX5_longestRow_72 : decode cX5_longestRow 72 = .ok (.aload_n 0, 1) := by decide +kernel
theorem dX5_longestRow_73 : decode cX5_longestRow 73 = .ok (.getfield 9, 3) := by decide +kernel
theorem dX5_longestRow_76 : decode cX5_longestRow 76 = .ok (.getfield 53, 3) := by decide +kernel
theorem dX5_longestRow_79 : decode cX5_longestRow 79 = .ok (.aload_n 0, 1) := by decide +kernel
theorem dX5_longestRow_80 : decode cX5_longestRow 80 = .ok (.getfield 26, 3) := by decide +kernel
theorem dX5_longestRow_83 : decode cX5_longestRow 83 = .ok (.iconst 0, 1) := by decide +kernel
theorem dX5_longestRow_84 : decode cX5_longestRow 84 = .ok (.iaload, 1) := by decide +kernel
theorem dX5_longestRow_85 : decode cX5_longestRow 85 = .ok (.iaload, 1) := by decide +kernel
theorem dX5_longestRow_86 : decode cX5_longestRow 86 = .ok (.aload_n 0, 1) := by decide +kernel
theorem dX5_longestRow_87 : decode cX5_longestRow 87 = .ok (.getfield 9, 3) := by decide +kernel
theorem dX5_longestRow_90 : decode cX5_longestRow 90 = .ok (.getfield 53, 3) := by decide +kernel
theorem dX5_longestRow_93 : decode cX5_longestRow 93 = .ok (.aload_n 0, 1) := by decide +kernel
theorem dX5_longestRow_94 : decode cX5_longestRow 94 = .ok (.getfield 26, 3) := by decide +kernel
theorem dX5_longestRow_97 : decode cX5_longestRow 97 = .ok (.aload_n 0, 1) := by decide +kernel
theorem dX5_longestRow_98 : decode cX5_longestRow 98 = .ok (.getfield 50, 3) := by decide +kernel
theorem dX5_longestRow_101 : decode cX5_longestRow 101 = .ok (.iconst 1, 1) := by decide +kernel
theorem dX5_longestRow_102 : decode cX5_longestRow 102 = .ok (.isub, 1) := by decide +kernel
theorem dX5_longestRow_103 : decode cX5_longestRow 103 = .ok (.iaload, 1) := by decide +kernel
theorem dX5_longestRow_104 : decode cX5_longestRow 104 = .ok (.iaload, 1) := by decide +kernel
theorem dX5_longestRow_105 : decode cX5_longestRow 105 = .ok (.isub, 1) := by decide +kernel
theorem dX5_longestRow_106 : decode cX5_longestRow 106 = .ok (.ireturn, 1) := by decide +kernel
theorem dX5_longestRow_107 : decode cX5_longestRow 107 = .ok (.iload_n 1, 1) := by decide +kernel
theorem dX5_longestRow_108 : decode cX5_longestRow 108 = .ok (.iconst 0, 1) := by decide +kernel
theorem dX5_longestRow_109 : decode cX5_longestRow 109 = .ok (.aload_n 0, 1) := by decide +kernel
theorem dX5_longestRow_110 : decode cX5_longestRow 110 = .ok (.getfield 50, 3) := by decide +kernel
theorem dX5_longestRow_113 : decode cX5_longestRow 113 = .ok (.iconst 1, 1) := by decide +kernel
theorem dX5_longestRow_114 : decode cX5_longestRow 114 = .ok (.isub, 1) := by decide +kernel
theorem dX5_longestRow_115 : decode cX5_longestRow 115 = .ok (.invokestatic 56, 3) := by decide +kernel
theorem dX5_longestRow_118 : decode cX5_longestRow 118 = .ok (.ifCond .eq 12, 3) := by decide +kernel
theorem dX5_longestRow_121 : decode cX5_longestRow 121 = .ok (.aload_n 0, 1) := by decide +kernel
theorem dX5_longestRow_122 : decode cX5_longestRow 122 = .ok (.getfield 26, 3) := by decide +kernel
theorem dX5_longestRow_125 : decode cX5_longestRow 125 = .ok (.iload_n 1, 1) := by decide +kernel
theorem dX5_longestRow_126 : decode cX5_longestRow 126 = .ok (.iaload, 1) := by decide +kernel
theorem dX5_longestRow_127 : decode cX5_longestRow 127 = .ok (.goto 4, 3) := by decide +kernel
theorem dX5_longestRow_130 : decode cX5_longestRow 130 = .ok (.iconst (-1), 1) := by decide +kernel
theorem dX5_longestRow_131 : decode cX5_longestRow 131 = .ok (.ireturn, 1) := by decide +kernel
theorem dX5_findMayFrom_0 : decode cX5_findMayFrom 0 = .ok (.aload_n 0, 1) := by decide +kernel
theorem dX5_findMayFrom_1 : decode cX5_findMayFrom 1 = .ok (.getfield 15, 3) := by decide +kernel
theorem dX5_findMayFrom_4 : decode cX5_findMayFrom 4 = .ok (.iload_n 1, 1) := by decide +kernel
theorem dX5_findMayFrom_5 : decode cX5_findMayFrom 5 = .ok (.invokevirtual 60, 3) := by decide +kernel
theorem dX5_findMayFrom_8 : decode cX5_findMayFrom 8 = .ok (.ifCond .ne 5, 3) := by decide +kernel
theorem dX5_findMayFrom_11 : decode cX5_findMayFrom 11 = .ok (.iconst 0, 1) := by decide +kernel
theorem dX5_findMayFrom_12 : decode cX5_findMayFrom 12 = .ok (.ireturn, 1) := by decide +kernel
theorem dX5_findMayFrom_13 : decode cX5_findMayFrom 13 = .ok (.iconst 0, 1) := by decide +kernel
theorem dX5_findMayFrom_14 : decode cX5_findMayFrom 14 = .ok (.istore_n 2, 1) := by decide +kernel
theorem dX5_findMayFrom_15 : decode cX5_findMayFrom 15 = .ok (.iconst 0, 1) := by decide +kernel
theorem dX5_findMayFrom_16 : decode cX5_findMayFrom 16 = .ok (.istore_n 3, 1) := by decide +kernel
theorem dX5_findMayFrom_17 : decode cX5_findMayFrom 17 = .ok (.iload_n 3, 1) := by decide +kernel
theorem dX5_findMayFrom_18 : decode cX5_findMayFrom 18 = .ok (.aload_n 0, 1) := by decide +kernel
theorem dX5_findMayFrom_19 : decode cX5_findMayFrom 19 = .ok (.getfield 9, 3) := by decide +kernel
theorem dX5_findMayFrom_22 : decode cX5_findMayFrom 22 = .ok (.getfield 38, 3) := by decide +kernel
theorem dX5_findMayFrom_25 : decode cX5_findMayFrom 25 = .ok (.if_icmp .ge 33, 3) := by decide +kernel
theorem dX5_findMayFrom_28 : decode cX5_findMayFrom 28 = .ok (.aload_n 0, 1) := by decide +kernel
theorem dX5_findMayFrom_29 : decode cX5_findMayFrom 29 = .ok (.iload_n 1, 1) := by decide +kernel
theorem dX5_findMayFrom_30 : decode cX5_findMayFrom 30 = .ok (.iload_n 3, 1) := by decide +kernel
theorem dX5_findMayFrom_31 : decode cX5_findMayFrom 31 = .ok (.invokevirtual 64, 3) := by decide +kernel
theorem dX5_findMayFrom_34 : decode cX5_findMayFrom 34 = .ok (.ifCond .eq 18, 3) := by decide +kernel
theorem dX5_findMayFrom_37 : decode cX5_findMayFrom 37 = .ok (.aload_n 0, 1) := by decide +kernel
theorem dX5_findMayFrom_38 : decode cX5_findMayFrom 38 = .ok (.iload_n 1, 1) := by decide +kernel
theorem dX5_findMayFrom_39 : decode cX5_findMayFrom 39 = .ok (.iload_n 3, 1) := by decide +kernel
theorem dX5_findMayFrom_40 : decode cX5_findMayFrom 40 = .ok (.invokevirtual 68, 3) := by decide +kernel
theorem dX5_findMayFrom_43 : decode cX5_findMayFrom 43 = .ok (.ifCond .eq 9, 3) := by decide +kernel
theorem dX5_findMayFrom_46 : decode cX5_findMayFrom 46 = .ok (.iload_n 2, 1) := by decide +kernel
theorem dX5_findMayFrom_47 : decode cX5_findMayFrom 47 = .ok (.iconst 1, 1) := by decide +kernel
theorem dX5_findMayFrom_48 : decode cX5_findMayFrom 48 = .ok (.iload_n 3, 1) := by decide +kernel
theorem dX5_findMayFrom_49 : decode cX5_findMayFrom 49 = .ok (.ishl, 1) := by decide +kernel
theorem dX5_findMayFrom_50 : decode cX5_findMayFrom 50 = .ok (.ior, 1) := by decide +kernel
theorem dX5_findMayFrom_51 : decode cX5_findMayFrom 51 = .ok (.istore_n 2, 1) := by decide +kernel
theorem dX5_findMayFrom_52 : decode cX5_findMayFrom 52 = .ok (.iinc 3 1, 3) := by decide +kernel
theorem dX5_findMayFrom_55 : decode cX5_findMayFrom 55 = .ok (.goto (-38), 3) := by decide +kernel
theorem dX5_findMayFrom_58 : decode cX5_findMayFrom 58 = .ok (.iload_n 2, 1) := by decide +kernel
theorem dX5_findMayFrom_59 : decode cX5_findMayFrom 59 = .ok (.ireturn, 1) := by decide +kernel
theorem dX5_isLikely_0 : decode cX5_isLikely 0 = .ok (.aload_n 0, 1) := by decide +kernel
theorem dX5_isLikely_1 : decode cX5_isLikely 1 = .ok (.getfield 15, 3) := by decide +kernel
theorem dX5_isLikely_4 : decode cX5_isLikely 4 = .ok (.getfield 71, 3) := by decide +kernel
theorem dX5_isLikely_7 : decode cX5_isLikely 7 = .ok (.iload_n 1, 1) := by decide +kernel
theorem dX5_isLikely_8 : decode cX5_isLikely 8 = .ok (.iaload, 1) := by decide +kernel
theorem dX5_isLikely_9 : decode cX5_isLikely 9 = .ok (.aload_n 0, 1) := by decide +kernel
theorem dX5_isLikely_10 : decode cX5_isLikely 10 = .ok (.getfield 15, 3) := by decide +kernel
theorem dX5_isLikely_13 : decode cX5_isLikely 13 = .ok (.getfield 71, 3) := by decide +kernel
theorem dX5_isLikely_16 : decode cX5_isLikely 16 = .ok (.iload_n 2, 1) := by decide +kernel
theorem dX5_isLikely_17 : decode cX5_isLikely 17 = .ok (.iaload, 1) := by decide +kernel
theorem dX5_isLikely_18 : decode cX5_isLikely 18 = .ok (.iand, 1) := by decide +kernel
theorem dX5_isLikely_19 : decode cX5_isLikely 19 = .ok (.ifCond .eq 40, 3) := by decide +kernel
theorem dX5_isLikely_22 : decode cX5_isLikely 22 = .ok (.aload_n 0, 1) := by decide +kernel
theorem dX5_isLikely_23 : decode cX5_isLikely 23 = .ok (.getfield 9, 3) := by decide +kernel
theorem dX5_isLikely_26 : decode cX5_isLikely 26 = .ok (.getfield 53, 3) := by decide +kernel
theorem dX5_isLikely_29 : decode cX5_isLikely 29 = .ok (.iload_n 2, 1) := by decide +kernel
theorem dX5_isLikely_30 : decode cX5_isLikely 30 = .ok (.iaload, 1) := by decide +kernel
theorem dX5_isLikely_31 : decode cX5_isLikely 31 = .ok (.aload_n 0, 1) := by decide +kernel
theorem dX5_isLikely_32 : decode cX5_isLikely 32 = .ok (.getfield 9, 3) := by decide +kernel
theorem dX5_isLikely_35 : decode cX5_isLikely 35 = .ok (.getfield 53, 3) := by decide +kernel
theorem dX5_isLikely_38 : decode cX5_isLikely 38 = .ok (.iload_n 1, 1) := by decide +kernel
theorem dX5_isLikely_39 : decode cX5_isLikely 39 = .ok (.iaload, 1) := by decide +kernel
theorem dX5_isLikely_40 : decode cX5_isLikely 40 = .ok (.if_icmp .le 19, 3) := by decide +kernel
theorem dX5_isLikely_43 : decode cX5_isLikely 43 = .ok (.aload_n 0, 1) := by decide +kernel
theorem dX5_isLikely_44 : decode cX5_isLikely 44 = .ok (.getfield 9, 3) := by decide +kernel
theorem dX5_isLikely_47 : decode cX5_isLikely 47 = .ok (.iload_n 2, 1) := by decide +kernel
theorem dX5_isLikely_48 : decode cX5_isLikely 48 = .ok (.iload_n 1, 1) := by decide +kernel
theorem dX5_isLikely_49 : decode cX5_isLikely 49 = .ok (.invokevirtual 74, 3) := by decide +kernel
theorem dX5_isLikely_52 : decode cX5_isLikely 52 = .ok (.ifCond .ne 7, 3) := by decide +kernel
theorem dX5_isLikely_55 : decode cX5_isLikely 55 = .ok (.iconst 1, 1) := by decide +kernel
theorem dX5_isLikely_56 : decode cX5_isLikely 56 = .ok (.goto 4, 3) := by decide +kernel
theorem dX5_isLikely_59 : decode cX5_isLikely 59 = .ok (.iconst 0, 1) := by decide +kernel
theorem dX5_isLikely_60 : decode cX5_isLikely 60 = .ok (.ireturn, 1) := by decide +kernel
theorem dX5_leavesWay_0 : decode cX5_leavesWay 0 = .ok (.aload_n 0, 1) := by decide +kernel
theorem dX5_leavesWay_1 : decode cX5_leavesWay 1 = .ok (.getfield 15, 3) := by decide +kernel
theorem dX5_leavesWay_4 : decode cX5_leavesWay 4 = .ok (.iconst 0, 1) := by decide +kernel
theorem dX5_leavesWay_5 : decode cX5_leavesWay 5 = .ok (.iload_n 2, 1) := by decide +kernel
theorem dX5_leavesWay_6 : decode cX5_leavesWay 6 = .ok (.invokevirtual 77, 3) := by decide +kernel
theorem dX5_leavesWay_9 : decode cX5_leavesWay 9 = .ok (.aload_n 0, 1) := by decide +kernel
theorem dX5_leavesWay_10 : decode cX5_leavesWay 10 = .ok (.getfield 15, 3) := by decide +kernel
theorem dX5_leavesWay_13 : decode cX5_leavesWay 13 = .ok (.iconst 1, 1) := by decide +kernel
theorem dX5_leavesWay_14 : decode cX5_leavesWay 14 = .ok (.iload_n 1, 1) := by decide +kernel
theorem dX5_leavesWay_15 : decode cX5_leavesWay 15 = .ok (.invokevirtual 77, 3) := by decide +kernel
theorem dX5_leavesWay_18 : decode cX5_leavesWay 18 = .ok (.if_icmp .gt 7, 3) := by decide +kernel
theorem dX5_leavesWay_21 : decode cX5_leavesWay 21 = .ok (.iconst 1, 1) := by decide +kernel
theorem dX5_leavesWay_22 : decode cX5_leavesWay 22 = .ok (.goto 4, 3) := by decide +kernel
theorem dX5_leavesWay_25 : decode cX5_leavesWay 25 = .ok (.iconst 0, 1) := by decide +kernel
theorem dX5_leavesWay_26 : decode cX5_leavesWay 26 = .ok (.ireturn, 1) := by decide +kernel
theorem dX5_measureRows_0 : decode cX5_measureRows 0 = .ok (.iconst 0, 1) := by decide +kernel
theorem dX5_measureRows_1 : decode cX5_measureRows 1 = .ok (.istore_n 1, 1) := by decide +kernel
theorem dX5_measureRows_2 : decode cX5_measureRows 2 = .ok (.iload_n 1, 1) := by decide +kernel
theorem dX5_measureRows_3 : decode cX5_measureRows 3 = .ok (.aload_n 0, 1) := by decide +kernel
theorem dX5_measureRows_4 : decode cX5_measureRows 4 = .ok (.getfield 9, 3) := by decide +kernel
theorem dX5_measureRows_7 : decode cX5_measureRows 7 = .ok (.getfield 38, 3) := by decide +kernel
theorem dX5_measureRows_10 : decode cX5_measureRows 10 = .ok (.if_icmp .ge 16, 3) := by decide +kernel
theorem dX5_measureRows_13 : decode cX5_measureRows 13 = .ok (.aload_n 0, 1) := by decide +kernel
theorem dX5_measureRows_14 : decode cX5_measureRows 14 = .ok (.getfield 23, 3) := by decide +kernel
theorem dX5_measureRows_17 : decode cX5_measureRows 17 = .ok (.iload_n 1, 1) := by decide +kernel
theorem dX5_measureRows_18 : decode cX5_measureRows 18 = .ok (.iconst 1, 1) := by decide +kernel
theorem dX5_measureRows_19 : decode cX5_measureRows 19 = .ok (.iastore, 1) := by decide +kernel
theorem dX5_measureRows_20 : decode cX5_measureRows 20 = .ok (.iinc 1 1, 3) := by decide +kernel
theorem dX5_measureRows_23 : decode cX5_measureRows 23 = .ok (.goto (-21), 3) := by decide +kernel
theorem dX5_measureRows_26 : decode cX5_measureRows 26 = .ok (.iconst 1, 1) := by decide +kernel
theorem dX5_measureRows_27 : decode cX5_measureRows 27 = .ok (.istore_n 1, 1) := by decide +kernel
theorem dX5_measureRows_28 : decode cX5_measureRows 28 = .ok (.iconst 0, 1) := by decide +kernel
theorem dX5_measureRows_29 : decode cX5_measureRows 29 = .ok (.istore_n 2, 1) := by decide +kernel
theorem dX5_measureRows_30 : decode cX5_measureRows 30 = .ok (.iload_n 1, 1) := by decide +kernel
theorem dX5_measureRows_31 : decode cX5_measureRows 31 = .ok (.ifCond .eq 72, 3) := by decide +kernel
theorem dX5_measureRows_34 : decode cX5_measureRows 34 = .ok (.iload_n 2, 1) := by decide +kernel
theorem dX5_measureRows_35 : decode cX5_measureRows 35 = .ok (.bipush 12, 2) := by decide +kernel
theorem dX5_measureRows_37 : decode cX5_measureRows 37 = .ok (.if_icmp .ge 66, 3) := by decide +kernel
theorem dX5_measureRows_40 : decode cX5_measureRows 40 = .ok (.iconst 0, 1) := by decide +kernel
theorem dX5_measureRows_41 : decode cX5_measureRows 41 = .ok (.istore_n 1, 1) := by decide +kernel
theorem dX5_measureRows_42 : decode cX5_measureRows 42 = .ok (.iconst 0, 1) := by decide +kernel
theorem dX5_measureRows_43 : decode cX5_measureRows 43 = .ok (.istore_n 3, 1) := by decide +kernel
theorem dX5_measureRows_44 : decode cX5_measureRows 44 = .ok (.iload_n 3, 1) := by decide +kernel
theorem dX5_measureRows_45 : decode cX5_measureRows 45 = .ok (.aload_n 0, 1) := by decide +kernel
theorem dX5_measureRows_46 : decode cX5_measureRows 46 = .ok (.getfield 9, 3) := by decide +kernel
theorem dX5_measureRows_49 : decode cX5_measureRows 49 = .ok (.getfield 38, 3) := by decide +kernel
theorem dX5_measureRows_52 : decode cX5_measureRows 52 = .ok (.if_icmp .ge 45, 3) := by decide +kernel
theorem dX5_measureRows_55 : decode cX5_measureRows 55 = .ok (.aload_n 0, 1) := by decide +kernel
theorem dX5_measureRows_56 : decode cX5_measureRows 56 = .ok (.iload_n 3, 1) := by decide +kernel
theorem dX5_measureRows_57 : decode cX5_measureRows 57 = .ok (.invokevirtual 81, 3) := by decide +kernel
theorem dX5_measureRows_60 : decode cX5_measureRows 60 = .ok (.istore 4, 2) := by decide +kernel
theorem dX5_measureRows_62 : decode cX5_measureRows 62 = .ok (.iload_n 1, 1) := by decide +kernel
theorem dX5_measureRows_63 : decode cX5_measureRows 63 = .ok (.ifCond .ne 14, 3) := by decide +kernel
theorem dX5_measureRows_66 : decode cX5_measureRows 66 = .ok (.iload 4, 2) := by decide +kernel
theorem dX5_measureRows_68 : decode cX5_measureRows 68 = .ok (.aload_n 0, 1) := by decide +kernel
theorem dX5_measureRows_69 : decode cX5_measureRows 69 = .ok (.getfield 23, 3) := by decide +kernel
theorem dX5_measureRows_72 : decode cX5_measureRows 72 = .ok (.iload_n 3, 1) := by decide +kernel
theorem dX5_measureRows_73 : decode cX5_measureRows 73 = .ok (.iaload, 1) := by decide +kernel
theorem dX5_measureRows_74 : decode cX5_measureRows 74 = .ok (.if_icmp .le 7, 3) := by decide +kernel
theorem dX5_measureRows_77 : decode cX5_measureRows 77 = .ok (.iconst 1, 1) := by decide +kernel
theorem dX5_measureRows_78 : decode cX5_measureRows 78 = .ok (.goto 4, 3) := by decide +kernel
theorem dX5_measureRows_81 : decode cX5_measureRows 81 = .ok (.iconst 0, 1) := by decide +kernel
theorem dX5_measureRows_82 : decode cX5_measureRows 82 = .ok (.istore_n 1, 1) := by decide +kernel
theorem dX5_measureRows_83 : decode cX5_measureRows 83 = .ok (.aload_n 0, 1) := by decide +kernel
theorem dX5_measureRows_84 : decode cX5_measureRows 84 = .ok (.getfield 23, 3) := by decide +kernel
theorem dX5_measureRows_87 : decode cX5_measureRows 87 = .ok (.iload_n 3, 1) := by decide +kernel
theorem dX5_measureRows_88 : decode cX5_measureRows 88 = .ok (.iload 4, 2) := by decide +kernel
theorem dX5_measureRows_90 : decode cX5_measureRows 90 = .ok (.iastore, 1) := by decide +kernel
theorem dX5_measureRows_91 : decode cX5_measureRows 91 = .ok (.iinc 3 1, 3) := by decide +kernel
theorem dX5_measureRows_94 : decode cX5_measureRows 94 = .ok (.goto (-50), 3) := by decide +kernel
theorem dX5_measureRows_97 : decode cX5_measureRows 97 = .ok (.iinc 2 1, 3) := by decide +kernel
theorem dX5_measureRows_100 : decode cX5_measureRows 100 = .ok (.goto (-70), 3) := by decide +kernel
theorem dX5_measureRows_103 : decode cX5_measureRows 103 = .ok (.return_, 1) := by decide +kernel
theorem dX5_lengthFrom_0 : decode cX5_lengthFrom 0 = .ok (.iconst 1, 1) := by decide +kernel
theorem dX5_lengthFrom_1 : decode cX5_lengthFrom 1 = .ok (.istore_n 2, 1) := by decide +kernel
theorem dX5_lengthFrom_2 : decode cX5_lengthFrom 2 = .ok (.iconst 0, 1) := by decide +kernel
theorem dX5_lengthFrom_3 : decode cX5_lengthFrom 3 = .ok (.istore_n 3, 1) := by decide +kernel
theorem dX5_lengthFrom_4 : decode cX5_lengthFrom 4 = .ok (.iload_n 3, 1) := by decide +kernel
theorem dX5_lengthFrom_5 : decode cX5_lengthFrom 5 = .ok (.aload_n 0, 1) := by decide +kernel
theorem dX5_lengthFrom_6 : decode cX5_lengthFrom 6 = .ok (.getfield 9, 3) := by decide +kernel
theorem dX5_lengthFrom_9 : decode cX5_lengthFrom 9 = .ok (.getfield 38, 3) := by decide +kernel
theorem dX5_lengthFrom_12 : decode cX5_lengthFrom 12 = .ok (.if_icmp .ge 35, 3) := by decide +kernel
theorem dX5_lengthFrom_15 : decode cX5_lengthFrom 15 = .ok (.aload_n 0, 1) := by decide +kernel
theorem dX5_lengthFrom_16 : decode cX5_lengthFrom 16 = .ok (.getfield 19, 3) := by decide +kernel
theorem dX5_lengthFrom_19 : decode cX5_lengthFrom 19 = .ok (.iload_n 3, 1) := by decide +kernel
theorem dX5_lengthFrom_20 : decode cX5_lengthFrom 20 = .ok (.iaload, 1) := by decide +kernel
theorem dX5_lengthFrom_21 : decode cX5_lengthFrom 21 = .ok (.iload_n 1, 1) := by decide +kernel
theorem dX5_lengthFrom_22 : decode cX5_lengthFrom 22 = .ok (.invokestatic 84, 3) := by decide +kernel
theorem dX5_lengthFrom_25 : decode cX5_lengthFrom 25 = .ok (.ifCond .eq 16, 3) := by decide +kernel
theorem dX5_lengthFrom_28 : decode cX5_lengthFrom 28 = .ok (.iload_n 2, 1) := by decide +kernel
theorem dX5_lengthFrom_29 : decode cX5_lengthFrom 29 = .ok (.aload_n 0, 1) := by decide +kernel
theorem dX5_lengthFrom_30 : decode cX5_lengthFrom 30 = .ok (.getfield 23, 3) := by decide +kernel
theorem dX5_lengthFrom_33 : decode cX5_lengthFrom 33 = .ok (.iload_n 3, 1) := by decide +kernel
theorem dX5_lengthFrom_34 : decode cX5_lengthFrom 34 = .ok (.iaload, 1) := by decide +kernel
theorem dX5_lengthFrom_35 : decode cX5_lengthFrom 35 = .ok (.iconst 1, 1) := by decide +kernel
theorem dX5_lengthFrom_36 : decode cX5_lengthFrom 36 = .ok (.iadd, 1) := by decide +kernel
theorem dX5_lengthFrom_37 : decode cX5_lengthFrom 37 = .ok (.invokestatic 87, 3) := by decide +kernel
theorem dX5_lengthFrom_40 : decode cX5_lengthFrom 40 = .ok (.istore_n 2, 1) := by decide +kernel
theorem dX5_lengthFrom_41 : decode cX5_lengthFrom 41 = .ok (.iinc 3 1, 3) := by decide +kernel
theorem dX5_lengthFrom_44 : decode cX5_lengthFrom 44 = .ok (.goto (-40), 3) := by decide +kernel
theorem dX5_lengthFrom_47 : decode cX5_lengthFrom 47 = .ok (.iload_n 2, 1) := by decide +kernel
theorem dX5_lengthFrom_48 : decode cX5_lengthFrom 48 = .ok (.ireturn, 1) := by decide +kernel
theorem dX5_layRow_0 : decode cX5_layRow 0 = .ok (.iconst 0, 1) := by decide +kernel
theorem dX5_layRow_1 : decode cX5_layRow 1 = .ok (.istore_n 1, 1) := by decide +kernel
theorem dX5_layRow_2 : decode cX5_layRow 2 = .ok (.iconst 0, 1) := by decide +kernel
theorem dX5_layRow_3 : decode cX5_layRow 3 = .ok (.istore_n 2, 1) := by decide +kernel
theorem dX5_layRow_4 : decode cX5_layRow 4 = .ok (.iload_n 2, 1) := by decide +kernel
theorem dX5_layRow_5 : decode cX5_layRow 5 = .ok (.aload_n 0, 1) := by decide +kernel
theorem dX5_layRow_6 : decode cX5_layRow 6 = .ok (.getfield 9, 3) := by decide +kernel
theorem dX5_layRow_9 : decode cX5_layRow 9 = .ok (.getfield 38, 3) := by decide +kernel
theorem dX5_layRow_12 : decode cX5_layRow 12 = .ok (.if_icmp .ge 20, 3) := by decide +kernel
theorem dX5_layRow_15 : decode cX5_layRow 15 = .ok (.iload_n 1, 1) := by decide +kernel
theorem dX5_layRow_16 : decode cX5_layRow 16 = .ok (.aload_n 0, 1) := by decide +kernel
theorem dX5_layRow_17 : decode cX5_layRow 17 = .ok (.getfield 23, 3) := by decide +kernel
theorem dX5_layRow_20 : decode cX5_layRow 20 = .ok (.iload_n 2, 1) := by decide +kernel
theorem dX5_layRow_21 : decode cX5_layRow 21 = .ok (.iaload, 1) := by decide +kernel
theorem dX5_layRow_22 : decode cX5_layRow 22 = .ok (.invokestatic 87, 3) := by decide +kernel
theorem dX5_layRow_25 : decode cX5_layRow 25 = .ok (.istore_n 1, 1) := by decide +kernel
theorem dX5_layRow_26 : decode cX5_layRow 26 = .ok (.iinc 2 1, 3) := by decide +kernel
theorem dX5_layRow_29 : decode cX5_layRow 29 = .ok (.goto (-25), 3) := by decide +kernel
theorem dX5_layRow_32 : decode cX5_layRow 32 = .ok (.aload_n 0, 1) := by decide +kernel
theorem dX5_layRow_33 : decode cX5_layRow 33 = .ok (.iload_n 1, 1) := by decide +kernel
theorem dX5_layRow_34 : decode cX5_layRow 34 = .ok (.bipush 12, 2) := by decide +kernel
theorem dX5_layRow_36 : decode cX5_layRow 36 = .ok (.invokestatic 92, 3) := by decide +kernel
theorem dX5_layRow_39 : decode cX5_layRow 39 = .ok (.putfield 50, 3) := by decide +kernel
theorem dX5_layRow_42 : decode cX5_layRow 42 = .ok (.iconst (-1), 1) := by decide +kernel
theorem dX5_layRow_43 : decode cX5_layRow 43 = .ok (.istore_n 2, 1) := by decide +kernel
theorem dX5_layRow_44 : decode cX5_layRow 44 = .ok (.iconst 0, 1) := by decide +kernel
theorem dX5_layRow_45 : decode cX5_layRow 45 = .ok (.istore_n 3, 1) := by decide +kernel
theorem dX5_layRow_46 : decode cX5_layRow 46 = .ok (.iload_n 3, 1) := by decide +kernel
theorem dX5_layRow_47 : decode cX5_layRow 47 = .ok (.aload_n 0, 1) := by decide +kernel
theorem dX5_layRow_48 : decode cX5_layRow 48 = .ok (.getfield 50, 3) := by decide +kernel
theorem dX5_layRow_51 : decode cX5_layRow 51 = .ok (.if_icmp .ge 29, 3) := by decide +kernel
theorem dX5_layRow_54 : decode cX5_layRow 54 = .ok (.aload_n 0, 1) := by decide +kernel
theorem dX5_layRow_55 : decode cX5_layRow 55 = .ok (.iload_n 2, 1) := by decide +kernel
theorem dX5_layRow_56 : decode cX5_layRow 56 = .ok (.iload_n 1, 1) := by decide +kernel
theorem dX5_layRow_57 : decode cX5_layRow 57 = .ok (.iload_n 3, 1) := by decide +kernel
theorem dX5_layRow_58 : decode cX5_layRow 58 = .ok (.isub, 1) := by decide +kernel
theorem dX5_layRow_59 : decode cX5_layRow 59 = .ok (.invokevirtual 95, 3) := by decide +kernel
theorem dX5_layRow_62 : decode cX5_layRow 62 = .ok (.istore_n 2, 1) := by decide +kernel
theorem dX5_layRow_63 : decode cX5_layRow 63 = .ok (.aload_n 0, 1) := by decide +kernel
theorem dX5_layRow_64 : decode cX5_layRow 64 = .ok (.getfield 26, 3) := by decide +kernel
theorem dX5_layRow_67 : decode cX5_layRow 67 = .ok (.iload_n 3, 1) := by decide +kernel
theorem dX5_layRow_68 : decode cX5_layRow 68 = .ok (.iconst 0, 1) := by decide +kernel
theorem dX5_layRow_69 : decode cX5_layRow 69 = .ok (.iload_n 2, 1) := by decide +kernel
theorem dX5_layRow_70 : decode cX5_layRow 70 = .ok (.invokestatic 87, 3) := by decide +kernel
theorem dX5_layRow_73 : decode cX5_layRow 73 = .ok (.iastore, 1) := by decide +kernel
theorem dX5_layRow_74 : decode cX5_layRow 74 = .ok (.iinc 3 1, 3) := by decide +kernel
theorem dX5_layRow_77 : decode cX5_layRow 77 = .ok (.goto (-31), 3) := by decide +kernel
theorem dX5_layRow_80 : decode cX5_layRow 80 = .ok (.return_, 1) := by decide +kernel
theorem dX5_firstBehind_0 : decode cX5_firstBehind 0 = .ok (.iconst 0, 1) := by decide +kernel
theorem dX5_firstBehind_1 : decode cX5_firstBehind 1 = .ok (.istore_n 3, 1) := by decide +kernel
theorem dX5_firstBehind_2 : decode cX5_firstBehind 2 = .ok (.iload_n 3, 1) := by decide +kernel
theorem dX5_firstBehind_3 : decode cX5_firstBehind 3 = .ok (.aload_n 0, 1) := by decide +kernel
theorem dX5_firstBehind_4 : decode cX5_firstBehind 4 = .ok (.getfield 9, 3) := by decide +kernel
theorem dX5_firstBehind_7 : decode cX5_firstBehind 7 = .ok (.getfield 38, 3) := by decide +kernel
theorem dX5_firstBehind_10 : decode cX5_firstBehind 10 = .ok (.if_icmp .ge 51, 3) := by decide +kernel
theorem dX5_firstBehind_13 : decode cX5_firstBehind 13 = .ok (.iload_n 1, 1) := by decide +kernel
theorem dX5_firstBehind_14 : decode cX5_firstBehind 14 = .ok (.iconst (-1), 1) := by decide +kernel
theorem dX5_firstBehind_15 : decode cX5_firstBehind 15 = .ok (.if_icmp .eq 16, 3) := by decide +kernel
theorem dX5_firstBehind_18 : decode cX5_firstBehind 18 = .ok (.aload_n 0, 1) := by decide +kernel
theorem dX5_firstBehind_19 : decode cX5_firstBehind 19 = .ok (.getfield 19, 3) := by decide +kernel
theorem dX5_firstBehind_22 : decode cX5_firstBehind 22 = .ok (.iload_n 3, 1) := by decide +kernel
theorem dX5_firstBehind_23 : decode cX5_firstBehind 23 = .ok (.iaload, 1) := by decide +kernel
theorem dX5_firstBehind_24 : decode cX5_firstBehind 24 = .ok (.iload_n 1, 1) := by decide +kernel
theorem dX5_firstBehind_25 : decode cX5_firstBehind 25 = .ok (.invokestatic 84, 3) := by decide +kernel
theorem dX5_firstBehind_28 : decode cX5_firstBehind 28 = .ok (.ifCond .eq 7, 3) := by decide +kernel
theorem dX5_firstBehind_31 : decode cX5_firstBehind 31 = .ok (.iconst 1, 1) := by decide +kernel
theorem dX5_firstBehind_32 : decode cX5_firstBehind 32 = .ok (.goto 4, 3) := by decide +kernel
theorem dX5_firstBehind_35 : decode cX5_firstBehind 35 = .ok (.iconst 0, 1) := by decide +kernel
theorem dX5_firstBehind_36 : decode cX5_firstBehind 36 = .ok (.istore 4, 2) := by decide +kernel
theorem dX5_firstBehind_38 : decode cX5_firstBehind 38 = .ok (.iload 4, 2) := by decide +kernel
theorem dX5_firstBehind_40 : decode cX5_firstBehind 40 = .ok (.ifCond .eq 15, 3) := by decide +kernel
theorem dX5_firstBehind_43 : decode cX5_firstBehind 43 = .ok (.aload_n 0, 1) := by decide +kernel
theorem dX5_firstBehind_44 : decode cX5_firstBehind 44 = .ok (.getfield 23, 3) := by decide +kernel
theorem dX5_firstBehind_47 : decode cX5_firstBehind 47 = .ok (.iload_n 3, 1) := by decide +kernel
theorem dX5_firstBehind_48 : decode cX5_firstBehind 48 = .ok (.iaload, 1) := by decide +kernel
theorem dX5_firstBehind_49 : decode cX5_firstBehind 49 = .ok (.iload_n 2, 1) := by decide +kernel
theorem dX5_firstBehind_50 : decode cX5_firstBehind 50 = .ok (.if_icmp .ne 5, 3) := by decide +kernel
theorem dX5_firstBehind_53 : decode cX5_firstBehind 53 = .ok (.iload_n 3, 1) := by decide +kernel
theorem dX5_firstBehind_54 : decode cX5_firstBehind 54 = .ok (.ireturn, 1) := by decide +kernel
theorem dX5_firstBehind_55 : decode cX5_firstBehind 55 = .ok (.iinc 3 1, 3) := by decide +kernel
theorem dX5_firstBehind_58 : decode cX5_firstBehind 58 = .ok (.goto (-56), 3) := by decide +kernel
theorem dX5_firstBehind_61 : decode cX5_firstBehind 61 = .ok (.iconst (-1), 1) := by decide +kernel
theorem dX5_firstBehind_62 : decode cX5_firstBehind 62 = .ok (.ireturn, 1) := by decide +kernel
theorem dX6_init_0 : decode cX6_init 0 = .ok (.aload_n 0, 1) := by decide +kernel
theorem dX6_init_1 : decode cX6_init 1 = .ok (.invokespecial 3, 3) := by decide +kernel
theorem dX6_init_4 : decode cX6_init 4 = .ok (.aload_n 0, 1) := by decide +kernel
theorem dX6_init_5 : decode cX6_init 5 = .ok (.aload_n 1, 1) := by decide +kernel
theorem dX6_init_6 : decode cX6_init 6 = .ok (.putfield 9, 3) := by decide +kernel
theorem dX6_init_9 : decode cX6_init 9 = .ok (.aload_n 0, 1) := by decide +kernel
theorem dX6_init_10 : decode cX6_init 10 = .ok (.aload_n 2, 1) := by decide +kernel
theorem dX6_init_11 : decode cX6_init 11 = .ok (.putfield 15, 3) := by decide +kernel
theorem dX6_init_14 : decode cX6_init 14 = .ok (.aload_n 0, 1) := by decide +kernel
theorem dX6_init_15 : decode cX6_init 15 = .ok (.bipush 90, 2) := by decide +kernel
theorem dX6_init_17 : decode cX6_init 17 = .ok (.newarray .int, 2) := by decide +kernel
theorem dX6_init_19 : decode cX6_init 19 = .ok (.putfield 19, 3) := by decide +kernel
theorem dX6_init_22 : decode cX6_init 22 = .ok (.aload_n 0, 1) := by decide +kernel
theorem dX6_init_23 : decode cX6_init 23 = .ok (.bipush 90, 2) := by decide +kernel
theorem dX6_init_25 : decode cX6_init 25 = .ok (.newarray .int, 2) := by decide +kernel
theorem dX6_init_27 : decode cX6_init 27 = .ok (.putfield 23, 3) := by decide +kernel
theorem dX6_init_30 : decode cX6_init 30 = .ok (.aload_n 0, 1) := by decide +kernel
theorem dX6_init_31 : decode cX6_init 31 = .ok (.bipush 10, 2) := by decide +kernel
theorem dX6_init_33 : decode cX6_init 33 = .ok (.newarray .int, 2) := by decide +kernel
theorem dX6_init_35 : decode cX6_init 35 = .ok (.putfield 26, 3) := by decide +kernel
theorem dX6_init_38 : decode cX6_init 38 = .ok (.aload_n 0, 1) := by decide +kernel
theorem dX6_init_39 : decode cX6_init 39 = .ok (.bipush 10, 2) := by decide +kernel
theorem dX6_init_41 : decode cX6_init 41 = .ok (.newarray .int, 2) := by decide +kernel
theorem dX6_init_43 : decode cX6_init 43 = .ok (.putfield 29, 3) := by decide +kernel
theorem dX6_init_46 : decode cX6_init 46 = .ok (.return_, 1) := by decide +kernel
theorem dX6_setCounts_0 : decode cX6_setCounts 0 = .ok (.aload_n 0, 1) := by decide +kernel
theorem dX6_setCounts_1 : decode cX6_setCounts 1 = .ok (.getfield 19, 3) := by decide +kernel
theorem dX6_setCounts_4 : decode cX6_setCounts 4 = .ok (.iload_n 1, 1) := by decide +kernel
theorem dX6_setCounts_5 : decode cX6_setCounts 5 = .ok (.bipush 9, 2) := by decide +kernel
theorem dX6_setCounts_7 : decode cX6_setCounts 7 = .ok (.imul, 1) := by decide +kernel
theorem dX6_setCounts_8 : decode cX6_setCounts 8 = .ok (.iload_n 2, 1) := by decide +kernel
theorem dX6_setCounts_9 : decode cX6_setCounts 9 = .ok (.iadd, 1) := by decide +kernel
theorem dX6_setCounts_10 : decode cX6_setCounts 10 = .ok (.iload_n 3, 1) := by decide +kernel
theorem dX6_setCounts_11 : decode cX6_setCounts 11 = .ok (.iastore, 1) := by decide +kernel
theorem dX6_setCounts_12 : decode cX6_setCounts 12 = .ok (.aload_n 0, 1) := by decide +kernel
theorem dX6_setCounts_13 : decode cX6_setCounts 13 = .ok (.getfield 23, 3) := by decide +kernel
theorem dX6_setCounts_16 : decode cX6_setCounts 16 = .ok (.iload_n 1, 1) := by decide +kernel
theorem dX6_setCounts_17 : decode cX6_setCounts 17 = .ok (.bipush 9, 2) := by decide +kernel
theorem dX6_setCounts_19 : decode cX6_setCounts 19 = .ok (.imul, 1) := by decide +kernel
theorem dX6_setCounts_20 : decode cX6_setCounts 20 = .ok (.iload_n 2, 1) := by decide +kernel
theorem dX6_setCounts_21 : decode cX6_setCounts 21 = .ok (.iadd, 1) := by decide +kernel
theorem dX6_setCounts_22 : decode cX6_setCounts 22 = .ok (.iload 4, 2) := by decide +kernel
theorem dX6_setCounts_24 : decode cX6_setCounts 24 = .ok (.iastore, 1) := by decide +kernel
theorem dX6_setCounts_25 : decode cX6_setCounts 25 = .ok (.return_, 1) := by decide +kernel
theorem dX6_gather_0 : decode cX6_gather 0 = .ok (.aload_n 0, 1) := by decide +kernel
theorem dX6_gather_1 : decode cX6_gather 1 = .ok (.getfield 15, 3) := by decide +kernel
theorem dX6_gather_4 : decode cX6_gather 4 = .ok (.aload_n 0, 1) := by decide +kernel
theorem dX6_gather_5 : decode cX6_gather 5 = .ok (.getfield 9, 3) := by decide +kernel
theorem dX6_gather_8 : decode cX6_gather 8 = .ok (.getfield 32, 3) := by decide +kernel
theorem dX6_gather_11 : decode cX6_gather 11 = .ok (.iload_n 1, 1) := by decide +kernel
theorem dX6_gather_12 : decode cX6_gather 12 = .ok (.iaload, 1) := by decide +kernel
theorem dX6_gather_13 : decode cX6_gather 13 = .ok (.sipush 1023, 3) := by decide +kernel
theorem dX6_gather_16 : decode cX6_gather 16 = .ok (.iconst 1, 1) := by decide +kernel
theorem dX6_gather_17 : decode cX6_gather 17 = .ok (.invokevirtual 37, 3) := by decide +kernel
theorem dX6_gather_20 : decode cX6_gather 20 = .ok (.aload_n 0, 1) := by decide +kernel
theorem dX6_gather_21 : decode cX6_gather 21 = .ok (.iconst 0, 1) := by decide +kernel
theorem dX6_gather_22 : decode cX6_gather 22 = .ok (.putfield 43, 3) := by decide +kernel
theorem dX6_gather_25 : decode cX6_gather 25 = .ok (.iconst 0, 1) := by decide +kernel
theorem dX6_gather_26 : decode cX6_gather 26 = .ok (.istore_n 2, 1) := by decide +kernel
theorem dX6_gather_27 : decode cX6_gather 27 = .ok (.iload_n 2, 1) := by decide +kernel
theorem dX6_gather_28 : decode cX6_gather 28 = .ok (.bipush 10, 2) := by decide +kernel
theorem dX6_gather_30 : decode cX6_gather 30 = .ok (.if_icmp .ge 94, 3) := by decide +kernel
theorem dX6_gather_33 : decode cX6_gather 33 = .ok (.iload_n 2, 1) := by decide +kernel
theorem dX6_gather_34 : decode cX6_gather 34 = .ok (.bipush 9, 2) := by decide +kernel
theorem dX6_gather_36 : decode cX6_gather 36 = .ok (.imul, 1) := by decide +kernel
theorem dX6_gather_37 : decode cX6_gather 37 = .ok (.iload_n 1, 1) := by decide +kernel
theorem dX6_gather_38 : decode cX6_gather 38 = .ok (.iadd, 1) := by decide +kernel
theorem dX6_gather_39 : decode cX6_gather 39 = .ok (.istore_n 3, 1) := by decide +kernel
theorem dX6_gather_40 : decode cX6_gather 40 = .ok (.aload_n 0, 1) := by decide +kernel
theorem dX6_gather_41 : decode cX6_gather 41 = .ok (.getfield 23, 3) := by decide +kernel
theorem dX6_gather_44 : decode cX6_gather 44 = .ok (.iload_n 3, 1) := by decide +kernel
theorem dX6_gather_45 : decode cX6_gather 45 = .ok (.iaload, 1) := by decide +kernel
theorem dX6_gather_46 : decode cX6_gather 46 = .ok (.ifCond .le 72, 3) := by decide +kernel
theorem dX6_gather_49 : decode cX6_gather 49 = .ok (.aload_n 0, 1) := by decide +kernel
theorem dX6_gather_50 : decode cX6_gather 50 = .ok (.getfield 15, 3) := by decide +kernel
theorem dX6_gather_53 : decode cX6_gather 53 = .ok (.getfield 47, 3) := by decide +kernel
theorem dX6_gather_56 : decode cX6_gather 56 = .ok (.iload_n 2, 1) := by decide +kernel
theorem dX6_gather_57 : decode cX6_gather 57 = .ok (.iaload, 1) := by decide +kernel
theorem dX6_gather_58 : decode cX6_gather 58 = .ok (.iconst (-1), 1) := by decide +kernel
theorem dX6_gather_59 : decode cX6_gather 59 = .ok (.if_icmp .eq 59, 3) := by decide +kernel
theorem dX6_gather_62 : decode cX6_gather 62 = .ok (.aload_n 0, 1) := by decide +kernel
theorem dX6_gather_63 : decode cX6_gather 63 = .ok (.getfield 26, 3) := by decide +kernel
theorem dX6_gather_66 : decode cX6_gather 66 = .ok (.aload_n 0, 1) := by decide +kernel
theorem dX6_gather_67 : decode cX6_gather 67 = .ok (.getfield 43, 3) := by decide +kernel
theorem dX6_gather_70 : decode cX6_gather 70 = .ok (.sipush 1000, 3) := by decide +kernel
theorem dX6_gather_73 : decode cX6_gather 73 = .ok (.aload_n 0, 1) := by decide +kernel
theorem dX6_gather_74 : decode cX6_gather 74 = .ok (.getfield 19, 3) := by decide +kernel
theorem dX6_gather_77 : decode cX6_gather 77 = .ok (.iload_n 3, 1) := by decide +kernel
theorem dX6_gather_78 : decode cX6_gather 78 = .ok (.iaload, 1) := by decide +kernel
theorem dX6_gather_79 : decode cX6_gather 79 = .ok (.imul, 1) := by decide +kernel
theorem dX6_gather_80 : decode cX6_gather 80 = .ok (.aload_n 0, 1) := by decide +kernel
theorem dX6_gather_81 : decode cX6_gather 81 = .ok (.getfield 23, 3) := by decide +kernel
theorem dX6_gather_84 : decode cX6_gather 84 = .ok (.iload_n 3, 1) := by decide +kernel
theorem dX6_gather_85 : decode cX6_gather 85 = .ok (.iaload, 1) := by decide +kernel
theorem dX6_gather_86 : decode cX6_gather 86 = .ok (.invokestatic 50, 3) := by decide +kernel
theorem dX6_gather_89 : decode cX6_gather 89 = .ok (.iastore, 1) := by decide +kernel
theorem dX6_gather_90 : decode cX6_gather 90 = .ok (.aload_n 0, 1) := by decide +kernel
theorem dX6_gather_91 : decode cX6_gather 91 = .ok (.getfield 29, 3) := by decide +kernel
theorem dX6_gather_94 : decode cX6_gather 94 = .ok (.aload_n 0, 1) := by decide +kernel
theorem dX6_gather_95 : decode cX6_gather 95 = .ok (.getfield 43, 3) := by decide +kernel
theorem dX6_gather_98 : decode cX6_gather 98 = .ok (.aload_n 0, 1) := by decide +kernel
theorem dX6_gather_99 : decode cX6_gather 99 = .ok (.getfield 15, 3) := by decide +kernel
theorem dX6_gather_102 : decode cX6_gather 102 = .ok (.getfield 47, 3) := by decide +kernel
theorem dX6_gather_105 : decode cX6_gather 105 = .ok (.iload_n 2, 1) := by decide +kernel
theorem dX6_gather_106 : decode cX6_gather 106 = .ok (.iaload, 1) := by decide +kernel
theorem dX6_gather_107 : decode cX6_gather 107 = .ok (.iastore, 1) := by decide +kernel
theorem dX6_gather_108 : decode cX6_gather 108 = .ok (.aload_n 0, 1) := by decide +kernel
theorem dX6_gather_109 : decode cX6_gather 109 = .ok (.dup, 1) := by decide +kernel
theorem dX6_gather_110 : decode cX6_gather 110 = .ok (.getfield 43, 3) := by decide +kernel
theorem dX6_gather_113 : decode cX6_gather 113 = .ok (.iconst 1, 1) := by decide +kernel
theorem dX6_gather_114 : decode cX6_gather 114 = .ok (.iadd, 1) := by decide +kernel
theorem dX6_gather_115 : decode cX6_gather 115 = .ok (.putfield 43, 3) := by decide +kernel
theorem dX6_gather_118 : decode cX6_gather 118 = .ok (.iinc 2 1, 3) := by decide +kernel
theorem dX6_gather_121 : decode cX6_gather 121 = .ok (.goto (-94), 3) := by decide +kernel
theorem dX6_gather_124 : decode cX6_gather 124 = .ok (.return_, 1) := by decide +kernel
theorem dX6_missOf_0 : decode cX6_missOf 0 = .ok (.iconst 0, 1) := by decide +kernel
theorem dX6_missOf_1 : decode cX6_missOf 1 = .ok (.istore_n 3, 1) := by decide +kernel
theorem dX6_missOf_2 : decode cX6_missOf 2 = .ok (.iconst 0, 1) := by decide +kernel
theorem dX6_missOf_3 : decode cX6_missOf 3 = .ok (.istore 4, 2) := by decide +kernel
theorem dX6_missOf_5 : decode cX6_missOf 5 = .ok (.iload 4, 2) := by decide +kernel
theorem dX6_missOf_7 : decode cX6_missOf 7 = .ok (.aload_n 0, 1) := by decide +kernel
theorem dX6_missOf_8 : decode cX6_missOf 8 = .ok (.getfield 43, 3) := by decide +kernel
theorem dX6_missOf_11 : decode cX6_missOf 11 = .ok (.if_icmp .ge 35, 3) := by decide +kernel
theorem dX6_missOf_14 : decode cX6_missOf 14 = .ok (.iload_n 3, 1) := by decide +kernel
theorem dX6_missOf_15 : decode cX6_missOf 15 = .ok (.aload_n 0, 1) := by decide +kernel
theorem dX6_missOf_16 : decode cX6_missOf 16 = .ok (.getfield 26, 3) := by decide +kernel
theorem dX6_missOf_19 : decode cX6_missOf 19 = .ok (.iload 4, 2) := by decide +kernel
theorem dX6_missOf_21 : decode cX6_missOf 21 = .ok (.iaload, 1) := by decide +kernel
theorem dX6_missOf_22 : decode cX6_missOf 22 = .ok (.iload_n 1, 1) := by decide +kernel
theorem dX6_missOf_23 : decode cX6_missOf 23 = .ok (.iload_n 2, 1) := by decide +kernel
theorem dX6_missOf_24 : decode cX6_missOf 24 = .ok (.aload_n 0, 1) := by decide +kernel
theorem dX6_missOf_25 : decode cX6_missOf 25 = .ok (.getfield 29, 3) := by decide +kernel
theorem dX6_missOf_28 : decode cX6_missOf 28 = .ok (.iload 4, 2) := by decide +kernel
theorem dX6_missOf_30 : decode cX6_missOf 30 = .ok (.iaload, 1) := by decide +kernel
theorem dX6_missOf_31 : decode cX6_missOf 31 = .ok (.invokestatic 54, 3) := by decide +kernel
theorem dX6_missOf_34 : decode cX6_missOf 34 = .ok (.isub, 1) := by decide +kernel
theorem dX6_missOf_35 : decode cX6_missOf 35 = .ok (.invokestatic 58, 3) := by decide +kernel
theorem dX6_missOf_38 : decode cX6_missOf 38 = .ok (.iadd, 1) := by decide +kernel
theorem dX6_missOf_39 : decode cX6_missOf 39 = .ok (.istore_n 3, 1) := by decide +kernel
theorem dX6_missOf_40 : decode cX6_missOf 40 = .ok (.iinc 4 1, 3) := by decide +kernel
theorem dX6_missOf_43 : decode cX6_missOf 43 = .ok (.goto (-38), 3) := by decide +kernel
theorem dX6_missOf_46 : decode cX6_missOf 46 = .ok (.iload_n 3, 1) := by decide +kernel
theorem dX6_missOf_47 : decode cX6_missOf 47 = .ok (.ireturn, 1) := by decide +kernel
theorem dX6_shareByLaw_0 : decode cX6_shareByLaw 0 = .ok (.iload_n 0, 1) := by decide +kernel
theorem dX6_shareByLaw_1 : decode cX6_shareByLaw 1 = .ok (.ifCond .ne 21, 3) := by decide +kernel
theorem dX6_shareByLaw_4 : decode cX6_shareByLaw 4 = .ok (.sipush 1000, 3) := by decide +kernel
theorem dX6_shareByLaw_7 : decode cX6_shareByLaw 7 = .ok (.iload_n 2, 1) := by decide +kernel
theorem dX6_shareByLaw_8 : decode cX6_shareByLaw 8 = .ok (.bipush 10, 2) := by decide +kernel
theorem dX6_shareByLaw_10 : decode cX6_shareByLaw 10 = .ok (.iload_n 1, 1) := by decide +kernel
theorem dX6_shareByLaw_11 : decode cX6_shareByLaw 11 = .ok (.imul, 1) := by decide +kernel
theorem dX6_shareByLaw_12 : decode cX6_shareByLaw 12 = .ok (.invokestatic 50, 3) := by decide +kernel
theorem dX6_shareByLaw_15 : decode cX6_shareByLaw 15 = .ok (.bipush 10, 2) := by decide +kernel
theorem dX6_shareByLaw_17 : decode cX6_shareByLaw 17 = .ok (.invokestatic 64, 3) := by decide +kernel
theorem dX6_shareByLaw_20 : decode cX6_shareByLaw 20 = .ok (.ishr, 1) := by decide +kernel
theorem dX6_shareByLaw_21 : decode cX6_shareByLaw 21 = .ok (.ireturn, 1) := by decide +kernel
theorem dX6_shareByLaw_22 : decode cX6_shareByLaw 22 = .ok (.iload_n 0, 1) := by decide +kernel
theorem dX6_shareByLaw_23 : decode cX6_shareByLaw 23 = .ok (.iconst 1, 1) := by decide +kernel
theorem dX6_shareByLaw_24 : decode cX6_shareByLaw 24 = .ok (.if_icmp .ne 18, 3) := by decide +kernel
theorem dX6_shareByLaw_27 : decode cX6_shareByLaw 27 = .ok (.iconst 0, 1) := by decide +kernel
theorem dX6_shareByLaw_28 : decode cX6_shareByLaw 28 = .ok (.sipush 1000, 3) := by decide +kernel
theorem dX6_shareByLaw_31 : decode cX6_shareByLaw 31 = .ok (.iload_n 1, 1) := by decide +kernel
theorem dX6_shareByLaw_32 : decode cX6_shareByLaw 32 = .ok (.iload_n 2, 1) := by decide +kernel
theorem dX6_shareByLaw_33 : decode cX6_shareByLaw 33 = .ok (.imul, 1) := by decide +kernel
theorem dX6_shareByLaw_34 : decode cX6_shareByLaw 34 = .ok (.bipush 10, 2) := by decide +kernel
theorem dX6_shareByLaw_36 : decode cX6_shareByLaw 36 = .ok (.idiv, 1) := by decide +kernel
theorem dX6_shareByLaw_37 : decode cX6_shareByLaw 37 = .ok (.isub, 1) := by decide +kernel
theorem dX6_shareByLaw_38 : decode cX6_shareByLaw 38 = .ok (.invokestatic 67, 3) := by decide +kernel
theorem dX6_shareByLaw_41 : decode cX6_shareByLaw 41 = .ok (.ireturn, 1) := by decide +kernel
theorem dX6_shareByLaw_42 : decode cX6_shareByLaw 42 = .ok (.iload_n 2, 1) := by decide +kernel
theorem dX6_shareByLaw_43 : decode cX6_shareByLaw 43 = .ok (.bipush 10, 2) := by decide +kernel
theorem dX6_shareByLaw_45 : decode cX6_shareByLaw 45 = .ok (.iload_n 1, 1) := by decide +kernel
theorem dX6_shareByLaw_46 : decode cX6_shareByLaw 46 = .ok (.imul, 1) := by decide +kernel
theorem dX6_shareByLaw_47 : decode cX6_shareByLaw 47 = .ok (.if_icmp .gt 9, 3) := by decide +kernel
theorem dX6_shareByLaw_50 : decode cX6_shareByLaw 50 = .ok (.sipush 900, 3) := by decide +kernel
theorem dX6_shareByLaw_53 : decode cX6_shareByLaw 53 = .ok (.goto 5, 3) := by decide +kernel
theorem dX6_shareByLaw_56 : decode cX6_shareByLaw 56 = .ok (.bipush 100, 2) := by decide +kernel
theorem dX6_shareByLaw_58 : decode cX6_shareByLaw 58 = .ok (.ireturn, 1) := by decide +kernel
theorem dX6_best_0 : decode cX6_best 0 = .ok (.iconst 1, 1) := by decide +kernel
theorem dX6_best_1 : decode cX6_best 1 = .ok (.istore_n 2, 1) := by decide +kernel
theorem dX6_best_2 : decode cX6_best 2 = .ok (.iconst (-1), 1) := by decide +kernel
theorem dX6_best_3 : decode cX6_best 3 = .ok (.istore_n 3, 1) := by decide +kernel
theorem dX6_best_4 : decode cX6_best 4 = .ok (.iconst 0, 1) := by decide +kernel
theorem dX6_best_5 : decode cX6_best 5 = .ok (.istore 4, 2) := by decide +kernel
theorem dX6_best_7 : decode cX6_best 7 = .ok (.iload 4, 2) := by decide +kernel
theorem dX6_best_9 : decode cX6_best 9 = .ok (.iconst 3, 1) := by decide +kernel
theorem dX6_best_10 : decode cX6_best 10 = .ok (.if_icmp .ge 58, 3) := by decide +kernel
theorem dX6_best_13 : decode cX6_best 13 = .ok (.iconst 1, 1) := by decide +kernel
theorem dX6_best_14 : decode cX6_best 14 = .ok (.istore 5, 2) := by decide +kernel
theorem dX6_best_16 : decode cX6_best 16 = .ok (.iload 5, 2) := by decide +kernel
theorem dX6_best_18 : decode cX6_best 18 = .ok (.bipush 99, 2) := by decide +kernel
theorem dX6_best_20 : decode cX6_best 20 = .ok (.if_icmp .gt 42, 3) := by decide +kernel
theorem dX6_best_23 : decode cX6_best 23 = .ok (.aload_n 0, 1) := by decide +kernel
theorem dX6_best_24 : decode cX6_best 24 = .ok (.iload 4, 2) := by decide +kernel
theorem dX6_best_26 : decode cX6_best 26 = .ok (.iload 5, 2) := by decide +kernel
theorem dX6_best_28 : decode cX6_best 28 = .ok (.invokevirtual 70, 3) := by decide +kernel
theorem dX6_best_31 : decode cX6_best 31 = .ok (.istore 6, 2) := by decide +kernel
theorem dX6_best_33 : decode cX6_best 33 = .ok (.iload_n 3, 1) := by decide +kernel
theorem dX6_best_34 : decode cX6_best 34 = .ok (.iconst (-1), 1) := by decide +kernel
theorem dX6_best_35 : decode cX6_best 35 = .ok (.if_icmp .eq 9, 3) := by decide +kernel
theorem dX6_best_38 : decode cX6_best 38 = .ok (.iload 6, 2) := by decide +kernel
theorem dX6_best_40 : decode cX6_best 40 = .ok (.iload_n 3, 1) := by decide +kernel
theorem dX6_best_41 : decode cX6_best 41 = .ok (.if_icmp .ge 15, 3) := by decide +kernel
theorem dX6_best_44 : decode cX6_best 44 = .ok (.iload 6, 2) := by decide +kernel
theorem dX6_best_46 : decode cX6_best 46 = .ok (.istore_n 3, 1) := by decide +kernel
theorem dX6_best_47 : decode cX6_best 47 = .ok (.bipush 100, 2) := by decide +kernel
theorem dX6_best_49 : decode cX6_best 49 = .ok (.iload 4, 2) := by decide +kernel
theorem dX6_best_51 : decode cX6_best 51 = .ok (.imul, 1) := by decide +kernel
theorem dX6_best_52 : decode cX6_best 52 = .ok (.iload 5, 2) := by decide +kernel
theorem dX6_best_54 : decode cX6_best 54 = .ok (.iadd, 1) := by decide +kernel
theorem dX6_best_55 : decode cX6_best 55 = .ok (.istore_n 2, 1) := by decide +kernel
theorem dX6_best_56 : decode cX6_best 56 = .ok (.iinc 5 1, 3) := by decide +kernel
theorem dX6_best_59 : decode cX6_best 59 = .ok (.goto (-43), 3) := by decide +kernel
theorem dX6_best_62 : decode cX6_best 62 = .ok (.iinc 4 1, 3) := by decide +kernel
theorem dX6_best_65 : decode cX6_best 65 = .ok (.goto (-58), 3) := by decide +kernel
theorem dX6_best_68 : decode cX6_best 68 = .ok (.iload_n 1, 1) := by decide +kernel
theorem dX6_best_69 : decode cX6_best 69 = .ok (.ifCond .ne 7, 3) := by decide +kernel
theorem dX6_best_72 : decode cX6_best 72 = .ok (.iload_n 2, 1) := by decide +kernel
theorem dX6_best_73 : decode cX6_best 73 = .ok (.goto 4, 3) := by decide +kernel
theorem dX6_best_76 : decode cX6_best 76 = .ok (.iload_n 3, 1) := by decide +kernel
theorem dX6_best_77 : decode cX6_best 77 = .ok (.ireturn, 1) := by decide +kernel
theorem dX7_init_0 : decode cX7_init 0 = .ok (.aload_n 0, 1) := by decide +kernel
theorem dX7_init_1 : decode cX7_init 1 = .ok (.invokespecial 3, 3) := by decide +kernel
theorem dX7_init_4 : decode cX7_init 4 = .ok (.aload_n 0, 1) := by decide +kernel
theorem dX7_init_5 : decode cX7_init 5 = .ok (.sipush 200, 3) := by decide +kernel
theorem dX7_init_8 : decode cX7_init 8 = .ok (.newarray .int, 2) := by decide +kernel
theorem dX7_init_10 : decode cX7_init 10 = .ok (.putfield 9, 3) := by decide +kernel
theorem dX7_init_13 : decode cX7_init 13 = .ok (.aload_n 0, 1) := by decide +kernel
theorem dX7_init_14 : decode cX7_init 14 = .ok (.bipush 64, 2) := by decide +kernel
theorem dX7_init_16 : decode cX7_init 16 = .ok (.newarray .int, 2) := by decide +kernel
theorem dX7_init_18 : decode cX7_init 18 = .ok (.putfield 15, 3) := by decide +kernel
theorem dX7_init_21 : decode cX7_init 21 = .ok (.return_, 1) := by decide +kernel
theorem dX7_hasRoomFor_0 : decode cX7_hasRoomFor 0 = .ok (.iload_n 1, 1) := by decide +kernel
theorem dX7_hasRoomFor_1 : decode cX7_hasRoomFor 1 = .ok (.sipush 200, 3) := by decide +kernel
theorem dX7_hasRoomFor_4 : decode cX7_hasRoomFor 4 = .ok (.aload_n 0, 1) := by decide +kernel
theorem dX7_hasRoomFor_5 : decode cX7_hasRoomFor 5 = .ok (.getfield 18, 3) := by decide +kernel
theorem dX7_hasRoomFor_8 : decode cX7_hasRoomFor 8 = .ok (.isub, 1) := by decide +kernel
theorem dX7_hasRoomFor_9 : decode cX7_hasRoomFor 9 = .ok (.if_icmp .gt 7, 3) := by decide +kernel
theorem dX7_hasRoomFor_12 : decode cX7_hasRoomFor 12 = .ok (.iconst 1, 1) := by decide +kernel
theorem dX7_hasRoomFor_13 : decode cX7_hasRoomFor 13 = .ok (.goto 4, 3) := by decide +kernel
theorem dX7_hasRoomFor_16 : decode cX7_hasRoomFor 16 = .ok (.iconst 0, 1) := by decide +kernel
theorem dX7_hasRoomFor_17 : decode cX7_hasRoomFor 17 = .ok (.ireturn, 1) := by decide +kernel
theorem dX7_append_0 : decode cX7_append 0 = .ok (.iconst 0, 1) := by decide +kernel
theorem dX7_append_1 : decode cX7_append 1 = .ok (.istore 4, 2) := by decide +kernel
theorem dX7_append_3 : decode cX7_append 3 = .ok (.iload 4, 2) := by decide +kernel
theorem dX7_append_5 : decode cX7_append 5 = .ok (.iload_n 3, 1) := by decide +kernel
theorem dX7_append_6 : decode cX7_append 6 = .ok (.if_icmp .ge 50, 3) := by decide +kernel
theorem dX7_append_9 : decode cX7_append 9 = .ok (.aload_n 0, 1) := by decide +kernel
theorem dX7_append_10 : decode cX7_append 10 = .ok (.getfield 18, 3) := by decide +kernel
theorem dX7_append_13 : decode cX7_append 13 = .ok (.sipush 200, 3) := by decide +kernel
theorem dX7_append_16 : decode cX7_append 16 = .ok (.if_icmp .ge 40, 3) := by decide +kernel
theorem dX7_append_19 : decode cX7_append 19 = .ok (.aload_n 0, 1) := by decide +kernel
theorem dX7_append_20 : decode cX7_append 20 = .ok (.getfield 9, 3) := by decide +kernel
theorem dX7_append_23 : decode cX7_append 23 = .ok (.aload_n 0, 1) := by decide +kernel
theorem dX7_append_24 : decode cX7_append 24 = .ok (.getfield 18, 3) := by decide +kernel
theorem dX7_append_27 : decode cX7_append 27 = .ok (.lload_n 1, 1) := by decide +kernel
theorem dX7_append_28 : decode cX7_append 28 = .ok (.bipush 8, 2) := by decide +kernel
theorem dX7_append_30 : decode cX7_append 30 = .ok (.iload 4, 2) := by decide +kernel
theorem dX7_append_32 : decode cX7_append 32 = .ok (.imul, 1) := by decide +kernel
theorem dX7_append_33 : decode cX7_append 33 = .ok (.lshr, 1) := by decide +kernel
theorem dX7_append_34 : decode cX7_append 34 = .ok (.l2i, 1) := by decide +kernel
theorem dX7_append_35 : decode cX7_append 35 = .ok (.sipush 255, 3) := by decide +kernel
theorem dX7_append_38 : decode cX7_append 38 = .ok (.iand, 1) := by decide +kernel
theorem dX7_append_39 : decode cX7_append 39 = .ok (.iastore, 1) := by decide +kernel
theorem dX7_append_40 : decode cX7_append 40 = .ok (.aload_n 0, 1) := by decide +kernel
theorem dX7_append_41 : decode cX7_append 41 = .ok (.dup, 1) := by decide +kernel
theorem dX7_append_42 : decode cX7_append 42 = .ok (.getfield 18, 3) := by decide +kernel
theorem dX7_append_45 : decode cX7_append 45 = .ok (.iconst 1, 1) := by decide +kernel
theorem dX7_append_46 : decode cX7_append 46 = .ok (.iadd, 1) := by decide +kernel
theorem dX7_append_47 : decode cX7_append 47 = .ok (.putfield 18, 3) := by decide +kernel
theorem dX7_append_50 : decode cX7_append 50 = .ok (.iinc 4 1, 3) := by decide +kernel
theorem dX7_append_53 : decode cX7_append 53 = .ok (.goto (-50), 3) := by decide +kernel
theorem dX7_append_56 : decode cX7_append 56 = .ok (.aload_n 0, 1) := by decide +kernel
theorem dX7_append_57 : decode cX7_append 57 = .ok (.getfield 18, 3) := by decide +kernel
theorem dX7_append_60 : decode cX7_append 60 = .ok (.ireturn, 1) := by decide +kernel
theorem dX7_empty_0 : decode cX7_empty 0 = .ok (.aload_n 0, 1) := by decide +kernel
theorem dX7_empty_1 : decode cX7_empty 1 = .ok (.getfield 18, 3) := by decide +kernel
theorem dX7_empty_4 : decode cX7_empty 4 = .ok (.istore_n 1, 1) := by decide +kernel
theorem dX7_empty_5 : decode cX7_empty 5 = .ok (.aload_n 0, 1) := by decide +kernel
theorem dX7_empty_6 : decode cX7_empty 6 = .ok (.iconst 0, 1) := by decide +kernel
theorem dX7_empty_7 : decode cX7_empty 7 = .ok (.putfield 18, 3) := by decide +kernel
theorem dX7_empty_10 : decode cX7_empty 10 = .ok (.iload_n 1, 1) := by decide +kernel
theorem dX7_empty_11 : decode cX7_empty 11 = .ok (.ireturn, 1) := by decide +kernel
theorem dX7_read_0 : decode cX7_read 0 = .ok (.aload_n 0, 1) := by decide +kernel
theorem dX7_read_1 : decode cX7_read 1 = .ok (.iconst 0, 1) := by decide +kernel
theorem dX7_read_2 : decode cX7_read 2 = .ok (.putfield 22, 3) := by decide +kernel
theorem dX7_read_5 : decode cX7_read 5 = .ok (.aload_n 0, 1) := by decide +kernel
theorem dX7_read_6 : decode cX7_read 6 = .ok (.iconst 0, 1) := by decide +kernel
theorem dX7_read_7 : decode cX7_read 7 = .ok (.putfield 25, 3) := by decide +kernel
theorem dX7_read_10 : decode cX7_read 10 = .ok (.iconst 0, 1) := by decide +kernel
theorem dX7_read_11 : decode cX7_read 11 = .ok (.istore_n 1, 1) := by decide +kernel
theorem dX7_read_12 : decode cX7_read 12 = .ok (.iload_n 1, 1) := by decide +kernel
theorem dX7_read_13 : decode cX7_read 13 = .ok (.bipush 8, 2) := by decide +kernel
theorem dX7_read_15 : decode cX7_read 15 = .ok (.if_icmp .ge 71, 3) := by decide +kernel
theorem dX7_read_18 : decode cX7_read 18 = .ok (.aload_n 0, 1) := by decide +kernel
theorem dX7_read_19 : decode cX7_read 19 = .ok (.iload_n 1, 1) := by decide +kernel
theorem dX7_read_20 : decode cX7_read 20 = .ok (.bipush 8, 2) := by decide +kernel
theorem dX7_read_22 : decode cX7_read 22 = .ok (.imul, 1) := by decide +kernel
theorem dX7_read_23 : decode cX7_read 23 = .ok (.invokevirtual 28, 3) := by decide +kernel
theorem dX7_read_26 : decode cX7_read 26 = .ok (.ifCond .ne 8, 3) := by decide +kernel
theorem dX7_read_29 : decode cX7_read 29 = .ok (.aload_n 0, 1) := by decide +kernel
theorem dX7_read_30 : decode cX7_read 30 = .ok (.getfield 32, 3) := by decide +kernel
theorem dX7_read_33 : decode cX7_read 33 = .ok (.ireturn, 1) := by decide +kernel
theorem dX7_read_34 : decode cX7_read 34 = .ok (.aload_n 0, 1) := by decide +kernel
theorem dX7_read_35 : decode cX7_read 35 = .ok (.dup, 1) := by decide +kernel
theorem dX7_read_36 : decode cX7_read 36 = .ok (.getfield 25, 3) := by decide +kernel
theorem dX7_read_39 : decode cX7_read 39 = .ok (.iconst 1, 1) := by decide +kernel
theorem dX7_read_40 : decode cX7_read 40 = .ok (.iadd, 1) := by decide +kernel
theorem dX7_read_41 : decode cX7_read 41 = .ok (.putfield 25, 3) := by decide +kernel
theorem dX7_read_44 : decode cX7_read 44 = .ok (.aload_n 0, 1) := by decide +kernel
theorem dX7_read_45 : decode cX7_read 45 = .ok (.invokevirtual 35, 3) := by decide +kernel
theorem dX7_read_48 : decode cX7_read 48 = .ok (.aload_n 0, 1) := by decide +kernel
theorem dX7_read_49 : decode cX7_read 49 = .ok (.getfield 32, 3) := by decide +kernel
theorem dX7_read_52 : decode cX7_read 52 = .ok (.aload_n 0, 1) := by decide +kernel
theorem dX7_read_53 : decode cX7_read 53 = .ok (.getfield 18, 3) := by decide +kernel
theorem dX7_read_56 : decode cX7_read 56 = .ok (.if_icmp .lt 5, 3) := by decide +kernel
theorem dX7_read_59 : decode cX7_read 59 = .ok (.iconst (-1), 1) := by decide +kernel
theorem dX7_read_60 : decode cX7_read 60 = .ok (.ireturn, 1) := by decide +kernel
theorem dX7_read_61 : decode cX7_read 61 = .ok (.aload_n 0, 1) := by decide +kernel
theorem dX7_read_62 : decode cX7_read 62 = .ok (.getfield 9, 3) := by decide +kernel
theorem dX7_read_65 : decode cX7_read 65 = .ok (.aload_n 0, 1) := by decide +kernel
theorem dX7_read_66 : decode cX7_read 66 = .ok (.getfield 32, 3) := by decide +kernel
theorem dX7_read_69 : decode cX7_read 69 = .ok (.iaload, 1) := by decide +kernel
theorem dX7_read_70 : decode cX7_read 70 = .ok (.bipush 59, 2) := by decide +kernel
theorem dX7_read_72 : decode cX7_read 72 = .ok (.if_icmp .eq 8, 3) := by decide +kernel
theorem dX7_read_75 : decode cX7_read 75 = .ok (.aload_n 0, 1) := by decide +kernel
theorem dX7_read_76 : decode cX7_read 76 = .ok (.getfield 32, 3) := by decide +kernel
theorem dX7_read_79 : decode cX7_read 79 = .ok (.ireturn, 1) := by decide +kernel
theorem dX7_read_80 : decode cX7_read 80 = .ok (.iinc 1 1, 3) := by decide +kernel
theorem dX7_read_83 : decode cX7_read 83 = .ok (.goto (-71), 3) := by decide +kernel
theorem dX7_read_86 : decode cX7_read 86 = .ok (.aload_n 0, 1) := by decide +kernel
theorem dX7_read_87 : decode cX7_read 87 = .ok (.getfield 32, 3) := by decide +kernel
theorem dX7_read_90 : decode cX7_read 90 = .ok (.ireturn, 1) := by decide +kernel
theorem dX7_readLine_0 : decode cX7_readLine 0 = .ok (.aload_n 0, 1) := by decide +kernel
theorem dX7_readLine_1 : decode cX7_readLine 1 = .ok (.invokevirtual 35, 3) := by decide +kernel
theorem dX7_readLine_4 : decode cX7_readLine 4 = .ok (.aload_n 0, 1) := by decide +kernel
theorem dX7_readLine_5 : decode cX7_readLine 5 = .ok (.invokevirtual 38, 3) := by decide +kernel
theorem dX7_readLine_8 : decode cX7_readLine 8 = .ok (.istore_n 2, 1) := by decide +kernel
theorem dX7_readLine_9 : decode cX7_readLine 9 = .ok (.iload_n 2, 1) := by decide +kernel
theorem dX7_readLine_10 : decode cX7_readLine 10 = .ok (.iconst (-1), 1) := by decide +kernel
theorem dX7_readLine_11 : decode cX7_readLine 11 = .ok (.if_icmp .ne 5, 3) := by decide +kernel
theorem dX7_readLine_14 : decode cX7_readLine 14 = .ok (.iconst 0, 1) := by decide +kernel
theorem dX7_readLine_15 : decode cX7_readLine 15 = .ok (.ireturn, 1) := by decide +kernel
theorem dX7_readLine_16 : decode cX7_readLine 16 = .ok (.aload_n 0, 1) := by decide +kernel
theorem dX7_readLine_17 : decode cX7_readLine 17 = .ok (.getfield 15, 3) := by decide +kernel
theorem dX7_readLine_20 : decode cX7_readLine 20 = .ok (.iload_n 1, 1) := by decide +kernel
theorem dX7_readLine_21 : decode cX7_readLine 21 = .ok (.iload_n 2, 1) := by decide +kernel
theorem dX7_readLine_22 : decode cX7_readLine 22 = .ok (.iastore, 1) := by decide +kernel
theorem dX7_readLine_23 : decode cX7_readLine 23 = .ok (.iload_n 2, 1) := by decide +kernel
theorem dX7_readLine_24 : decode cX7_readLine 24 = .ok (.invokestatic 42, 3) := by decide +kernel
theorem dX7_readLine_27 : decode cX7_readLine 27 = .ok (.astore_n 3, 1) := by decide +kernel
theorem dX7_readLine_28 : decode cX7_readLine 28 = .ok (.iconst 0, 1) := by decide +kernel
theorem dX7_readLine_29 : decode cX7_readLine 29 = .ok (.istore 4, 2) := by decide +kernel
theorem dX7_readLine_31 : decode cX7_readLine 31 = .ok (.iconst 0, 1) := by decide +kernel
theorem dX7_readLine_32 : decode cX7_readLine 32 = .ok (.istore 5, 2) := by decide +kernel
theorem dX7_readLine_34 : decode cX7_readLine 34 = .ok (.iload 5, 2) := by decide +kernel
theorem dX7_readLine_36 : decode cX7_readLine 36 = .ok (.aload_n 3, 1) := by decide +kernel
theorem dX7_readLine_37 : decode cX7_readLine 37 = .ok (.invokevirtual 46, 3) := by decide +kernel
theorem dX7_readLine_40 : decode cX7_readLine 40 = .ok (.if_icmp .ge 60, 3) := by decide +kernel
theorem dX7_readLine_43 : decode cX7_readLine 43 = .ok (.aload_n 0, 1) := by decide +kernel
theorem dX7_readLine_44 : decode cX7_readLine 44 = .ok (.invokevirtual 35, 3) := by decide +kernel
theorem dX7_readLine_47 : decode cX7_readLine 47 = .ok (.aload_n 0, 1) := by decide +kernel
theorem dX7_readLine_48 : decode cX7_readLine 48 = .ok (.invokevirtual 50, 3) := by decide +kernel
theorem dX7_readLine_51 : decode cX7_readLine 51 = .ok (.istore 6, 2) := by decide +kernel
theorem dX7_readLine_53 : decode cX7_readLine 53 = .ok (.iload 6, 2) := by decide +kernel
theorem dX7_readLine_55 : decode cX7_readLine 55 = .ok (.iconst (-1), 1) := by decide +kernel
theorem dX7_readLine_56 : decode cX7_readLine 56 = .ok (.if_icmp .eq 19, 3) := by decide +kernel
theorem dX7_readLine_59 : decode cX7_readLine 59 = .ok (.aload_n 3, 1) := by decide +kernel
theorem dX7_readLine_60 : decode cX7_readLine 60 = .ok (.iload 5, 2) := by decide +kernel
theorem dX7_readLine_62 : decode cX7_readLine 62 = .ok (.invokevirtual 53, 3) := by decide +kernel
theorem dX7_readLine_65 : decode cX7_readLine 65 = .ok (.iload 6, 2) := by decide +kernel
theorem dX7_readLine_67 : decode cX7_readLine 67 = .ok (.iload 4, 2) := by decide +kernel
theorem dX7_readLine_69 : decode cX7_readLine 69 = .ok (.invokestatic 57, 3) := by decide +kernel
theorem dX7_readLine_72 : decode cX7_readLine 72 = .ok (.ifCond .ne 5, 3) := by decide +kernel
theorem dX7_readLine_75 : decode cX7_readLine 75 = .ok (.iconst 0, 1) := by decide +kernel
theorem dX7_readLine_76 : decode cX7_readLine 76 = .ok (.ireturn, 1) := by decide +kernel
theorem dX7_readLine_77 : decode cX7_readLine 77 = .ok (.aload_n 0, 1) := by decide +kernel
theorem dX7_readLine_78 : decode cX7_readLine 78 = .ok (.getfield 15, 3) := by decide +kernel
theorem dX7_readLine_81 : decode cX7_readLine 81 = .ok (.iload_n 1, 1) := by decide +kernel
theorem dX7_readLine_82 : decode cX7_readLine 82 = .ok (.iconst 1, 1) := by decide +kernel
theorem dX7_readLine_83 : decode cX7_readLine 83 = .ok (.iadd, 1) := by decide +kernel
theorem dX7_readLine_84 : decode cX7_readLine 84 = .ok (.iload 5, 2) := by decide +kernel
theorem dX7_readLine_86 : decode cX7_readLine 86 = .ok (.iadd, 1) := by decide +kernel
theorem dX7_readLine_87 : decode cX7_readLine 87 = .ok (.iload 6, 2) := by decide +kernel
theorem dX7_readLine_89 : decode cX7_readLine 89 = .ok (.iastore, 1) := by decide +kernel
theorem dX7_readLine_90 : decode cX7_readLine 90 = .ok (.iload 6, 2) := by decide +kernel
theorem dX7_readLine_92 : decode cX7_readLine 92 = .ok (.istore 4, 2) := by decide +kernel
theorem dX7_readLine_94 : decode cX7_readLine 94 = .ok (.iinc 5 1, 3) := by decide +kernel
theorem dX7_readLine_97 : decode cX7_readLine 97 = .ok (.goto (-63), 3) := by decide +kernel
theorem dX7_readLine_100 : decode cX7_readLine 100 = .ok (.iconst 1, 1) := by decide +kernel
theorem dX7_readLine_101 : decode cX7_readLine 101 = .ok (.ireturn, 1) := by decide +kernel
theorem dX7_takeToken_0 : decode cX7_takeToken 0 = .ok (.aload_n 0, 1) := by decide +kernel
theorem dX7_takeToken_1 : decode cX7_takeToken 1 = .ok (.aload_n 0, 1) := by decide +kernel
theorem dX7_takeToken_2 : decode cX7_takeToken 2 = .ok (.getfield 22, 3) := by decide +kernel
theorem dX7_takeToken_5 : decode cX7_takeToken 5 = .ok (.putfield 32, 3) := by decide +kernel
theorem dX7_takeToken_8 : decode cX7_takeToken 8 = .ok (.aload_n 0, 1) := by decide +kernel
theorem dX7_takeToken_9 : decode cX7_takeToken 9 = .ok (.getfield 32, 3) := by decide +kernel
theorem dX7_takeToken_12 : decode cX7_takeToken 12 = .ok (.aload_n 0, 1) := by decide +kernel
theorem dX7_takeToken_13 : decode cX7_takeToken 13 = .ok (.getfield 18, 3) := by decide +kernel
theorem dX7_takeToken_16 : decode cX7_takeToken 16 = .ok (.if_icmp .ge 30, 3) := by decide +kernel
theorem dX7_takeToken_19 : decode cX7_takeToken 19 = .ok (.aload_n 0, 1) := by decide +kernel
theorem dX7_takeToken_20 : decode cX7_takeToken 20 = .ok (.getfield 9, 3) := by decide +kernel
theorem dX7_takeToken_23 : decode cX7_takeToken 23 = .ok (.aload_n 0, 1) := by decide +kernel
theorem dX7_takeToken_24 : decode cX7_takeToken 24 = .ok (.getfield 32, 3) := by decide +kernel
theorem dX7_takeToken_27 : decode cX7_takeToken 27 = .ok (.iaload, 1) := by decide +kernel
theorem dX7_takeToken_28 : decode cX7_takeToken 28 = .ok (.bipush 32, 2) := by decide +kernel
theorem dX7_takeToken_30 : decode cX7_takeToken 30 = .ok (.if_icmp .ne 16, 3) := by decide +kernel
theorem dX7_takeToken_33 : decode cX7_takeToken 33 = .ok (.aload_n 0, 1) := by decide +kernel
theorem dX7_takeToken_34 : decode cX7_takeToken 34 = .ok (.dup, 1) := by decide +kernel
theorem dX7_takeToken_35 : decode cX7_takeToken 35 = .ok (.getfield 32, 3) := by decide +kernel
theorem dX7_takeToken_38 : decode cX7_takeToken 38 = .ok (.iconst 1, 1) := by decide +kernel
theorem dX7_takeToken_39 : decode cX7_takeToken 39 = .ok (.iadd, 1) := by decide +kernel
theorem dX7_takeToken_40 : decode cX7_takeToken 40 = .ok (.putfield 32, 3) := by decide +kernel
theorem dX7_takeToken_43 : decode cX7_takeToken 43 = .ok (.goto (-35), 3) := by decide +kernel
theorem dX7_takeToken_46 : decode cX7_takeToken 46 = .ok (.aload_n 0, 1) := by decide +kernel
theorem dX7_takeToken_47 : decode cX7_takeToken 47 = .ok (.aload_n 0, 1) := by decide +kernel
theorem dX7_takeToken_48 : decode cX7_takeToken 48 = .ok (.getfield 32, 3) := by decide +kernel
theorem dX7_takeToken_51 : decode cX7_takeToken 51 = .ok (.iconst 1, 1) := by decide +kernel
theorem dX7_takeToken_52 : decode cX7_takeToken 52 = .ok (.iadd, 1) := by decide +kernel
theorem dX7_takeToken_53 : decode cX7_takeToken 53 = .ok (.aload_n 0, 1) := by decide +kernel
theorem dX7_takeToken_54 : decode cX7_takeToken 54 = .ok (.getfield 18, 3) := by decide +kernel
theorem dX7_takeToken_57 : decode cX7_takeToken 57 = .ok (.invokestatic 61, 3) := by decide +kernel
theorem dX7_takeToken_60 : decode cX7_takeToken 60 = .ok (.putfield 22, 3) := by decide +kernel
theorem dX7_takeToken_63 : decode cX7_takeToken 63 = .ok (.aload_n 0, 1) := by decide +kernel
theorem dX7_takeToken_64 : decode cX7_takeToken 64 = .ok (.getfield 22, 3) := by decide +kernel
theorem dX7_takeToken_67 : decode cX7_takeToken 67 = .ok (.aload_n 0, 1) := by decide +kernel
theorem dX7_takeToken_68 : decode cX7_takeToken 68 = .ok (.getfield 18, 3) := by decide +kernel
theorem dX7_takeToken_71 : decode cX7_takeToken 71 = .ok (.if_icmp .ge 40, 3) := by decide +kernel
theorem dX7_takeToken_74 : decode cX7_takeToken 74 = .ok (.aload_n 0, 1) := by decide +kernel
theorem dX7_takeToken_75 : decode cX7_takeToken 75 = .ok (.getfield 9, 3) := by decide +kernel
theorem dX7_takeToken_78 : decode cX7_takeToken 78 = .ok (.aload_n 0, 1) := by decide +kernel
theorem dX7_takeToken_79 : decode cX7_takeToken 79 = .ok (.getfield 32, 3) := by decide +kernel
theorem dX7_takeToken_82 : decode cX7_takeToken 82 = .ok (.iaload, 1) := by decide +kernel
theorem dX7_takeToken_83 : decode cX7_takeToken 83 = .ok (.aload_n 0, 1) := by decide +kernel
theorem dX7_takeToken_84 : decode cX7_takeToken 84 = .ok (.getfield 9, 3) := by decide +kernel
theorem dX7_takeToken_87 : decode cX7_takeToken 87 = .ok (.aload_n 0, 1) := by decide +kernel
theorem dX7_takeToken_88 : decode cX7_takeToken 88 = .ok (.getfield 22, 3) := by decide +kernel
theorem dX7_takeToken_91 : decode cX7_takeToken 91 = .ok (.iaload, 1) := by decide +kernel
theorem dX7_takeToken_92 : decode cX7_takeToken 92 = .ok (.invokestatic 67, 3) := by decide +kernel
theorem dX7_takeToken_95 : decode cX7_takeToken 95 = .ok (.ifCond .eq 16, 3) := by decide +kernel
theorem dX7_takeToken_98 : decode cX7_takeToken 98 = .ok (.aload_n 0, 1) := by decide +kernel
theorem dX7_takeToken_99 : decode cX7_takeToken 99 = .ok (.dup, 1) := by decide +kernel
theorem dX7_takeToken_100 : decode cX7_takeToken 100 = .ok (.getfield 22, 3) := by decide +kernel
theorem dX7_takeToken_103 : decode cX7_takeToken 103 = .ok (.iconst 1, 1) := by decide +kernel
theorem dX7_takeToken_104 : decode cX7_takeToken 104 = .ok (.iadd, 1) := by decide +kernel
theorem dX7_takeToken_105 : decode cX7_takeToken 105 = .ok (.putfield 22, 3) := by decide +kernel
theorem dX7_takeToken_108 : decode cX7_takeToken 108 = .ok (.goto (-45), 3) := by decide +kernel
theorem dX7_takeToken_111 : decode cX7_takeToken 111 = .ok (.return_, 1) := by decide +kernel
theorem dX7_areOfOneToken_0 : decode cX7_areOfOneToken 0 = .ok (.iload_n 0, 1) := by decide +kernel
theorem dX7_areOfOneToken_1 : decode cX7_areOfOneToken 1 = .ok (.invokestatic 71, 3) := by decide +kernel
theorem dX7_areOfOneToken_4 : decode cX7_areOfOneToken 4 = .ok (.ifCond .eq 10, 3) := by decide +kernel
theorem dX7_areOfOneToken_7 : decode cX7_areOfOneToken 7 = .ok (.iload_n 1, 1) := by decide +kernel
theorem dX7_areOfOneToken_8 : decode cX7_areOfOneToken 8 = .ok (.invokestatic 71, 3) := by decide +kernel
theorem dX7_areOfOneToken_11 : decode cX7_areOfOneToken 11 = .ok (.ifCond .ne 17, 3) := by decide +kernel
theorem dX7_areOfOneToken_14 : decode cX7_areOfOneToken 14 = .ok (.iload_n 0, 1) := by decide +kernel
theorem dX7_areOfOneToken_15 : decode cX7_areOfOneToken 15 = .ok (.invokestatic 74, 3) := by decide +kernel
theorem dX7_areOfOneToken_18 : decode cX7_areOfOneToken 18 = .ok (.ifCond .eq 14, 3) := by decide +kernel
theorem dX7_areOfOneToken_21 : decode cX7_areOfOneToken 21 = .ok (.iload_n 1, 1) := by decide +kernel
theorem dX7_areOfOneToken_22 : decode cX7_areOfOneToken 22 = .ok (.invokestatic 74, 3) := by decide +kernel
theorem dX7_areOfOneToken_25 : decode cX7_areOfOneToken 25 = .ok (.ifCond .eq 7, 3) := by decide +kernel
theorem dX7_areOfOneToken_28 : decode cX7_areOfOneToken 28 = .ok (.iconst 1, 1) := by decide +kernel
theorem dX7_areOfOneToken_29 : decode cX7_areOfOneToken 29 = .ok (.goto 4, 3) := by decide +kernel
theorem dX7_areOfOneToken_32 : decode cX7_areOfOneToken 32 = .ok (.iconst 0, 1) := by decide +kernel
theorem dX7_areOfOneToken_33 : decode cX7_areOfOneToken 33 = .ok (.ireturn, 1) := by decide +kernel
theorem dX7_isLetter_0 : decode cX7_isLetter 0 = .ok (.iload_n 0, 1) := by decide +kernel
theorem dX7_isLetter_1 : decode cX7_isLetter 1 = .ok (.bipush 97, 2) := by decide +kernel
theorem dX7_isLetter_3 : decode cX7_isLetter 3 = .ok (.bipush 122, 2) := by decide +kernel
theorem dX7_isLetter_5 : decode cX7_isLetter 5 = .ok (.invokestatic 77, 3) := by decide +kernel
theorem dX7_isLetter_8 : decode cX7_isLetter 8 = .ok (.ireturn, 1) := by decide +kernel
theorem dX7_isDigit_0 : decode cX7_isDigit 0 = .ok (.iload_n 0, 1) := by decide +kernel
theorem dX7_isDigit_1 : decode cX7_isDigit 1 = .ok (.bipush 48, 2) := by decide +kernel
theorem dX7_isDigit_3 : decode cX7_isDigit 3 = .ok (.bipush 57, 2) := by decide +kernel
theorem dX7_isDigit_5 : decode cX7_isDigit 5 = .ok (.invokestatic 77, 3) := by decide +kernel
theorem dX7_isDigit_8 : decode cX7_isDigit 8 = .ok (.ireturn, 1) := by decide +kernel
theorem dX7_numberOfToken_0 : decode cX7_numberOfToken 0 = .ok (.aload_n 0, 1) := by decide +kernel
theorem dX7_numberOfToken_1 : decode cX7_numberOfToken 1 = .ok (.getfield 32, 3) := by decide +kernel
theorem dX7_numberOfToken_4 : decode cX7_numberOfToken 4 = .ok (.aload_n 0, 1) := by decide +kernel
theorem dX7_numberOfToken_5 : decode cX7_numberOfToken 5 = .ok (.getfield 18, 3) := by decide +kernel
theorem dX7_numberOfToken_8 : decode cX7_numberOfToken 8 = .ok (.if_icmp .ge 31, 3) := by decide +kernel
theorem dX7_numberOfToken_11 : decode cX7_numberOfToken 11 = .ok (.aload_n 0, 1) := by decide +kernel
theorem dX7_numberOfToken_12 : decode cX7_numberOfToken 12 = .ok (.getfield 9, 3) := by decide +kernel
theorem dX7_numberOfToken_15 : decode cX7_numberOfToken 15 = .ok (.aload_n 0, 1) := by decide +kernel
theorem dX7_numberOfToken_16 : decode cX7_numberOfToken 16 = .ok (.getfield 32, 3) := by decide +kernel
theorem dX7_numberOfToken_19 : decode cX7_numberOfToken 19 = .ok (.iaload, 1) := by decide +kernel
theorem dX7_numberOfToken_20 : decode cX7_numberOfToken 20 = .ok (.invokestatic 74, 3) := by decide +kernel
theorem dX7_numberOfToken_23 : decode cX7_numberOfToken 23 = .ok (.ifCond .eq 16, 3) := by decide +kernel
theorem dX7_numberOfToken_26 : decode cX7_numberOfToken 26 = .ok (.aload_n 0, 1) := by decide +kernel
theorem dX7_numberOfToken_27 : decode cX7_numberOfToken 27 = .ok (.getfield 22, 3) := by decide +kernel
theorem dX7_numberOfToken_30 : decode cX7_numberOfToken 30 = .ok (.aload_n 0, 1) := by decide +kernel
theorem dX7_numberOfToken_31 : decode cX7_numberOfToken 31 = .ok (.getfield 32, 3) := by decide +kernel
theorem dX7_numberOfToken_34 : decode cX7_numberOfToken 34 = .ok (.isub, 1) := by decide +kernel
theorem dX7_numberOfToken_35 : decode cX7_numberOfToken 35 = .ok (.iconst 4, 1) := by decide +kernel
theorem dX7_numberOfToken_36 : decode cX7_numberOfToken 36 = .ok (.if_icmp .le 5, 3) := by decide +kernel
theorem dX7_numberOfToken_39 : decode cX7_numberOfToken 39 = .ok (.iconst (-1), 1) := by decide +kernel
theorem dX7_numberOfToken_40 : decode cX7_numberOfToken 40 = .ok (.ireturn, 1) := by decide +kernel
theorem dX7_numberOfToken_41 : decode cX7_numberOfToken 41 = .ok (.iconst 0, 1) := by decide +kernel
theorem dX7_numberOfToken_42 : decode cX7_numberOfToken 42 = .ok (.istore_n 1, 1) := by decide +kernel
theorem dX7_numberOfToken_43 : decode cX7_numberOfToken 43 = .ok (.aload_n 0, 1) := by decide +kernel
theorem dX7_numberOfToken_44 : decode cX7_numberOfToken 44 = .ok (.getfield 32, 3) := by decide +kernel
theorem dX7_numberOfToken_47 : decode cX7_numberOfToken 47 = .ok (.istore_n 2, 1) := by decide +kernel
theorem dX7_numberOfToken_48 : decode cX7_numberOfToken 48 = .ok (.iload_n 2, 1) := by decide +kernel
theorem dX7_numberOfToken_49 : decode cX7_numberOfToken 49 = .ok (.aload_n 0, 1) := by decide +kernel
theorem dX7_numberOfToken_50 : decode cX7_numberOfToken 50 = .ok (.getfield 22, 3) := by decide +kernel
theorem dX7_numberOfToken_53 : decode cX7_numberOfToken 53 = .ok (.if_icmp .ge 24, 3) := by decide +kernel
theorem dX7_numberOfToken_56 : decode cX7_numberOfToken 56 = .ok (.bipush 10, 2) := by decide +kernel
theorem dX7_numberOfToken_58 : decode cX7_numberOfToken 58 = .ok (.iload_n 1, 1) := by decide +kernel
theorem dX7_numberOfToken_59 : decode cX7_numberOfToken 59 = .ok (.imul, 1) := by decide +kernel
theorem dX7_numberOfToken_60 : decode cX7_numberOfToken 60 = .ok (.aload_n 0, 1) := by decide +kernel
theorem dX7_numberOfToken_61 : decode cX7_numberOfToken 61 = .ok (.getfield 9, 3) := by decide +kernel
theorem dX7_numberOfToken_64 : decode cX7_numberOfToken 64 = .ok (.iload_n 2, 1) := by decide +kernel
theorem dX7_numberOfToken_65 : decode cX7_numberOfToken 65 = .ok (.iaload, 1) := by decide +kernel
theorem dX7_numberOfToken_66 : decode cX7_numberOfToken 66 = .ok (.iadd, 1) := by decide +kernel
theorem dX7_numberOfToken_67 : decode cX7_numberOfToken 67 = .ok (.bipush 48, 2) := by decide +kernel
theorem dX7_numberOfToken_69 : decode cX7_numberOfToken 69 = .ok (.isub, 1) := by decide +kernel
theorem dX7_numberOfToken_70 : decode cX7_numberOfToken 70 = .ok (.istore_n 1, 1) := by decide +kernel
theorem dX7_numberOfToken_71 : decode cX7_numberOfToken 71 = .ok (.iinc 2 1, 3) := by decide +kernel
theorem dX7_numberOfToken_74 : decode cX7_numberOfToken 74 = .ok (.goto (-26), 3) := by decide +kernel
theorem dX7_numberOfToken_77 : decode cX7_numberOfToken 77 = .ok (.iload_n 1, 1) := by decide +kernel
theorem dX7_numberOfToken_78 : decode cX7_numberOfToken 78 = .ok (.ireturn, 1) := by decide +kernel
theorem dX7_kindOfToken_0 : decode cX7_kindOfToken 0 = .ok (.iconst 0, 1) := by decide +kernel
theorem dX7_kindOfToken_1 : decode cX7_kindOfToken 1 = .ok (.istore_n 1, 1) := by decide +kernel
theorem dX7_kindOfToken_2 : decode cX7_kindOfToken 2 = .ok (.iload_n 1, 1) := by decide +kernel
theorem dX7_kindOfToken_3 : decode cX7_kindOfToken 3 = .ok (.bipush 6, 2) := by decide +kernel
theorem dX7_kindOfToken_5 : decode cX7_kindOfToken 5 = .ok (.if_icmp .ge 22, 3) := by decide +kernel
theorem dX7_kindOfToken_8 : decode cX7_kindOfToken 8 = .ok (.aload_n 0, 1) := by decide +kernel
theorem dX7_kindOfToken_9 : decode cX7_kindOfToken 9 = .ok (.iload_n 1, 1) := by decide +kernel
theorem dX7_kindOfToken_10 : decode cX7_kindOfToken 10 = .ok (.invokestatic 80, 3) := by decide +kernel
theorem dX7_kindOfToken_13 : decode cX7_kindOfToken 13 = .ok (.invokevirtual 83, 3) := by decide +kernel
theorem dX7_kindOfToken_16 : decode cX7_kindOfToken 16 = .ok (.ifCond .eq 5, 3) := by decide +kernel
theorem dX7_kindOfToken_19 : decode cX7_kindOfToken 19 = .ok (.iload_n 1, 1) := by decide +kernel
theorem dX7_kindOfToken_20 : decode cX7_kindOfToken 20 = .ok (.ireturn, 1) := by decide +kernel
theorem dX7_kindOfToken_21 : decode cX7_kindOfToken 21 = .ok (.iinc 1 1, 3) := by decide +kernel
theorem dX7_kindOfToken_24 : decode cX7_kindOfToken 24 = .ok (.goto (-22), 3) := by decide +kernel
theorem dX7_kindOfToken_27 : decode cX7_kindOfToken 27 = .ok (.iconst (-1), 1) := by decide +kernel
theorem dX7_kindOfToken_28 : decode cX7_kindOfToken 28 = .ok (.ireturn, 1) := by decide +kernel
theorem dX7_tokenIs_0 : decode cX7_tokenIs 0 = .ok (.aload_n 0, 1) := by decide +kernel
theorem dX7_tokenIs_1 : decode cX7_tokenIs 1 = .ok (.getfield 22, 3) := by decide +kernel
theorem dX7_tokenIs_4 : decode cX7_tokenIs 4 = .ok (.aload_n 0, 1) := by decide +kernel
theorem dX7_tokenIs_5 : decode cX7_tokenIs 5 = .ok (.getfield 32, 3) := by decide +kernel
theorem dX7_tokenIs_8 : decode cX7_tokenIs 8 = .ok (.isub, 1) := by decide +kernel
theorem dX7_tokenIs_9 : decode cX7_tokenIs 9 = .ok (.aload_n 1, 1) := by decide +kernel
theorem dX7_tokenIs_10 : decode cX7_tokenIs 10 = .ok (.invokevirtual 46, 3) := by decide +kernel
theorem dX7_tokenIs_13 : decode cX7_tokenIs 13 = .ok (.if_icmp .ne 7, 3) := by decide +kernel
theorem dX7_tokenIs_16 : decode cX7_tokenIs 16 = .ok (.iconst 1, 1) := by decide +kernel
theorem dX7_tokenIs_17 : decode cX7_tokenIs 17 = .ok (.goto 4, 3) := by decide +kernel
theorem dX7_tokenIs_20 : decode cX7_tokenIs 20 = .ok (.iconst 0, 1) := by decide +kernel
theorem dX7_tokenIs_21 : decode cX7_tokenIs 21 = .ok (.istore_n 2, 1) := by decide +kernel
theorem dX7_tokenIs_22 : decode cX7_tokenIs 22 = .ok (.iconst 0, 1) := by decide +kernel
theorem dX7_tokenIs_23 : decode cX7_tokenIs 23 = .ok (.istore_n 3, 1) := by decide +kernel
theorem dX7_tokenIs_24 : decode cX7_tokenIs 24 = .ok (.iload_n 2, 1) := by decide +kernel
theorem dX7_tokenIs_25 : decode cX7_tokenIs 25 = .ok (.ifCond .eq 42, 3) := by decide +kernel
theorem dX7_tokenIs_28 : decode cX7_tokenIs 28 = .ok (.iload_n 3, 1) := by decide +kernel
theorem dX7_tokenIs_29 : decode cX7_tokenIs 29 = .ok (.aload_n 1, 1) := by decide +kernel
theorem dX7_tokenIs_30 : decode cX7_tokenIs 30 = .ok (.invokevirtual 46, 3) := by decide +kernel
theorem dX7_tokenIs_33 : decode cX7_tokenIs 33 = .ok (.if_icmp .ge 34, 3) := by decide +kernel
theorem dX7_tokenIs_36 : decode cX7_tokenIs 36 = .ok (.aload_n 0, 1) := by decide +kernel
theorem dX7_tokenIs_37 : decode cX7_tokenIs 37 = .ok (.getfield 9, 3) := by decide +kernel
theorem dX7_tokenIs_40 : decode cX7_tokenIs 40 = .ok (.aload_n 0, 1) := by decide +kernel
theorem dX7_tokenIs_41 : decode cX7_tokenIs 41 = .ok (.getfield 32, 3) := by decide +kernel
theorem dX7_tokenIs_44 : decode cX7_tokenIs 44 = .ok (.iload_n 3, 1) := by decide +kernel
theorem dX7_tokenIs_45 : decode cX7_tokenIs 45 = .ok (.iadd, 1) := by decide +kernel
theorem dX7_tokenIs_46 : decode cX7_tokenIs 46 = .ok (.iaload, 1) := by decide +kernel
theorem dX7_tokenIs_47 : decode cX7_tokenIs 47 = .ok (.aload_n 1, 1) := by decide +kernel
theorem dX7_tokenIs_48 : decode cX7_tokenIs 48 = .ok (.iload_n 3, 1) := by decide +kernel
theorem dX7_tokenIs_49 : decode cX7_tokenIs 49 = .ok (.invokevirtual 53, 3) := by decide +kernel
theorem dX7_tokenIs_52 : decode cX7_tokenIs 52 = .ok (.if_icmp .ne 7, 3) := by decide +kernel
theorem dX7_tokenIs_55 : decode cX7_tokenIs 55 = .ok (.iconst 1, 1) := by decide +kernel
theorem dX7_tokenIs_56 : decode cX7_tokenIs 56 = .ok (.goto 4, 3) := by decide +kernel
theorem dX7_tokenIs_59 : decode cX7_tokenIs 59 = .ok (.iconst 0, 1) := by decide +kernel
theorem dX7_tokenIs_60 : decode cX7_tokenIs 60 = .ok (.istore_n 2, 1) := by decide +kernel
theorem dX7_tokenIs_61 : decode cX7_tokenIs 61 = .ok (.iinc 3 1, 3) := by decide +kernel
theorem dX7_tokenIs_64 : decode cX7_tokenIs 64 = .ok (.goto (-40), 3) := by decide +kernel
theorem dX7_tokenIs_67 : decode cX7_tokenIs 67 = .ok (.iload_n 2, 1) := by decide +kernel
theorem dX7_tokenIs_68 : decode cX7_tokenIs 68 = .ok (.ireturn, 1) := by decide +kernel
theorem dX7_wordOf_0 : decode cX7_wordOf 0 = .ok (.iload_n 0, 1) := by decide +kernel
theorem dX7_wordOf_1 : decode cX7_wordOf 1 = .ok (.tableswitch 50 0 4 #[35, 38, 41, 44, 47], 35) := by decide +kernel
theorem dX7_wordOf_36 : decode cX7_wordOf 36 = .ok (.ldc 87, 2) := by decide +kernel
theorem dX7_wordOf_38 : decode cX7_wordOf 38 = .ok (.areturn, 1) := by decide +kernel
theorem dX7_wordOf_39 : decode cX7_wordOf 39 = .ok (.ldc 89, 2) := by decide +kernel
theorem dX7_wordOf_41 : decode cX7_wordOf 41 = .ok (.areturn, 1) := by decide +kernel
theorem dX7_wordOf_42 : decode cX7_wordOf 42 = .ok (.ldc 91, 2) := by decide +kernel
theorem dX7_wordOf_44 : decode cX7_wordOf 44 = .ok (.areturn, 1) := by decide +kernel
theorem dX7_wordOf_45 : decode cX7_wordOf 45 = .ok (.ldc 93, 2) := by decide +kernel
theorem dX7_wordOf_47 : decode cX7_wordOf 47 = .ok (.areturn, 1) := by decide +kernel
theorem dX7_wordOf_48 : decode cX7_wordOf 48 = .ok (.ldc 95, 2) := by decide +kernel
theorem dX7_wordOf_50 : decode cX7_wordOf 50 = .ok (.areturn, 1) := by decide +kernel
theorem dX7_wordOf_51 : decode cX7_wordOf 51 = .ok (.ldc 97, 2) := by decide +kernel
theorem dX7_wordOf_53 : decode cX7_wordOf 53 = .ok (.areturn, 1) := by decide +kernel
theorem dX7_formOf_0 : decode cX7_formOf 0 = .ok (.iload_n 0, 1) := by decide +kernel
theorem dX7_formOf_1 : decode cX7_formOf 1 = .ok (.tableswitch 40 0 3 #[31, 34, 37, 37], 31) := by decide +kernel
theorem dX7_formOf_32 : decode cX7_formOf 32 = .ok (.ldc 99, 2) := by decide +kernel
theorem dX7_formOf_34 : decode cX7_formOf 34 = .ok (.areturn, 1) := by decide +kernel
theorem dX7_formOf_35 : decode cX7_formOf 35 = .ok (.ldc 101, 2) := by decide +kernel
theorem dX7_formOf_37 : decode cX7_formOf 37 = .ok (.areturn, 1) := by decide +kernel
theorem dX7_formOf_38 : decode cX7_formOf 38 = .ok (.ldc 103, 2) := by decide +kernel
theorem dX7_formOf_40 : decode cX7_formOf 40 = .ok (.areturn, 1) := by decide +kernel
theorem dX7_formOf_41 : decode cX7_formOf 41 = .ok (.ldc 105, 2) := by decide +kernel
theorem dX7_formOf_43 : decode cX7_formOf 43 = .ok (.areturn, 1) := by decide +kernel
theorem dX7_canStand_0 : decode cX7_canStand 0 = .ok (.iload_n 0, 1) := by decide +kernel
theorem dX7_canStand_1 : decode cX7_canStand 1 = .ok (.tableswitch 177 70 90 #[153, 177, 177, 177, 177, 177, 177, 177, 177, 177, 99, 104, 177, 165, 177, 177, 177, 144, 177, 122, 135], 99) := by decide +kernel
theorem dX7_canStand_100 : decode cX7_canStand 100 = .ok (.iload_n 1, 1) := by decide +kernel
theorem dX7_canStand_101 : decode cX7_canStand 101 = .ok (.invokestatic 107, 3) := by decide +kernel
theorem dX7_canStand_104 : decode cX7_canStand 104 = .ok (.ireturn, 1) := by decide +kernel
theorem dX7_canStand_105 : decode cX7_canStand 105 = .ok (.iload_n 1, 1) := by decide +kernel
theorem dX7_canStand_106 : decode cX7_canStand 106 = .ok (.invokestatic 107, 3) := by decide +kernel
theorem dX7_canStand_109 : decode cX7_canStand 109 = .ok (.ifCond .eq 12, 3) := by decide +kernel
theorem dX7_canStand_112 : decode cX7_canStand 112 = .ok (.iload_n 1, 1) := by decide +kernel
theorem dX7_canStand_113 : decode cX7_canStand 113 = .ok (.iload_n 2, 1) := by decide +kernel
theorem dX7_canStand_114 : decode cX7_canStand 114 = .ok (.if_icmp .eq 7, 3) := by decide +kernel
theorem dX7_canStand_117 : decode cX7_canStand 117 = .ok (.iconst 1, 1) := by decide +kernel
theorem dX7_canStand_118 : decode cX7_canStand 118 = .ok (.goto 4, 3) := by decide +kernel
theorem dX7_canStand_121 : decode cX7_canStand 121 = .ok (.iconst 0, 1) := by decide +kernel
theorem dX7_canStand_122 : decode cX7_canStand 122 = .ok (.ireturn, 1) := by decide +kernel
theorem dX7_canStand_123 : decode cX7_canStand 123 = .ok (.iload_n 1, 1) := by decide +kernel
theorem dX7_canStand_124 : decode cX7_canStand 124 = .ok (.sipush 9999, 3) := by decide +kernel
theorem dX7_canStand_127 : decode cX7_canStand 127 = .ok (.if_icmp .gt 7, 3) := by decide +kernel
theorem dX7_canStand_130 : decode cX7_canStand 130 = .ok (.iconst 1, 1) := by decide +kernel
theorem dX7_canStand_131 : decode cX7_canStand 131 = .ok (.goto 4, 3) := by decide +kernel
theorem dX7_canStand_134 : decode cX7_canStand 134 = .ok (.iconst 0, 1) := by decide +kernel
theorem dX7_canStand_135 : decode cX7_canStand 135 = .ok (.ireturn, 1) := by decide +kernel
theorem dX7_canStand_136 : decode cX7_canStand 136 = .ok (.iload_n 1, 1) := by decide +kernel
theorem dX7_canStand_137 : decode cX7_canStand 137 = .ok (.iload_n 2, 1) := by decide +kernel
theorem dX7_canStand_138 : decode cX7_canStand 138 = .ok (.sipush 9999, 3) := by decide +kernel
theorem dX7_canStand_141 : decode cX7_canStand 141 = .ok (.invokestatic 77, 3) := by decide +kernel
theorem dX7_canStand_144 : decode cX7_canStand 144 = .ok (.ireturn, 1) := by decide +kernel
theorem dX7_canStand_145 : decode cX7_canStand 145 = .ok (.iload_n 1, 1) := by decide +kernel
theorem dX7_canStand_146 : decode cX7_canStand 146 = .ok (.iconst 1, 1) := by decide +kernel
theorem dX7_canStand_147 : decode cX7_canStand 147 = .ok (.sipush 999, 3) := by decide +kernel
theorem dX7_canStand_150 : decode cX7_canStand 150 = .ok (.invokestatic 77, 3) := by decide +kernel
theorem dX7_canStand_153 : decode cX7_canStand 153 = .ok (.ireturn, 1) := by decide +kernel
theorem dX7_canStand_154 : decode cX7_canStand 154 = .ok (.iload_n 1, 1) := by decide +kernel
theorem dX7_canStand_155 : decode cX7_canStand 155 = .ok (.bipush 9, 2) := by decide +kernel
theorem dX7_canStand_157 : decode cX7_canStand 157 = .ok (.if_icmp .ge 7, 3) := by decide +kernel
theorem dX7_canStand_160 : decode cX7_canStand 160 = .ok (.iconst 1, 1) := by decide +kernel
theorem dX7_canStand_161 : decode cX7_canStand 161 = .ok (.goto 4, 3) := by decide +kernel
theorem dX7_canStand_164 : decode cX7_canStand 164 = .ok (.iconst 0, 1) := by decide +kernel
theorem dX7_canStand_165 : decode cX7_canStand 165 = .ok (.ireturn, 1) := by decide +kernel
theorem dX7_canStand_166 : decode cX7_canStand 166 = .ok (.iload_n 1, 1) := by decide +kernel
theorem dX7_canStand_167 : decode cX7_canStand 167 = .ok (.bipush 99, 2) := by decide +kernel
theorem dX7_canStand_169 : decode cX7_canStand 169 = .ok (.if_icmp .gt 7, 3) := by decide +kernel
theorem dX7_canStand_172 : decode cX7_canStand 172 = .ok (.iconst 1, 1) := by decide +kernel
theorem dX7_canStand_173 : decode cX7_canStand 173 = .ok (.goto 4, 3) := by decide +kernel
theorem dX7_canStand_176 : decode cX7_canStand 176 = .ok (.iconst 0, 1) := by decide +kernel
theorem dX7_canStand_177 : decode cX7_canStand 177 = .ok (.ireturn, 1) := by decide +kernel
theorem dX7_canStand_178 : decode cX7_canStand 178 = .ok (.iload_n 1, 1) := by decide +kernel
theorem dX7_canStand_179 : decode cX7_canStand 179 = .ok (.sipush 999, 3) := by decide +kernel
theorem dX7_canStand_182 : decode cX7_canStand 182 = .ok (.if_icmp .gt 7, 3) := by decide +kernel
theorem dX7_canStand_185 : decode cX7_canStand 185 = .ok (.iconst 1, 1) := by decide +kernel
theorem dX7_canStand_186 : decode cX7_canStand 186 = .ok (.goto 4, 3) := by decide +kernel
theorem dX7_canStand_189 : decode cX7_canStand 189 = .ok (.iconst 0, 1) := by decide +kernel
theorem dX7_canStand_190 : decode cX7_canStand 190 = .ok (.ireturn, 1) := by decide +kernel
theorem dX8_init_0 : decode cX8_init 0 = .ok (.aload_n 0, 1) := by decide +kernel
theorem dX8_init_1 : decode cX8_init 1 = .ok (.invokespecial 3, 3) := by decide +kernel
theorem dX8_init_4 : decode cX8_init 4 = .ok (.aload_n 0, 1) := by decide +kernel
theorem dX8_init_5 : decode cX8_init 5 = .ok (.aload_n 1, 1) := by decide +kernel
theorem dX8_init_6 : decode cX8_init 6 = .ok (.putfield 9, 3) := by decide +kernel
theorem dX8_init_9 : decode cX8_init 9 = .ok (.aload_n 0, 1) := by decide +kernel
theorem dX8_init_10 : decode cX8_init 10 = .ok (.aload_n 2, 1) := by decide +kernel
theorem dX8_init_11 : decode cX8_init 11 = .ok (.putfield 15, 3) := by decide +kernel
theorem dX8_init_14 : decode cX8_init 14 = .ok (.aload_n 0, 1) := by decide +kernel
theorem dX8_init_15 : decode cX8_init 15 = .ok (.aload_n 3, 1) := by decide +kernel
theorem dX8_init_16 : decode cX8_init 16 = .ok (.putfield 19, 3) := by decide +kernel
theorem dX8_init_19 : decode cX8_init 19 = .ok (.aload_n 0, 1) := by decide +kernel
theorem dX8_init_20 : decode cX8_init 20 = .ok (.bipush 72, 2) := by decide +kernel
theorem dX8_init_22 : decode cX8_init 22 = .ok (.newarray .int, 2) := by decide +kernel
theorem dX8_init_24 : decode cX8_init 24 = .ok (.putfield 23, 3) := by decide +kernel
theorem dX8_init_27 : decode cX8_init 27 = .ok (.aload_n 0, 1) := by decide +kernel
theorem dX8_init_28 : decode cX8_init 28 = .ok (.bipush 72, 2) := by decide +kernel
theorem dX8_init_30 : decode cX8_init 30 = .ok (.newarray .int, 2) := by decide +kernel
theorem dX8_init_32 : decode cX8_init 32 = .ok (.putfield 27, 3) := by decide +kernel
theorem dX8_init_35 : decode cX8_init 35 = .ok (.aload_n 0, 1) := by decide +kernel
theorem dX8_init_36 : decode cX8_init 36 = .ok (.bipush 12, 2) := by decide +kernel
theorem dX8_init_38 : decode cX8_init 38 = .ok (.newarray .int, 2) := by decide +kernel
theorem dX8_init_40 : decode cX8_init 40 = .ok (.putfield 30, 3) := by decide +kernel
theorem dX8_init_43 : decode cX8_init 43 = .ok (.return_, 1) := by decide +kernel
theorem dX8_bound_0 : decode cX8_bound 0 = .ok (.aload_n 0, 1) := by decide +kernel
theorem dX8_bound_1 : decode cX8_bound 1 = .ok (.getfield 27, 3) := by decide +kernel
theorem dX8_bound_4 : decode cX8_bound 4 = .ok (.iload_n 1, 1) := by decide +kernel
theorem dX8_bound_5 : decode cX8_bound 5 = .ok (.bipush 12, 2) := by decide +kernel
theorem dX8_bound_7 : decode cX8_bound 7 = .ok (.imul, 1) := by decide +kernel
theorem dX8_bound_8 : decode cX8_bound 8 = .ok (.iload_n 2, 1) := by decide +kernel
theorem dX8_bound_9 : decode cX8_bound 9 = .ok (.iadd, 1) := by decide +kernel
theorem dX8_bound_10 : decode cX8_bound 10 = .ok (.iaload, 1) := by decide +kernel
theorem dX8_bound_11 : decode cX8_bound 11 = .ok (.ireturn, 1) := by decide +kernel
theorem dX8_settle_0 : decode cX8_settle 0 = .ok (.aload_n 0, 1) := by decide +kernel
theorem dX8_settle_1 : decode cX8_settle 1 = .ok (.invokevirtual 33, 3) := by decide +kernel
theorem dX8_settle_4 : decode cX8_settle 4 = .ok (.aload_n 0, 1) := by decide +kernel
theorem dX8_settle_5 : decode cX8_settle 5 = .ok (.iconst (-1), 1) := by decide +kernel
theorem dX8_settle_6 : decode cX8_settle 6 = .ok (.invokevirtual 36, 3) := by decide +kernel
theorem dX8_settle_9 : decode cX8_settle 9 = .ok (.ireturn, 1) := by decide +kernel
theorem dX8_boundByNumbers_0 : decode cX8_boundByNumbers 0 = .ok (.iconst 0, 1) := by decide +kernel
theorem dX8_boundByNumbers_1 : decode cX8_boundByNumbers 1 = .ok (.istore_n 1, 1) := by decide +kernel
theorem dX8_boundByNumbers_2 : decode cX8_boundByNumbers 2 = .ok (.iload_n 1, 1) := by decide +kernel
theorem dX8_boundByNumbers_3 : decode cX8_boundByNumbers 3 = .ok (.aload_n 0, 1) := by decide +kernel
theorem dX8_boundByNumbers_4 : decode cX8_boundByNumbers 4 = .ok (.getfield 15, 3) := by decide +kernel
theorem dX8_boundByNumbers_7 : decode cX8_boundByNumbers 7 = .ok (.getfield 40, 3) := by decide +kernel
theorem dX8_boundByNumbers_10 : decode cX8_boundByNumbers 10 = .ok (.if_icmp .ge 159, 3) := by decide +kernel
theorem dX8_boundByNumbers_13 : decode cX8_boundByNumbers 13 = .ok (.aload_n 0, 1) := by decide +kernel
theorem dX8_boundByNumbers_14 : decode cX8_boundByNumbers 14 = .ok (.getfield 15, 3) := by decide +kernel
theorem dX8_boundByNumbers_17 : decode cX8_boundByNumbers 17 = .ok (.getfield 46, 3) := by decide +kernel
theorem dX8_boundByNumbers_20 : decode cX8_boundByNumbers 20 = .ok (.iload_n 1, 1) := by decide +kernel
theorem dX8_boundByNumbers_21 : decode cX8_boundByNumbers 21 = .ok (.iaload, 1) := by decide +kernel
theorem dX8_boundByNumbers_22 : decode cX8_boundByNumbers 22 = .ok (.istore_n 2, 1) := by decide +kernel
theorem dX8_boundByNumbers_23 : decode cX8_boundByNumbers 23 = .ok (.aload_n 0, 1) := by decide +kernel
theorem dX8_boundByNumbers_24 : decode cX8_boundByNumbers 24 = .ok (.getfield 9, 3) := by decide +kernel
theorem dX8_boundByNumbers_27 : decode cX8_boundByNumbers 27 = .ok (.getfield 49, 3) := by decide +kernel
theorem dX8_boundByNumbers_30 : decode cX8_boundByNumbers 30 = .ok (.iload_n 2, 1) := by decide +kernel
theorem dX8_boundByNumbers_31 : decode cX8_boundByNumbers 31 = .ok (.iaload, 1) := by decide +kernel
theorem dX8_boundByNumbers_32 : decode cX8_boundByNumbers 32 = .ok (.istore_n 3, 1) := by decide +kernel
theorem dX8_boundByNumbers_33 : decode cX8_boundByNumbers 33 = .ok (.aload_n 0, 1) := by decide +kernel
theorem dX8_boundByNumbers_34 : decode cX8_boundByNumbers 34 = .ok (.getfield 15, 3) := by decide +kernel
theorem dX8_boundByNumbers_37 : decode cX8_boundByNumbers 37 = .ok (.getfield 54, 3) := by decide +kernel
theorem dX8_boundByNumbers_40 : decode cX8_boundByNumbers 40 = .ok (.iload_n 1, 1) := by decide +kernel
theorem dX8_boundByNumbers_41 : decode cX8_boundByNumbers 41 = .ok (.iaload, 1) := by decide +kernel
theorem dX8_boundByNumbers_42 : decode cX8_boundByNumbers 42 = .ok (.istore 4, 2) := by decide +kernel
theorem dX8_boundByNumbers_44 : decode cX8_boundByNumbers 44 = .ok (.aload_n 0, 1) := by decide +kernel
theorem dX8_boundByNumbers_45 : decode cX8_boundByNumbers 45 = .ok (.getfield 15, 3) := by decide +kernel
theorem dX8_boundByNumbers_48 : decode cX8_boundByNumbers 48 = .ok (.getfield 57, 3) := by decide +kernel
theorem dX8_boundByNumbers_51 : decode cX8_boundByNumbers 51 = .ok (.iload_n 1, 1) := by decide +kernel
theorem dX8_boundByNumbers_52 : decode cX8_boundByNumbers 52 = .ok (.iaload, 1) := by decide +kernel
theorem dX8_boundByNumbers_53 : decode cX8_boundByNumbers 53 = .ok (.istore 5, 2) := by decide +kernel
theorem dX8_boundByNumbers_55 : decode cX8_boundByNumbers 55 = .ok (.aload_n 0, 1) := by decide +kernel
theorem dX8_boundByNumbers_56 : decode cX8_boundByNumbers 56 = .ok (.getfield 30, 3) := by decide +kernel
theorem dX8_boundByNumbers_59 : decode cX8_boundByNumbers 59 = .ok (.iload_n 1, 1) := by decide +kernel
theorem dX8_boundByNumbers_60 : decode cX8_boundByNumbers 60 = .ok (.aload_n 0, 1) := by decide +kernel
theorem dX8_boundByNumbers_61 : decode cX8_boundByNumbers 61 = .ok (.getfield 19, 3) := by decide +kernel
theorem dX8_boundByNumbers_64 : decode cX8_boundByNumbers 64 = .ok (.iload_n 1, 1) := by decide +kernel
theorem dX8_boundByNumbers_65 : decode cX8_boundByNumbers 65 = .ok (.invokevirtual 60, 3) := by decide +kernel
theorem dX8_boundByNumbers_68 : decode cX8_boundByNumbers 68 = .ok (.iastore, 1) := by decide +kernel
theorem dX8_boundByNumbers_69 : decode cX8_boundByNumbers 69 = .ok (.aload_n 0, 1) := by decide +kernel
theorem dX8_boundByNumbers_70 : decode cX8_boundByNumbers 70 = .ok (.iconst 0, 1) := by decide +kernel
theorem dX8_boundByNumbers_71 : decode cX8_boundByNumbers 71 = .ok (.iload_n 1, 1) := by decide +kernel
theorem dX8_boundByNumbers_72 : decode cX8_boundByNumbers 72 = .ok (.aload_n 0, 1) := by decide +kernel
theorem dX8_boundByNumbers_73 : decode cX8_boundByNumbers 73 = .ok (.getfield 19, 3) := by decide +kernel
theorem dX8_boundByNumbers_76 : decode cX8_boundByNumbers 76 = .ok (.aload_n 0, 1) := by decide +kernel
theorem dX8_boundByNumbers_77 : decode cX8_boundByNumbers 77 = .ok (.getfield 30, 3) := by decide +kernel
theorem dX8_boundByNumbers_80 : decode cX8_boundByNumbers 80 = .ok (.iload_n 1, 1) := by decide +kernel
theorem dX8_boundByNumbers_81 : decode cX8_boundByNumbers 81 = .ok (.iaload, 1) := by decide +kernel
theorem dX8_boundByNumbers_82 : decode cX8_boundByNumbers 82 = .ok (.invokevirtual 66, 3) := by decide +kernel
theorem dX8_boundByNumbers_85 : decode cX8_boundByNumbers 85 = .ok (.iload 4, 2) := by decide +kernel
theorem dX8_boundByNumbers_87 : decode cX8_boundByNumbers 87 = .ok (.iload_n 3, 1) := by decide +kernel
theorem dX8_boundByNumbers_88 : decode cX8_boundByNumbers 88 = .ok (.invokestatic 69, 3) := by decide +kernel
theorem dX8_boundByNumbers_91 : decode cX8_boundByNumbers 91 = .ok (.invokestatic 73, 3) := by decide +kernel
theorem dX8_boundByNumbers_94 : decode cX8_boundByNumbers 94 = .ok (.invokevirtual 78, 3) := by decide +kernel
theorem dX8_boundByNumbers_97 : decode cX8_boundByNumbers 97 = .ok (.aload_n 0, 1) := by decide +kernel
theorem dX8_boundByNumbers_98 : decode cX8_boundByNumbers 98 = .ok (.iconst 1, 1) := by decide +kernel
theorem dX8_boundByNumbers_99 : decode cX8_boundByNumbers 99 = .ok (.iload_n 1, 1) := by decide +kernel
theorem dX8_boundByNumbers_100 : decode cX8_boundByNumbers 100 = .ok (.iload 4, 2) := by decide +kernel
theorem dX8_boundByNumbers_102 : decode cX8_boundByNumbers 102 = .ok (.iload_n 3, 1) := by decide +kernel
theorem dX8_boundByNumbers_103 : decode cX8_boundByNumbers 103 = .ok (.invokestatic 82, 3) := by decide +kernel
theorem dX8_boundByNumbers_106 : decode cX8_boundByNumbers 106 = .ok (.invokevirtual 78, 3) := by decide +kernel
theorem dX8_boundByNumbers_109 : decode cX8_boundByNumbers 109 = .ok (.aload_n 0, 1) := by decide +kernel
theorem dX8_boundByNumbers_110 : decode cX8_boundByNumbers 110 = .ok (.iconst 2, 1) := by decide +kernel
theorem dX8_boundByNumbers_111 : decode cX8_boundByNumbers 111 = .ok (.iload_n 1, 1) := by decide +kernel
theorem dX8_boundByNumbers_112 : decode cX8_boundByNumbers 112 = .ok (.iload 5, 2) := by decide +kernel
theorem dX8_boundByNumbers_114 : decode cX8_boundByNumbers 114 = .ok (.iload_n 3, 1) := by decide +kernel
theorem dX8_boundByNumbers_115 : decode cX8_boundByNumbers 115 = .ok (.invokestatic 69, 3) := by decide +kernel
theorem dX8_boundByNumbers_118 : decode cX8_boundByNumbers 118 = .ok (.invokevirtual 78, 3) := by decide +kernel
theorem dX8_boundByNumbers_121 : decode cX8_boundByNumbers 121 = .ok (.aload_n 0, 1) := by decide +kernel
theorem dX8_boundByNumbers_122 : decode cX8_boundByNumbers 122 = .ok (.iconst 3, 1) := by decide +kernel
theorem dX8_boundByNumbers_123 : decode cX8_boundByNumbers 123 = .ok (.iload_n 1, 1) := by decide +kernel
theorem dX8_boundByNumbers_124 : decode cX8_boundByNumbers 124 = .ok (.iload 5, 2) := by decide +kernel
theorem dX8_boundByNumbers_126 : decode cX8_boundByNumbers 126 = .ok (.iload_n 3, 1) := by decide +kernel
theorem dX8_boundByNumbers_127 : decode cX8_boundByNumbers 127 = .ok (.invokestatic 82, 3) := by decide +kernel
theorem dX8_boundByNumbers_130 : decode cX8_boundByNumbers 130 = .ok (.invokevirtual 78, 3) := by decide +kernel
theorem dX8_boundByNumbers_133 : decode cX8_boundByNumbers 133 = .ok (.aload_n 0, 1) := by decide +kernel
theorem dX8_boundByNumbers_134 : decode cX8_boundByNumbers 134 = .ok (.iconst 4, 1) := by decide +kernel
theorem dX8_boundByNumbers_135 : decode cX8_boundByNumbers 135 = .ok (.iload_n 1, 1) := by decide +kernel
theorem dX8_boundByNumbers_136 : decode cX8_boundByNumbers 136 = .ok (.aload_n 0, 1) := by decide +kernel
theorem dX8_boundByNumbers_137 : decode cX8_boundByNumbers 137 = .ok (.getfield 9, 3) := by decide +kernel
theorem dX8_boundByNumbers_140 : decode cX8_boundByNumbers 140 = .ok (.getfield 85, 3) := by decide +kernel
theorem dX8_boundByNumbers_143 : decode cX8_boundByNumbers 143 = .ok (.iload_n 2, 1) := by decide +kernel
theorem dX8_boundByNumbers_144 : decode cX8_boundByNumbers 144 = .ok (.iaload, 1) := by decide +kernel
theorem dX8_boundByNumbers_145 : decode cX8_boundByNumbers 145 = .ok (.invokevirtual 78, 3) := by decide +kernel
theorem dX8_boundByNumbers_148 : decode cX8_boundByNumbers 148 = .ok (.aload_n 0, 1) := by decide +kernel
theorem dX8_boundByNumbers_149 : decode cX8_boundByNumbers 149 = .ok (.iconst 5, 1) := by decide +kernel
theorem dX8_boundByNumbers_150 : decode cX8_boundByNumbers 150 = .ok (.iload_n 1, 1) := by decide +kernel
theorem dX8_boundByNumbers_151 : decode cX8_boundByNumbers 151 = .ok (.aload_n 0, 1) := by decide +kernel
theorem dX8_boundByNumbers_152 : decode cX8_boundByNumbers 152 = .ok (.getfield 9, 3) := by decide +kernel
theorem dX8_boundByNumbers_155 : decode cX8_boundByNumbers 155 = .ok (.getfield 88, 3) := by decide +kernel
theorem dX8_boundByNumbers_158 : decode cX8_boundByNumbers 158 = .ok (.iload_n 2, 1) := by decide +kernel
theorem dX8_boundByNumbers_159 : decode cX8_boundByNumbers 159 = .ok (.iaload, 1) := by decide +kernel
theorem dX8_boundByNumbers_160 : decode cX8_boundByNumbers 160 = .ok (.invokevirtual 78, 3) := by decide +kernel
theorem dX8_boundByNumbers_163 : decode cX8_boundByNumbers 163 = .ok (.iinc 1 1, 3) := by decide +kernel
theorem dX8_boundByNumbers_166 : decode cX8_boundByNumbers 166 = .ok (.goto (-164), 3) := by decide +kernel
theorem dX8_boundByNumbers_169 : decode cX8_boundByNumbers 169 = .ok (.return_, 1) := by decide +kernel
theorem dX8_settleWithout_0 : decode cX8_settleWithout 0 = .ok (.aload_n 0, 1) := by decide +kernel
theorem dX8_settleWithout_1 : decode cX8_settleWithout 1 = .ok (.getfield 23, 3) := by decide +kernel
theorem dX8_settleWithout_4 : decode cX8_settleWithout 4 = .ok (.iconst 0, 1) := by decide +kernel
theorem dX8_settleWithout_5 : decode cX8_settleWithout 5 = .ok (.aload_n 0, 1) := by decide +kernel
theorem dX8_settleWithout_6 : decode cX8_settleWithout 6 = .ok (.getfield 27, 3) := by decide +kernel
theorem dX8_settleWithout_9 : decode cX8_settleWithout 9 = .ok (.iconst 0, 1) := by decide +kernel
theorem dX8_settleWithout_10 : decode cX8_settleWithout 10 = .ok (.aload_n 0, 1) := by decide +kernel
theorem dX8_settleWithout_11 : decode cX8_settleWithout 11 = .ok (.getfield 23, 3) := by decide +kernel
theorem dX8_settleWithout_14 : decode cX8_settleWithout 14 = .ok (.arraylength, 1) := by decide +kernel
theorem dX8_settleWithout_15 : decode cX8_settleWithout 15 = .ok (.invokestatic 91, 3) := by decide +kernel
theorem dX8_settleWithout_18 : decode cX8_settleWithout 18 = .ok (.aload_n 0, 1) := by decide +kernel
theorem dX8_settleWithout_19 : decode cX8_settleWithout 19 = .ok (.iload_n 1, 1) := by decide +kernel
theorem dX8_settleWithout_20 : decode cX8_settleWithout 20 = .ok (.invokevirtual 97, 3) := by decide +kernel
theorem dX8_settleWithout_23 : decode cX8_settleWithout 23 = .ok (.aload_n 0, 1) := by decide +kernel
theorem dX8_settleWithout_24 : decode cX8_settleWithout 24 = .ok (.invokevirtual 101, 3) := by decide +kernel
theorem dX8_settleWithout_27 : decode cX8_settleWithout 27 = .ok (.aload_n 0, 1) := by decide +kernel
theorem dX8_settleWithout_28 : decode cX8_settleWithout 28 = .ok (.iload_n 1, 1) := by decide +kernel
theorem dX8_settleWithout_29 : decode cX8_settleWithout 29 = .ok (.invokevirtual 104, 3) := by decide +kernel
theorem dX8_settleWithout_32 : decode cX8_settleWithout 32 = .ok (.aload_n 0, 1) := by decide +kernel
theorem dX8_settleWithout_33 : decode cX8_settleWithout 33 = .ok (.invokevirtual 107, 3) := by decide +kernel
theorem dX8_settleWithout_36 : decode cX8_settleWithout 36 = .ok (.ireturn, 1) := by decide +kernel
theorem dX8_heirloomOf_0 : decode cX8_heirloomOf 0 = .ok (.aload_n 0, 1) := by decide +kernel
theorem dX8_heirloomOf_1 : decode cX8_heirloomOf 1 = .ok (.getfield 15, 3) := by decide +kernel
theorem dX8_heirloomOf_4 : decode cX8_heirloomOf 4 = .ok (.iload_n 1, 1) := by decide +kernel
theorem dX8_heirloomOf_5 : decode cX8_heirloomOf 5 = .ok (.invokevirtual 111, 3) := by decide +kernel
theorem dX8_heirloomOf_8 : decode cX8_heirloomOf 8 = .ok (.istore_n 2, 1) := by decide +kernel
theorem dX8_heirloomOf_9 : decode cX8_heirloomOf 9 = .ok (.aload_n 0, 1) := by decide +kernel
theorem dX8_heirloomOf_10 : decode cX8_heirloomOf 10 = .ok (.iload_n 2, 1) := by decide +kernel
theorem dX8_heirloomOf_11 : decode cX8_heirloomOf 11 = .ok (.ifCond .eq 7, 3) := by decide +kernel
theorem dX8_heirloomOf_14 : decode cX8_heirloomOf 14 = .ok (.iconst 2, 1) := by decide +kernel
theorem dX8_heirloomOf_15 : decode cX8_heirloomOf 15 = .ok (.goto 4, 3) := by decide +kernel
theorem dX8_heirloomOf_18 : decode cX8_heirloomOf 18 = .ok (.iconst 0, 1) := by decide +kernel
theorem dX8_heirloomOf_19 : decode cX8_heirloomOf 19 = .ok (.iload_n 1, 1) := by decide +kernel
theorem dX8_heirloomOf_20 : decode cX8_heirloomOf 20 = .ok (.invokevirtual 114, 3) := by decide +kernel
theorem dX8_heirloomOf_23 : decode cX8_heirloomOf 23 = .ok (.istore_n 3, 1) := by decide +kernel
theorem dX8_heirloomOf_24 : decode cX8_heirloomOf 24 = .ok (.aload_n 0, 1) := by decide +kernel
theorem dX8_heirloomOf_25 : decode cX8_heirloomOf 25 = .ok (.iload_n 2, 1) := by decide +kernel
theorem dX8_heirloomOf_26 : decode cX8_heirloomOf 26 = .ok (.ifCond .eq 7, 3) := by decide +kernel
theorem dX8_heirloomOf_29 : decode cX8_heirloomOf 29 = .ok (.iconst 3, 1) := by decide +kernel
theorem dX8_heirloomOf_30 : decode cX8_heirloomOf 30 = .ok (.goto 4, 3) := by decide +kernel
theorem dX8_heirloomOf_33 : decode cX8_heirloomOf 33 = .ok (.iconst 1, 1) := by decide +kernel
theorem dX8_heirloomOf_34 : decode cX8_heirloomOf 34 = .ok (.iload_n 1, 1) := by decide +kernel
theorem dX8_heirloomOf_35 : decode cX8_heirloomOf 35 = .ok (.invokevirtual 114, 3) := by decide +kernel
theorem dX8_heirloomOf_38 : decode cX8_heirloomOf 38 = .ok (.istore 4, 2) := by decide +kernel
theorem dX8_heirloomOf_40 : decode cX8_heirloomOf 40 = .ok (.iload 4, 2) := by decide +kernel
theorem dX8_heirloomOf_42 : decode cX8_heirloomOf 42 = .ok (.aload_n 0, 1) := by decide +kernel
theorem dX8_heirloomOf_43 : decode cX8_heirloomOf 43 = .ok (.iconst 4, 1) := by decide +kernel
theorem dX8_heirloomOf_44 : decode cX8_heirloomOf 44 = .ok (.iload_n 1, 1) := by decide +kernel
theorem dX8_heirloomOf_45 : decode cX8_heirloomOf 45 = .ok (.invokevirtual 114, 3) := by decide +kernel
theorem dX8_heirloomOf_48 : decode cX8_heirloomOf 48 = .ok (.if_icmp .ge 5, 3) := by decide +kernel
theorem dX8_heirloomOf_51 : decode cX8_heirloomOf 51 = .ok (.iconst 2, 1) := by decide +kernel
theorem dX8_heirloomOf_52 : decode cX8_heirloomOf 52 = .ok (.ireturn, 1) := by decide +kernel
theorem dX8_heirloomOf_53 : decode cX8_heirloomOf 53 = .ok (.iload_n 3, 1) := by decide +kernel
theorem dX8_heirloomOf_54 : decode cX8_heirloomOf 54 = .ok (.aload_n 0, 1) := by decide +kernel
theorem dX8_heirloomOf_55 : decode cX8_heirloomOf 55 = .ok (.iconst 5, 1) := by decide +kernel
theorem dX8_heirloomOf_56 : decode cX8_heirloomOf 56 = .ok (.iload_n 1, 1) := by decide +kernel
theorem dX8_heirloomOf_57 : decode cX8_heirloomOf 57 = .ok (.invokevirtual 114, 3) := by decide +kernel
theorem dX8_heirloomOf_60 : decode cX8_heirloomOf 60 = .ok (.if_icmp .ge 7, 3) := by decide +kernel
theorem dX8_heirloomOf_63 : decode cX8_heirloomOf 63 = .ok (.iconst 1, 1) := by decide +kernel
theorem dX8_heirloomOf_64 : decode cX8_heirloomOf 64 = .ok (.goto 4, 3) := by decide +kernel
theorem dX8_heirloomOf_67 : decode cX8_heirloomOf 67 = .ok (.iconst 0, 1) := by decide +kernel
theorem dX8_heirloomOf_68 : decode cX8_heirloomOf 68 = .ok (.ireturn, 1) := by decide +kernel
theorem dX8_setOwn_0 : decode cX8_setOwn 0 = .ok (.aload_n 0, 1) := by decide +kernel
theorem dX8_setOwn_1 : decode cX8_setOwn 1 = .ok (.getfield 23, 3) := by decide +kernel
theorem dX8_setOwn_4 : decode cX8_setOwn 4 = .ok (.iload_n 1, 1) := by decide +kernel
theorem dX8_setOwn_5 : decode cX8_setOwn 5 = .ok (.bipush 12, 2) := by decide +kernel
theorem dX8_setOwn_7 : decode cX8_setOwn 7 = .ok (.imul, 1) := by decide +kernel
theorem dX8_setOwn_8 : decode cX8_setOwn 8 = .ok (.iload_n 2, 1) := by decide +kernel
theorem dX8_setOwn_9 : decode cX8_setOwn 9 = .ok (.iadd, 1) := by decide +kernel
theorem dX8_setOwn_10 : decode cX8_setOwn 10 = .ok (.iload_n 3, 1) := by decide +kernel
theorem dX8_setOwn_11 : decode cX8_setOwn 11 = .ok (.iastore, 1) := by decide +kernel
theorem dX8_setOwn_12 : decode cX8_setOwn 12 = .ok (.return_, 1) := by decide +kernel
theorem dX8_raise_0 : decode cX8_raise 0 = .ok (.iload_n 1, 1) := by decide +kernel
theorem dX8_raise_1 : decode cX8_raise 1 = .ok (.bipush 12, 2) := by decide +kernel
theorem dX8_raise_3 : decode cX8_raise 3 = .ok (.imul, 1) := by decide +kernel
theorem dX8_raise_4 : decode cX8_raise 4 = .ok (.iload_n 2, 1) := by decide +kernel
theorem dX8_raise_5 : decode cX8_raise 5 = .ok (.iadd, 1) := by decide +kernel
theorem dX8_raise_6 : decode cX8_raise 6 = .ok (.istore 4, 2) := by decide +kernel
theorem dX8_raise_8 : decode cX8_raise 8 = .ok (.aload_n 0, 1) := by decide +kernel
theorem dX8_raise_9 : decode cX8_raise 9 = .ok (.getfield 27, 3) := by decide +kernel
theorem dX8_raise_12 : decode cX8_raise 12 = .ok (.iload 4, 2) := by decide +kernel
theorem dX8_raise_14 : decode cX8_raise 14 = .ok (.aload_n 0, 1) := by decide +kernel
theorem dX8_raise_15 : decode cX8_raise 15 = .ok (.getfield 27, 3) := by decide +kernel
theorem dX8_raise_18 : decode cX8_raise 18 = .ok (.iload 4, 2) := by decide +kernel
theorem dX8_raise_20 : decode cX8_raise 20 = .ok (.iaload, 1) := by decide +kernel
theorem dX8_raise_21 : decode cX8_raise 21 = .ok (.iload_n 3, 1) := by decide +kernel
theorem dX8_raise_22 : decode cX8_raise 22 = .ok (.invokestatic 73, 3) := by decide +kernel
theorem dX8_raise_25 : decode cX8_raise 25 = .ok (.iastore, 1) := by decide +kernel
theorem dX8_raise_26 : decode cX8_raise 26 = .ok (.return_, 1) := by decide +kernel
theorem dX8_lower_0 : decode cX8_lower 0 = .ok (.iload_n 1, 1) := by decide +kernel
theorem dX8_lower_1 : decode cX8_lower 1 = .ok (.bipush 12, 2) := by decide +kernel
theorem dX8_lower_3 : decode cX8_lower 3 = .ok (.imul, 1) := by decide +kernel
theorem dX8_lower_4 : decode cX8_lower 4 = .ok (.iload_n 2, 1) := by decide +kernel
theorem dX8_lower_5 : decode cX8_lower 5 = .ok (.iadd, 1) := by decide +kernel
theorem dX8_lower_6 : decode cX8_lower 6 = .ok (.istore 4, 2) := by decide +kernel
theorem dX8_lower_8 : decode cX8_lower 8 = .ok (.aload_n 0, 1) := by decide +kernel
theorem dX8_lower_9 : decode cX8_lower 9 = .ok (.getfield 27, 3) := by decide +kernel
theorem dX8_lower_12 : decode cX8_lower 12 = .ok (.iload 4, 2) := by decide +kernel
theorem dX8_lower_14 : decode cX8_lower 14 = .ok (.aload_n 0, 1) := by decide +kernel
theorem dX8_lower_15 : decode cX8_lower 15 = .ok (.getfield 27, 3) := by decide +kernel
theorem dX8_lower_18 : decode cX8_lower 18 = .ok (.iload 4, 2) := by decide +kernel
theorem dX8_lower_20 : decode cX8_lower 20 = .ok (.iaload, 1) := by decide +kernel
theorem dX8_lower_21 : decode cX8_lower 21 = .ok (.iload_n 3, 1) := by decide +kernel
theorem dX8_lower_22 : decode cX8_lower 22 = .ok (.invokestatic 117, 3) := by decide +kernel
theorem dX8_lower_25 : decode cX8_lower 25 = .ok (.iastore, 1) := by decide +kernel
theorem dX8_lower_26 : decode cX8_lower 26 = .ok (.return_, 1) := by decide +kernel
theorem dX8_rimFirst_0 : decode cX8_rimFirst 0 = .ok (.iload_n 0, 1) := by decide +kernel
theorem dX8_rimFirst_1 : decode cX8_rimFirst 1 = .ok (.ifCond .ne 7, 3) := by decide +kernel
theorem dX8_rimFirst_4 : decode cX8_rimFirst 4 = .ok (.iconst 0, 1) := by decide +kernel
theorem dX8_rimFirst_5 : decode cX8_rimFirst 5 = .ok (.goto 22, 3) := by decide +kernel
theorem dX8_rimFirst_8 : decode cX8_rimFirst 8 = .ok (.iconst 0, 1) := by decide +kernel
theorem dX8_rimFirst_9 : decode cX8_rimFirst 9 = .ok (.sipush 9999, 3) := by decide +kernel
theorem dX8_rimFirst_12 : decode cX8_rimFirst 12 = .ok (.iload_n 0, 1) := by decide +kernel
theorem dX8_rimFirst_13 : decode cX8_rimFirst 13 = .ok (.iconst 1, 1) := by decide +kernel
theorem dX8_rimFirst_14 : decode cX8_rimFirst 14 = .ok (.iadd, 1) := by decide +kernel
theorem dX8_rimFirst_15 : decode cX8_rimFirst 15 = .ok (.iload_n 0, 1) := by decide +kernel
theorem dX8_rimFirst_16 : decode cX8_rimFirst 16 = .ok (.iconst 1, 1) := by decide +kernel
theorem dX8_rimFirst_17 : decode cX8_rimFirst 17 = .ok (.iadd, 1) := by decide +kernel
theorem dX8_rimFirst_18 : decode cX8_rimFirst 18 = .ok (.imul, 1) := by decide +kernel
theorem dX8_rimFirst_19 : decode cX8_rimFirst 19 = .ok (.iload_n 1, 1) := by decide +kernel
theorem dX8_rimFirst_20 : decode cX8_rimFirst 20 = .ok (.invokestatic 120, 3) := by decide +kernel
theorem dX8_rimFirst_23 : decode cX8_rimFirst 23 = .ok (.isub, 1) := by decide +kernel
theorem dX8_rimFirst_24 : decode cX8_rimFirst 24 = .ok (.invokestatic 73, 3) := by decide +kernel
theorem dX8_rimFirst_27 : decode cX8_rimFirst 27 = .ok (.ireturn, 1) := by decide +kernel
theorem dX8_rimLast_0 : decode cX8_rimLast 0 = .ok (.iload_n 0, 1) := by decide +kernel
theorem dX8_rimLast_1 : decode cX8_rimLast 1 = .ok (.ifCond .ne 9, 3) := by decide +kernel
theorem dX8_rimLast_4 : decode cX8_rimLast 4 = .ok (.sipush 9999, 3) := by decide +kernel
theorem dX8_rimLast_7 : decode cX8_rimLast 7 = .ok (.goto 22, 3) := by decide +kernel
theorem dX8_rimLast_10 : decode cX8_rimLast 10 = .ok (.iconst 0, 1) := by decide +kernel
theorem dX8_rimLast_11 : decode cX8_rimLast 11 = .ok (.sipush 9999, 3) := by decide +kernel
theorem dX8_rimLast_14 : decode cX8_rimLast 14 = .ok (.iload_n 0, 1) := by decide +kernel
theorem dX8_rimLast_15 : decode cX8_rimLast 15 = .ok (.iconst 1, 1) := by decide +kernel
theorem dX8_rimLast_16 : decode cX8_rimLast 16 = .ok (.isub, 1) := by decide +kernel
theorem dX8_rimLast_17 : decode cX8_rimLast 17 = .ok (.iload_n 0, 1) := by decide +kernel
theorem dX8_rimLast_18 : decode cX8_rimLast 18 = .ok (.iconst 1, 1) := by decide +kernel
theorem dX8_rimLast_19 : decode cX8_rimLast 19 = .ok (.isub, 1) := by decide +kernel
theorem dX8_rimLast_20 : decode cX8_rimLast 20 = .ok (.imul, 1) := by decide +kernel
theorem dX8_rimLast_21 : decode cX8_rimLast 21 = .ok (.iload_n 1, 1) := by decide +kernel
theorem dX8_rimLast_22 : decode cX8_rimLast 22 = .ok (.invokestatic 120, 3) := by decide +kernel
theorem dX8_rimLast_25 : decode cX8_rimLast 25 = .ok (.isub, 1) := by decide +kernel
theorem dX8_rimLast_26 : decode cX8_rimLast 26 = .ok (.invokestatic 73, 3) := by decide +kernel
theorem dX8_rimLast_29 : decode cX8_rimLast 29 = .ok (.ireturn, 1) := by decide +kernel
theorem dX8_above_0 : decode cX8_above 0 = .ok (.iload_n 1, 1) := by decide +kernel
theorem dX8_above_1 : decode cX8_above 1 = .ok (.iload_n 2, 1) := by decide +kernel
theorem dX8_above_2 : decode cX8_above 2 = .ok (.if_icmp .ne 7, 3) := by decide +kernel
theorem dX8_above_5 : decode cX8_above 5 = .ok (.iconst (-1), 1) := by decide +kernel
theorem dX8_above_6 : decode cX8_above 6 = .ok (.goto 12, 3) := by decide +kernel
theorem dX8_above_9 : decode cX8_above 9 = .ok (.aload_n 0, 1) := by decide +kernel
theorem dX8_above_10 : decode cX8_above 10 = .ok (.getfield 15, 3) := by decide +kernel
theorem dX8_above_13 : decode cX8_above 13 = .ok (.getfield 123, 3) := by decide +kernel
theorem dX8_above_16 : decode cX8_above 16 = .ok (.iload_n 1, 1) := by decide +kernel
theorem dX8_above_17 : decode cX8_above 17 = .ok (.iaload, 1) := by decide +kernel
theorem dX8_above_18 : decode cX8_above 18 = .ok (.ireturn, 1) := by decide +kernel
theorem dX8_raiseStruck_0 : decode cX8_raiseStruck 0 = .ok (.iconst 0, 1) := by decide +kernel
theorem dX8_raiseStruck_1 : decode cX8_raiseStruck 1 = .ok (.istore_n 2, 1) := by decide +kernel
theorem dX8_raiseStruck_2 : decode cX8_raiseStruck 2 = .ok (.iload_n 2, 1) := by decide +kernel
theorem dX8_raiseStruck_3 : decode cX8_raiseStruck 3 = .ok (.aload_n 0, 1) := by decide +kernel
theorem dX8_raiseStruck_4 : decode cX8_raiseStruck 4 = .ok (.getfield 15, 3) := by decide +kernel
theorem dX8_raiseStruck_7 : decode cX8_raiseStruck 7 = .ok (.getfield 40, 3) := by decide +kernel
theorem dX8_raiseStruck_10 : decode cX8_raiseStruck 10 = .ok (.if_icmp .ge 56, 3) := by decide +kernel
theorem dX8_raiseStruck_13 : decode cX8_raiseStruck 13 = .ok (.aload_n 0, 1) := by decide +kernel
theorem dX8_raiseStruck_14 : decode cX8_raiseStruck 14 = .ok (.iload_n 2, 1) := by decide +kernel
theorem dX8_raiseStruck_15 : decode cX8_raiseStruck 15 = .ok (.iload_n 1, 1) := by decide +kernel
theorem dX8_raiseStruck_16 : decode cX8_raiseStruck 16 = .ok (.invokevirtual 126, 3) := by decide +kernel
theorem dX8_raiseStruck_19 : decode cX8_raiseStruck 19 = .ok (.istore_n 3, 1) := by decide +kernel
theorem dX8_raiseStruck_20 : decode cX8_raiseStruck 20 = .ok (.iconst 0, 1) := by decide +kernel
theorem dX8_raiseStruck_21 : decode cX8_raiseStruck 21 = .ok (.istore 4, 2) := by decide +kernel
theorem dX8_raiseStruck_23 : decode cX8_raiseStruck 23 = .ok (.iload_n 3, 1) := by decide +kernel
theorem dX8_raiseStruck_24 : decode cX8_raiseStruck 24 = .ok (.iconst (-1), 1) := by decide +kernel
theorem dX8_raiseStruck_25 : decode cX8_raiseStruck 25 = .ok (.if_icmp .eq 35, 3) := by decide +kernel
theorem dX8_raiseStruck_28 : decode cX8_raiseStruck 28 = .ok (.iload 4, 2) := by decide +kernel
theorem dX8_raiseStruck_30 : decode cX8_raiseStruck 30 = .ok (.bipush 12, 2) := by decide +kernel
theorem dX8_raiseStruck_32 : decode cX8_raiseStruck 32 = .ok (.if_icmp .ge 28, 3) := by decide +kernel
theorem dX8_raiseStruck_35 : decode cX8_raiseStruck 35 = .ok (.aload_n 0, 1) := by decide +kernel
theorem dX8_raiseStruck_36 : decode cX8_raiseStruck 36 = .ok (.iconst 0, 1) := by decide +kernel
theorem dX8_raiseStruck_37 : decode cX8_raiseStruck 37 = .ok (.iload_n 2, 1) := by decide +kernel
theorem dX8_raiseStruck_38 : decode cX8_raiseStruck 38 = .ok (.aload_n 0, 1) := by decide +kernel
theorem dX8_raiseStruck_39 : decode cX8_raiseStruck 39 = .ok (.iconst 0, 1) := by decide +kernel
theorem dX8_raiseStruck_40 : decode cX8_raiseStruck 40 = .ok (.iload_n 3, 1) := by decide +kernel
theorem dX8_raiseStruck_41 : decode cX8_raiseStruck 41 = .ok (.invokevirtual 114, 3) := by decide +kernel
theorem dX8_raiseStruck_44 : decode cX8_raiseStruck 44 = .ok (.invokevirtual 129, 3) := by decide +kernel
theorem dX8_raiseStruck_47 : decode cX8_raiseStruck 47 = .ok (.aload_n 0, 1) := by decide +kernel
theorem dX8_raiseStruck_48 : decode cX8_raiseStruck 48 = .ok (.iload_n 3, 1) := by decide +kernel
theorem dX8_raiseStruck_49 : decode cX8_raiseStruck 49 = .ok (.iload_n 1, 1) := by decide +kernel
theorem dX8_raiseStruck_50 : decode cX8_raiseStruck 50 = .ok (.invokevirtual 126, 3) := by decide +kernel
theorem dX8_raiseStruck_53 : decode cX8_raiseStruck 53 = .ok (.istore_n 3, 1) := by decide +kernel
theorem dX8_raiseStruck_54 : decode cX8_raiseStruck 54 = .ok (.iinc 4 1, 3) := by decide +kernel
theorem dX8_raiseStruck_57 : decode cX8_raiseStruck 57 = .ok (.goto (-34), 3) := by decide +kernel
theorem dX8_raiseStruck_60 : decode cX8_raiseStruck 60 = .ok (.iinc 2 1, 3) := by decide +kernel
theorem dX8_raiseStruck_63 : decode cX8_raiseStruck 63 = .ok (.goto (-61), 3) := by decide +kernel
theorem dX8_raiseStruck_66 : decode cX8_raiseStruck 66 = .ok (.return_, 1) := by decide +kernel
theorem dX8_raiseLaid_0 : decode cX8_raiseLaid 0 = .ok (.iconst 0, 1) := by decide +kernel
theorem dX8_raiseLaid_1 : decode cX8_raiseLaid 1 = .ok (.istore_n 1, 1) := by decide +kernel
theorem dX8_raiseLaid_2 : decode cX8_raiseLaid 2 = .ok (.iload_n 1, 1) := by decide +kernel
theorem dX8_raiseLaid_3 : decode cX8_raiseLaid 3 = .ok (.aload_n 0, 1) := by decide +kernel
theorem dX8_raiseLaid_4 : decode cX8_raiseLaid 4 = .ok (.getfield 15, 3) := by decide +kernel
theorem dX8_raiseLaid_7 : decode cX8_raiseLaid 7 = .ok (.getfield 40, 3) := by decide +kernel
theorem dX8_raiseLaid_10 : decode cX8_raiseLaid 10 = .ok (.if_icmp .ge 33, 3) := by decide +kernel
theorem dX8_raiseLaid_13 : decode cX8_raiseLaid 13 = .ok (.aload_n 0, 1) := by decide +kernel
theorem dX8_raiseLaid_14 : decode cX8_raiseLaid 14 = .ok (.iconst 2, 1) := by decide +kernel
theorem dX8_raiseLaid_15 : decode cX8_raiseLaid 15 = .ok (.iload_n 1, 1) := by decide +kernel
theorem dX8_raiseLaid_16 : decode cX8_raiseLaid 16 = .ok (.aload_n 0, 1) := by decide +kernel
theorem dX8_raiseLaid_17 : decode cX8_raiseLaid 17 = .ok (.iconst 0, 1) := by decide +kernel
theorem dX8_raiseLaid_18 : decode cX8_raiseLaid 18 = .ok (.iload_n 1, 1) := by decide +kernel
theorem dX8_raiseLaid_19 : decode cX8_raiseLaid 19 = .ok (.invokevirtual 114, 3) := by decide +kernel
theorem dX8_raiseLaid_22 : decode cX8_raiseLaid 22 = .ok (.invokevirtual 129, 3) := by decide +kernel
theorem dX8_raiseLaid_25 : decode cX8_raiseLaid 25 = .ok (.aload_n 0, 1) := by decide +kernel
theorem dX8_raiseLaid_26 : decode cX8_raiseLaid 26 = .ok (.iconst 4, 1) := by decide +kernel
theorem dX8_raiseLaid_27 : decode cX8_raiseLaid 27 = .ok (.iload_n 1, 1) := by decide +kernel
theorem dX8_raiseLaid_28 : decode cX8_raiseLaid 28 = .ok (.aload_n 0, 1) := by decide +kernel
theorem dX8_raiseLaid_29 : decode cX8_raiseLaid 29 = .ok (.iconst 2, 1) := by decide +kernel
theorem dX8_raiseLaid_30 : decode cX8_raiseLaid 30 = .ok (.iload_n 1, 1) := by decide +kernel
theorem dX8_raiseLaid_31 : decode cX8_raiseLaid 31 = .ok (.invokevirtual 114, 3) := by decide +kernel
theorem dX8_raiseLaid_34 : decode cX8_raiseLaid 34 = .ok (.invokevirtual 129, 3) := by decide +kernel
theorem dX8_raiseLaid_37 : decode cX8_raiseLaid 37 = .ok (.iinc 1 1, 3) := by decide +kernel
theorem dX8_raiseLaid_40 : decode cX8_raiseLaid 40 = .ok (.goto (-38), 3) := by decide +kernel
theorem dX8_raiseLaid_43 : decode cX8_raiseLaid 43 = .ok (.iconst 0, 1) := by decide +kernel
theorem dX8_raiseLaid_44 : decode cX8_raiseLaid 44 = .ok (.istore_n 1, 1) := by decide +kernel
theorem dX8_raiseLaid_45 : decode cX8_raiseLaid 45 = .ok (.iload_n 1, 1) := by decide +kernel
theorem dX8_raiseLaid_46 : decode cX8_raiseLaid 46 = .ok (.aload_n 0, 1) := by decide +kernel
theorem dX8_raiseLaid_47 : decode cX8_raiseLaid 47 = .ok (.getfield 15, 3) := by decide +kernel
theorem dX8_raiseLaid_50 : decode cX8_raiseLaid 50 = .ok (.getfield 40, 3) := by decide +kernel
theorem dX8_raiseLaid_53 : decode cX8_raiseLaid 53 = .ok (.if_icmp .ge 92, 3) := by decide +kernel
theorem dX8_raiseLaid_56 : decode cX8_raiseLaid 56 = .ok (.iconst 0, 1) := by decide +kernel
theorem dX8_raiseLaid_57 : decode cX8_raiseLaid 57 = .ok (.istore_n 2, 1) := by decide +kernel
theorem dX8_raiseLaid_58 : decode cX8_raiseLaid 58 = .ok (.iload_n 2, 1) := by decide +kernel
theorem dX8_raiseLaid_59 : decode cX8_raiseLaid 59 = .ok (.aload_n 0, 1) := by decide +kernel
theorem dX8_raiseLaid_60 : decode cX8_raiseLaid 60 = .ok (.getfield 15, 3) := by decide +kernel
theorem dX8_raiseLaid_63 : decode cX8_raiseLaid 63 = .ok (.getfield 40, 3) := by decide +kernel
theorem dX8_raiseLaid_66 : decode cX8_raiseLaid 66 = .ok (.if_icmp .ge 73, 3) := by decide +kernel
theorem dX8_raiseLaid_69 : decode cX8_raiseLaid 69 = .ok (.aload_n 0, 1) := by decide +kernel
theorem dX8_raiseLaid_70 : decode cX8_raiseLaid 70 = .ok (.getfield 15, 3) := by decide +kernel
theorem dX8_raiseLaid_73 : decode cX8_raiseLaid 73 = .ok (.getfield 46, 3) := by decide +kernel
theorem dX8_raiseLaid_76 : decode cX8_raiseLaid 76 = .ok (.iload_n 2, 1) := by decide +kernel
theorem dX8_raiseLaid_77 : decode cX8_raiseLaid 77 = .ok (.iaload, 1) := by decide +kernel
theorem dX8_raiseLaid_78 : decode cX8_raiseLaid 78 = .ok (.aload_n 0, 1) := by decide +kernel
theorem dX8_raiseLaid_79 : decode cX8_raiseLaid 79 = .ok (.getfield 15, 3) := by decide +kernel
theorem dX8_raiseLaid_82 : decode cX8_raiseLaid 82 = .ok (.getfield 46, 3) := by decide +kernel
theorem dX8_raiseLaid_85 : decode cX8_raiseLaid 85 = .ok (.iload_n 1, 1) := by decide +kernel
theorem dX8_raiseLaid_86 : decode cX8_raiseLaid 86 = .ok (.iaload, 1) := by decide +kernel
theorem dX8_raiseLaid_87 : decode cX8_raiseLaid 87 = .ok (.if_icmp .ne 7, 3) := by decide +kernel
theorem dX8_raiseLaid_90 : decode cX8_raiseLaid 90 = .ok (.iconst 1, 1) := by decide +kernel
theorem dX8_raiseLaid_91 : decode cX8_raiseLaid 91 = .ok (.goto 4, 3) := by decide +kernel
theorem dX8_raiseLaid_94 : decode cX8_raiseLaid 94 = .ok (.iconst 0, 1) := by decide +kernel
theorem dX8_raiseLaid_95 : decode cX8_raiseLaid 95 = .ok (.istore_n 3, 1) := by decide +kernel
theorem dX8_raiseLaid_96 : decode cX8_raiseLaid 96 = .ok (.iload_n 3, 1) := by decide +kernel
theorem dX8_raiseLaid_97 : decode cX8_raiseLaid 97 = .ok (.ifCond .eq 36, 3) := by decide +kernel
theorem dX8_raiseLaid_100 : decode cX8_raiseLaid 100 = .ok (.aload_n 0, 1) := by decide +kernel
theorem dX8_raiseLaid_101 : decode cX8_raiseLaid 101 = .ok (.getfield 15, 3) := by decide +kernel
theorem dX8_raiseLaid_104 : decode cX8_raiseLaid 104 = .ok (.getfield 132, 3) := by decide +kernel
theorem dX8_raiseLaid_107 : decode cX8_raiseLaid 107 = .ok (.iload_n 2, 1) := by decide +kernel
theorem dX8_raiseLaid_108 : decode cX8_raiseLaid 108 = .ok (.iaload, 1) := by decide +kernel
theorem dX8_raiseLaid_109 : decode cX8_raiseLaid 109 = .ok (.aload_n 0, 1) := by decide +kernel
theorem dX8_raiseLaid_110 : decode cX8_raiseLaid 110 = .ok (.getfield 15, 3) := by decide +kernel
theorem dX8_raiseLaid_113 : decode cX8_raiseLaid 113 = .ok (.getfield 132, 3) := by decide +kernel
theorem dX8_raiseLaid_116 : decode cX8_raiseLaid 116 = .ok (.iload_n 1, 1) := by decide +kernel
theorem dX8_raiseLaid_117 : decode cX8_raiseLaid 117 = .ok (.iaload, 1) := by decide +kernel
theorem dX8_raiseLaid_118 : decode cX8_raiseLaid 118 = .ok (.if_icmp .le 15, 3) := by decide +kernel
theorem dX8_raiseLaid_121 : decode cX8_raiseLaid 121 = .ok (.aload_n 0, 1) := by decide +kernel
theorem dX8_raiseLaid_122 : decode cX8_raiseLaid 122 = .ok (.iconst 4, 1) := by decide +kernel
theorem dX8_raiseLaid_123 : decode cX8_raiseLaid 123 = .ok (.iload_n 1, 1) := by decide +kernel
theorem dX8_raiseLaid_124 : decode cX8_raiseLaid 124 = .ok (.aload_n 0, 1) := by decide +kernel
theorem dX8_raiseLaid_125 : decode cX8_raiseLaid 125 = .ok (.iconst 4, 1) := by decide +kernel
theorem dX8_raiseLaid_126 : decode cX8_raiseLaid 126 = .ok (.iload_n 2, 1) := by decide +kernel
theorem dX8_raiseLaid_127 : decode cX8_raiseLaid 127 = .ok (.invokevirtual 114, 3) := by decide +kernel
theorem dX8_raiseLaid_130 : decode cX8_raiseLaid 130 = .ok (.invokevirtual 129, 3) := by decide +kernel
theorem dX8_raiseLaid_133 : decode cX8_raiseLaid 133 = .ok (.iinc 2 1, 3) := by decide +kernel
theorem dX8_raiseLaid_136 : decode cX8_raiseLaid 136 = .ok (.goto (-78), 3) := by decide +kernel
theorem dX8_raiseLaid_139 : decode cX8_raiseLaid 139 = .ok (.iinc 1 1, 3) := by decide +kernel
theorem dX8_raiseLaid_142 : decode cX8_raiseLaid 142 = .ok (.goto (-97), 3) := by decide +kernel
theorem dX8_raiseLaid_145 : decode cX8_raiseLaid 145 = .ok (.return_, 1) := by decide +kernel
theorem dX8_lowerStruck_0 : decode cX8_lowerStruck 0 = .ok (.iconst 0, 1) := by decide +kernel
theorem dX8_lowerStruck_1 : decode cX8_lowerStruck 1 = .ok (.istore_n 2, 1) := by decide +kernel
theorem dX8_lowerStruck_2 : decode cX8_lowerStruck 2 = .ok (.iload_n 2, 1) := by decide +kernel
theorem dX8_lowerStruck_3 : decode cX8_lowerStruck 3 = .ok (.aload_n 0, 1) := by decide +kernel
theorem dX8_lowerStruck_4 : decode cX8_lowerStruck 4 = .ok (.getfield 15, 3) := by decide +kernel
theorem dX8_lowerStruck_7 : decode cX8_lowerStruck 7 = .ok (.getfield 40, 3) := by decide +kernel
theorem dX8_lowerStruck_10 : decode cX8_lowerStruck 10 = .ok (.if_icmp .ge 33, 3) := by decide +kernel
theorem dX8_lowerStruck_13 : decode cX8_lowerStruck 13 = .ok (.aload_n 0, 1) := by decide +kernel
theorem dX8_lowerStruck_14 : decode cX8_lowerStruck 14 = .ok (.iconst 3, 1) := by decide +kernel
theorem dX8_lowerStruck_15 : decode cX8_lowerStruck 15 = .ok (.iload_n 2, 1) := by decide +kernel
theorem dX8_lowerStruck_16 : decode cX8_lowerStruck 16 = .ok (.aload_n 0, 1) := by decide +kernel
theorem dX8_lowerStruck_17 : decode cX8_lowerStruck 17 = .ok (.iconst 5, 1) := by decide +kernel
theorem dX8_lowerStruck_18 : decode cX8_lowerStruck 18 = .ok (.iload_n 2, 1) := by decide +kernel
theorem dX8_lowerStruck_19 : decode cX8_lowerStruck 19 = .ok (.invokevirtual 114, 3) := by decide +kernel
theorem dX8_lowerStruck_22 : decode cX8_lowerStruck 22 = .ok (.invokevirtual 135, 3) := by decide +kernel
theorem dX8_lowerStruck_25 : decode cX8_lowerStruck 25 = .ok (.aload_n 0, 1) := by decide +kernel
theorem dX8_lowerStruck_26 : decode cX8_lowerStruck 26 = .ok (.iconst 1, 1) := by decide +kernel
theorem dX8_lowerStruck_27 : decode cX8_lowerStruck 27 = .ok (.iload_n 2, 1) := by decide +kernel
theorem dX8_lowerStruck_28 : decode cX8_lowerStruck 28 = .ok (.aload_n 0, 1) := by decide +kernel
theorem dX8_lowerStruck_29 : decode cX8_lowerStruck 29 = .ok (.iconst 3, 1) := by decide +kernel
theorem dX8_lowerStruck_30 : decode cX8_lowerStruck 30 = .ok (.iload_n 2, 1) := by decide +kernel
theorem dX8_lowerStruck_31 : decode cX8_lowerStruck 31 = .ok (.invokevirtual 114, 3) := by decide +kernel
theorem dX8_lowerStruck_34 : decode cX8_lowerStruck 34 = .ok (.invokevirtual 135, 3) := by decide +kernel
theorem dX8_lowerStruck_37 : decode cX8_lowerStruck 37 = .ok (.iinc 2 1, 3) := by decide +kernel
theorem dX8_lowerStruck_40 : decode cX8_lowerStruck 40 = .ok (.goto (-38), 3) := by decide +kernel
theorem dX8_lowerStruck_43 : decode cX8_lowerStruck 43 = .ok (.iconst 0, 1) := by decide +kernel
theorem dX8_lowerStruck_44 : decode cX8_lowerStruck 44 = .ok (.istore_n 2, 1) := by decide +kernel
theorem dX8_lowerStruck_45 : decode cX8_lowerStruck 45 = .ok (.iload_n 2, 1) := by decide +kernel
theorem dX8_lowerStruck_46 : decode cX8_lowerStruck 46 = .ok (.aload_n 0, 1) := by decide +kernel
theorem dX8_lowerStruck_47 : decode cX8_lowerStruck 47 = .ok (.getfield 15, 3) := by decide +kernel
theorem dX8_lowerStruck_50 : decode cX8_lowerStruck 50 = .ok (.getfield 40, 3) := by decide +kernel
theorem dX8_lowerStruck_53 : decode cX8_lowerStruck 53 = .ok (.if_icmp .ge 56, 3) := by decide +kernel
theorem dX8_lowerStruck_56 : decode cX8_lowerStruck 56 = .ok (.aload_n 0, 1) := by decide +kernel
theorem dX8_lowerStruck_57 : decode cX8_lowerStruck 57 = .ok (.iload_n 2, 1) := by decide +kernel
theorem dX8_lowerStruck_58 : decode cX8_lowerStruck 58 = .ok (.iload_n 1, 1) := by decide +kernel
theorem dX8_lowerStruck_59 : decode cX8_lowerStruck 59 = .ok (.invokevirtual 126, 3) := by decide +kernel
theorem dX8_lowerStruck_62 : decode cX8_lowerStruck 62 = .ok (.istore_n 3, 1) := by decide +kernel
theorem dX8_lowerStruck_63 : decode cX8_lowerStruck 63 = .ok (.iconst 0, 1) := by decide +kernel
theorem dX8_lowerStruck_64 : decode cX8_lowerStruck 64 = .ok (.istore 4, 2) := by decide +kernel
theorem dX8_lowerStruck_66 : decode cX8_lowerStruck 66 = .ok (.iload_n 3, 1) := by decide +kernel
theorem dX8_lowerStruck_67 : decode cX8_lowerStruck 67 = .ok (.iconst (-1), 1) := by decide +kernel
theorem dX8_lowerStruck_68 : decode cX8_lowerStruck 68 = .ok (.if_icmp .eq 35, 3) := by decide +kernel
theorem dX8_lowerStruck_71 : decode cX8_lowerStruck 71 = .ok (.iload 4, 2) := by decide +kernel
theorem dX8_lowerStruck_73 : decode cX8_lowerStruck 73 = .ok (.bipush 12, 2) := by decide +kernel
theorem dX8_lowerStruck_75 : decode cX8_lowerStruck 75 = .ok (.if_icmp .ge 28, 3) := by decide +kernel
theorem dX8_lowerStruck_78 : decode cX8_lowerStruck 78 = .ok (.aload_n 0, 1) := by decide +kernel
theorem dX8_lowerStruck_79 : decode cX8_lowerStruck 79 = .ok (.iconst 1, 1) := by decide +kernel
theorem dX8_lowerStruck_80 : decode cX8_lowerStruck 80 = .ok (.iload_n 3, 1) := by decide +kernel
theorem dX8_lowerStruck_81 : decode cX8_lowerStruck 81 = .ok (.aload_n 0, 1) := by decide +kernel
theorem dX8_lowerStruck_82 : decode cX8_lowerStruck 82 = .ok (.iconst 1, 1) := by decide +kernel
theorem dX8_lowerStruck_83 : decode cX8_lowerStruck 83 = .ok (.iload_n 2, 1) := by decide +kernel
theorem dX8_lowerStruck_84 : decode cX8_lowerStruck 84 = .ok (.invokevirtual 114, 3) := by decide +kernel
theorem dX8_lowerStruck_87 : decode cX8_lowerStruck 87 = .ok (.invokevirtual 135, 3) := by decide +kernel
theorem dX8_lowerStruck_90 : decode cX8_lowerStruck 90 = .ok (.aload_n 0, 1) := by decide +kernel
theorem dX8_lowerStruck_91 : decode cX8_lowerStruck 91 = .ok (.iload_n 3, 1) := by decide +kernel
theorem dX8_lowerStruck_92 : decode cX8_lowerStruck 92 = .ok (.iload_n 1, 1) := by decide +kernel
theorem dX8_lowerStruck_93 : decode cX8_lowerStruck 93 = .ok (.invokevirtual 126, 3) := by decide +kernel
theorem dX8_lowerStruck_96 : decode cX8_lowerStruck 96 = .ok (.istore_n 3, 1) := by decide +kernel
theorem dX8_lowerStruck_97 : decode cX8_lowerStruck 97 = .ok (.iinc 4 1, 3) := by decide +kernel
theorem dX8_lowerStruck_100 : decode cX8_lowerStruck 100 = .ok (.goto (-34), 3) := by decide +kernel
theorem dX8_lowerStruck_103 : decode cX8_lowerStruck 103 = .ok (.iinc 2 1, 3) := by decide +kernel
theorem dX8_lowerStruck_106 : decode cX8_lowerStruck 106 = .ok (.goto (-61), 3) := by decide +kernel
theorem dX8_lowerStruck_109 : decode cX8_lowerStruck 109 = .ok (.return_, 1) := by decide +kernel
theorem dX8_hasWay_0 : decode cX8_hasWay 0 = .ok (.iconst 1, 1) := by decide +kernel
theorem dX8_hasWay_1 : decode cX8_hasWay 1 = .ok (.istore_n 1, 1) := by decide +kernel
theorem dX8_hasWay_2 : decode cX8_hasWay 2 = .ok (.iconst 0, 1) := by decide +kernel
theorem dX8_hasWay_3 : decode cX8_hasWay 3 = .ok (.istore_n 2, 1) := by decide +kernel
theorem dX8_hasWay_4 : decode cX8_hasWay 4 = .ok (.iload_n 1, 1) := by decide +kernel
theorem dX8_hasWay_5 : decode cX8_hasWay 5 = .ok (.ifCond .eq 71, 3) := by decide +kernel
theorem dX8_hasWay_8 : decode cX8_hasWay 8 = .ok (.iload_n 2, 1) := by decide +kernel
theorem dX8_hasWay_9 : decode cX8_hasWay 9 = .ok (.aload_n 0, 1) := by decide +kernel
theorem dX8_hasWay_10 : decode cX8_hasWay 10 = .ok (.getfield 15, 3) := by decide +kernel
theorem dX8_hasWay_13 : decode cX8_hasWay 13 = .ok (.getfield 40, 3) := by decide +kernel
theorem dX8_hasWay_16 : decode cX8_hasWay 16 = .ok (.if_icmp .ge 60, 3) := by decide +kernel
theorem dX8_hasWay_19 : decode cX8_hasWay 19 = .ok (.aload_n 0, 1) := by decide +kernel
theorem dX8_hasWay_20 : decode cX8_hasWay 20 = .ok (.iconst 0, 1) := by decide +kernel
theorem dX8_hasWay_21 : decode cX8_hasWay 21 = .ok (.iload_n 2, 1) := by decide +kernel
theorem dX8_hasWay_22 : decode cX8_hasWay 22 = .ok (.invokevirtual 114, 3) := by decide +kernel
theorem dX8_hasWay_25 : decode cX8_hasWay 25 = .ok (.aload_n 0, 1) := by decide +kernel
theorem dX8_hasWay_26 : decode cX8_hasWay 26 = .ok (.iconst 1, 1) := by decide +kernel
theorem dX8_hasWay_27 : decode cX8_hasWay 27 = .ok (.iload_n 2, 1) := by decide +kernel
theorem dX8_hasWay_28 : decode cX8_hasWay 28 = .ok (.invokevirtual 114, 3) := by decide +kernel
theorem dX8_hasWay_31 : decode cX8_hasWay 31 = .ok (.if_icmp .gt 37, 3) := by decide +kernel
theorem dX8_hasWay_34 : decode cX8_hasWay 34 = .ok (.aload_n 0, 1) := by decide +kernel
theorem dX8_hasWay_35 : decode cX8_hasWay 35 = .ok (.iconst 2, 1) := by decide +kernel
theorem dX8_hasWay_36 : decode cX8_hasWay 36 = .ok (.iload_n 2, 1) := by decide +kernel
theorem dX8_hasWay_37 : decode cX8_hasWay 37 = .ok (.invokevirtual 114, 3) := by decide +kernel
theorem dX8_hasWay_40 : decode cX8_hasWay 40 = .ok (.aload_n 0, 1) := by decide +kernel
theorem dX8_hasWay_41 : decode cX8_hasWay 41 = .ok (.iconst 3, 1) := by decide +kernel
theorem dX8_hasWay_42 : decode cX8_hasWay 42 = .ok (.iload_n 2, 1) := by decide +kernel
theorem dX8_hasWay_43 : decode cX8_hasWay 43 = .ok (.invokevirtual 114, 3) := by decide +kernel
theorem dX8_hasWay_46 : decode cX8_hasWay 46 = .ok (.if_icmp .gt 22, 3) := by decide +kernel
theorem dX8_hasWay_49 : decode cX8_hasWay 49 = .ok (.aload_n 0, 1) := by decide +kernel
theorem dX8_hasWay_50 : decode cX8_hasWay 50 = .ok (.iconst 4, 1) := by decide +kernel
theorem dX8_hasWay_51 : decode cX8_hasWay 51 = .ok (.iload_n 2, 1) := by decide +kernel
theorem dX8_hasWay_52 : decode cX8_hasWay 52 = .ok (.invokevirtual 114, 3) := by decide +kernel
theorem dX8_hasWay_55 : decode cX8_hasWay 55 = .ok (.aload_n 0, 1) := by decide +kernel
theorem dX8_hasWay_56 : decode cX8_hasWay 56 = .ok (.iconst 5, 1) := by decide +kernel
theorem dX8_hasWay_57 : decode cX8_hasWay 57 = .ok (.iload_n 2, 1) := by decide +kernel
theorem dX8_hasWay_58 : decode cX8_hasWay 58 = .ok (.invokevirtual 114, 3) := by decide +kernel
theorem dX8_hasWay_61 : decode cX8_hasWay 61 = .ok (.if_icmp .gt 7, 3) := by decide +kernel
theorem dX8_hasWay_64 : decode cX8_hasWay 64 = .ok (.iconst 1, 1) := by decide +kernel
theorem dX8_hasWay_65 : decode cX8_hasWay 65 = .ok (.goto 4, 3) := by decide +kernel
theorem dX8_hasWay_68 : decode cX8_hasWay 68 = .ok (.iconst 0, 1) := by decide +kernel
theorem dX8_hasWay_69 : decode cX8_hasWay 69 = .ok (.istore_n 1, 1) := by decide +kernel
theorem dX8_hasWay_70 : decode cX8_hasWay 70 = .ok (.iinc 2 1, 3) := by decide +kernel
theorem dX8_hasWay_73 : decode cX8_hasWay 73 = .ok (.goto (-69), 3) := by decide +kernel
theorem dX8_hasWay_76 : decode cX8_hasWay 76 = .ok (.iload_n 1, 1) := by decide +kernel
theorem dX8_hasWay_77 : decode cX8_hasWay 77 = .ok (.ireturn, 1) := by decide +kernel
