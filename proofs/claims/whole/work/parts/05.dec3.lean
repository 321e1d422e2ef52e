theorem dX9_init_0 : decode cX9_init 0 = .ok (.aload_n 0, 1) := by decide +kernel
theorem dX9_init_1 : decode cX9_init 1 = .ok (.invokespecial 3, 3) := by decide +kernel
theorem dX9_init_4 : decode cX9_init 4 = .ok (.aload_n 0, 1) := by decide +kernel
theorem dX9_init_5 : decode cX9_init 5 = .ok (.new 9, 3) := by decide +kernel
theorem dX9_init_8 : decode cX9_init 8 = .ok (.dup, 1) := by decide +kernel
theorem dX9_init_9 : decode cX9_init 9 = .ok (.invokespecial 11, 3) := by decide +kernel
theorem dX9_init_12 : decode cX9_init 12 = .ok (.putfield 12, 3) := by decide +kernel
theorem dX9_init_15 : decode cX9_init 15 = .ok (.aload_n 0, 1) := by decide +kernel
theorem dX9_init_16 : decode cX9_init 16 = .ok (.new 16, 3) := by decide +kernel
theorem dX9_init_19 : decode cX9_init 19 = .ok (.dup, 1) := by decide +kernel
theorem dX9_init_20 : decode cX9_init 20 = .ok (.invokespecial 18, 3) := by decide +kernel
theorem dX9_init_23 : decode cX9_init 23 = .ok (.putfield 19, 3) := by decide +kernel
theorem dX9_init_26 : decode cX9_init 26 = .ok (.aload_n 0, 1) := by decide +kernel
theorem dX9_init_27 : decode cX9_init 27 = .ok (.new 23, 3) := by decide +kernel
theorem dX9_init_30 : decode cX9_init 30 = .ok (.dup, 1) := by decide +kernel
theorem dX9_init_31 : decode cX9_init 31 = .ok (.invokespecial 25, 3) := by decide +kernel
theorem dX9_init_34 : decode cX9_init 34 = .ok (.putfield 26, 3) := by decide +kernel
theorem dX9_init_37 : decode cX9_init 37 = .ok (.aload_n 0, 1) := by decide +kernel
theorem dX9_init_38 : decode cX9_init 38 = .ok (.new 30, 3) := by decide +kernel
theorem dX9_init_41 : decode cX9_init 41 = .ok (.dup, 1) := by decide +kernel
theorem dX9_init_42 : decode cX9_init 42 = .ok (.aload_n 0, 1) := by decide +kernel
theorem dX9_init_43 : decode cX9_init 43 = .ok (.getfield 19, 3) := by decide +kernel
theorem dX9_init_46 : decode cX9_init 46 = .ok (.aload_n 0, 1) := by decide +kernel
theorem dX9_init_47 : decode cX9_init 47 = .ok (.getfield 26, 3) := by decide +kernel
theorem dX9_init_50 : decode cX9_init 50 = .ok (.invokespecial 32, 3) := by decide +kernel
theorem dX9_init_53 : decode cX9_init 53 = .ok (.putfield 35, 3) := by decide +kernel
theorem dX9_init_56 : decode cX9_init 56 = .ok (.aload_n 0, 1) := by decide +kernel
theorem dX9_init_57 : decode cX9_init 57 = .ok (.new 39, 3) := by decide +kernel
theorem dX9_init_60 : decode cX9_init 60 = .ok (.dup, 1) := by decide +kernel
theorem dX9_init_61 : decode cX9_init 61 = .ok (.aload_n 0, 1) := by decide +kernel
theorem dX9_init_62 : decode cX9_init 62 = .ok (.getfield 19, 3) := by decide +kernel
theorem dX9_init_65 : decode cX9_init 65 = .ok (.aload_n 0, 1) := by decide +kernel
theorem dX9_init_66 : decode cX9_init 66 = .ok (.getfield 26, 3) := by decide +kernel
theorem dX9_init_69 : decode cX9_init 69 = .ok (.aload_n 0, 1) := by decide +kernel
theorem dX9_init_70 : decode cX9_init 70 = .ok (.getfield 35, 3) := by decide +kernel
theorem dX9_init_73 : decode cX9_init 73 = .ok (.invokespecial 41, 3) := by decide +kernel
theorem dX9_init_76 : decode cX9_init 76 = .ok (.putfield 44, 3) := by decide +kernel
theorem dX9_init_79 : decode cX9_init 79 = .ok (.aload_n 0, 1) := by decide +kernel
theorem dX9_init_80 : decode cX9_init 80 = .ok (.new 48, 3) := by decide +kernel
theorem dX9_init_83 : decode cX9_init 83 = .ok (.dup, 1) := by decide +kernel
theorem dX9_init_84 : decode cX9_init 84 = .ok (.aload_n 0, 1) := by decide +kernel
theorem dX9_init_85 : decode cX9_init 85 = .ok (.getfield 26, 3) := by decide +kernel
theorem dX9_init_88 : decode cX9_init 88 = .ok (.aload_n 0, 1) := by decide +kernel
theorem dX9_init_89 : decode cX9_init 89 = .ok (.getfield 44, 3) := by decide +kernel
theorem dX9_init_92 : decode cX9_init 92 = .ok (.invokespecial 50, 3) := by decide +kernel
theorem dX9_init_95 : decode cX9_init 95 = .ok (.putfield 53, 3) := by decide +kernel
theorem dX9_init_98 : decode cX9_init 98 = .ok (.aload_n 0, 1) := by decide +kernel
theorem dX9_init_99 : decode cX9_init 99 = .ok (.new 57, 3) := by decide +kernel
theorem dX9_init_102 : decode cX9_init 102 = .ok (.dup, 1) := by decide +kernel
theorem dX9_init_103 : decode cX9_init 103 = .ok (.aload_n 0, 1) := by decide +kernel
theorem dX9_init_104 : decode cX9_init 104 = .ok (.getfield 19, 3) := by decide +kernel
theorem dX9_init_107 : decode cX9_init 107 = .ok (.aload_n 0, 1) := by decide +kernel
theorem dX9_init_108 : decode cX9_init 108 = .ok (.getfield 26, 3) := by decide +kernel
theorem dX9_init_111 : decode cX9_init 111 = .ok (.aload_n 0, 1) := by decide +kernel
theorem dX9_init_112 : decode cX9_init 112 = .ok (.getfield 44, 3) := by decide +kernel
theorem dX9_init_115 : decode cX9_init 115 = .ok (.invokespecial 59, 3) := by decide +kernel
theorem dX9_init_118 : decode cX9_init 118 = .ok (.putfield 62, 3) := by decide +kernel
theorem dX9_init_121 : decode cX9_init 121 = .ok (.aload_n 0, 1) := by decide +kernel
theorem dX9_init_122 : decode cX9_init 122 = .ok (.new 66, 3) := by decide +kernel
theorem dX9_init_125 : decode cX9_init 125 = .ok (.dup, 1) := by decide +kernel
theorem dX9_init_126 : decode cX9_init 126 = .ok (.aload_n 0, 1) := by decide +kernel
theorem dX9_init_127 : decode cX9_init 127 = .ok (.getfield 19, 3) := by decide +kernel
theorem dX9_init_130 : decode cX9_init 130 = .ok (.aload_n 0, 1) := by decide +kernel
theorem dX9_init_131 : decode cX9_init 131 = .ok (.getfield 62, 3) := by decide +kernel
theorem dX9_init_134 : decode cX9_init 134 = .ok (.invokespecial 68, 3) := by decide +kernel
theorem dX9_init_137 : decode cX9_init 137 = .ok (.putfield 71, 3) := by decide +kernel
theorem dX9_init_140 : decode cX9_init 140 = .ok (.aload_n 0, 1) := by decide +kernel
theorem dX9_init_141 : decode cX9_init 141 = .ok (.new 75, 3) := by decide +kernel
theorem dX9_init_144 : decode cX9_init 144 = .ok (.dup, 1) := by decide +kernel
theorem dX9_init_145 : decode cX9_init 145 = .ok (.aload_n 0, 1) := by decide +kernel
theorem dX9_init_146 : decode cX9_init 146 = .ok (.getfield 26, 3) := by decide +kernel
theorem dX9_init_149 : decode cX9_init 149 = .ok (.invokespecial 77, 3) := by decide +kernel
theorem dX9_init_152 : decode cX9_init 152 = .ok (.putfield 80, 3) := by decide +kernel
theorem dX9_init_155 : decode cX9_init 155 = .ok (.return_, 1) := by decide +kernel
theorem dX9_write_0 : decode cX9_write 0 = .ok (.iload_n 3, 1) := by decide +kernel
theorem dX9_write_1 : decode cX9_write 1 = .ok (.iconst 1, 1) := by decide +kernel
theorem dX9_write_2 : decode cX9_write 2 = .ok (.bipush 8, 2) := by decide +kernel
theorem dX9_write_4 : decode cX9_write 4 = .ok (.invokestatic 84, 3) := by decide +kernel
theorem dX9_write_7 : decode cX9_write 7 = .ok (.ifCond .ne 6, 3) := by decide +kernel
theorem dX9_write_10 : decode cX9_write 10 = .ok (.bipush (-3), 2) := by decide +kernel
theorem dX9_write_12 : decode cX9_write 12 = .ok (.ireturn, 1) := by decide +kernel
theorem dX9_write_13 : decode cX9_write 13 = .ok (.aload_n 0, 1) := by decide +kernel
theorem dX9_write_14 : decode cX9_write 14 = .ok (.getfield 12, 3) := by decide +kernel
theorem dX9_write_17 : decode cX9_write 17 = .ok (.iload_n 3, 1) := by decide +kernel
theorem dX9_write_18 : decode cX9_write 18 = .ok (.invokevirtual 88, 3) := by decide +kernel
theorem dX9_write_21 : decode cX9_write 21 = .ok (.ifCond .eq 15, 3) := by decide +kernel
theorem dX9_write_24 : decode cX9_write 24 = .ok (.aload_n 0, 1) := by decide +kernel
theorem dX9_write_25 : decode cX9_write 25 = .ok (.getfield 12, 3) := by decide +kernel
theorem dX9_write_28 : decode cX9_write 28 = .ok (.lload_n 1, 1) := by decide +kernel
theorem dX9_write_29 : decode cX9_write 29 = .ok (.iload_n 3, 1) := by decide +kernel
theorem dX9_write_30 : decode cX9_write 30 = .ok (.invokevirtual 92, 3) := by decide +kernel
theorem dX9_write_33 : decode cX9_write 33 = .ok (.goto 5, 3) := by decide +kernel
theorem dX9_write_36 : decode cX9_write 36 = .ok (.bipush (-5), 2) := by decide +kernel
theorem dX9_write_38 : decode cX9_write 38 = .ok (.ireturn, 1) := by decide +kernel
theorem dX9_erase_0 : decode cX9_erase 0 = .ok (.aload_n 0, 1) := by decide +kernel
theorem dX9_erase_1 : decode cX9_erase 1 = .ok (.getfield 12, 3) := by decide +kernel
theorem dX9_erase_4 : decode cX9_erase 4 = .ok (.invokevirtual 96, 3) := by decide +kernel
theorem dX9_erase_7 : decode cX9_erase 7 = .ok (.ireturn, 1) := by decide +kernel
theorem dX9_fault_0 : decode cX9_fault 0 = .ok (.aload_n 0, 1) := by decide +kernel
theorem dX9_fault_1 : decode cX9_fault 1 = .ok (.getfield 12, 3) := by decide +kernel
theorem dX9_fault_4 : decode cX9_fault 4 = .ok (.invokevirtual 100, 3) := by decide +kernel
theorem dX9_fault_7 : decode cX9_fault 7 = .ok (.ireturn, 1) := by decide +kernel
theorem dX9_land_0 : decode cX9_land 0 = .ok (.aload_n 0, 1) := by decide +kernel
theorem dX9_land_1 : decode cX9_land 1 = .ok (.getfield 12, 3) := by decide +kernel
theorem dX9_land_4 : decode cX9_land 4 = .ok (.invokevirtual 100, 3) := by decide +kernel
theorem dX9_land_7 : decode cX9_land 7 = .ok (.iconst (-1), 1) := by decide +kernel
theorem dX9_land_8 : decode cX9_land 8 = .ok (.if_icmp .eq 6, 3) := by decide +kernel
theorem dX9_land_11 : decode cX9_land 11 = .ok (.bipush (-4), 2) := by decide +kernel
theorem dX9_land_13 : decode cX9_land 13 = .ok (.ireturn, 1) := by decide +kernel
theorem dX9_land_14 : decode cX9_land 14 = .ok (.aload_n 0, 1) := by decide +kernel
theorem dX9_land_15 : decode cX9_land 15 = .ok (.getfield 12, 3) := by decide +kernel
theorem dX9_land_18 : decode cX9_land 18 = .ok (.getfield 103, 3) := by decide +kernel
theorem dX9_land_21 : decode cX9_land 21 = .ok (.istore_n 1, 1) := by decide +kernel
theorem dX9_land_22 : decode cX9_land 22 = .ok (.iconst 0, 1) := by decide +kernel
theorem dX9_land_23 : decode cX9_land 23 = .ok (.istore_n 2, 1) := by decide +kernel
theorem dX9_land_24 : decode cX9_land 24 = .ok (.iload_n 2, 1) := by decide +kernel
theorem dX9_land_25 : decode cX9_land 25 = .ok (.iload_n 1, 1) := by decide +kernel
theorem dX9_land_26 : decode cX9_land 26 = .ok (.if_icmp .ge 27, 3) := by decide +kernel
theorem dX9_land_29 : decode cX9_land 29 = .ok (.aload_n 0, 1) := by decide +kernel
theorem dX9_land_30 : decode cX9_land 30 = .ok (.getfield 19, 3) := by decide +kernel
theorem dX9_land_33 : decode cX9_land 33 = .ok (.aload_n 0, 1) := by decide +kernel
theorem dX9_land_34 : decode cX9_land 34 = .ok (.getfield 12, 3) := by decide +kernel
theorem dX9_land_37 : decode cX9_land 37 = .ok (.getfield 107, 3) := by decide +kernel
theorem dX9_land_40 : decode cX9_land 40 = .ok (.iload_n 2, 1) := by decide +kernel
theorem dX9_land_41 : decode cX9_land 41 = .ok (.bipush 8, 2) := by decide +kernel
theorem dX9_land_43 : decode cX9_land 43 = .ok (.imul, 1) := by decide +kernel
theorem dX9_land_44 : decode cX9_land 44 = .ok (.invokevirtual 111, 3) := by decide +kernel
theorem dX9_land_47 : decode cX9_land 47 = .ok (.iinc 2 1, 3) := by decide +kernel
theorem dX9_land_50 : decode cX9_land 50 = .ok (.goto (-26), 3) := by decide +kernel
theorem dX9_land_53 : decode cX9_land 53 = .ok (.aload_n 0, 1) := by decide +kernel
theorem dX9_land_54 : decode cX9_land 54 = .ok (.getfield 12, 3) := by decide +kernel
theorem dX9_land_57 : decode cX9_land 57 = .ok (.invokevirtual 96, 3) := by decide +kernel
theorem dX9_land_60 : decode cX9_land 60 = .ok (.pop, 1) := by decide +kernel
theorem dX9_land_61 : decode cX9_land 61 = .ok (.iload_n 1, 1) := by decide +kernel
theorem dX9_land_62 : decode cX9_land 62 = .ok (.ireturn, 1) := by decide +kernel
theorem dX9_place_0 : decode cX9_place 0 = .ok (.iload_n 1, 1) := by decide +kernel
theorem dX9_place_1 : decode cX9_place 1 = .ok (.invokestatic 115, 3) := by decide +kernel
theorem dX9_place_4 : decode cX9_place 4 = .ok (.ifCond .ne 6, 3) := by decide +kernel
theorem dX9_place_7 : decode cX9_place 7 = .ok (.bipush (-2), 2) := by decide +kernel
theorem dX9_place_9 : decode cX9_place 9 = .ok (.ireturn, 1) := by decide +kernel
theorem dX9_place_10 : decode cX9_place 10 = .ok (.iload_n 2, 1) := by decide +kernel
theorem dX9_place_11 : decode cX9_place 11 = .ok (.tableswitch 55 0 2 #[25, 35, 45], 25) := by decide +kernel
theorem dX9_place_36 : decode cX9_place 36 = .ok (.aload_n 0, 1) := by decide +kernel
theorem dX9_place_37 : decode cX9_place 37 = .ok (.getfield 19, 3) := by decide +kernel
theorem dX9_place_40 : decode cX9_place 40 = .ok (.getfield 118, 3) := by decide +kernel
theorem dX9_place_43 : decode cX9_place 43 = .ok (.iload_n 1, 1) := by decide +kernel
theorem dX9_place_44 : decode cX9_place 44 = .ok (.iaload, 1) := by decide +kernel
theorem dX9_place_45 : decode cX9_place 45 = .ok (.ireturn, 1) := by decide +kernel
theorem dX9_place_46 : decode cX9_place 46 = .ok (.aload_n 0, 1) := by decide +kernel
theorem dX9_place_47 : decode cX9_place 47 = .ok (.getfield 19, 3) := by decide +kernel
theorem dX9_place_50 : decode cX9_place 50 = .ok (.getfield 121, 3) := by decide +kernel
theorem dX9_place_53 : decode cX9_place 53 = .ok (.iload_n 1, 1) := by decide +kernel
theorem dX9_place_54 : decode cX9_place 54 = .ok (.iaload, 1) := by decide +kernel
theorem dX9_place_55 : decode cX9_place 55 = .ok (.ireturn, 1) := by decide +kernel
theorem dX9_place_56 : decode cX9_place 56 = .ok (.aload_n 0, 1) := by decide +kernel
theorem dX9_place_57 : decode cX9_place 57 = .ok (.getfield 19, 3) := by decide +kernel
theorem dX9_place_60 : decode cX9_place 60 = .ok (.getfield 124, 3) := by decide +kernel
theorem dX9_place_63 : decode cX9_place 63 = .ok (.iload_n 1, 1) := by decide +kernel
theorem dX9_place_64 : decode cX9_place 64 = .ok (.iaload, 1) := by decide +kernel
theorem dX9_place_65 : decode cX9_place 65 = .ok (.ireturn, 1) := by decide +kernel
theorem dX9_place_66 : decode cX9_place 66 = .ok (.bipush (-3), 2) := by decide +kernel
theorem dX9_place_68 : decode cX9_place 68 = .ok (.ireturn, 1) := by decide +kernel
theorem dX9_flow_0 : decode cX9_flow 0 = .ok (.aload_n 0, 1) := by decide +kernel
theorem dX9_flow_1 : decode cX9_flow 1 = .ok (.getfield 19, 3) := by decide +kernel
theorem dX9_flow_4 : decode cX9_flow 4 = .ok (.iload_n 1, 1) := by decide +kernel
theorem dX9_flow_5 : decode cX9_flow 5 = .ok (.invokevirtual 127, 3) := by decide +kernel
theorem dX9_flow_8 : decode cX9_flow 8 = .ok (.ifCond .ne 6, 3) := by decide +kernel
theorem dX9_flow_11 : decode cX9_flow 11 = .ok (.bipush (-2), 2) := by decide +kernel
theorem dX9_flow_13 : decode cX9_flow 13 = .ok (.ireturn, 1) := by decide +kernel
theorem dX9_flow_14 : decode cX9_flow 14 = .ok (.iload_n 2, 1) := by decide +kernel
theorem dX9_flow_15 : decode cX9_flow 15 = .ok (.tableswitch 83 0 5 #[37, 47, 57, 57, 57, 73], 37) := by decide +kernel
theorem dX9_flow_52 : decode cX9_flow 52 = .ok (.aload_n 0, 1) := by decide +kernel
theorem dX9_flow_53 : decode cX9_flow 53 = .ok (.getfield 19, 3) := by decide +kernel
theorem dX9_flow_56 : decode cX9_flow 56 = .ok (.getfield 130, 3) := by decide +kernel
theorem dX9_flow_59 : decode cX9_flow 59 = .ok (.iload_n 1, 1) := by decide +kernel
theorem dX9_flow_60 : decode cX9_flow 60 = .ok (.iaload, 1) := by decide +kernel
theorem dX9_flow_61 : decode cX9_flow 61 = .ok (.ireturn, 1) := by decide +kernel
theorem dX9_flow_62 : decode cX9_flow 62 = .ok (.aload_n 0, 1) := by decide +kernel
theorem dX9_flow_63 : decode cX9_flow 63 = .ok (.getfield 19, 3) := by decide +kernel
theorem dX9_flow_66 : decode cX9_flow 66 = .ok (.getfield 133, 3) := by decide +kernel
theorem dX9_flow_69 : decode cX9_flow 69 = .ok (.iload_n 1, 1) := by decide +kernel
theorem dX9_flow_70 : decode cX9_flow 70 = .ok (.iaload, 1) := by decide +kernel
theorem dX9_flow_71 : decode cX9_flow 71 = .ok (.ireturn, 1) := by decide +kernel
theorem dX9_flow_72 : decode cX9_flow 72 = .ok (.aload_n 0, 1) := by decide +kernel
theorem dX9_flow_73 : decode cX9_flow 73 = .ok (.getfield 19, 3) := by decide +kernel
theorem dX9_flow_76 : decode cX9_flow 76 = .ok (.getfield 136, 3) := by decide +kernel
theorem dX9_flow_79 : decode cX9_flow 79 = .ok (.iload_n 1, 1) := by decide +kernel
theorem dX9_flow_80 : decode cX9_flow 80 = .ok (.iconst 3, 1) := by decide +kernel
theorem dX9_flow_81 : decode cX9_flow 81 = .ok (.imul, 1) := by decide +kernel
theorem dX9_flow_82 : decode cX9_flow 82 = .ok (.iload_n 2, 1) := by decide +kernel
theorem dX9_flow_83 : decode cX9_flow 83 = .ok (.iadd, 1) := by decide +kernel
theorem dX9_flow_84 : decode cX9_flow 84 = .ok (.iconst 2, 1) := by decide +kernel
theorem dX9_flow_85 : decode cX9_flow 85 = .ok (.isub, 1) := by decide +kernel
theorem dX9_flow_86 : decode cX9_flow 86 = .ok (.iaload, 1) := by decide +kernel
theorem dX9_flow_87 : decode cX9_flow 87 = .ok (.ireturn, 1) := by decide +kernel
theorem dX9_flow_88 : decode cX9_flow 88 = .ok (.aload_n 0, 1) := by decide +kernel
theorem dX9_flow_89 : decode cX9_flow 89 = .ok (.getfield 19, 3) := by decide +kernel
theorem dX9_flow_92 : decode cX9_flow 92 = .ok (.getfield 139, 3) := by decide +kernel
theorem dX9_flow_95 : decode cX9_flow 95 = .ok (.iload_n 1, 1) := by decide +kernel
theorem dX9_flow_96 : decode cX9_flow 96 = .ok (.iaload, 1) := by decide +kernel
theorem dX9_flow_97 : decode cX9_flow 97 = .ok (.ireturn, 1) := by decide +kernel
theorem dX9_flow_98 : decode cX9_flow 98 = .ok (.bipush (-3), 2) := by decide +kernel
theorem dX9_flow_100 : decode cX9_flow 100 = .ok (.ireturn, 1) := by decide +kernel
theorem dX9_way_0 : decode cX9_way 0 = .ok (.iload_n 1, 1) := by decide +kernel
theorem dX9_way_1 : decode cX9_way 1 = .ok (.invokestatic 115, 3) := by decide +kernel
theorem dX9_way_4 : decode cX9_way 4 = .ok (.ifCond .eq 15, 3) := by decide +kernel
theorem dX9_way_7 : decode cX9_way 7 = .ok (.iload_n 2, 1) := by decide +kernel
theorem dX9_way_8 : decode cX9_way 8 = .ok (.invokestatic 115, 3) := by decide +kernel
theorem dX9_way_11 : decode cX9_way 11 = .ok (.ifCond .eq 8, 3) := by decide +kernel
theorem dX9_way_14 : decode cX9_way 14 = .ok (.iload_n 1, 1) := by decide +kernel
theorem dX9_way_15 : decode cX9_way 15 = .ok (.iload_n 2, 1) := by decide +kernel
theorem dX9_way_16 : decode cX9_way 16 = .ok (.if_icmp .ne 6, 3) := by decide +kernel
theorem dX9_way_19 : decode cX9_way 19 = .ok (.bipush (-2), 2) := by decide +kernel
theorem dX9_way_21 : decode cX9_way 21 = .ok (.ireturn, 1) := by decide +kernel
theorem dX9_way_22 : decode cX9_way 22 = .ok (.iload_n 3, 1) := by decide +kernel
theorem dX9_way_23 : decode cX9_way 23 = .ok (.lookupswitch 55 #[(0, 25), (1, 40)], 25) := by decide +kernel
theorem dX9_way_48 : decode cX9_way 48 = .ok (.aload_n 0, 1) := by decide +kernel
theorem dX9_way_49 : decode cX9_way 49 = .ok (.getfield 19, 3) := by decide +kernel
theorem dX9_way_52 : decode cX9_way 52 = .ok (.getfield 142, 3) := by decide +kernel
theorem dX9_way_55 : decode cX9_way 55 = .ok (.iload_n 1, 1) := by decide +kernel
theorem dX9_way_56 : decode cX9_way 56 = .ok (.bipush 10, 2) := by decide +kernel
theorem dX9_way_58 : decode cX9_way 58 = .ok (.imul, 1) := by decide +kernel
theorem dX9_way_59 : decode cX9_way 59 = .ok (.iload_n 2, 1) := by decide +kernel
theorem dX9_way_60 : decode cX9_way 60 = .ok (.iadd, 1) := by decide +kernel
theorem dX9_way_61 : decode cX9_way 61 = .ok (.iaload, 1) := by decide +kernel
theorem dX9_way_62 : decode cX9_way 62 = .ok (.ireturn, 1) := by decide +kernel
theorem dX9_way_63 : decode cX9_way 63 = .ok (.aload_n 0, 1) := by decide +kernel
theorem dX9_way_64 : decode cX9_way 64 = .ok (.getfield 19, 3) := by decide +kernel
theorem dX9_way_67 : decode cX9_way 67 = .ok (.getfield 145, 3) := by decide +kernel
theorem dX9_way_70 : decode cX9_way 70 = .ok (.iload_n 1, 1) := by decide +kernel
theorem dX9_way_71 : decode cX9_way 71 = .ok (.bipush 10, 2) := by decide +kernel
theorem dX9_way_73 : decode cX9_way 73 = .ok (.imul, 1) := by decide +kernel
theorem dX9_way_74 : decode cX9_way 74 = .ok (.iload_n 2, 1) := by decide +kernel
theorem dX9_way_75 : decode cX9_way 75 = .ok (.iadd, 1) := by decide +kernel
theorem dX9_way_76 : decode cX9_way 76 = .ok (.iaload, 1) := by decide +kernel
theorem dX9_way_77 : decode cX9_way 77 = .ok (.ireturn, 1) := by decide +kernel
theorem dX9_way_78 : decode cX9_way 78 = .ok (.bipush (-3), 2) := by decide +kernel
theorem dX9_way_80 : decode cX9_way 80 = .ok (.ireturn, 1) := by decide +kernel
theorem dX9_blade_0 : decode cX9_blade 0 = .ok (.iload_n 1, 1) := by decide +kernel
theorem dX9_blade_1 : decode cX9_blade 1 = .ok (.invokestatic 115, 3) := by decide +kernel
theorem dX9_blade_4 : decode cX9_blade 4 = .ok (.ifCond .ne 6, 3) := by decide +kernel
theorem dX9_blade_7 : decode cX9_blade 7 = .ok (.bipush (-2), 2) := by decide +kernel
theorem dX9_blade_9 : decode cX9_blade 9 = .ok (.ireturn, 1) := by decide +kernel
theorem dX9_blade_10 : decode cX9_blade 10 = .ok (.iload_n 2, 1) := by decide +kernel
theorem dX9_blade_11 : decode cX9_blade 11 = .ok (.iload_n 3, 1) := by decide +kernel
theorem dX9_blade_12 : decode cX9_blade 12 = .ok (.invokestatic 148, 3) := by decide +kernel
theorem dX9_blade_15 : decode cX9_blade 15 = .ok (.ifCond .eq 26, 3) := by decide +kernel
theorem dX9_blade_18 : decode cX9_blade 18 = .ok (.iload 4, 2) := by decide +kernel
theorem dX9_blade_20 : decode cX9_blade 20 = .ok (.iconst 1, 1) := by decide +kernel
theorem dX9_blade_21 : decode cX9_blade 21 = .ok (.sipush 999, 3) := by decide +kernel
theorem dX9_blade_24 : decode cX9_blade 24 = .ok (.invokestatic 84, 3) := by decide +kernel
theorem dX9_blade_27 : decode cX9_blade 27 = .ok (.ifCond .eq 14, 3) := by decide +kernel
theorem dX9_blade_30 : decode cX9_blade 30 = .ok (.iload 5, 2) := by decide +kernel
theorem dX9_blade_32 : decode cX9_blade 32 = .ok (.iconst 0, 1) := by decide +kernel
theorem dX9_blade_33 : decode cX9_blade 33 = .ok (.bipush 99, 2) := by decide +kernel
theorem dX9_blade_35 : decode cX9_blade 35 = .ok (.invokestatic 84, 3) := by decide +kernel
theorem dX9_blade_38 : decode cX9_blade 38 = .ok (.ifCond .ne 6, 3) := by decide +kernel
theorem dX9_blade_41 : decode cX9_blade 41 = .ok (.bipush (-3), 2) := by decide +kernel
theorem dX9_blade_43 : decode cX9_blade 43 = .ok (.ireturn, 1) := by decide +kernel
theorem dX9_blade_44 : decode cX9_blade 44 = .ok (.aload_n 0, 1) := by decide +kernel
theorem dX9_blade_45 : decode cX9_blade 45 = .ok (.getfield 26, 3) := by decide +kernel
theorem dX9_blade_48 : decode cX9_blade 48 = .ok (.getfield 152, 3) := by decide +kernel
theorem dX9_blade_51 : decode cX9_blade 51 = .ok (.bipush 12, 2) := by decide +kernel
theorem dX9_blade_53 : decode cX9_blade 53 = .ok (.if_icmp .lt 6, 3) := by decide +kernel
theorem dX9_blade_56 : decode cX9_blade 56 = .ok (.bipush (-5), 2) := by decide +kernel
theorem dX9_blade_58 : decode cX9_blade 58 = .ok (.ireturn, 1) := by decide +kernel
theorem dX9_blade_59 : decode cX9_blade 59 = .ok (.aload_n 0, 1) := by decide +kernel
theorem dX9_blade_60 : decode cX9_blade 60 = .ok (.getfield 26, 3) := by decide +kernel
theorem dX9_blade_63 : decode cX9_blade 63 = .ok (.iload_n 1, 1) := by decide +kernel
theorem dX9_blade_64 : decode cX9_blade 64 = .ok (.iload 4, 2) := by decide +kernel
theorem dX9_blade_66 : decode cX9_blade 66 = .ok (.iload 5, 2) := by decide +kernel
theorem dX9_blade_68 : decode cX9_blade 68 = .ok (.invokevirtual 155, 3) := by decide +kernel
theorem dX9_blade_71 : decode cX9_blade 71 = .ok (.istore 6, 2) := by decide +kernel
theorem dX9_blade_73 : decode cX9_blade 73 = .ok (.aload_n 0, 1) := by decide +kernel
theorem dX9_blade_74 : decode cX9_blade 74 = .ok (.getfield 26, 3) := by decide +kernel
theorem dX9_blade_77 : decode cX9_blade 77 = .ok (.iload 6, 2) := by decide +kernel
theorem dX9_blade_79 : decode cX9_blade 79 = .ok (.iload_n 2, 1) := by decide +kernel
theorem dX9_blade_80 : decode cX9_blade 80 = .ok (.iload_n 3, 1) := by decide +kernel
theorem dX9_blade_81 : decode cX9_blade 81 = .ok (.invokevirtual 159, 3) := by decide +kernel
theorem dX9_blade_84 : decode cX9_blade 84 = .ok (.iload 6, 2) := by decide +kernel
theorem dX9_blade_86 : decode cX9_blade 86 = .ok (.ireturn, 1) := by decide +kernel
theorem dX9_rim_0 : decode cX9_rim 0 = .ok (.aload_n 0, 1) := by decide +kernel
theorem dX9_rim_1 : decode cX9_rim 1 = .ok (.getfield 26, 3) := by decide +kernel
theorem dX9_rim_4 : decode cX9_rim 4 = .ok (.iload_n 1, 1) := by decide +kernel
theorem dX9_rim_5 : decode cX9_rim 5 = .ok (.invokevirtual 163, 3) := by decide +kernel
theorem dX9_rim_8 : decode cX9_rim 8 = .ok (.ifCond .ne 6, 3) := by decide +kernel
theorem dX9_rim_11 : decode cX9_rim 11 = .ok (.bipush (-2), 2) := by decide +kernel
theorem dX9_rim_13 : decode cX9_rim 13 = .ok (.ireturn, 1) := by decide +kernel
theorem dX9_rim_14 : decode cX9_rim 14 = .ok (.iload_n 3, 1) := by decide +kernel
theorem dX9_rim_15 : decode cX9_rim 15 = .ok (.ifCond .eq 14, 3) := by decide +kernel
theorem dX9_rim_18 : decode cX9_rim 18 = .ok (.iload_n 3, 1) := by decide +kernel
theorem dX9_rim_19 : decode cX9_rim 19 = .ok (.iconst 1, 1) := by decide +kernel
theorem dX9_rim_20 : decode cX9_rim 20 = .ok (.iload_n 2, 1) := by decide +kernel
theorem dX9_rim_21 : decode cX9_rim 21 = .ok (.iconst 1, 1) := by decide +kernel
theorem dX9_rim_22 : decode cX9_rim 22 = .ok (.isub, 1) := by decide +kernel
theorem dX9_rim_23 : decode cX9_rim 23 = .ok (.invokestatic 84, 3) := by decide +kernel
theorem dX9_rim_26 : decode cX9_rim 26 = .ok (.ifCond .eq 7, 3) := by decide +kernel
theorem dX9_rim_29 : decode cX9_rim 29 = .ok (.iconst 1, 1) := by decide +kernel
theorem dX9_rim_30 : decode cX9_rim 30 = .ok (.goto 4, 3) := by decide +kernel
theorem dX9_rim_33 : decode cX9_rim 33 = .ok (.iconst 0, 1) := by decide +kernel
theorem dX9_rim_34 : decode cX9_rim 34 = .ok (.istore 4, 2) := by decide +kernel
theorem dX9_rim_36 : decode cX9_rim 36 = .ok (.iload_n 2, 1) := by decide +kernel
theorem dX9_rim_37 : decode cX9_rim 37 = .ok (.iconst 0, 1) := by decide +kernel
theorem dX9_rim_38 : decode cX9_rim 38 = .ok (.sipush 999, 3) := by decide +kernel
theorem dX9_rim_41 : decode cX9_rim 41 = .ok (.invokestatic 84, 3) := by decide +kernel
theorem dX9_rim_44 : decode cX9_rim 44 = .ok (.ifCond .eq 8, 3) := by decide +kernel
theorem dX9_rim_47 : decode cX9_rim 47 = .ok (.iload 4, 2) := by decide +kernel
theorem dX9_rim_49 : decode cX9_rim 49 = .ok (.ifCond .ne 6, 3) := by decide +kernel
theorem dX9_rim_52 : decode cX9_rim 52 = .ok (.bipush (-3), 2) := by decide +kernel
theorem dX9_rim_54 : decode cX9_rim 54 = .ok (.ireturn, 1) := by decide +kernel
theorem dX9_rim_55 : decode cX9_rim 55 = .ok (.aload_n 0, 1) := by decide +kernel
theorem dX9_rim_56 : decode cX9_rim 56 = .ok (.getfield 26, 3) := by decide +kernel
theorem dX9_rim_59 : decode cX9_rim 59 = .ok (.getfield 166, 3) := by decide +kernel
theorem dX9_rim_62 : decode cX9_rim 62 = .ok (.iload_n 1, 1) := by decide +kernel
theorem dX9_rim_63 : decode cX9_rim 63 = .ok (.iload_n 2, 1) := by decide +kernel
theorem dX9_rim_64 : decode cX9_rim 64 = .ok (.iastore, 1) := by decide +kernel
theorem dX9_rim_65 : decode cX9_rim 65 = .ok (.aload_n 0, 1) := by decide +kernel
theorem dX9_rim_66 : decode cX9_rim 66 = .ok (.getfield 26, 3) := by decide +kernel
theorem dX9_rim_69 : decode cX9_rim 69 = .ok (.getfield 169, 3) := by decide +kernel
theorem dX9_rim_72 : decode cX9_rim 72 = .ok (.iload_n 1, 1) := by decide +kernel
theorem dX9_rim_73 : decode cX9_rim 73 = .ok (.iload_n 3, 1) := by decide +kernel
theorem dX9_rim_74 : decode cX9_rim 74 = .ok (.iastore, 1) := by decide +kernel
theorem dX9_rim_75 : decode cX9_rim 75 = .ok (.iconst 1, 1) := by decide +kernel
theorem dX9_rim_76 : decode cX9_rim 76 = .ok (.ireturn, 1) := by decide +kernel
theorem dX9_measure_0 : decode cX9_measure 0 = .ok (.aload_n 0, 1) := by decide +kernel
theorem dX9_measure_1 : decode cX9_measure 1 = .ok (.getfield 26, 3) := by decide +kernel
theorem dX9_measure_4 : decode cX9_measure 4 = .ok (.iload_n 1, 1) := by decide +kernel
theorem dX9_measure_5 : decode cX9_measure 5 = .ok (.invokevirtual 163, 3) := by decide +kernel
theorem dX9_measure_8 : decode cX9_measure 8 = .ok (.ifCond .ne 6, 3) := by decide +kernel
theorem dX9_measure_11 : decode cX9_measure 11 = .ok (.bipush (-2), 2) := by decide +kernel
theorem dX9_measure_13 : decode cX9_measure 13 = .ok (.ireturn, 1) := by decide +kernel
theorem dX9_measure_14 : decode cX9_measure 14 = .ok (.iload_n 2, 1) := by decide +kernel
theorem dX9_measure_15 : decode cX9_measure 15 = .ok (.iload_n 3, 1) := by decide +kernel
theorem dX9_measure_16 : decode cX9_measure 16 = .ok (.invokestatic 148, 3) := by decide +kernel
theorem dX9_measure_19 : decode cX9_measure 19 = .ok (.ifCond .ne 6, 3) := by decide +kernel
theorem dX9_measure_22 : decode cX9_measure 22 = .ok (.bipush (-3), 2) := by decide +kernel
theorem dX9_measure_24 : decode cX9_measure 24 = .ok (.ireturn, 1) := by decide +kernel
theorem dX9_measure_25 : decode cX9_measure 25 = .ok (.aload_n 0, 1) := by decide +kernel
theorem dX9_measure_26 : decode cX9_measure 26 = .ok (.getfield 26, 3) := by decide +kernel
theorem dX9_measure_29 : decode cX9_measure 29 = .ok (.getfield 172, 3) := by decide +kernel
theorem dX9_measure_32 : decode cX9_measure 32 = .ok (.iload_n 1, 1) := by decide +kernel
theorem dX9_measure_33 : decode cX9_measure 33 = .ok (.iaload, 1) := by decide +kernel
theorem dX9_measure_34 : decode cX9_measure 34 = .ok (.istore 4, 2) := by decide +kernel
theorem dX9_measure_36 : decode cX9_measure 36 = .ok (.aload_n 0, 1) := by decide +kernel
theorem dX9_measure_37 : decode cX9_measure 37 = .ok (.getfield 26, 3) := by decide +kernel
theorem dX9_measure_40 : decode cX9_measure 40 = .ok (.iload_n 1, 1) := by decide +kernel
theorem dX9_measure_41 : decode cX9_measure 41 = .ok (.iload_n 2, 1) := by decide +kernel
theorem dX9_measure_42 : decode cX9_measure 42 = .ok (.iload_n 3, 1) := by decide +kernel
theorem dX9_measure_43 : decode cX9_measure 43 = .ok (.invokevirtual 159, 3) := by decide +kernel
theorem dX9_measure_46 : decode cX9_measure 46 = .ok (.iload 4, 2) := by decide +kernel
theorem dX9_measure_48 : decode cX9_measure 48 = .ok (.ireturn, 1) := by decide +kernel
theorem dX9_of_0 : decode cX9_of 0 = .ok (.aload_n 0, 1) := by decide +kernel
theorem dX9_of_1 : decode cX9_of 1 = .ok (.getfield 26, 3) := by decide +kernel
theorem dX9_of_4 : decode cX9_of 4 = .ok (.iload_n 1, 1) := by decide +kernel
theorem dX9_of_5 : decode cX9_of 5 = .ok (.invokevirtual 163, 3) := by decide +kernel
theorem dX9_of_8 : decode cX9_of 8 = .ok (.ifCond .ne 6, 3) := by decide +kernel
theorem dX9_of_11 : decode cX9_of 11 = .ok (.bipush (-2), 2) := by decide +kernel
theorem dX9_of_13 : decode cX9_of 13 = .ok (.ireturn, 1) := by decide +kernel
theorem dX9_of_14 : decode cX9_of 14 = .ok (.iload_n 2, 1) := by decide +kernel
theorem dX9_of_15 : decode cX9_of 15 = .ok (.tableswitch 139 0 9 #[53, 63, 63, 63, 79, 89, 99, 109, 119, 129], 53) := by decide +kernel
theorem dX9_of_68 : decode cX9_of 68 = .ok (.aload_n 0, 1) := by decide +kernel
theorem dX9_of_69 : decode cX9_of 69 = .ok (.getfield 26, 3) := by decide +kernel
theorem dX9_of_72 : decode cX9_of 72 = .ok (.getfield 175, 3) := by decide +kernel
theorem dX9_of_75 : decode cX9_of 75 = .ok (.iload_n 1, 1) := by decide +kernel
theorem dX9_of_76 : decode cX9_of 76 = .ok (.iaload, 1) := by decide +kernel
theorem dX9_of_77 : decode cX9_of 77 = .ok (.ireturn, 1) := by decide +kernel
theorem dX9_of_78 : decode cX9_of 78 = .ok (.aload_n 0, 1) := by decide +kernel
theorem dX9_of_79 : decode cX9_of 79 = .ok (.getfield 26, 3) := by decide +kernel
theorem dX9_of_82 : decode cX9_of 82 = .ok (.getfield 178, 3) := by decide +kernel
theorem dX9_of_85 : decode cX9_of 85 = .ok (.iload_n 1, 1) := by decide +kernel
theorem dX9_of_86 : decode cX9_of 86 = .ok (.iconst 3, 1) := by decide +kernel
theorem dX9_of_87 : decode cX9_of 87 = .ok (.imul, 1) := by decide +kernel
theorem dX9_of_88 : decode cX9_of 88 = .ok (.iload_n 2, 1) := by decide +kernel
theorem dX9_of_89 : decode cX9_of 89 = .ok (.iadd, 1) := by decide +kernel
theorem dX9_of_90 : decode cX9_of 90 = .ok (.iconst 1, 1) := by decide +kernel
theorem dX9_of_91 : decode cX9_of 91 = .ok (.isub, 1) := by decide +kernel
theorem dX9_of_92 : decode cX9_of 92 = .ok (.iaload, 1) := by decide +kernel
theorem dX9_of_93 : decode cX9_of 93 = .ok (.ireturn, 1) := by decide +kernel
theorem dX9_of_94 : decode cX9_of 94 = .ok (.aload_n 0, 1) := by decide +kernel
theorem dX9_of_95 : decode cX9_of 95 = .ok (.getfield 26, 3) := by decide +kernel
theorem dX9_of_98 : decode cX9_of 98 = .ok (.getfield 172, 3) := by decide +kernel
theorem dX9_of_101 : decode cX9_of 101 = .ok (.iload_n 1, 1) := by decide +kernel
theorem dX9_of_102 : decode cX9_of 102 = .ok (.iaload, 1) := by decide +kernel
theorem dX9_of_103 : decode cX9_of 103 = .ok (.ireturn, 1) := by decide +kernel
theorem dX9_of_104 : decode cX9_of 104 = .ok (.aload_n 0, 1) := by decide +kernel
theorem dX9_of_105 : decode cX9_of 105 = .ok (.getfield 26, 3) := by decide +kernel
theorem dX9_of_108 : decode cX9_of 108 = .ok (.getfield 181, 3) := by decide +kernel
theorem dX9_of_111 : decode cX9_of 111 = .ok (.iload_n 1, 1) := by decide +kernel
theorem dX9_of_112 : decode cX9_of 112 = .ok (.iaload, 1) := by decide +kernel
theorem dX9_of_113 : decode cX9_of 113 = .ok (.ireturn, 1) := by decide +kernel
theorem dX9_of_114 : decode cX9_of 114 = .ok (.aload_n 0, 1) := by decide +kernel
theorem dX9_of_115 : decode cX9_of 115 = .ok (.getfield 26, 3) := by decide +kernel
theorem dX9_of_118 : decode cX9_of 118 = .ok (.getfield 184, 3) := by decide +kernel
theorem dX9_of_121 : decode cX9_of 121 = .ok (.iload_n 1, 1) := by decide +kernel
theorem dX9_of_122 : decode cX9_of 122 = .ok (.iaload, 1) := by decide +kernel
theorem dX9_of_123 : decode cX9_of 123 = .ok (.ireturn, 1) := by decide +kernel
theorem dX9_of_124 : decode cX9_of 124 = .ok (.aload_n 0, 1) := by decide +kernel
theorem dX9_of_125 : decode cX9_of 125 = .ok (.getfield 26, 3) := by decide +kernel
theorem dX9_of_128 : decode cX9_of 128 = .ok (.getfield 166, 3) := by decide +kernel
theorem dX9_of_131 : decode cX9_of 131 = .ok (.iload_n 1, 1) := by decide +kernel
theorem dX9_of_132 : decode cX9_of 132 = .ok (.iaload, 1) := by decide +kernel
theorem dX9_of_133 : decode cX9_of 133 = .ok (.ireturn, 1) := by decide +kernel
theorem dX9_of_134 : decode cX9_of 134 = .ok (.aload_n 0, 1) := by decide +kernel
theorem dX9_of_135 : decode cX9_of 135 = .ok (.getfield 26, 3) := by decide +kernel
theorem dX9_of_138 : decode cX9_of 138 = .ok (.getfield 169, 3) := by decide +kernel
theorem dX9_of_141 : decode cX9_of 141 = .ok (.iload_n 1, 1) := by decide +kernel
theorem dX9_of_142 : decode cX9_of 142 = .ok (.iaload, 1) := by decide +kernel
theorem dX9_of_143 : decode cX9_of 143 = .ok (.ireturn, 1) := by decide +kernel
theorem dX9_of_144 : decode cX9_of 144 = .ok (.aload_n 0, 1) := by decide +kernel
theorem dX9_of_145 : decode cX9_of 145 = .ok (.getfield 26, 3) := by decide +kernel
theorem dX9_of_148 : decode cX9_of 148 = .ok (.getfield 187, 3) := by decide +kernel
theorem dX9_of_151 : decode cX9_of 151 = .ok (.iload_n 1, 1) := by decide +kernel
theorem dX9_of_152 : decode cX9_of 152 = .ok (.iaload, 1) := by decide +kernel
theorem dX9_of_153 : decode cX9_of 153 = .ok (.ireturn, 1) := by decide +kernel
theorem dX9_of_154 : decode cX9_of 154 = .ok (.bipush (-3), 2) := by decide +kernel
theorem dX9_of_156 : decode cX9_of 156 = .ok (.ireturn, 1) := by decide +kernel
theorem dX9_off_0 : decode cX9_off 0 = .ok (.aload_n 0, 1) := by decide +kernel
theorem dX9_off_1 : decode cX9_off 1 = .ok (.getfield 26, 3) := by decide +kernel
theorem dX9_off_4 : decode cX9_off 4 = .ok (.iload_n 1, 1) := by decide +kernel
theorem dX9_off_5 : decode cX9_off 5 = .ok (.invokevirtual 163, 3) := by decide +kernel
theorem dX9_off_8 : decode cX9_off 8 = .ok (.ifCond .eq 14, 3) := by decide +kernel
theorem dX9_off_11 : decode cX9_off 11 = .ok (.aload_n 0, 1) := by decide +kernel
theorem dX9_off_12 : decode cX9_off 12 = .ok (.getfield 19, 3) := by decide +kernel
theorem dX9_off_15 : decode cX9_off 15 = .ok (.iload_n 2, 1) := by decide +kernel
theorem dX9_off_16 : decode cX9_off 16 = .ok (.invokevirtual 127, 3) := by decide +kernel
theorem dX9_off_19 : decode cX9_off 19 = .ok (.ifCond .ne 6, 3) := by decide +kernel
theorem dX9_off_22 : decode cX9_off 22 = .ok (.bipush (-2), 2) := by decide +kernel
theorem dX9_off_24 : decode cX9_off 24 = .ok (.ireturn, 1) := by decide +kernel
theorem dX9_off_25 : decode cX9_off 25 = .ok (.aload_n 0, 1) := by decide +kernel
theorem dX9_off_26 : decode cX9_off 26 = .ok (.getfield 35, 3) := by decide +kernel
theorem dX9_off_29 : decode cX9_off 29 = .ok (.iload_n 1, 1) := by decide +kernel
theorem dX9_off_30 : decode cX9_off 30 = .ok (.iload_n 2, 1) := by decide +kernel
theorem dX9_off_31 : decode cX9_off 31 = .ok (.invokevirtual 190, 3) := by decide +kernel
theorem dX9_off_34 : decode cX9_off 34 = .ok (.ireturn, 1) := by decide +kernel
theorem dX9_can_0 : decode cX9_can 0 = .ok (.aload_n 0, 1) := by decide +kernel
theorem dX9_can_1 : decode cX9_can 1 = .ok (.getfield 26, 3) := by decide +kernel
theorem dX9_can_4 : decode cX9_can 4 = .ok (.iload_n 1, 1) := by decide +kernel
theorem dX9_can_5 : decode cX9_can 5 = .ok (.invokevirtual 163, 3) := by decide +kernel
theorem dX9_can_8 : decode cX9_can 8 = .ok (.ifCond .eq 14, 3) := by decide +kernel
theorem dX9_can_11 : decode cX9_can 11 = .ok (.aload_n 0, 1) := by decide +kernel
theorem dX9_can_12 : decode cX9_can 12 = .ok (.getfield 35, 3) := by decide +kernel
theorem dX9_can_15 : decode cX9_can 15 = .ok (.iload_n 1, 1) := by decide +kernel
theorem dX9_can_16 : decode cX9_can 16 = .ok (.invokevirtual 194, 3) := by decide +kernel
theorem dX9_can_19 : decode cX9_can 19 = .ok (.goto 5, 3) := by decide +kernel
theorem dX9_can_22 : decode cX9_can 22 = .ok (.bipush (-2), 2) := by decide +kernel
theorem dX9_can_24 : decode cX9_can 24 = .ok (.ireturn, 1) := by decide +kernel
theorem dX9_named_0 : decode cX9_named 0 = .ok (.aload_n 0, 1) := by decide +kernel
theorem dX9_named_1 : decode cX9_named 1 = .ok (.getfield 26, 3) := by decide +kernel
theorem dX9_named_4 : decode cX9_named 4 = .ok (.iload_n 1, 1) := by decide +kernel
theorem dX9_named_5 : decode cX9_named 5 = .ok (.invokevirtual 163, 3) := by decide +kernel
theorem dX9_named_8 : decode cX9_named 8 = .ok (.ifCond .eq 14, 3) := by decide +kernel
theorem dX9_named_11 : decode cX9_named 11 = .ok (.aload_n 0, 1) := by decide +kernel
theorem dX9_named_12 : decode cX9_named 12 = .ok (.getfield 35, 3) := by decide +kernel
theorem dX9_named_15 : decode cX9_named 15 = .ok (.iload_n 1, 1) := by decide +kernel
theorem dX9_named_16 : decode cX9_named 16 = .ok (.invokevirtual 198, 3) := by decide +kernel
theorem dX9_named_19 : decode cX9_named 19 = .ok (.goto 5, 3) := by decide +kernel
theorem dX9_named_22 : decode cX9_named 22 = .ok (.bipush (-2), 2) := by decide +kernel
theorem dX9_named_24 : decode cX9_named 24 = .ok (.ireturn, 1) := by decide +kernel
theorem dX9_strike_0 : decode cX9_strike 0 = .ok (.aload_n 0, 1) := by decide +kernel
theorem dX9_strike_1 : decode cX9_strike 1 = .ok (.getfield 26, 3) := by decide +kernel
theorem dX9_strike_4 : decode cX9_strike 4 = .ok (.iload_n 1, 1) := by decide +kernel
theorem dX9_strike_5 : decode cX9_strike 5 = .ok (.invokevirtual 163, 3) := by decide +kernel
theorem dX9_strike_8 : decode cX9_strike 8 = .ok (.ifCond .eq 19, 3) := by decide +kernel
theorem dX9_strike_11 : decode cX9_strike 11 = .ok (.aload_n 0, 1) := by decide +kernel
theorem dX9_strike_12 : decode cX9_strike 12 = .ok (.getfield 26, 3) := by decide +kernel
theorem dX9_strike_15 : decode cX9_strike 15 = .ok (.iload_n 2, 1) := by decide +kernel
theorem dX9_strike_16 : decode cX9_strike 16 = .ok (.invokevirtual 163, 3) := by decide +kernel
theorem dX9_strike_19 : decode cX9_strike 19 = .ok (.ifCond .eq 8, 3) := by decide +kernel
theorem dX9_strike_22 : decode cX9_strike 22 = .ok (.iload_n 1, 1) := by decide +kernel
theorem dX9_strike_23 : decode cX9_strike 23 = .ok (.iload_n 2, 1) := by decide +kernel
theorem dX9_strike_24 : decode cX9_strike 24 = .ok (.if_icmp .ne 6, 3) := by decide +kernel
theorem dX9_strike_27 : decode cX9_strike 27 = .ok (.bipush (-2), 2) := by decide +kernel
theorem dX9_strike_29 : decode cX9_strike 29 = .ok (.ireturn, 1) := by decide +kernel
theorem dX9_strike_30 : decode cX9_strike 30 = .ok (.aload_n 0, 1) := by decide +kernel
theorem dX9_strike_31 : decode cX9_strike 31 = .ok (.getfield 26, 3) := by decide +kernel
theorem dX9_strike_34 : decode cX9_strike 34 = .ok (.getfield 187, 3) := by decide +kernel
theorem dX9_strike_37 : decode cX9_strike 37 = .ok (.iload_n 1, 1) := by decide +kernel
theorem dX9_strike_38 : decode cX9_strike 38 = .ok (.iaload, 1) := by decide +kernel
theorem dX9_strike_39 : decode cX9_strike 39 = .ok (.iconst (-1), 1) := by decide +kernel
theorem dX9_strike_40 : decode cX9_strike 40 = .ok (.if_icmp .ne 15, 3) := by decide +kernel
theorem dX9_strike_43 : decode cX9_strike 43 = .ok (.aload_n 0, 1) := by decide +kernel
theorem dX9_strike_44 : decode cX9_strike 44 = .ok (.getfield 26, 3) := by decide +kernel
theorem dX9_strike_47 : decode cX9_strike 47 = .ok (.iload_n 2, 1) := by decide +kernel
theorem dX9_strike_48 : decode cX9_strike 48 = .ok (.iload_n 1, 1) := by decide +kernel
theorem dX9_strike_49 : decode cX9_strike 49 = .ok (.invokevirtual 201, 3) := by decide +kernel
theorem dX9_strike_52 : decode cX9_strike 52 = .ok (.ifCond .eq 6, 3) := by decide +kernel
theorem dX9_strike_55 : decode cX9_strike 55 = .ok (.bipush (-4), 2) := by decide +kernel
theorem dX9_strike_57 : decode cX9_strike 57 = .ok (.ireturn, 1) := by decide +kernel
theorem dX9_strike_58 : decode cX9_strike 58 = .ok (.aload_n 0, 1) := by decide +kernel
theorem dX9_strike_59 : decode cX9_strike 59 = .ok (.getfield 26, 3) := by decide +kernel
theorem dX9_strike_62 : decode cX9_strike 62 = .ok (.getfield 187, 3) := by decide +kernel
theorem dX9_strike_65 : decode cX9_strike 65 = .ok (.iload_n 1, 1) := by decide +kernel
theorem dX9_strike_66 : decode cX9_strike 66 = .ok (.iload_n 2, 1) := by decide +kernel
theorem dX9_strike_67 : decode cX9_strike 67 = .ok (.iastore, 1) := by decide +kernel
theorem dX9_strike_68 : decode cX9_strike 68 = .ok (.iconst 1, 1) := by decide +kernel
theorem dX9_strike_69 : decode cX9_strike 69 = .ok (.ireturn, 1) := by decide +kernel
theorem dX9_undo_0 : decode cX9_undo 0 = .ok (.aload_n 0, 1) := by decide +kernel
theorem dX9_undo_1 : decode cX9_undo 1 = .ok (.getfield 26, 3) := by decide +kernel
theorem dX9_undo_4 : decode cX9_undo 4 = .ok (.iload_n 1, 1) := by decide +kernel
theorem dX9_undo_5 : decode cX9_undo 5 = .ok (.invokevirtual 163, 3) := by decide +kernel
theorem dX9_undo_8 : decode cX9_undo 8 = .ok (.ifCond .ne 6, 3) := by decide +kernel
theorem dX9_undo_11 : decode cX9_undo 11 = .ok (.bipush (-2), 2) := by decide +kernel
theorem dX9_undo_13 : decode cX9_undo 13 = .ok (.ireturn, 1) := by decide +kernel
theorem dX9_undo_14 : decode cX9_undo 14 = .ok (.aload_n 0, 1) := by decide +kernel
theorem dX9_undo_15 : decode cX9_undo 15 = .ok (.getfield 26, 3) := by decide +kernel
theorem dX9_undo_18 : decode cX9_undo 18 = .ok (.getfield 187, 3) := by decide +kernel
theorem dX9_undo_21 : decode cX9_undo 21 = .ok (.iload_n 1, 1) := by decide +kernel
theorem dX9_undo_22 : decode cX9_undo 22 = .ok (.iaload, 1) := by decide +kernel
theorem dX9_undo_23 : decode cX9_undo 23 = .ok (.istore_n 2, 1) := by decide +kernel
theorem dX9_undo_24 : decode cX9_undo 24 = .ok (.aload_n 0, 1) := by decide +kernel
theorem dX9_undo_25 : decode cX9_undo 25 = .ok (.getfield 26, 3) := by decide +kernel
theorem dX9_undo_28 : decode cX9_undo 28 = .ok (.getfield 187, 3) := by decide +kernel
theorem dX9_undo_31 : decode cX9_undo 31 = .ok (.iload_n 1, 1) := by decide +kernel
theorem dX9_undo_32 : decode cX9_undo 32 = .ok (.iconst (-1), 1) := by decide +kernel
theorem dX9_undo_33 : decode cX9_undo 33 = .ok (.iastore, 1) := by decide +kernel
theorem dX9_undo_34 : decode cX9_undo 34 = .ok (.iload_n 2, 1) := by decide +kernel
theorem dX9_undo_35 : decode cX9_undo 35 = .ok (.ireturn, 1) := by decide +kernel
theorem dX9_span_0 : decode cX9_span 0 = .ok (.aload_n 0, 1) := by decide +kernel
theorem dX9_span_1 : decode cX9_span 1 = .ok (.getfield 26, 3) := by decide +kernel
theorem dX9_span_4 : decode cX9_span 4 = .ok (.iload_n 1, 1) := by decide +kernel
theorem dX9_span_5 : decode cX9_span 5 = .ok (.invokevirtual 163, 3) := by decide +kernel
theorem dX9_span_8 : decode cX9_span 8 = .ok (.ifCond .ne 6, 3) := by decide +kernel
theorem dX9_span_11 : decode cX9_span 11 = .ok (.bipush (-2), 2) := by decide +kernel
theorem dX9_span_13 : decode cX9_span 13 = .ok (.ireturn, 1) := by decide +kernel
theorem dX9_span_14 : decode cX9_span 14 = .ok (.iload_n 2, 1) := by decide +kernel
theorem dX9_span_15 : decode cX9_span 15 = .ok (.iconst 0, 1) := by decide +kernel
theorem dX9_span_16 : decode cX9_span 16 = .ok (.iconst 5, 1) := by decide +kernel
theorem dX9_span_17 : decode cX9_span 17 = .ok (.invokestatic 84, 3) := by decide +kernel
theorem dX9_span_20 : decode cX9_span 20 = .ok (.ifCond .ne 6, 3) := by decide +kernel
theorem dX9_span_23 : decode cX9_span 23 = .ok (.bipush (-3), 2) := by decide +kernel
theorem dX9_span_25 : decode cX9_span 25 = .ok (.ireturn, 1) := by decide +kernel
theorem dX9_span_26 : decode cX9_span 26 = .ok (.iload_n 2, 1) := by decide +kernel
theorem dX9_span_27 : decode cX9_span 27 = .ok (.iconst 2, 1) := by decide +kernel
theorem dX9_span_28 : decode cX9_span 28 = .ok (.if_icmp .eq 8, 3) := by decide +kernel
theorem dX9_span_31 : decode cX9_span 31 = .ok (.iload_n 2, 1) := by decide +kernel
theorem dX9_span_32 : decode cX9_span 32 = .ok (.iconst 3, 1) := by decide +kernel
theorem dX9_span_33 : decode cX9_span 33 = .ok (.if_icmp .ne 7, 3) := by decide +kernel
theorem dX9_span_36 : decode cX9_span 36 = .ok (.iconst 1, 1) := by decide +kernel
theorem dX9_span_37 : decode cX9_span 37 = .ok (.goto 4, 3) := by decide +kernel
theorem dX9_span_40 : decode cX9_span 40 = .ok (.iconst 0, 1) := by decide +kernel
theorem dX9_span_41 : decode cX9_span 41 = .ok (.istore_n 3, 1) := by decide +kernel
theorem dX9_span_42 : decode cX9_span 42 = .ok (.iload_n 3, 1) := by decide +kernel
theorem dX9_span_43 : decode cX9_span 43 = .ok (.ifCond .eq 16, 3) := by decide +kernel
theorem dX9_span_46 : decode cX9_span 46 = .ok (.aload_n 0, 1) := by decide +kernel
theorem dX9_span_47 : decode cX9_span 47 = .ok (.getfield 26, 3) := by decide +kernel
theorem dX9_span_50 : decode cX9_span 50 = .ok (.iload_n 1, 1) := by decide +kernel
theorem dX9_span_51 : decode cX9_span 51 = .ok (.invokevirtual 204, 3) := by decide +kernel
theorem dX9_span_54 : decode cX9_span 54 = .ok (.ifCond .ne 5, 3) := by decide +kernel
theorem dX9_span_57 : decode cX9_span 57 = .ok (.iconst (-1), 1) := by decide +kernel
theorem dX9_span_58 : decode cX9_span 58 = .ok (.ireturn, 1) := by decide +kernel
theorem dX9_span_59 : decode cX9_span 59 = .ok (.aload_n 0, 1) := by decide +kernel
theorem dX9_span_60 : decode cX9_span 60 = .ok (.getfield 44, 3) := by decide +kernel
theorem dX9_span_63 : decode cX9_span 63 = .ok (.invokevirtual 207, 3) := by decide +kernel
theorem dX9_span_66 : decode cX9_span 66 = .ok (.ifCond .eq 15, 3) := by decide +kernel
theorem dX9_span_69 : decode cX9_span 69 = .ok (.aload_n 0, 1) := by decide +kernel
theorem dX9_span_70 : decode cX9_span 70 = .ok (.getfield 44, 3) := by decide +kernel
theorem dX9_span_73 : decode cX9_span 73 = .ok (.iload_n 2, 1) := by decide +kernel
theorem dX9_span_74 : decode cX9_span 74 = .ok (.iload_n 1, 1) := by decide +kernel
theorem dX9_span_75 : decode cX9_span 75 = .ok (.invokevirtual 211, 3) := by decide +kernel
theorem dX9_span_78 : decode cX9_span 78 = .ok (.goto 4, 3) := by decide +kernel
theorem dX9_span_81 : decode cX9_span 81 = .ok (.iconst (-1), 1) := by decide +kernel
theorem dX9_span_82 : decode cX9_span 82 = .ok (.ireturn, 1) := by decide +kernel
theorem dX9_heirloom_0 : decode cX9_heirloom 0 = .ok (.aload_n 0, 1) := by decide +kernel
theorem dX9_heirloom_1 : decode cX9_heirloom 1 = .ok (.getfield 26, 3) := by decide +kernel
theorem dX9_heirloom_4 : decode cX9_heirloom 4 = .ok (.iload_n 1, 1) := by decide +kernel
theorem dX9_heirloom_5 : decode cX9_heirloom 5 = .ok (.invokevirtual 163, 3) := by decide +kernel
theorem dX9_heirloom_8 : decode cX9_heirloom 8 = .ok (.ifCond .ne 6, 3) := by decide +kernel
theorem dX9_heirloom_11 : decode cX9_heirloom 11 = .ok (.bipush (-2), 2) := by decide +kernel
theorem dX9_heirloom_13 : decode cX9_heirloom 13 = .ok (.ireturn, 1) := by decide +kernel
theorem dX9_heirloom_14 : decode cX9_heirloom 14 = .ok (.aload_n 0, 1) := by decide +kernel
theorem dX9_heirloom_15 : decode cX9_heirloom 15 = .ok (.getfield 44, 3) := by decide +kernel
theorem dX9_heirloom_18 : decode cX9_heirloom 18 = .ok (.invokevirtual 207, 3) := by decide +kernel
theorem dX9_heirloom_21 : decode cX9_heirloom 21 = .ok (.ifCond .eq 14, 3) := by decide +kernel
theorem dX9_heirloom_24 : decode cX9_heirloom 24 = .ok (.aload_n 0, 1) := by decide +kernel
theorem dX9_heirloom_25 : decode cX9_heirloom 25 = .ok (.getfield 44, 3) := by decide +kernel
theorem dX9_heirloom_28 : decode cX9_heirloom 28 = .ok (.iload_n 1, 1) := by decide +kernel
theorem dX9_heirloom_29 : decode cX9_heirloom 29 = .ok (.invokevirtual 214, 3) := by decide +kernel
theorem dX9_heirloom_32 : decode cX9_heirloom 32 = .ok (.goto 4, 3) := by decide +kernel
theorem dX9_heirloom_35 : decode cX9_heirloom 35 = .ok (.iconst (-1), 1) := by decide +kernel
theorem dX9_heirloom_36 : decode cX9_heirloom 36 = .ok (.ireturn, 1) := by decide +kernel
theorem dX9_from_0 : decode cX9_from 0 = .ok (.aload_n 0, 1) := by decide +kernel
theorem dX9_from_1 : decode cX9_from 1 = .ok (.getfield 26, 3) := by decide +kernel
theorem dX9_from_4 : decode cX9_from 4 = .ok (.iload_n 1, 1) := by decide +kernel
theorem dX9_from_5 : decode cX9_from 5 = .ok (.invokevirtual 163, 3) := by decide +kernel
theorem dX9_from_8 : decode cX9_from 8 = .ok (.ifCond .eq 14, 3) := by decide +kernel
theorem dX9_from_11 : decode cX9_from 11 = .ok (.aload_n 0, 1) := by decide +kernel
theorem dX9_from_12 : decode cX9_from 12 = .ok (.getfield 53, 3) := by decide +kernel
theorem dX9_from_15 : decode cX9_from 15 = .ok (.iload_n 1, 1) := by decide +kernel
theorem dX9_from_16 : decode cX9_from 16 = .ok (.invokevirtual 217, 3) := by decide +kernel
theorem dX9_from_19 : decode cX9_from 19 = .ok (.goto 5, 3) := by decide +kernel
theorem dX9_from_22 : decode cX9_from 22 = .ok (.bipush (-2), 2) := by decide +kernel
theorem dX9_from_24 : decode cX9_from 24 = .ok (.ireturn, 1) := by decide +kernel
theorem dX9_chain_0 : decode cX9_chain 0 = .ok (.iload_n 1, 1) := by decide +kernel
theorem dX9_chain_1 : decode cX9_chain 1 = .ok (.bipush (-2), 2) := by decide +kernel
theorem dX9_chain_3 : decode cX9_chain 3 = .ok (.if_icmp .ge 8, 3) := by decide +kernel
theorem dX9_chain_6 : decode cX9_chain 6 = .ok (.bipush (-3), 2) := by decide +kernel
theorem dX9_chain_8 : decode cX9_chain 8 = .ok (.goto 11, 3) := by decide +kernel
theorem dX9_chain_11 : decode cX9_chain 11 = .ok (.aload_n 0, 1) := by decide +kernel
theorem dX9_chain_12 : decode cX9_chain 12 = .ok (.getfield 53, 3) := by decide +kernel
theorem dX9_chain_15 : decode cX9_chain 15 = .ok (.iload_n 1, 1) := by decide +kernel
theorem dX9_chain_16 : decode cX9_chain 16 = .ok (.invokevirtual 220, 3) := by decide +kernel
theorem dX9_chain_19 : decode cX9_chain 19 = .ok (.ireturn, 1) := by decide +kernel
theorem dX9_legs_0 : decode cX9_legs 0 = .ok (.aload_n 0, 1) := by decide +kernel
theorem dX9_legs_1 : decode cX9_legs 1 = .ok (.getfield 26, 3) := by decide +kernel
theorem dX9_legs_4 : decode cX9_legs 4 = .ok (.iload_n 1, 1) := by decide +kernel
theorem dX9_legs_5 : decode cX9_legs 5 = .ok (.invokevirtual 163, 3) := by decide +kernel
theorem dX9_legs_8 : decode cX9_legs 8 = .ok (.ifCond .eq 14, 3) := by decide +kernel
theorem dX9_legs_11 : decode cX9_legs 11 = .ok (.aload_n 0, 1) := by decide +kernel
theorem dX9_legs_12 : decode cX9_legs 12 = .ok (.getfield 19, 3) := by decide +kernel
theorem dX9_legs_15 : decode cX9_legs 15 = .ok (.iload_n 2, 1) := by decide +kernel
theorem dX9_legs_16 : decode cX9_legs 16 = .ok (.invokevirtual 127, 3) := by decide +kernel
theorem dX9_legs_19 : decode cX9_legs 19 = .ok (.ifCond .ne 6, 3) := by decide +kernel
theorem dX9_legs_22 : decode cX9_legs 22 = .ok (.bipush (-2), 2) := by decide +kernel
theorem dX9_legs_24 : decode cX9_legs 24 = .ok (.ireturn, 1) := by decide +kernel
theorem dX9_legs_25 : decode cX9_legs 25 = .ok (.iload_n 3, 1) := by decide +kernel
theorem dX9_legs_26 : decode cX9_legs 26 = .ok (.iconst 0, 1) := by decide +kernel
theorem dX9_legs_27 : decode cX9_legs 27 = .ok (.sipush 9999, 3) := by decide +kernel
theorem dX9_legs_30 : decode cX9_legs 30 = .ok (.invokestatic 84, 3) := by decide +kernel
theorem dX9_legs_33 : decode cX9_legs 33 = .ok (.ifCond .eq 13, 3) := by decide +kernel
theorem dX9_legs_36 : decode cX9_legs 36 = .ok (.iload 5, 2) := by decide +kernel
theorem dX9_legs_38 : decode cX9_legs 38 = .ok (.iconst 0, 1) := by decide +kernel
theorem dX9_legs_39 : decode cX9_legs 39 = .ok (.iconst 1, 1) := by decide +kernel
theorem dX9_legs_40 : decode cX9_legs 40 = .ok (.invokestatic 84, 3) := by decide +kernel
theorem dX9_legs_43 : decode cX9_legs 43 = .ok (.ifCond .ne 6, 3) := by decide +kernel
theorem dX9_legs_46 : decode cX9_legs 46 = .ok (.bipush (-3), 2) := by decide +kernel
theorem dX9_legs_48 : decode cX9_legs 48 = .ok (.ireturn, 1) := by decide +kernel
theorem dX9_legs_49 : decode cX9_legs 49 = .ok (.aload_n 0, 1) := by decide +kernel
theorem dX9_legs_50 : decode cX9_legs 50 = .ok (.getfield 19, 3) := by decide +kernel
theorem dX9_legs_53 : decode cX9_legs 53 = .ok (.getfield 130, 3) := by decide +kernel
theorem dX9_legs_56 : decode cX9_legs 56 = .ok (.iload_n 2, 1) := by decide +kernel
theorem dX9_legs_57 : decode cX9_legs 57 = .ok (.iaload, 1) := by decide +kernel
theorem dX9_legs_58 : decode cX9_legs 58 = .ok (.istore 6, 2) := by decide +kernel
theorem dX9_legs_60 : decode cX9_legs 60 = .ok (.aload_n 0, 1) := by decide +kernel
theorem dX9_legs_61 : decode cX9_legs 61 = .ok (.getfield 26, 3) := by decide +kernel
theorem dX9_legs_64 : decode cX9_legs 64 = .ok (.getfield 175, 3) := by decide +kernel
theorem dX9_legs_67 : decode cX9_legs 67 = .ok (.iload_n 1, 1) := by decide +kernel
theorem dX9_legs_68 : decode cX9_legs 68 = .ok (.iaload, 1) := by decide +kernel
theorem dX9_legs_69 : decode cX9_legs 69 = .ok (.istore 7, 2) := by decide +kernel
theorem dX9_legs_71 : decode cX9_legs 71 = .ok (.aload_n 0, 1) := by decide +kernel
theorem dX9_legs_72 : decode cX9_legs 72 = .ok (.getfield 19, 3) := by decide +kernel
theorem dX9_legs_75 : decode cX9_legs 75 = .ok (.iload_n 3, 1) := by decide +kernel
theorem dX9_legs_76 : decode cX9_legs 76 = .ok (.invokevirtual 223, 3) := by decide +kernel
theorem dX9_legs_79 : decode cX9_legs 79 = .ok (.istore 8, 2) := by decide +kernel
theorem dX9_legs_81 : decode cX9_legs 81 = .ok (.iload 5, 2) := by decide +kernel
theorem dX9_legs_83 : decode cX9_legs 83 = .ok (.ifCond .ne 19, 3) := by decide +kernel
theorem dX9_legs_86 : decode cX9_legs 86 = .ok (.aload_n 0, 1) := by decide +kernel
theorem dX9_legs_87 : decode cX9_legs 87 = .ok (.getfield 62, 3) := by decide +kernel
theorem dX9_legs_90 : decode cX9_legs 90 = .ok (.iload 6, 2) := by decide +kernel
theorem dX9_legs_92 : decode cX9_legs 92 = .ok (.iload 7, 2) := by decide +kernel
theorem dX9_legs_94 : decode cX9_legs 94 = .ok (.iload 8, 2) := by decide +kernel
theorem dX9_legs_96 : decode cX9_legs 96 = .ok (.iload 4, 2) := by decide +kernel
theorem dX9_legs_98 : decode cX9_legs 98 = .ok (.invokevirtual 226, 3) := by decide +kernel
theorem dX9_legs_101 : decode cX9_legs 101 = .ok (.ireturn, 1) := by decide +kernel
theorem dX9_legs_102 : decode cX9_legs 102 = .ok (.aload_n 0, 1) := by decide +kernel
theorem dX9_legs_103 : decode cX9_legs 103 = .ok (.getfield 62, 3) := by decide +kernel
theorem dX9_legs_106 : decode cX9_legs 106 = .ok (.iload 6, 2) := by decide +kernel
theorem dX9_legs_108 : decode cX9_legs 108 = .ok (.iload 8, 2) := by decide +kernel
theorem dX9_legs_110 : decode cX9_legs 110 = .ok (.iload 4, 2) := by decide +kernel
theorem dX9_legs_112 : decode cX9_legs 112 = .ok (.invokevirtual 230, 3) := by decide +kernel
theorem dX9_legs_115 : decode cX9_legs 115 = .ok (.aload_n 0, 1) := by decide +kernel
theorem dX9_legs_116 : decode cX9_legs 116 = .ok (.getfield 62, 3) := by decide +kernel
theorem dX9_legs_119 : decode cX9_legs 119 = .ok (.getfield 234, 3) := by decide +kernel
theorem dX9_legs_122 : decode cX9_legs 122 = .ok (.iload 7, 2) := by decide +kernel
theorem dX9_legs_124 : decode cX9_legs 124 = .ok (.iaload, 1) := by decide +kernel
theorem dX9_legs_125 : decode cX9_legs 125 = .ok (.ireturn, 1) := by decide +kernel
theorem dX9_reach_0 : decode cX9_reach 0 = .ok (.aload_n 0, 1) := by decide +kernel
theorem dX9_reach_1 : decode cX9_reach 1 = .ok (.getfield 26, 3) := by decide +kernel
theorem dX9_reach_4 : decode cX9_reach 4 = .ok (.iload_n 1, 1) := by decide +kernel
theorem dX9_reach_5 : decode cX9_reach 5 = .ok (.invokevirtual 163, 3) := by decide +kernel
theorem dX9_reach_8 : decode cX9_reach 8 = .ok (.ifCond .eq 14, 3) := by decide +kernel
theorem dX9_reach_11 : decode cX9_reach 11 = .ok (.aload_n 0, 1) := by decide +kernel
theorem dX9_reach_12 : decode cX9_reach 12 = .ok (.getfield 19, 3) := by decide +kernel
theorem dX9_reach_15 : decode cX9_reach 15 = .ok (.iload_n 2, 1) := by decide +kernel
theorem dX9_reach_16 : decode cX9_reach 16 = .ok (.invokevirtual 127, 3) := by decide +kernel
theorem dX9_reach_19 : decode cX9_reach 19 = .ok (.ifCond .ne 6, 3) := by decide +kernel
theorem dX9_reach_22 : decode cX9_reach 22 = .ok (.bipush (-2), 2) := by decide +kernel
theorem dX9_reach_24 : decode cX9_reach 24 = .ok (.ireturn, 1) := by decide +kernel
theorem dX9_reach_25 : decode cX9_reach 25 = .ok (.iload 4, 2) := by decide +kernel
theorem dX9_reach_27 : decode cX9_reach 27 = .ok (.iconst 0, 1) := by decide +kernel
theorem dX9_reach_28 : decode cX9_reach 28 = .ok (.iconst 1, 1) := by decide +kernel
theorem dX9_reach_29 : decode cX9_reach 29 = .ok (.invokestatic 84, 3) := by decide +kernel
theorem dX9_reach_32 : decode cX9_reach 32 = .ok (.ifCond .ne 6, 3) := by decide +kernel
theorem dX9_reach_35 : decode cX9_reach 35 = .ok (.bipush (-3), 2) := by decide +kernel
theorem dX9_reach_37 : decode cX9_reach 37 = .ok (.ireturn, 1) := by decide +kernel
theorem dX9_reach_38 : decode cX9_reach 38 = .ok (.aload_n 0, 1) := by decide +kernel
theorem dX9_reach_39 : decode cX9_reach 39 = .ok (.getfield 44, 3) := by decide +kernel
theorem dX9_reach_42 : decode cX9_reach 42 = .ok (.invokevirtual 207, 3) := by decide +kernel
theorem dX9_reach_45 : decode cX9_reach 45 = .ok (.ifCond .ne 5, 3) := by decide +kernel
theorem dX9_reach_48 : decode cX9_reach 48 = .ok (.iconst (-1), 1) := by decide +kernel
theorem dX9_reach_49 : decode cX9_reach 49 = .ok (.ireturn, 1) := by decide +kernel
theorem dX9_reach_50 : decode cX9_reach 50 = .ok (.iload 4, 2) := by decide +kernel
theorem dX9_reach_52 : decode cX9_reach 52 = .ok (.ifCond .ne 16, 3) := by decide +kernel
theorem dX9_reach_55 : decode cX9_reach 55 = .ok (.aload_n 0, 1) := by decide +kernel
theorem dX9_reach_56 : decode cX9_reach 56 = .ok (.getfield 62, 3) := by decide +kernel
theorem dX9_reach_59 : decode cX9_reach 59 = .ok (.iload_n 1, 1) := by decide +kernel
theorem dX9_reach_60 : decode cX9_reach 60 = .ok (.iload_n 2, 1) := by decide +kernel
theorem dX9_reach_61 : decode cX9_reach 61 = .ok (.iload_n 3, 1) := by decide +kernel
theorem dX9_reach_62 : decode cX9_reach 62 = .ok (.invokevirtual 237, 3) := by decide +kernel
theorem dX9_reach_65 : decode cX9_reach 65 = .ok (.goto 13, 3) := by decide +kernel
theorem dX9_reach_68 : decode cX9_reach 68 = .ok (.aload_n 0, 1) := by decide +kernel
theorem dX9_reach_69 : decode cX9_reach 69 = .ok (.getfield 62, 3) := by decide +kernel
theorem dX9_reach_72 : decode cX9_reach 72 = .ok (.iload_n 1, 1) := by decide +kernel
theorem dX9_reach_73 : decode cX9_reach 73 = .ok (.iload_n 2, 1) := by decide +kernel
theorem dX9_reach_74 : decode cX9_reach 74 = .ok (.iload_n 3, 1) := by decide +kernel
theorem dX9_reach_75 : decode cX9_reach 75 = .ok (.invokevirtual 241, 3) := by decide +kernel
theorem dX9_reach_78 : decode cX9_reach 78 = .ok (.ireturn, 1) := by decide +kernel
theorem dX9_boats_0 : decode cX9_boats 0 = .ok (.aload_n 0, 1) := by decide +kernel
theorem dX9_boats_1 : decode cX9_boats 1 = .ok (.getfield 62, 3) := by decide +kernel
theorem dX9_boats_4 : decode cX9_boats 4 = .ok (.invokevirtual 244, 3) := by decide +kernel
theorem dX9_boats_7 : decode cX9_boats 7 = .ok (.ireturn, 1) := by decide +kernel
theorem dX9_sea_0 : decode cX9_sea 0 = .ok (.aload_n 0, 1) := by decide +kernel
theorem dX9_sea_1 : decode cX9_sea 1 = .ok (.getfield 62, 3) := by decide +kernel
theorem dX9_sea_4 : decode cX9_sea 4 = .ok (.invokevirtual 244, 3) := by decide +kernel
theorem dX9_sea_7 : decode cX9_sea 7 = .ok (.istore_n 1, 1) := by decide +kernel
theorem dX9_sea_8 : decode cX9_sea 8 = .ok (.iconst (-1), 1) := by decide +kernel
theorem dX9_sea_9 : decode cX9_sea 9 = .ok (.istore_n 2, 1) := by decide +kernel
theorem dX9_sea_10 : decode cX9_sea 10 = .ok (.iconst 0, 1) := by decide +kernel
theorem dX9_sea_11 : decode cX9_sea 11 = .ok (.istore_n 3, 1) := by decide +kernel
theorem dX9_sea_12 : decode cX9_sea 12 = .ok (.iload_n 3, 1) := by decide +kernel
theorem dX9_sea_13 : decode cX9_sea 13 = .ok (.aload_n 0, 1) := by decide +kernel
theorem dX9_sea_14 : decode cX9_sea 14 = .ok (.getfield 26, 3) := by decide +kernel
theorem dX9_sea_17 : decode cX9_sea 17 = .ok (.getfield 152, 3) := by decide +kernel
theorem dX9_sea_20 : decode cX9_sea 20 = .ok (.if_icmp .ge 31, 3) := by decide +kernel
theorem dX9_sea_23 : decode cX9_sea 23 = .ok (.iload_n 1, 1) := by decide +kernel
theorem dX9_sea_24 : decode cX9_sea 24 = .ok (.iload_n 3, 1) := by decide +kernel
theorem dX9_sea_25 : decode cX9_sea 25 = .ok (.invokestatic 247, 3) := by decide +kernel
theorem dX9_sea_28 : decode cX9_sea 28 = .ok (.ifCond .eq 17, 3) := by decide +kernel
theorem dX9_sea_31 : decode cX9_sea 31 = .ok (.iload_n 2, 1) := by decide +kernel
theorem dX9_sea_32 : decode cX9_sea 32 = .ok (.aload_n 0, 1) := by decide +kernel
theorem dX9_sea_33 : decode cX9_sea 33 = .ok (.getfield 44, 3) := by decide +kernel
theorem dX9_sea_36 : decode cX9_sea 36 = .ok (.iconst 5, 1) := by decide +kernel
theorem dX9_sea_37 : decode cX9_sea 37 = .ok (.iload_n 3, 1) := by decide +kernel
theorem dX9_sea_38 : decode cX9_sea 38 = .ok (.invokevirtual 211, 3) := by decide +kernel
theorem dX9_sea_41 : decode cX9_sea 41 = .ok (.invokestatic 250, 3) := by decide +kernel
theorem dX9_sea_44 : decode cX9_sea 44 = .ok (.istore_n 2, 1) := by decide +kernel
theorem dX9_sea_45 : decode cX9_sea 45 = .ok (.iinc 3 1, 3) := by decide +kernel
theorem dX9_sea_48 : decode cX9_sea 48 = .ok (.goto (-36), 3) := by decide +kernel
theorem dX9_sea_51 : decode cX9_sea 51 = .ok (.iload_n 2, 1) := by decide +kernel
theorem dX9_sea_52 : decode cX9_sea 52 = .ok (.ireturn, 1) := by decide +kernel
theorem dX9_next_0 : decode cX9_next 0 = .ok (.aload_n 0, 1) := by decide +kernel
theorem dX9_next_1 : decode cX9_next 1 = .ok (.getfield 35, 3) := by decide +kernel
theorem dX9_next_4 : decode cX9_next 4 = .ok (.invokevirtual 253, 3) := by decide +kernel
theorem dX9_next_7 : decode cX9_next 7 = .ok (.ireturn, 1) := by decide +kernel
theorem dX9_counts_0 : decode cX9_counts 0 = .ok (.iload_n 1, 1) := by decide +kernel
theorem dX9_counts_1 : decode cX9_counts 1 = .ok (.invokestatic 115, 3) := by decide +kernel
theorem dX9_counts_4 : decode cX9_counts 4 = .ok (.ifCond .eq 14, 3) := by decide +kernel
theorem dX9_counts_7 : decode cX9_counts 7 = .ok (.aload_n 0, 1) := by decide +kernel
theorem dX9_counts_8 : decode cX9_counts 8 = .ok (.getfield 19, 3) := by decide +kernel
theorem dX9_counts_11 : decode cX9_counts 11 = .ok (.iload_n 2, 1) := by decide +kernel
theorem dX9_counts_12 : decode cX9_counts 12 = .ok (.invokevirtual 127, 3) := by decide +kernel
theorem dX9_counts_15 : decode cX9_counts 15 = .ok (.ifCond .ne 6, 3) := by decide +kernel
theorem dX9_counts_18 : decode cX9_counts 18 = .ok (.bipush (-2), 2) := by decide +kernel
theorem dX9_counts_20 : decode cX9_counts 20 = .ok (.ireturn, 1) := by decide +kernel
theorem dX9_counts_21 : decode cX9_counts 21 = .ok (.iload 4, 2) := by decide +kernel
theorem dX9_counts_23 : decode cX9_counts 23 = .ok (.iconst 1, 1) := by decide +kernel
theorem dX9_counts_24 : decode cX9_counts 24 = .ok (.sipush 999, 3) := by decide +kernel
theorem dX9_counts_27 : decode cX9_counts 27 = .ok (.invokestatic 84, 3) := by decide +kernel
theorem dX9_counts_30 : decode cX9_counts 30 = .ok (.ifCond .eq 13, 3) := by decide +kernel
theorem dX9_counts_33 : decode cX9_counts 33 = .ok (.iload_n 3, 1) := by decide +kernel
theorem dX9_counts_34 : decode cX9_counts 34 = .ok (.iconst 0, 1) := by decide +kernel
theorem dX9_counts_35 : decode cX9_counts 35 = .ok (.iload 4, 2) := by decide +kernel
theorem dX9_counts_37 : decode cX9_counts 37 = .ok (.invokestatic 84, 3) := by decide +kernel
theorem dX9_counts_40 : decode cX9_counts 40 = .ok (.ifCond .ne 6, 3) := by decide +kernel
theorem dX9_counts_43 : decode cX9_counts 43 = .ok (.bipush (-3), 2) := by decide +kernel
theorem dX9_counts_45 : decode cX9_counts 45 = .ok (.ireturn, 1) := by decide +kernel
theorem dX9_counts_46 : decode cX9_counts 46 = .ok (.aload_n 0, 1) := by decide +kernel
theorem dX9_counts_47 : decode cX9_counts 47 = .ok (.getfield 71, 3) := by decide +kernel
theorem dX9_counts_50 : decode cX9_counts 50 = .ok (.iload_n 1, 1) := by decide +kernel
theorem dX9_counts_51 : decode cX9_counts 51 = .ok (.iload_n 2, 1) := by decide +kernel
theorem dX9_counts_52 : decode cX9_counts 52 = .ok (.iload_n 3, 1) := by decide +kernel
theorem dX9_counts_53 : decode cX9_counts 53 = .ok (.iload 4, 2) := by decide +kernel
theorem dX9_counts_55 : decode cX9_counts 55 = .ok (.invokevirtual 256, 3) := by decide +kernel
theorem dX9_counts_58 : decode cX9_counts 58 = .ok (.iconst 1, 1) := by decide +kernel
theorem dX9_counts_59 : decode cX9_counts 59 = .ok (.ireturn, 1) := by decide +kernel
theorem dX9_miss_0 : decode cX9_miss 0 = .ok (.aload_n 0, 1) := by decide +kernel
theorem dX9_miss_1 : decode cX9_miss 1 = .ok (.getfield 19, 3) := by decide +kernel
theorem dX9_miss_4 : decode cX9_miss 4 = .ok (.iload_n 1, 1) := by decide +kernel
theorem dX9_miss_5 : decode cX9_miss 5 = .ok (.invokevirtual 127, 3) := by decide +kernel
theorem dX9_miss_8 : decode cX9_miss 8 = .ok (.ifCond .ne 6, 3) := by decide +kernel
theorem dX9_miss_11 : decode cX9_miss 11 = .ok (.bipush (-2), 2) := by decide +kernel
theorem dX9_miss_13 : decode cX9_miss 13 = .ok (.ireturn, 1) := by decide +kernel
theorem dX9_miss_14 : decode cX9_miss 14 = .ok (.iload_n 2, 1) := by decide +kernel
theorem dX9_miss_15 : decode cX9_miss 15 = .ok (.iconst 0, 1) := by decide +kernel
theorem dX9_miss_16 : decode cX9_miss 16 = .ok (.iconst 2, 1) := by decide +kernel
theorem dX9_miss_17 : decode cX9_miss 17 = .ok (.invokestatic 84, 3) := by decide +kernel
theorem dX9_miss_20 : decode cX9_miss 20 = .ok (.ifCond .eq 13, 3) := by decide +kernel
theorem dX9_miss_23 : decode cX9_miss 23 = .ok (.iload_n 3, 1) := by decide +kernel
theorem dX9_miss_24 : decode cX9_miss 24 = .ok (.iconst 1, 1) := by decide +kernel
theorem dX9_miss_25 : decode cX9_miss 25 = .ok (.bipush 99, 2) := by decide +kernel
theorem dX9_miss_27 : decode cX9_miss 27 = .ok (.invokestatic 84, 3) := by decide +kernel
theorem dX9_miss_30 : decode cX9_miss 30 = .ok (.ifCond .ne 6, 3) := by decide +kernel
theorem dX9_miss_33 : decode cX9_miss 33 = .ok (.bipush (-3), 2) := by decide +kernel
theorem dX9_miss_35 : decode cX9_miss 35 = .ok (.ireturn, 1) := by decide +kernel
theorem dX9_miss_36 : decode cX9_miss 36 = .ok (.aload_n 0, 1) := by decide +kernel
theorem dX9_miss_37 : decode cX9_miss 37 = .ok (.getfield 71, 3) := by decide +kernel
theorem dX9_miss_40 : decode cX9_miss 40 = .ok (.iload_n 1, 1) := by decide +kernel
theorem dX9_miss_41 : decode cX9_miss 41 = .ok (.invokevirtual 260, 3) := by decide +kernel
theorem dX9_miss_44 : decode cX9_miss 44 = .ok (.aload_n 0, 1) := by decide +kernel
theorem dX9_miss_45 : decode cX9_miss 45 = .ok (.getfield 71, 3) := by decide +kernel
theorem dX9_miss_48 : decode cX9_miss 48 = .ok (.iload_n 2, 1) := by decide +kernel
theorem dX9_miss_49 : decode cX9_miss 49 = .ok (.iload_n 3, 1) := by decide +kernel
theorem dX9_miss_50 : decode cX9_miss 50 = .ok (.invokevirtual 264, 3) := by decide +kernel
theorem dX9_miss_53 : decode cX9_miss 53 = .ok (.ireturn, 1) := by decide +kernel
theorem dX9_law_0 : decode cX9_law 0 = .ok (.aload_n 0, 1) := by decide +kernel
theorem dX9_law_1 : decode cX9_law 1 = .ok (.getfield 19, 3) := by decide +kernel
theorem dX9_law_4 : decode cX9_law 4 = .ok (.iload_n 1, 1) := by decide +kernel
theorem dX9_law_5 : decode cX9_law 5 = .ok (.invokevirtual 127, 3) := by decide +kernel
theorem dX9_law_8 : decode cX9_law 8 = .ok (.ifCond .ne 6, 3) := by decide +kernel
theorem dX9_law_11 : decode cX9_law 11 = .ok (.bipush (-2), 2) := by decide +kernel
theorem dX9_law_13 : decode cX9_law 13 = .ok (.ireturn, 1) := by decide +kernel
theorem dX9_law_14 : decode cX9_law 14 = .ok (.iload_n 2, 1) := by decide +kernel
theorem dX9_law_15 : decode cX9_law 15 = .ok (.iconst 0, 1) := by decide +kernel
theorem dX9_law_16 : decode cX9_law 16 = .ok (.iconst 1, 1) := by decide +kernel
theorem dX9_law_17 : decode cX9_law 17 = .ok (.invokestatic 84, 3) := by decide +kernel
theorem dX9_law_20 : decode cX9_law 20 = .ok (.ifCond .ne 6, 3) := by decide +kernel
theorem dX9_law_23 : decode cX9_law 23 = .ok (.bipush (-3), 2) := by decide +kernel
theorem dX9_law_25 : decode cX9_law 25 = .ok (.ireturn, 1) := by decide +kernel
theorem dX9_law_26 : decode cX9_law 26 = .ok (.aload_n 0, 1) := by decide +kernel
theorem dX9_law_27 : decode cX9_law 27 = .ok (.getfield 71, 3) := by decide +kernel
theorem dX9_law_30 : decode cX9_law 30 = .ok (.iload_n 1, 1) := by decide +kernel
theorem dX9_law_31 : decode cX9_law 31 = .ok (.invokevirtual 260, 3) := by decide +kernel
theorem dX9_law_34 : decode cX9_law 34 = .ok (.aload_n 0, 1) := by decide +kernel
theorem dX9_law_35 : decode cX9_law 35 = .ok (.getfield 71, 3) := by decide +kernel
theorem dX9_law_38 : decode cX9_law 38 = .ok (.iload_n 2, 1) := by decide +kernel
theorem dX9_law_39 : decode cX9_law 39 = .ok (.invokevirtual 267, 3) := by decide +kernel
theorem dX9_law_42 : decode cX9_law 42 = .ok (.ireturn, 1) := by decide +kernel
theorem dX9_dated_0 : decode cX9_dated 0 = .ok (.aload_n 0, 1) := by decide +kernel
theorem dX9_dated_1 : decode cX9_dated 1 = .ok (.getfield 26, 3) := by decide +kernel
theorem dX9_dated_4 : decode cX9_dated 4 = .ok (.iload_n 1, 1) := by decide +kernel
theorem dX9_dated_5 : decode cX9_dated 5 = .ok (.invokevirtual 163, 3) := by decide +kernel
theorem dX9_dated_8 : decode cX9_dated 8 = .ok (.ifCond .ne 6, 3) := by decide +kernel
theorem dX9_dated_11 : decode cX9_dated 11 = .ok (.bipush (-2), 2) := by decide +kernel
theorem dX9_dated_13 : decode cX9_dated 13 = .ok (.ireturn, 1) := by decide +kernel
theorem dX9_dated_14 : decode cX9_dated 14 = .ok (.iload_n 2, 1) := by decide +kernel
theorem dX9_dated_15 : decode cX9_dated 15 = .ok (.iconst (-1), 1) := by decide +kernel
theorem dX9_dated_16 : decode cX9_dated 16 = .ok (.sipush 9999, 3) := by decide +kernel
theorem dX9_dated_19 : decode cX9_dated 19 = .ok (.invokestatic 84, 3) := by decide +kernel
theorem dX9_dated_22 : decode cX9_dated 22 = .ok (.ifCond .ne 6, 3) := by decide +kernel
theorem dX9_dated_25 : decode cX9_dated 25 = .ok (.bipush (-3), 2) := by decide +kernel
theorem dX9_dated_27 : decode cX9_dated 27 = .ok (.ireturn, 1) := by decide +kernel
theorem dX9_dated_28 : decode cX9_dated 28 = .ok (.aload_n 0, 1) := by decide +kernel
theorem dX9_dated_29 : decode cX9_dated 29 = .ok (.getfield 26, 3) := by decide +kernel
theorem dX9_dated_32 : decode cX9_dated 32 = .ok (.getfield 270, 3) := by decide +kernel
theorem dX9_dated_35 : decode cX9_dated 35 = .ok (.iload_n 1, 1) := by decide +kernel
theorem dX9_dated_36 : decode cX9_dated 36 = .ok (.iload_n 2, 1) := by decide +kernel
theorem dX9_dated_37 : decode cX9_dated 37 = .ok (.iastore, 1) := by decide +kernel
theorem dX9_dated_38 : decode cX9_dated 38 = .ok (.iconst 1, 1) := by decide +kernel
theorem dX9_dated_39 : decode cX9_dated 39 = .ok (.ireturn, 1) := by decide +kernel
theorem dX9_learnt_0 : decode cX9_learnt 0 = .ok (.iload_n 1, 1) := by decide +kernel
theorem dX9_learnt_1 : decode cX9_learnt 1 = .ok (.invokestatic 115, 3) := by decide +kernel
theorem dX9_learnt_4 : decode cX9_learnt 4 = .ok (.ifCond .ne 6, 3) := by decide +kernel
theorem dX9_learnt_7 : decode cX9_learnt 7 = .ok (.bipush (-2), 2) := by decide +kernel
theorem dX9_learnt_9 : decode cX9_learnt 9 = .ok (.ireturn, 1) := by decide +kernel
theorem dX9_learnt_10 : decode cX9_learnt 10 = .ok (.iload_n 2, 1) := by decide +kernel
theorem dX9_learnt_11 : decode cX9_learnt 11 = .ok (.iconst 0, 1) := by decide +kernel
theorem dX9_learnt_12 : decode cX9_learnt 12 = .ok (.iconst 1, 1) := by decide +kernel
theorem dX9_learnt_13 : decode cX9_learnt 13 = .ok (.invokestatic 84, 3) := by decide +kernel
theorem dX9_learnt_16 : decode cX9_learnt 16 = .ok (.ifCond .ne 6, 3) := by decide +kernel
theorem dX9_learnt_19 : decode cX9_learnt 19 = .ok (.bipush (-3), 2) := by decide +kernel
theorem dX9_learnt_21 : decode cX9_learnt 21 = .ok (.ireturn, 1) := by decide +kernel
theorem dX9_learnt_22 : decode cX9_learnt 22 = .ok (.aload_n 0, 1) := by decide +kernel
theorem dX9_learnt_23 : decode cX9_learnt 23 = .ok (.getfield 80, 3) := by decide +kernel
theorem dX9_learnt_26 : decode cX9_learnt 26 = .ok (.iload_n 1, 1) := by decide +kernel
theorem dX9_learnt_27 : decode cX9_learnt 27 = .ok (.iload_n 2, 1) := by decide +kernel
theorem dX9_learnt_28 : decode cX9_learnt 28 = .ok (.invokevirtual 273, 3) := by decide +kernel
theorem dX9_learnt_31 : decode cX9_learnt 31 = .ok (.ireturn, 1) := by decide +kernel
theorem dX9_count_0 : decode cX9_count 0 = .ok (.iload_n 1, 1) := by decide +kernel
theorem dX9_count_1 : decode cX9_count 1 = .ok (.tableswitch 87 0 5 #[39, 47, 55, 63, 71, 79], 39) := by decide +kernel
theorem dX9_count_40 : decode cX9_count 40 = .ok (.aload_n 0, 1) := by decide +kernel
theorem dX9_count_41 : decode cX9_count 41 = .ok (.getfield 19, 3) := by decide +kernel
theorem dX9_count_44 : decode cX9_count 44 = .ok (.invokevirtual 276, 3) := by decide +kernel
theorem dX9_count_47 : decode cX9_count 47 = .ok (.ireturn, 1) := by decide +kernel
theorem dX9_count_48 : decode cX9_count 48 = .ok (.aload_n 0, 1) := by decide +kernel
theorem dX9_count_49 : decode cX9_count 49 = .ok (.getfield 12, 3) := by decide +kernel
theorem dX9_count_52 : decode cX9_count 52 = .ok (.getfield 279, 3) := by decide +kernel
theorem dX9_count_55 : decode cX9_count 55 = .ok (.ireturn, 1) := by decide +kernel
theorem dX9_count_56 : decode cX9_count 56 = .ok (.aload_n 0, 1) := by decide +kernel
theorem dX9_count_57 : decode cX9_count 57 = .ok (.getfield 26, 3) := by decide +kernel
theorem dX9_count_60 : decode cX9_count 60 = .ok (.getfield 152, 3) := by decide +kernel
theorem dX9_count_63 : decode cX9_count 63 = .ok (.ireturn, 1) := by decide +kernel
theorem dX9_count_64 : decode cX9_count 64 = .ok (.aload_n 0, 1) := by decide +kernel
theorem dX9_count_65 : decode cX9_count 65 = .ok (.getfield 19, 3) := by decide +kernel
theorem dX9_count_68 : decode cX9_count 68 = .ok (.getfield 282, 3) := by decide +kernel
theorem dX9_count_71 : decode cX9_count 71 = .ok (.ireturn, 1) := by decide +kernel
theorem dX9_count_72 : decode cX9_count 72 = .ok (.aload_n 0, 1) := by decide +kernel
theorem dX9_count_73 : decode cX9_count 73 = .ok (.getfield 19, 3) := by decide +kernel
theorem dX9_count_76 : decode cX9_count 76 = .ok (.getfield 285, 3) := by decide +kernel
theorem dX9_count_79 : decode cX9_count 79 = .ok (.ireturn, 1) := by decide +kernel
theorem dX9_count_80 : decode cX9_count 80 = .ok (.aload_n 0, 1) := by decide +kernel
theorem dX9_count_81 : decode cX9_count 81 = .ok (.getfield 26, 3) := by decide +kernel
theorem dX9_count_84 : decode cX9_count 84 = .ok (.invokevirtual 288, 3) := by decide +kernel
theorem dX9_count_87 : decode cX9_count 87 = .ok (.ireturn, 1) := by decide +kernel
theorem dX9_count_88 : decode cX9_count 88 = .ok (.bipush (-3), 2) := by decide +kernel
theorem dX9_count_90 : decode cX9_count 90 = .ok (.ireturn, 1) := by decide +kernel
theorem dX9_isPlace_0 : decode cX9_isPlace 0 = .ok (.iload_n 0, 1) := by decide +kernel
theorem dX9_isPlace_1 : decode cX9_isPlace 1 = .ok (.iconst 0, 1) := by decide +kernel
theorem dX9_isPlace_2 : decode cX9_isPlace 2 = .ok (.bipush 9, 2) := by decide +kernel
theorem dX9_isPlace_4 : decode cX9_isPlace 4 = .ok (.invokestatic 84, 3) := by decide +kernel
theorem dX9_isPlace_7 : decode cX9_isPlace 7 = .ok (.ireturn, 1) := by decide +kernel
theorem dX9_areMeasured_0 : decode cX9_areMeasured 0 = .ok (.iload_n 1, 1) := by decide +kernel
theorem dX9_areMeasured_1 : decode cX9_areMeasured 1 = .ok (.iconst 1, 1) := by decide +kernel
theorem dX9_areMeasured_2 : decode cX9_areMeasured 2 = .ok (.bipush 99, 2) := by decide +kernel
theorem dX9_areMeasured_4 : decode cX9_areMeasured 4 = .ok (.invokestatic 84, 3) := by decide +kernel
theorem dX9_areMeasured_7 : decode cX9_areMeasured 7 = .ok (.istore_n 2, 1) := by decide +kernel
theorem dX9_areMeasured_8 : decode cX9_areMeasured 8 = .ok (.iconst 0, 1) := by decide +kernel
theorem dX9_areMeasured_9 : decode cX9_areMeasured 9 = .ok (.istore_n 3, 1) := by decide +kernel
theorem dX9_areMeasured_10 : decode cX9_areMeasured 10 = .ok (.iload_n 3, 1) := by decide +kernel
theorem dX9_areMeasured_11 : decode cX9_areMeasured 11 = .ok (.iconst 3, 1) := by decide +kernel
theorem dX9_areMeasured_12 : decode cX9_areMeasured 12 = .ok (.if_icmp .ge 30, 3) := by decide +kernel
theorem dX9_areMeasured_15 : decode cX9_areMeasured 15 = .ok (.iload_n 2, 1) := by decide +kernel
theorem dX9_areMeasured_16 : decode cX9_areMeasured 16 = .ok (.ifCond .eq 18, 3) := by decide +kernel
theorem dX9_areMeasured_19 : decode cX9_areMeasured 19 = .ok (.iload_n 0, 1) := by decide +kernel
theorem dX9_areMeasured_20 : decode cX9_areMeasured 20 = .ok (.iload_n 3, 1) := by decide +kernel
theorem dX9_areMeasured_21 : decode cX9_areMeasured 21 = .ok (.invokestatic 291, 3) := by decide +kernel
theorem dX9_areMeasured_24 : decode cX9_areMeasured 24 = .ok (.sipush 999, 3) := by decide +kernel
theorem dX9_areMeasured_27 : decode cX9_areMeasured 27 = .ok (.if_icmp .gt 7, 3) := by decide +kernel
theorem dX9_areMeasured_30 : decode cX9_areMeasured 30 = .ok (.iconst 1, 1) := by decide +kernel
theorem dX9_areMeasured_31 : decode cX9_areMeasured 31 = .ok (.goto 4, 3) := by decide +kernel
theorem dX9_areMeasured_34 : decode cX9_areMeasured 34 = .ok (.iconst 0, 1) := by decide +kernel
theorem dX9_areMeasured_35 : decode cX9_areMeasured 35 = .ok (.istore_n 2, 1) := by decide +kernel
theorem dX9_areMeasured_36 : decode cX9_areMeasured 36 = .ok (.iinc 3 1, 3) := by decide +kernel
theorem dX9_areMeasured_39 : decode cX9_areMeasured 39 = .ok (.goto (-29), 3) := by decide +kernel
theorem dX9_areMeasured_42 : decode cX9_areMeasured 42 = .ok (.iload_n 2, 1) := by decide +kernel
theorem dX9_areMeasured_43 : decode cX9_areMeasured 43 = .ok (.ireturn, 1) := by decide +kernel
theorem dX9_numberAt_0 : decode cX9_numberAt 0 = .ok (.iload_n 0, 1) := by decide +kernel
theorem dX9_numberAt_1 : decode cX9_numberAt 1 = .ok (.bipush 10, 2) := by decide +kernel
theorem dX9_numberAt_3 : decode cX9_numberAt 3 = .ok (.iload_n 1, 1) := by decide +kernel
theorem dX9_numberAt_4 : decode cX9_numberAt 4 = .ok (.imul, 1) := by decide +kernel
theorem dX9_numberAt_5 : decode cX9_numberAt 5 = .ok (.ishr, 1) := by decide +kernel
theorem dX9_numberAt_6 : decode cX9_numberAt 6 = .ok (.sipush 1023, 3) := by decide +kernel
theorem dX9_numberAt_9 : decode cX9_numberAt 9 = .ok (.iand, 1) := by decide +kernel
theorem dX9_numberAt_10 : decode cX9_numberAt 10 = .ok (.ireturn, 1) := by decide +kernel
theorem dX9_isWithin_0 : decode cX9_isWithin 0 = .ok (.iload_n 0, 1) := by decide +kernel
theorem dX9_isWithin_1 : decode cX9_isWithin 1 = .ok (.iload_n 1, 1) := by decide +kernel
theorem dX9_isWithin_2 : decode cX9_isWithin 2 = .ok (.if_icmp .lt 12, 3) := by decide +kernel
theorem dX9_isWithin_5 : decode cX9_isWithin 5 = .ok (.iload_n 0, 1) := by decide +kernel
theorem dX9_isWithin_6 : decode cX9_isWithin 6 = .ok (.iload_n 2, 1) := by decide +kernel
theorem dX9_isWithin_7 : decode cX9_isWithin 7 = .ok (.if_icmp .gt 7, 3) := by decide +kernel
theorem dX9_isWithin_10 : decode cX9_isWithin 10 = .ok (.iconst 1, 1) := by decide +kernel
theorem dX9_isWithin_11 : decode cX9_isWithin 11 = .ok (.goto 4, 3) := by decide +kernel
theorem dX9_isWithin_14 : decode cX9_isWithin 14 = .ok (.iconst 0, 1) := by decide +kernel
theorem dX9_isWithin_15 : decode cX9_isWithin 15 = .ok (.ireturn, 1) := by decide +kernel
theorem dX9_hasBit_0 : decode cX9_hasBit 0 = .ok (.iload_n 0, 1) := by decide +kernel
theorem dX9_hasBit_1 : decode cX9_hasBit 1 = .ok (.iload_n 1, 1) := by decide +kernel
theorem dX9_hasBit_2 : decode cX9_hasBit 2 = .ok (.ishr, 1) := by decide +kernel
theorem dX9_hasBit_3 : decode cX9_hasBit 3 = .ok (.iconst 1, 1) := by decide +kernel
theorem dX9_hasBit_4 : decode cX9_hasBit 4 = .ok (.iand, 1) := by decide +kernel
theorem dX9_hasBit_5 : decode cX9_hasBit 5 = .ok (.ifCond .eq 7, 3) := by decide +kernel
theorem dX9_hasBit_8 : decode cX9_hasBit 8 = .ok (.iconst 1, 1) := by decide +kernel
theorem dX9_hasBit_9 : decode cX9_hasBit 9 = .ok (.goto 4, 3) := by decide +kernel
theorem dX9_hasBit_12 : decode cX9_hasBit 12 = .ok (.iconst 0, 1) := by decide +kernel
theorem dX9_hasBit_13 : decode cX9_hasBit 13 = .ok (.ireturn, 1) := by decide +kernel
theorem dX9_cut_0 : decode cX9_cut 0 = .ok (.iload_n 1, 1) := by decide +kernel
theorem dX9_cut_1 : decode cX9_cut 1 = .ok (.ifCond .le 9, 3) := by decide +kernel
theorem dX9_cut_4 : decode cX9_cut 4 = .ok (.iload_n 0, 1) := by decide +kernel
theorem dX9_cut_5 : decode cX9_cut 5 = .ok (.iload_n 1, 1) := by decide +kernel
theorem dX9_cut_6 : decode cX9_cut 6 = .ok (.idiv, 1) := by decide +kernel
theorem dX9_cut_7 : decode cX9_cut 7 = .ok (.goto 4, 3) := by decide +kernel
theorem dX9_cut_10 : decode cX9_cut 10 = .ok (.iconst 0, 1) := by decide +kernel
theorem dX9_cut_11 : decode cX9_cut 11 = .ok (.ireturn, 1) := by decide +kernel
theorem dX9_lesser_0 : decode cX9_lesser 0 = .ok (.iload_n 0, 1) := by decide +kernel
theorem dX9_lesser_1 : decode cX9_lesser 1 = .ok (.iconst (-1), 1) := by decide +kernel
theorem dX9_lesser_2 : decode cX9_lesser 2 = .ok (.if_icmp .ne 7, 3) := by decide +kernel
theorem dX9_lesser_5 : decode cX9_lesser 5 = .ok (.iload_n 1, 1) := by decide +kernel
theorem dX9_lesser_6 : decode cX9_lesser 6 = .ok (.goto 8, 3) := by decide +kernel
theorem dX9_lesser_9 : decode cX9_lesser 9 = .ok (.iload_n 0, 1) := by decide +kernel
theorem dX9_lesser_10 : decode cX9_lesser 10 = .ok (.iload_n 1, 1) := by decide +kernel
theorem dX9_lesser_11 : decode cX9_lesser 11 = .ok (.invokestatic 294, 3) := by decide +kernel
theorem dX9_lesser_14 : decode cX9_lesser 14 = .ok (.ireturn, 1) := by decide +kernel
theorem dJ6_bitCount_0f7a4_0 : decode cJ6_bitCount_0f7a4 0 = .ok (.iload_n 0, 1) := by decide +kernel
theorem dJ6_bitCount_0f7a4_1 : decode cJ6_bitCount_0f7a4 1 = .ok (.iload_n 0, 1) := by decide +kernel
theorem dJ6_bitCount_0f7a4_2 : decode cJ6_bitCount_0f7a4 2 = .ok (.iconst 1, 1) := by decide +kernel
theorem dJ6_bitCount_0f7a4_3 : decode cJ6_bitCount_0f7a4 3 = .ok (.iushr, 1) := by decide +kernel
theorem dJ6_bitCount_0f7a4_4 : decode cJ6_bitCount_0f7a4 4 = .ok (.ldc_w 265, 3) := by decide +kernel
theorem dJ6_bitCount_0f7a4_7 : decode cJ6_bitCount_0f7a4 7 = .ok (.iand, 1) := by decide +kernel
theorem dJ6_bitCount_0f7a4_8 : decode cJ6_bitCount_0f7a4 8 = .ok (.isub, 1) := by decide +kernel
theorem dJ6_bitCount_0f7a4_9 : decode cJ6_bitCount_0f7a4 9 = .ok (.istore_n 0, 1) := by decide +kernel
theorem dJ6_bitCount_0f7a4_10 : decode cJ6_bitCount_0f7a4 10 = .ok (.iload_n 0, 1) := by decide +kernel
theorem dJ6_bitCount_0f7a4_11 : decode cJ6_bitCount_0f7a4 11 = .ok (.ldc_w 266, 3) := by decide +kernel
theorem dJ6_bitCount_0f7a4_14 : decode cJ6_bitCount_0f7a4 14 = .ok (.iand, 1) := by decide +kernel
theorem dJ6_bitCount_0f7a4_15 : decode cJ6_bitCount_0f7a4 15 = .ok (.iload_n 0, 1) := by decide +kernel
theorem dJ6_bitCount_0f7a4_16 : decode cJ6_bitCount_0f7a4 16 = .ok (.iconst 2, 1) := by decide +kernel
theorem dJ6_bitCount_0f7a4_17 : decode cJ6_bitCount_0f7a4 17 = .ok (.iushr, 1) := by decide +kernel
theorem dJ6_bitCount_0f7a4_18 : decode cJ6_bitCount_0f7a4 18 = .ok (.ldc_w 266, 3) := by decide +kernel
theorem dJ6_bitCount_0f7a4_21 : decode cJ6_bitCount_0f7a4 21 = .ok (.iand, 1) := by decide +kernel
theorem dJ6_bitCount_0f7a4_22 : decode cJ6_bitCount_0f7a4 22 = .ok (.iadd, 1) := by decide +kernel
theorem dJ6_bitCount_0f7a4_23 : decode cJ6_bitCount_0f7a4 23 = .ok (.istore_n 0, 1) := by decide +kernel
theorem dJ6_bitCount_0f7a4_24 : decode cJ6_bitCount_0f7a4 24 = .ok (.iload_n 0, 1) := by decide +kernel
theorem dJ6_bitCount_0f7a4_25 : decode cJ6_bitCount_0f7a4 25 = .ok (.iload_n 0, 1) := by decide +kernel
theorem dJ6_bitCount_0f7a4_26 : decode cJ6_bitCount_0f7a4 26 = .ok (.iconst 4, 1) := by decide +kernel
theorem dJ6_bitCount_0f7a4_27 : decode cJ6_bitCount_0f7a4 27 = .ok (.iushr, 1) := by decide +kernel
theorem dJ6_bitCount_0f7a4_28 : decode cJ6_bitCount_0f7a4 28 = .ok (.iadd, 1) := by decide +kernel
theorem dJ6_bitCount_0f7a4_29 : decode cJ6_bitCount_0f7a4 29 = .ok (.ldc_w 267, 3) := by decide +kernel
theorem dJ6_bitCount_0f7a4_32 : decode cJ6_bitCount_0f7a4 32 = .ok (.iand, 1) := by decide +kernel
theorem dJ6_bitCount_0f7a4_33 : decode cJ6_bitCount_0f7a4 33 = .ok (.istore_n 0, 1) := by decide +kernel
theorem dJ6_bitCount_0f7a4_34 : decode cJ6_bitCount_0f7a4 34 = .ok (.iload_n 0, 1) := by decide +kernel
theorem dJ6_bitCount_0f7a4_35 : decode cJ6_bitCount_0f7a4 35 = .ok (.iload_n 0, 1) := by decide +kernel
theorem dJ6_bitCount_0f7a4_36 : decode cJ6_bitCount_0f7a4 36 = .ok (.bipush 8, 2) := by decide +kernel
theorem dJ6_bitCount_0f7a4_38 : decode cJ6_bitCount_0f7a4 38 = .ok (.iushr, 1) := by decide +kernel
theorem dJ6_bitCount_0f7a4_39 : decode cJ6_bitCount_0f7a4 39 = .ok (.iadd, 1) := by decide +kernel
theorem dJ6_bitCount_0f7a4_40 : decode cJ6_bitCount_0f7a4 40 = .ok (.istore_n 0, 1) := by decide +kernel
theorem dJ6_bitCount_0f7a4_41 : decode cJ6_bitCount_0f7a4 41 = .ok (.iload_n 0, 1) := by decide +kernel
theorem dJ6_bitCount_0f7a4_42 : decode cJ6_bitCount_0f7a4 42 = .ok (.iload_n 0, 1) := by decide +kernel
theorem dJ6_bitCount_0f7a4_43 : decode cJ6_bitCount_0f7a4 43 = .ok (.bipush 16, 2) := by decide +kernel
theorem dJ6_bitCount_0f7a4_45 : decode cJ6_bitCount_0f7a4 45 = .ok (.iushr, 1) := by decide +kernel
theorem dJ6_bitCount_0f7a4_46 : decode cJ6_bitCount_0f7a4 46 = .ok (.iadd, 1) := by decide +kernel
theorem dJ6_bitCount_0f7a4_47 : decode cJ6_bitCount_0f7a4 47 = .ok (.istore_n 0, 1) := by decide +kernel
theorem dJ6_bitCount_0f7a4_48 : decode cJ6_bitCount_0f7a4 48 = .ok (.iload_n 0, 1) := by decide +kernel
theorem dJ6_bitCount_0f7a4_49 : decode cJ6_bitCount_0f7a4 49 = .ok (.bipush 63, 2) := by decide +kernel
theorem dJ6_bitCount_0f7a4_51 : decode cJ6_bitCount_0f7a4 51 = .ok (.iand, 1) := by decide +kernel
theorem dJ6_bitCount_0f7a4_52 : decode cJ6_bitCount_0f7a4 52 = .ok (.ireturn, 1) := by decide +kernel
theorem dJ9_abs_0f7a4_0 : decode cJ9_abs_0f7a4 0 = .ok (.iload_n 0, 1) := by decide +kernel
theorem dJ9_abs_0f7a4_1 : decode cJ9_abs_0f7a4 1 = .ok (.ifCond .ge 8, 3) := by decide +kernel
theorem dJ9_abs_0f7a4_4 : decode cJ9_abs_0f7a4 4 = .ok (.iload_n 0, 1) := by decide +kernel
theorem dJ9_abs_0f7a4_5 : decode cJ9_abs_0f7a4 5 = .ok (.ineg, 1) := by decide +kernel
theorem dJ9_abs_0f7a4_6 : decode cJ9_abs_0f7a4 6 = .ok (.goto 4, 3) := by decide +kernel
theorem dJ9_abs_0f7a4_9 : decode cJ9_abs_0f7a4 9 = .ok (.iload_n 0, 1) := by decide +kernel
theorem dJ9_abs_0f7a4_10 : decode cJ9_abs_0f7a4 10 = .ok (.ireturn, 1) := by decide +kernel
theorem dJ9_max_7cf53_0 : decode cJ9_max_7cf53 0 = .ok (.iload_n 0, 1) := by decide +kernel
theorem dJ9_max_7cf53_1 : decode cJ9_max_7cf53 1 = .ok (.iload_n 1, 1) := by decide +kernel
theorem dJ9_max_7cf53_2 : decode cJ9_max_7cf53 2 = .ok (.if_icmp .lt 7, 3) := by decide +kernel
theorem dJ9_max_7cf53_5 : decode cJ9_max_7cf53 5 = .ok (.iload_n 0, 1) := by decide +kernel
theorem dJ9_max_7cf53_6 : decode cJ9_max_7cf53 6 = .ok (.goto 4, 3) := by decide +kernel
theorem dJ9_max_7cf53_9 : decode cJ9_max_7cf53 9 = .ok (.iload_n 1, 1) := by decide +kernel
theorem dJ9_max_7cf53_10 : decode cJ9_max_7cf53 10 = .ok (.ireturn, 1) := by decide +kernel
theorem dJ9_min_7cf53_0 : decode cJ9_min_7cf53 0 = .ok (.iload_n 0, 1) := by decide +kernel
theorem dJ9_min_7cf53_1 : decode cJ9_min_7cf53 1 = .ok (.iload_n 1, 1) := by decide +kernel
theorem dJ9_min_7cf53_2 : decode cJ9_min_7cf53 2 = .ok (.if_icmp .gt 7, 3) := by decide +kernel
theorem dJ9_min_7cf53_5 : decode cJ9_min_7cf53 5 = .ok (.iload_n 0, 1) := by decide +kernel
theorem dJ9_min_7cf53_6 : decode cJ9_min_7cf53 6 = .ok (.goto 4, 3) := by decide +kernel
theorem dJ9_min_7cf53_9 : decode cJ9_min_7cf53 9 = .ok (.iload_n 1, 1) := by decide +kernel
theorem dJ9_min_7cf53_10 : decode cJ9_min_7cf53 10 = .ok (.ireturn, 1) := by decide +kernel
theorem dJ0_length_8abf5_0 : decode cJ0_length_8abf5 0 = .ok (.aload_n 0, 1) := by decide +kernel
theorem dJ0_length_8abf5_1 : decode cJ0_length_8abf5 1 = .ok (.getfield 9, 3) := by decide +kernel
theorem dJ0_length_8abf5_4 : decode cJ0_length_8abf5 4 = .ok (.arraylength, 1) := by decide +kernel
theorem dJ0_length_8abf5_5 : decode cJ0_length_8abf5 5 = .ok (.aload_n 0, 1) := by decide +kernel
theorem dJ0_length_8abf5_6 : decode cJ0_length_8abf5 6 = .ok (.invokevirtual 335, 3) := by decide +kernel
theorem dJ0_length_8abf5_9 : decode cJ0_length_8abf5 9 = .ok (.ishr, 1) := by decide +kernel
theorem dJ0_length_8abf5_10 : decode cJ0_length_8abf5 10 = .ok (.ireturn, 1) := by decide +kernel
theorem dJ0_charAt_5068e_0 : decode cJ0_charAt_5068e 0 = .ok (.aload_n 0, 1) := by decide +kernel
theorem dJ0_charAt_5068e_1 : decode cJ0_charAt_5068e 1 = .ok (.invokevirtual 492, 3) := by decide +kernel
theorem dJ0_charAt_5068e_4 : decode cJ0_charAt_5068e 4 = .ok (.ifCond .eq 12, 3) := by decide +kernel
theorem dJ0_charAt_5068e_7 : decode cJ0_charAt_5068e 7 = .ok (.aload_n 0, 1) := by decide +kernel
theorem dJ0_charAt_5068e_8 : decode cJ0_charAt_5068e 8 = .ok (.getfield 9, 3) := by decide +kernel
theorem dJ0_charAt_5068e_11 : decode cJ0_charAt_5068e 11 = .ok (.iload_n 1, 1) := by decide +kernel
theorem dJ0_charAt_5068e_12 : decode cJ0_charAt_5068e 12 = .ok (.invokestatic 495, 3) := by decide +kernel
theorem dJ0_charAt_5068e_15 : decode cJ0_charAt_5068e 15 = .ok (.ireturn, 1) := by decide +kernel
theorem dJ0_charAt_5068e_16 : decode cJ0_charAt_5068e 16 = .ok (.aload_n 0, 1) := by decide +kernel
theorem dJ0_charAt_5068e_17 : decode cJ0_charAt_5068e 17 = .ok (.getfield 9, 3) := by decide +kernel
theorem dJ0_charAt_5068e_20 : decode cJ0_charAt_5068e 20 = .ok (.iload_n 1, 1) := by decide +kernel
theorem dJ0_charAt_5068e_21 : decode cJ0_charAt_5068e 21 = .ok (.invokestatic 498, 3) := by decide +kernel
theorem dJ0_charAt_5068e_24 : decode cJ0_charAt_5068e 24 = .ok (.ireturn, 1) := by decide +kernel
theorem dJ0_coder_7d493_0 : decode cJ0_coder_7d493 0 = .ok (.getstatic 38, 3) := by decide +kernel
theorem dJ0_coder_7d493_3 : decode cJ0_coder_7d493 3 = .ok (.ifCond .eq 10, 3) := by decide +kernel
theorem dJ0_coder_7d493_6 : decode cJ0_coder_7d493 6 = .ok (.aload_n 0, 1) := by decide +kernel
theorem dJ0_coder_7d493_7 : decode cJ0_coder_7d493 7 = .ok (.getfield 15, 3) := by decide +kernel
theorem dJ0_coder_7d493_10 : decode cJ0_coder_7d493 10 = .ok (.goto 4, 3) := by decide +kernel
theorem dJ0_coder_7d493_13 : decode cJ0_coder_7d493 13 = .ok (.iconst 1, 1) := by decide +kernel
theorem dJ0_coder_7d493_14 : decode cJ0_coder_7d493 14 = .ok (.ireturn, 1) := by decide +kernel
theorem dJ0_isLatin1_aae02_0 : decode cJ0_isLatin1_aae02 0 = .ok (.getstatic 38, 3) := by decide +kernel
theorem dJ0_isLatin1_aae02_3 : decode cJ0_isLatin1_aae02 3 = .ok (.ifCond .eq 14, 3) := by decide +kernel
theorem dJ0_isLatin1_aae02_6 : decode cJ0_isLatin1_aae02 6 = .ok (.aload_n 0, 1) := by decide +kernel
theorem dJ0_isLatin1_aae02_7 : decode cJ0_isLatin1_aae02 7 = .ok (.getfield 15, 3) := by decide +kernel
theorem dJ0_isLatin1_aae02_10 : decode cJ0_isLatin1_aae02 10 = .ok (.ifCond .ne 7, 3) := by decide +kernel
theorem dJ0_isLatin1_aae02_13 : decode cJ0_isLatin1_aae02 13 = .ok (.iconst 1, 1) := by decide +kernel
theorem dJ0_isLatin1_aae02_14 : decode cJ0_isLatin1_aae02 14 = .ok (.goto 4, 3) := by decide +kernel
theorem dJ0_isLatin1_aae02_17 : decode cJ0_isLatin1_aae02 17 = .ok (.iconst 0, 1) := by decide +kernel
theorem dJ0_isLatin1_aae02_18 : decode cJ0_isLatin1_aae02 18 = .ok (.ireturn, 1) := by decide +kernel
theorem dJ0_checkIndex_df160_0 : decode cJ0_checkIndex_df160 0 = .ok (.iload_n 0, 1) := by decide +kernel
theorem dJ0_checkIndex_df160_1 : decode cJ0_checkIndex_df160 1 = .ok (.iload_n 1, 1) := by decide +kernel
theorem dJ0_checkIndex_df160_2 : decode cJ0_checkIndex_df160 2 = .ok (.getstatic 1053, 3) := by decide +kernel
theorem dJ0_checkIndex_df160_5 : decode cJ0_checkIndex_df160 5 = .ok (.invokestatic 1059, 3) := by decide +kernel
theorem dJ0_checkIndex_df160_8 : decode cJ0_checkIndex_df160 8 = .ok (.pop, 1) := by decide +kernel
theorem dJ0_checkIndex_df160_9 : decode cJ0_checkIndex_df160 9 = .ok (.return_, 1) := by decide +kernel
theorem dJ1_charAt_3b067_0 : decode cJ1_charAt_3b067 0 = .ok (.iload_n 1, 1) := by decide +kernel
theorem dJ1_charAt_3b067_1 : decode cJ1_charAt_3b067 1 = .ok (.aload_n 0, 1) := by decide +kernel
theorem dJ1_charAt_3b067_2 : decode cJ1_charAt_3b067 2 = .ok (.arraylength, 1) := by decide +kernel
theorem dJ1_charAt_3b067_3 : decode cJ1_charAt_3b067 3 = .ok (.invokestatic 9, 3) := by decide +kernel
theorem dJ1_charAt_3b067_6 : decode cJ1_charAt_3b067 6 = .ok (.aload_n 0, 1) := by decide +kernel
theorem dJ1_charAt_3b067_7 : decode cJ1_charAt_3b067 7 = .ok (.iload_n 1, 1) := by decide +kernel
theorem dJ1_charAt_3b067_8 : decode cJ1_charAt_3b067 8 = .ok (.baload, 1) := by decide +kernel
theorem dJ1_charAt_3b067_9 : decode cJ1_charAt_3b067 9 = .ok (.sipush 255, 3) := by decide +kernel
theorem dJ1_charAt_3b067_12 : decode cJ1_charAt_3b067 12 = .ok (.iand, 1) := by decide +kernel
theorem dJ1_charAt_3b067_13 : decode cJ1_charAt_3b067 13 = .ok (.i2c, 1) := by decide +kernel
theorem dJ1_charAt_3b067_14 : decode cJ1_charAt_3b067 14 = .ok (.ireturn, 1) := by decide +kernel
theorem dJ2_getChar_3b067_0 : decode cJ2_getChar_3b067 0 = .ok (.getstatic 44, 3) := by decide +kernel
theorem dJ2_getChar_3b067_3 : decode cJ2_getChar_3b067 3 = .ok (.ifCond .ne 25, 3) := by decide +kernel
theorem dJ2_getChar_3b067_6 : decode cJ2_getChar_3b067 6 = .ok (.iload_n 1, 1) := by decide +kernel
theorem dJ2_getChar_3b067_7 : decode cJ2_getChar_3b067 7 = .ok (.ifCond .lt 11, 3) := by decide +kernel
theorem dJ2_getChar_3b067_10 : decode cJ2_getChar_3b067 10 = .ok (.iload_n 1, 1) := by decide +kernel
theorem dJ2_getChar_3b067_11 : decode cJ2_getChar_3b067 11 = .ok (.aload_n 0, 1) := by decide +kernel
theorem dJ2_getChar_3b067_12 : decode cJ2_getChar_3b067 12 = .ok (.invokestatic 48, 3) := by decide +kernel
theorem dJ2_getChar_3b067_15 : decode cJ2_getChar_3b067 15 = .ok (.if_icmp .lt 13, 3) := by decide +kernel
theorem dJ2_getChar_3b067_18 : decode cJ2_getChar_3b067 18 = .ok (.new 52, 3) := by decide +kernel
theorem dJ2_getChar_3b067_21 : decode cJ2_getChar_3b067 21 = .ok (.dup, 1) := by decide +kernel
theorem dJ2_getChar_3b067_22 : decode cJ2_getChar_3b067 22 = .ok (.ldc 54, 2) := by decide +kernel
theorem dJ2_getChar_3b067_24 : decode cJ2_getChar_3b067 24 = .ok (.invokespecial 56, 3) := by decide +kernel
theorem dJ2_getChar_3b067_27 : decode cJ2_getChar_3b067 27 = .ok (.athrow, 1) := by decide +kernel
theorem dJ2_getChar_3b067_28 : decode cJ2_getChar_3b067 28 = .ok (.iload_n 1, 1) := by decide +kernel
theorem dJ2_getChar_3b067_29 : decode cJ2_getChar_3b067 29 = .ok (.iconst 1, 1) := by decide +kernel
theorem dJ2_getChar_3b067_30 : decode cJ2_getChar_3b067 30 = .ok (.ishl, 1) := by decide +kernel
theorem dJ2_getChar_3b067_31 : decode cJ2_getChar_3b067 31 = .ok (.istore_n 1, 1) := by decide +kernel
theorem dJ2_getChar_3b067_32 : decode cJ2_getChar_3b067 32 = .ok (.aload_n 0, 1) := by decide +kernel
theorem dJ2_getChar_3b067_33 : decode cJ2_getChar_3b067 33 = .ok (.iload_n 1, 1) := by decide +kernel
theorem dJ2_getChar_3b067_34 : decode cJ2_getChar_3b067 34 = .ok (.iinc 1 1, 3) := by decide +kernel
theorem dJ2_getChar_3b067_37 : decode cJ2_getChar_3b067 37 = .ok (.baload, 1) := by decide +kernel
theorem dJ2_getChar_3b067_38 : decode cJ2_getChar_3b067 38 = .ok (.sipush 255, 3) := by decide +kernel
theorem dJ2_getChar_3b067_41 : decode cJ2_getChar_3b067 41 = .ok (.iand, 1) := by decide +kernel
theorem dJ2_getChar_3b067_42 : decode cJ2_getChar_3b067 42 = .ok (.getstatic 59, 3) := by decide +kernel
theorem dJ2_getChar_3b067_45 : decode cJ2_getChar_3b067 45 = .ok (.ishl, 1) := by decide +kernel
theorem dJ2_getChar_3b067_46 : decode cJ2_getChar_3b067 46 = .ok (.aload_n 0, 1) := by decide +kernel
theorem dJ2_getChar_3b067_47 : decode cJ2_getChar_3b067 47 = .ok (.iload_n 1, 1) := by decide +kernel
theorem dJ2_getChar_3b067_48 : decode cJ2_getChar_3b067 48 = .ok (.baload, 1) := by decide +kernel
theorem dJ2_getChar_3b067_49 : decode cJ2_getChar_3b067 49 = .ok (.sipush 255, 3) := by decide +kernel
theorem dJ2_getChar_3b067_52 : decode cJ2_getChar_3b067 52 = .ok (.iand, 1) := by decide +kernel
theorem dJ2_getChar_3b067_53 : decode cJ2_getChar_3b067 53 = .ok (.getstatic 63, 3) := by decide +kernel
theorem dJ2_getChar_3b067_56 : decode cJ2_getChar_3b067 56 = .ok (.ishl, 1) := by decide +kernel
theorem dJ2_getChar_3b067_57 : decode cJ2_getChar_3b067 57 = .ok (.ior, 1) := by decide +kernel
theorem dJ2_getChar_3b067_58 : decode cJ2_getChar_3b067 58 = .ok (.i2c, 1) := by decide +kernel
theorem dJ2_getChar_3b067_59 : decode cJ2_getChar_3b067 59 = .ok (.ireturn, 1) := by decide +kernel
theorem dJ2_length_9d52b_0 : decode cJ2_length_9d52b 0 = .ok (.aload_n 0, 1) := by decide +kernel
theorem dJ2_length_9d52b_1 : decode cJ2_length_9d52b 1 = .ok (.arraylength, 1) := by decide +kernel
theorem dJ2_length_9d52b_2 : decode cJ2_length_9d52b 2 = .ok (.iconst 1, 1) := by decide +kernel
theorem dJ2_length_9d52b_3 : decode cJ2_length_9d52b 3 = .ok (.ishr, 1) := by decide +kernel
theorem dJ2_length_9d52b_4 : decode cJ2_length_9d52b 4 = .ok (.ireturn, 1) := by decide +kernel
theorem dJ2_charAt_3b067_0 : decode cJ2_charAt_3b067 0 = .ok (.iload_n 1, 1) := by decide +kernel
theorem dJ2_charAt_3b067_1 : decode cJ2_charAt_3b067 1 = .ok (.aload_n 0, 1) := by decide +kernel
theorem dJ2_charAt_3b067_2 : decode cJ2_charAt_3b067 2 = .ok (.invokestatic 67, 3) := by decide +kernel
theorem dJ2_charAt_3b067_5 : decode cJ2_charAt_3b067 5 = .ok (.aload_n 0, 1) := by decide +kernel
theorem dJ2_charAt_3b067_6 : decode cJ2_charAt_3b067 6 = .ok (.iload_n 1, 1) := by decide +kernel
theorem dJ2_charAt_3b067_7 : decode cJ2_charAt_3b067 7 = .ok (.invokestatic 71, 3) := by decide +kernel
theorem dJ2_charAt_3b067_10 : decode cJ2_charAt_3b067 10 = .ok (.ireturn, 1) := by decide +kernel
theorem dJ2_checkIndex_2214a_0 : decode cJ2_checkIndex_2214a 0 = .ok (.iload_n 0, 1) := by decide +kernel
theorem dJ2_checkIndex_2214a_1 : decode cJ2_checkIndex_2214a 1 = .ok (.aload_n 1, 1) := by decide +kernel
theorem dJ2_checkIndex_2214a_2 : decode cJ2_checkIndex_2214a 2 = .ok (.invokestatic 48, 3) := by decide +kernel
theorem dJ2_checkIndex_2214a_5 : decode cJ2_checkIndex_2214a 5 = .ok (.invokestatic 414, 3) := by decide +kernel
theorem dJ2_checkIndex_2214a_8 : decode cJ2_checkIndex_2214a 8 = .ok (.return_, 1) := by decide +kernel
theorem dJ3_checkIndex_8e157_0 : decode cJ3_checkIndex_8e157 0 = .ok (.iload_n 0, 1) := by decide +kernel
theorem dJ3_checkIndex_8e157_1 : decode cJ3_checkIndex_8e157 1 = .ok (.ifCond .lt 8, 3) := by decide +kernel
theorem dJ3_checkIndex_8e157_4 : decode cJ3_checkIndex_8e157 4 = .ok (.iload_n 0, 1) := by decide +kernel
theorem dJ3_checkIndex_8e157_5 : decode cJ3_checkIndex_8e157 5 = .ok (.iload_n 1, 1) := by decide +kernel
theorem dJ3_checkIndex_8e157_6 : decode cJ3_checkIndex_8e157 6 = .ok (.if_icmp .lt 10, 3) := by decide +kernel
theorem dJ3_checkIndex_8e157_9 : decode cJ3_checkIndex_8e157 9 = .ok (.aload_n 2, 1) := by decide +kernel
theorem dJ3_checkIndex_8e157_10 : decode cJ3_checkIndex_8e157 10 = .ok (.iload_n 0, 1) := by decide +kernel
theorem dJ3_checkIndex_8e157_11 : decode cJ3_checkIndex_8e157 11 = .ok (.iload_n 1, 1) := by decide +kernel
theorem dJ3_checkIndex_8e157_12 : decode cJ3_checkIndex_8e157 12 = .ok (.invokestatic 95, 3) := by decide +kernel
theorem dJ3_checkIndex_8e157_15 : decode cJ3_checkIndex_8e157 15 = .ok (.athrow, 1) := by decide +kernel
theorem dJ3_checkIndex_8e157_16 : decode cJ3_checkIndex_8e157 16 = .ok (.iload_n 0, 1) := by decide +kernel
theorem dJ3_checkIndex_8e157_17 : decode cJ3_checkIndex_8e157 17 = .ok (.ireturn, 1) := by decide +kernel
