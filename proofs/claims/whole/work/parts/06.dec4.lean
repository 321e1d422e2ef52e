theorem dX10_init_0 : decode cX10_init 0 = .ok (.aload_n 0, 1) := by decide +kernel
theorem dX10_init_1 : decode cX10_init 1 = .ok (.invokespecial 1, 3) := by decide +kernel
theorem dX10_init_4 : decode cX10_init 4 = .ok (.aload_n 0, 1) := by decide +kernel
theorem dX10_init_5 : decode cX10_init 5 = .ok (.bipush 30, 2) := by decide +kernel
theorem dX10_init_7 : decode cX10_init 7 = .ok (.newarray .int, 2) := by decide +kernel
theorem dX10_init_9 : decode cX10_init 9 = .ok (.putfield 7, 3) := by decide +kernel
theorem dX10_init_12 : decode cX10_init 12 = .ok (.aload_n 0, 1) := by decide +kernel
theorem dX10_init_13 : decode cX10_init 13 = .ok (.sipush 200, 3) := by decide +kernel
theorem dX10_init_16 : decode cX10_init 16 = .ok (.newarray .int, 2) := by decide +kernel
theorem dX10_init_18 : decode cX10_init 18 = .ok (.putfield 13, 3) := by decide +kernel
theorem dX10_init_21 : decode cX10_init 21 = .ok (.aload_n 0, 1) := by decide +kernel
theorem dX10_init_22 : decode cX10_init 22 = .ok (.bipush 54, 2) := by decide +kernel
theorem dX10_init_24 : decode cX10_init 24 = .ok (.newarray .int, 2) := by decide +kernel
theorem dX10_init_26 : decode cX10_init 26 = .ok (.putfield 16, 3) := by decide +kernel
theorem dX10_init_29 : decode cX10_init 29 = .ok (.aload_n 0, 1) := by decide +kernel
theorem dX10_init_30 : decode cX10_init 30 = .ok (.bipush 20, 2) := by decide +kernel
theorem dX10_init_32 : decode cX10_init 32 = .ok (.putfield 19, 3) := by decide +kernel
theorem dX10_init_35 : decode cX10_init 35 = .ok (.aload_n 0, 1) := by decide +kernel
theorem dX10_init_36 : decode cX10_init 36 = .ok (.bipush 30, 2) := by decide +kernel
theorem dX10_init_38 : decode cX10_init 38 = .ok (.putfield 23, 3) := by decide +kernel
theorem dX10_init_41 : decode cX10_init 41 = .ok (.aload_n 0, 1) := by decide +kernel
theorem dX10_init_42 : decode cX10_init 42 = .ok (.sipush 200, 3) := by decide +kernel
theorem dX10_init_45 : decode cX10_init 45 = .ok (.newarray .int, 2) := by decide +kernel
theorem dX10_init_47 : decode cX10_init 47 = .ok (.putfield 26, 3) := by decide +kernel
theorem dX10_init_50 : decode cX10_init 50 = .ok (.aload_n 0, 1) := by decide +kernel
theorem dX10_init_51 : decode cX10_init 51 = .ok (.bipush 64, 2) := by decide +kernel
theorem dX10_init_53 : decode cX10_init 53 = .ok (.newarray .int, 2) := by decide +kernel
theorem dX10_init_55 : decode cX10_init 55 = .ok (.putfield 29, 3) := by decide +kernel
theorem dX10_init_58 : decode cX10_init 58 = .ok (.aload_n 0, 1) := by decide +kernel
theorem dX10_init_59 : decode cX10_init 59 = .ok (.sipush 132, 3) := by decide +kernel
theorem dX10_init_62 : decode cX10_init 62 = .ok (.newarray .int, 2) := by decide +kernel
theorem dX10_init_64 : decode cX10_init 64 = .ok (.putfield 32, 3) := by decide +kernel
theorem dX10_init_67 : decode cX10_init 67 = .ok (.aload_n 0, 1) := by decide +kernel
theorem dX10_init_68 : decode cX10_init 68 = .ok (.bipush 12, 2) := by decide +kernel
theorem dX10_init_70 : decode cX10_init 70 = .ok (.newarray .int, 2) := by decide +kernel
theorem dX10_init_72 : decode cX10_init 72 = .ok (.putfield 35, 3) := by decide +kernel
theorem dX10_init_75 : decode cX10_init 75 = .ok (.aload_n 0, 1) := by decide +kernel
theorem dX10_init_76 : decode cX10_init 76 = .ok (.bipush 12, 2) := by decide +kernel
theorem dX10_init_78 : decode cX10_init 78 = .ok (.newarray .int, 2) := by decide +kernel
theorem dX10_init_80 : decode cX10_init 80 = .ok (.putfield 38, 3) := by decide +kernel
theorem dX10_init_83 : decode cX10_init 83 = .ok (.aload_n 0, 1) := by decide +kernel
theorem dX10_init_84 : decode cX10_init 84 = .ok (.bipush 12, 2) := by decide +kernel
theorem dX10_init_86 : decode cX10_init 86 = .ok (.newarray .int, 2) := by decide +kernel
theorem dX10_init_88 : decode cX10_init 88 = .ok (.putfield 41, 3) := by decide +kernel
theorem dX10_init_91 : decode cX10_init 91 = .ok (.aload_n 0, 1) := by decide +kernel
theorem dX10_init_92 : decode cX10_init 92 = .ok (.bipush 12, 2) := by decide +kernel
theorem dX10_init_94 : decode cX10_init 94 = .ok (.newarray .int, 2) := by decide +kernel
theorem dX10_init_96 : decode cX10_init 96 = .ok (.putfield 44, 3) := by decide +kernel
theorem dX10_init_99 : decode cX10_init 99 = .ok (.aload_n 0, 1) := by decide +kernel
theorem dX10_init_100 : decode cX10_init 100 = .ok (.bipush 12, 2) := by decide +kernel
theorem dX10_init_102 : decode cX10_init 102 = .ok (.newarray .int, 2) := by decide +kernel
theorem dX10_init_104 : decode cX10_init 104 = .ok (.putfield 47, 3) := by decide +kernel
theorem dX10_init_107 : decode cX10_init 107 = .ok (.aload_n 0, 1) := by decide +kernel
theorem dX10_init_108 : decode cX10_init 108 = .ok (.bipush 12, 2) := by decide +kernel
theorem dX10_init_110 : decode cX10_init 110 = .ok (.newarray .int, 2) := by decide +kernel
theorem dX10_init_112 : decode cX10_init 112 = .ok (.putfield 50, 3) := by decide +kernel
theorem dX10_init_115 : decode cX10_init 115 = .ok (.aload_n 0, 1) := by decide +kernel
theorem dX10_init_116 : decode cX10_init 116 = .ok (.bipush 12, 2) := by decide +kernel
theorem dX10_init_118 : decode cX10_init 118 = .ok (.newarray .int, 2) := by decide +kernel
theorem dX10_init_120 : decode cX10_init 120 = .ok (.putfield 53, 3) := by decide +kernel
theorem dX10_init_123 : decode cX10_init 123 = .ok (.aload_n 0, 1) := by decide +kernel
theorem dX10_init_124 : decode cX10_init 124 = .ok (.bipush 12, 2) := by decide +kernel
theorem dX10_init_126 : decode cX10_init 126 = .ok (.newarray .int, 2) := by decide +kernel
theorem dX10_init_128 : decode cX10_init 128 = .ok (.putfield 56, 3) := by decide +kernel
theorem dX10_init_131 : decode cX10_init 131 = .ok (.aload_n 0, 1) := by decide +kernel
theorem dX10_init_132 : decode cX10_init 132 = .ok (.bipush 10, 2) := by decide +kernel
theorem dX10_init_134 : decode cX10_init 134 = .ok (.newarray .int, 2) := by decide +kernel
theorem dX10_init_136 : decode cX10_init 136 = .ok (.putfield 59, 3) := by decide +kernel
theorem dX10_init_139 : decode cX10_init 139 = .ok (.aload_n 0, 1) := by decide +kernel
theorem dX10_init_140 : decode cX10_init 140 = .ok (.bipush 10, 2) := by decide +kernel
theorem dX10_init_142 : decode cX10_init 142 = .ok (.newarray .int, 2) := by decide +kernel
theorem dX10_init_144 : decode cX10_init 144 = .ok (.putfield 62, 3) := by decide +kernel
theorem dX10_init_147 : decode cX10_init 147 = .ok (.aload_n 0, 1) := by decide +kernel
theorem dX10_init_148 : decode cX10_init 148 = .ok (.bipush 90, 2) := by decide +kernel
theorem dX10_init_150 : decode cX10_init 150 = .ok (.newarray .int, 2) := by decide +kernel
theorem dX10_init_152 : decode cX10_init 152 = .ok (.putfield 65, 3) := by decide +kernel
theorem dX10_init_155 : decode cX10_init 155 = .ok (.aload_n 0, 1) := by decide +kernel
theorem dX10_init_156 : decode cX10_init 156 = .ok (.bipush 90, 2) := by decide +kernel
theorem dX10_init_158 : decode cX10_init 158 = .ok (.newarray .int, 2) := by decide +kernel
theorem dX10_init_160 : decode cX10_init 160 = .ok (.putfield 68, 3) := by decide +kernel
theorem dX10_init_163 : decode cX10_init 163 = .ok (.iconst 0, 1) := by decide +kernel
theorem dX10_init_164 : decode cX10_init 164 = .ok (.istore_n 1, 1) := by decide +kernel
theorem dX10_init_165 : decode cX10_init 165 = .ok (.iload_n 1, 1) := by decide +kernel
theorem dX10_init_166 : decode cX10_init 166 = .ok (.bipush 10, 2) := by decide +kernel
theorem dX10_init_168 : decode cX10_init 168 = .ok (.if_icmp .ge 34, 3) := by decide +kernel
theorem dX10_init_171 : decode cX10_init 171 = .ok (.aload_n 0, 1) := by decide +kernel
theorem dX10_init_172 : decode cX10_init 172 = .ok (.getfield 7, 3) := by decide +kernel
theorem dX10_init_175 : decode cX10_init 175 = .ok (.iconst 3, 1) := by decide +kernel
theorem dX10_init_176 : decode cX10_init 176 = .ok (.iload_n 1, 1) := by decide +kernel
theorem dX10_init_177 : decode cX10_init 177 = .ok (.imul, 1) := by decide +kernel
theorem dX10_init_178 : decode cX10_init 178 = .ok (.iconst 1, 1) := by decide +kernel
theorem dX10_init_179 : decode cX10_init 179 = .ok (.iadd, 1) := by decide +kernel
theorem dX10_init_180 : decode cX10_init 180 = .ok (.sipush 9999, 3) := by decide +kernel
theorem dX10_init_183 : decode cX10_init 183 = .ok (.iastore, 1) := by decide +kernel
theorem dX10_init_184 : decode cX10_init 184 = .ok (.aload_n 0, 1) := by decide +kernel
theorem dX10_init_185 : decode cX10_init 185 = .ok (.getfield 7, 3) := by decide +kernel
theorem dX10_init_188 : decode cX10_init 188 = .ok (.iconst 3, 1) := by decide +kernel
theorem dX10_init_189 : decode cX10_init 189 = .ok (.iload_n 1, 1) := by decide +kernel
theorem dX10_init_190 : decode cX10_init 190 = .ok (.imul, 1) := by decide +kernel
theorem dX10_init_191 : decode cX10_init 191 = .ok (.iconst 2, 1) := by decide +kernel
theorem dX10_init_192 : decode cX10_init 192 = .ok (.iadd, 1) := by decide +kernel
theorem dX10_init_193 : decode cX10_init 193 = .ok (.bipush 100, 2) := by decide +kernel
theorem dX10_init_195 : decode cX10_init 195 = .ok (.iastore, 1) := by decide +kernel
theorem dX10_init_196 : decode cX10_init 196 = .ok (.iinc 1 1, 3) := by decide +kernel
theorem dX10_init_199 : decode cX10_init 199 = .ok (.goto (-34), 3) := by decide +kernel
theorem dX10_init_202 : decode cX10_init 202 = .ok (.return_, 1) := by decide +kernel
theorem dX10_in_0 : decode cX10_in 0 = .ok (.iload_n 0, 1) := by decide +kernel
theorem dX10_in_1 : decode cX10_in 1 = .ok (.iload_n 1, 1) := by decide +kernel
theorem dX10_in_2 : decode cX10_in 2 = .ok (.if_icmp .lt 12, 3) := by decide +kernel
theorem dX10_in_5 : decode cX10_in 5 = .ok (.iload_n 0, 1) := by decide +kernel
theorem dX10_in_6 : decode cX10_in 6 = .ok (.iload_n 2, 1) := by decide +kernel
theorem dX10_in_7 : decode cX10_in 7 = .ok (.if_icmp .gt 7, 3) := by decide +kernel
theorem dX10_in_10 : decode cX10_in 10 = .ok (.iconst 1, 1) := by decide +kernel
theorem dX10_in_11 : decode cX10_in 11 = .ok (.goto 4, 3) := by decide +kernel
theorem dX10_in_14 : decode cX10_in 14 = .ok (.iconst 0, 1) := by decide +kernel
theorem dX10_in_15 : decode cX10_in 15 = .ok (.ireturn, 1) := by decide +kernel
theorem dX10_isPlace_0 : decode cX10_isPlace 0 = .ok (.iload_n 0, 1) := by decide +kernel
theorem dX10_isPlace_1 : decode cX10_isPlace 1 = .ok (.iconst 0, 1) := by decide +kernel
theorem dX10_isPlace_2 : decode cX10_isPlace 2 = .ok (.bipush 9, 2) := by decide +kernel
theorem dX10_isPlace_4 : decode cX10_isPlace 4 = .ok (.invokestatic 71, 3) := by decide +kernel
theorem dX10_isPlace_7 : decode cX10_isPlace 7 = .ok (.ireturn, 1) := by decide +kernel
theorem dX10_isFlow_0 : decode cX10_isFlow 0 = .ok (.iload_n 1, 1) := by decide +kernel
theorem dX10_isFlow_1 : decode cX10_isFlow 1 = .ok (.iconst 0, 1) := by decide +kernel
theorem dX10_isFlow_2 : decode cX10_isFlow 2 = .ok (.bipush 8, 2) := by decide +kernel
theorem dX10_isFlow_4 : decode cX10_isFlow 4 = .ok (.invokestatic 71, 3) := by decide +kernel
theorem dX10_isFlow_7 : decode cX10_isFlow 7 = .ok (.ifCond .eq 19, 3) := by decide +kernel
theorem dX10_isFlow_10 : decode cX10_isFlow 10 = .ok (.aload_n 0, 1) := by decide +kernel
theorem dX10_isFlow_11 : decode cX10_isFlow 11 = .ok (.getfield 75, 3) := by decide +kernel
theorem dX10_isFlow_14 : decode cX10_isFlow 14 = .ok (.iload_n 1, 1) := by decide +kernel
theorem dX10_isFlow_15 : decode cX10_isFlow 15 = .ok (.ishr, 1) := by decide +kernel
theorem dX10_isFlow_16 : decode cX10_isFlow 16 = .ok (.iconst 1, 1) := by decide +kernel
theorem dX10_isFlow_17 : decode cX10_isFlow 17 = .ok (.iand, 1) := by decide +kernel
theorem dX10_isFlow_18 : decode cX10_isFlow 18 = .ok (.iconst 1, 1) := by decide +kernel
theorem dX10_isFlow_19 : decode cX10_isFlow 19 = .ok (.if_icmp .ne 7, 3) := by decide +kernel
theorem dX10_isFlow_22 : decode cX10_isFlow 22 = .ok (.iconst 1, 1) := by decide +kernel
theorem dX10_isFlow_23 : decode cX10_isFlow 23 = .ok (.goto 4, 3) := by decide +kernel
theorem dX10_isFlow_26 : decode cX10_isFlow 26 = .ok (.iconst 0, 1) := by decide +kernel
theorem dX10_isFlow_27 : decode cX10_isFlow 27 = .ok (.ireturn, 1) := by decide +kernel
theorem dX10_isBlade_0 : decode cX10_isBlade 0 = .ok (.iload_n 1, 1) := by decide +kernel
theorem dX10_isBlade_1 : decode cX10_isBlade 1 = .ok (.iconst 0, 1) := by decide +kernel
theorem dX10_isBlade_2 : decode cX10_isBlade 2 = .ok (.aload_n 0, 1) := by decide +kernel
theorem dX10_isBlade_3 : decode cX10_isBlade 3 = .ok (.getfield 78, 3) := by decide +kernel
theorem dX10_isBlade_6 : decode cX10_isBlade 6 = .ok (.iconst 1, 1) := by decide +kernel
theorem dX10_isBlade_7 : decode cX10_isBlade 7 = .ok (.isub, 1) := by decide +kernel
theorem dX10_isBlade_8 : decode cX10_isBlade 8 = .ok (.invokestatic 71, 3) := by decide +kernel
theorem dX10_isBlade_11 : decode cX10_isBlade 11 = .ok (.ireturn, 1) := by decide +kernel
theorem dX10_at_0 : decode cX10_at 0 = .ok (.aload_n 0, 1) := by decide +kernel
theorem dX10_at_1 : decode cX10_at 1 = .ok (.getfield 32, 3) := by decide +kernel
theorem dX10_at_4 : decode cX10_at 4 = .ok (.bipush 11, 2) := by decide +kernel
theorem dX10_at_6 : decode cX10_at 6 = .ok (.iload_n 1, 1) := by decide +kernel
theorem dX10_at_7 : decode cX10_at 7 = .ok (.imul, 1) := by decide +kernel
theorem dX10_at_8 : decode cX10_at 8 = .ok (.iload_n 2, 1) := by decide +kernel
theorem dX10_at_9 : decode cX10_at 9 = .ok (.iadd, 1) := by decide +kernel
theorem dX10_at_10 : decode cX10_at 10 = .ok (.iaload, 1) := by decide +kernel
theorem dX10_at_11 : decode cX10_at 11 = .ok (.ireturn, 1) := by decide +kernel
theorem dX10_write_0 : decode cX10_write 0 = .ok (.iload_n 3, 1) := by decide +kernel
theorem dX10_write_1 : decode cX10_write 1 = .ok (.iconst 1, 1) := by decide +kernel
theorem dX10_write_2 : decode cX10_write 2 = .ok (.bipush 8, 2) := by decide +kernel
theorem dX10_write_4 : decode cX10_write 4 = .ok (.invokestatic 71, 3) := by decide +kernel
theorem dX10_write_7 : decode cX10_write 7 = .ok (.ifCond .ne 6, 3) := by decide +kernel
theorem dX10_write_10 : decode cX10_write 10 = .ok (.bipush (-3), 2) := by decide +kernel
theorem dX10_write_12 : decode cX10_write 12 = .ok (.ireturn, 1) := by decide +kernel
theorem dX10_write_13 : decode cX10_write 13 = .ok (.aload_n 0, 1) := by decide +kernel
theorem dX10_write_14 : decode cX10_write 14 = .ok (.getfield 81, 3) := by decide +kernel
theorem dX10_write_17 : decode cX10_write 17 = .ok (.iload_n 3, 1) := by decide +kernel
theorem dX10_write_18 : decode cX10_write 18 = .ok (.iadd, 1) := by decide +kernel
theorem dX10_write_19 : decode cX10_write 19 = .ok (.sipush 200, 3) := by decide +kernel
theorem dX10_write_22 : decode cX10_write 22 = .ok (.if_icmp .le 6, 3) := by decide +kernel
theorem dX10_write_25 : decode cX10_write 25 = .ok (.bipush (-5), 2) := by decide +kernel
theorem dX10_write_27 : decode cX10_write 27 = .ok (.ireturn, 1) := by decide +kernel
theorem dX10_write_28 : decode cX10_write 28 = .ok (.iconst 0, 1) := by decide +kernel
theorem dX10_write_29 : decode cX10_write 29 = .ok (.istore 4, 2) := by decide +kernel
theorem dX10_write_31 : decode cX10_write 31 = .ok (.iload 4, 2) := by decide +kernel
theorem dX10_write_33 : decode cX10_write 33 = .ok (.iload_n 3, 1) := by decide +kernel
theorem dX10_write_34 : decode cX10_write 34 = .ok (.if_icmp .ge 33, 3) := by decide +kernel
theorem dX10_write_37 : decode cX10_write 37 = .ok (.aload_n 0, 1) := by decide +kernel
theorem dX10_write_38 : decode cX10_write 38 = .ok (.getfield 26, 3) := by decide +kernel
theorem dX10_write_41 : decode cX10_write 41 = .ok (.aload_n 0, 1) := by decide +kernel
theorem dX10_write_42 : decode cX10_write 42 = .ok (.getfield 81, 3) := by decide +kernel
theorem dX10_write_45 : decode cX10_write 45 = .ok (.iload 4, 2) := by decide +kernel
theorem dX10_write_47 : decode cX10_write 47 = .ok (.iadd, 1) := by decide +kernel
theorem dX10_write_48 : decode cX10_write 48 = .ok (.lload_n 1, 1) := by decide +kernel
theorem dX10_write_49 : decode cX10_write 49 = .ok (.bipush 8, 2) := by decide +kernel
theorem dX10_write_51 : decode cX10_write 51 = .ok (.iload 4, 2) := by decide +kernel
theorem dX10_write_53 : decode cX10_write 53 = .ok (.imul, 1) := by decide +kernel
theorem dX10_write_54 : decode cX10_write 54 = .ok (.lshr, 1) := by decide +kernel
theorem dX10_write_55 : decode cX10_write 55 = .ok (.ldc2_w 84, 3) := by decide +kernel
theorem dX10_write_58 : decode cX10_write 58 = .ok (.land, 1) := by decide +kernel
theorem dX10_write_59 : decode cX10_write 59 = .ok (.l2i, 1) := by decide +kernel
theorem dX10_write_60 : decode cX10_write 60 = .ok (.iastore, 1) := by decide +kernel
theorem dX10_write_61 : decode cX10_write 61 = .ok (.iinc 4 1, 3) := by decide +kernel
theorem dX10_write_64 : decode cX10_write 64 = .ok (.goto (-33), 3) := by decide +kernel
theorem dX10_write_67 : decode cX10_write 67 = .ok (.aload_n 0, 1) := by decide +kernel
theorem dX10_write_68 : decode cX10_write 68 = .ok (.dup, 1) := by decide +kernel
theorem dX10_write_69 : decode cX10_write 69 = .ok (.getfield 81, 3) := by decide +kernel
theorem dX10_write_72 : decode cX10_write 72 = .ok (.iload_n 3, 1) := by decide +kernel
theorem dX10_write_73 : decode cX10_write 73 = .ok (.iadd, 1) := by decide +kernel
theorem dX10_write_74 : decode cX10_write 74 = .ok (.putfield 81, 3) := by decide +kernel
theorem dX10_write_77 : decode cX10_write 77 = .ok (.aload_n 0, 1) := by decide +kernel
theorem dX10_write_78 : decode cX10_write 78 = .ok (.getfield 81, 3) := by decide +kernel
theorem dX10_write_81 : decode cX10_write 81 = .ok (.ireturn, 1) := by decide +kernel
theorem dX10_erase_0 : decode cX10_erase 0 = .ok (.aload_n 0, 1) := by decide +kernel
theorem dX10_erase_1 : decode cX10_erase 1 = .ok (.getfield 81, 3) := by decide +kernel
theorem dX10_erase_4 : decode cX10_erase 4 = .ok (.istore_n 1, 1) := by decide +kernel
theorem dX10_erase_5 : decode cX10_erase 5 = .ok (.aload_n 0, 1) := by decide +kernel
theorem dX10_erase_6 : decode cX10_erase 6 = .ok (.iconst 0, 1) := by decide +kernel
theorem dX10_erase_7 : decode cX10_erase 7 = .ok (.putfield 81, 3) := by decide +kernel
theorem dX10_erase_10 : decode cX10_erase 10 = .ok (.iload_n 1, 1) := by decide +kernel
theorem dX10_erase_11 : decode cX10_erase 11 = .ok (.ireturn, 1) := by decide +kernel
theorem dX10_nextToken_0 : decode cX10_nextToken 0 = .ok (.aload_n 0, 1) := by decide +kernel
theorem dX10_nextToken_1 : decode cX10_nextToken 1 = .ok (.getfield 86, 3) := by decide +kernel
theorem dX10_nextToken_4 : decode cX10_nextToken 4 = .ok (.aload_n 0, 1) := by decide +kernel
theorem dX10_nextToken_5 : decode cX10_nextToken 5 = .ok (.getfield 81, 3) := by decide +kernel
theorem dX10_nextToken_8 : decode cX10_nextToken 8 = .ok (.if_icmp .ge 30, 3) := by decide +kernel
theorem dX10_nextToken_11 : decode cX10_nextToken 11 = .ok (.aload_n 0, 1) := by decide +kernel
theorem dX10_nextToken_12 : decode cX10_nextToken 12 = .ok (.getfield 26, 3) := by decide +kernel
theorem dX10_nextToken_15 : decode cX10_nextToken 15 = .ok (.aload_n 0, 1) := by decide +kernel
theorem dX10_nextToken_16 : decode cX10_nextToken 16 = .ok (.getfield 86, 3) := by decide +kernel
theorem dX10_nextToken_19 : decode cX10_nextToken 19 = .ok (.iaload, 1) := by decide +kernel
theorem dX10_nextToken_20 : decode cX10_nextToken 20 = .ok (.bipush 32, 2) := by decide +kernel
theorem dX10_nextToken_22 : decode cX10_nextToken 22 = .ok (.if_icmp .ne 16, 3) := by decide +kernel
theorem dX10_nextToken_25 : decode cX10_nextToken 25 = .ok (.aload_n 0, 1) := by decide +kernel
theorem dX10_nextToken_26 : decode cX10_nextToken 26 = .ok (.dup, 1) := by decide +kernel
theorem dX10_nextToken_27 : decode cX10_nextToken 27 = .ok (.getfield 86, 3) := by decide +kernel
theorem dX10_nextToken_30 : decode cX10_nextToken 30 = .ok (.iconst 1, 1) := by decide +kernel
theorem dX10_nextToken_31 : decode cX10_nextToken 31 = .ok (.iadd, 1) := by decide +kernel
theorem dX10_nextToken_32 : decode cX10_nextToken 32 = .ok (.putfield 86, 3) := by decide +kernel
theorem dX10_nextToken_35 : decode cX10_nextToken 35 = .ok (.goto (-35), 3) := by decide +kernel
theorem dX10_nextToken_38 : decode cX10_nextToken 38 = .ok (.aload_n 0, 1) := by decide +kernel
theorem dX10_nextToken_39 : decode cX10_nextToken 39 = .ok (.aload_n 0, 1) := by decide +kernel
theorem dX10_nextToken_40 : decode cX10_nextToken 40 = .ok (.getfield 86, 3) := by decide +kernel
theorem dX10_nextToken_43 : decode cX10_nextToken 43 = .ok (.putfield 89, 3) := by decide +kernel
theorem dX10_nextToken_46 : decode cX10_nextToken 46 = .ok (.aload_n 0, 1) := by decide +kernel
theorem dX10_nextToken_47 : decode cX10_nextToken 47 = .ok (.iconst 0, 1) := by decide +kernel
theorem dX10_nextToken_48 : decode cX10_nextToken 48 = .ok (.putfield 92, 3) := by decide +kernel
theorem dX10_nextToken_51 : decode cX10_nextToken 51 = .ok (.aload_n 0, 1) := by decide +kernel
theorem dX10_nextToken_52 : decode cX10_nextToken 52 = .ok (.iconst 0, 1) := by decide +kernel
theorem dX10_nextToken_53 : decode cX10_nextToken 53 = .ok (.putfield 95, 3) := by decide +kernel
theorem dX10_nextToken_56 : decode cX10_nextToken 56 = .ok (.aload_n 0, 1) := by decide +kernel
theorem dX10_nextToken_57 : decode cX10_nextToken 57 = .ok (.getfield 86, 3) := by decide +kernel
theorem dX10_nextToken_60 : decode cX10_nextToken 60 = .ok (.aload_n 0, 1) := by decide +kernel
theorem dX10_nextToken_61 : decode cX10_nextToken 61 = .ok (.getfield 81, 3) := by decide +kernel
theorem dX10_nextToken_64 : decode cX10_nextToken 64 = .ok (.if_icmp .ne 13, 3) := by decide +kernel
theorem dX10_nextToken_67 : decode cX10_nextToken 67 = .ok (.aload_n 0, 1) := by decide +kernel
theorem dX10_nextToken_68 : decode cX10_nextToken 68 = .ok (.ldc2_w 98, 3) := by decide +kernel
theorem dX10_nextToken_71 : decode cX10_nextToken 71 = .ok (.putfield 100, 3) := by decide +kernel
theorem dX10_nextToken_74 : decode cX10_nextToken 74 = .ok (.goto 320, 3) := by decide +kernel
theorem dX10_nextToken_77 : decode cX10_nextToken 77 = .ok (.aload_n 0, 1) := by decide +kernel
theorem dX10_nextToken_78 : decode cX10_nextToken 78 = .ok (.getfield 26, 3) := by decide +kernel
theorem dX10_nextToken_81 : decode cX10_nextToken 81 = .ok (.aload_n 0, 1) := by decide +kernel
theorem dX10_nextToken_82 : decode cX10_nextToken 82 = .ok (.getfield 86, 3) := by decide +kernel
theorem dX10_nextToken_85 : decode cX10_nextToken 85 = .ok (.iaload, 1) := by decide +kernel
theorem dX10_nextToken_86 : decode cX10_nextToken 86 = .ok (.bipush 97, 2) := by decide +kernel
theorem dX10_nextToken_88 : decode cX10_nextToken 88 = .ok (.bipush 122, 2) := by decide +kernel
theorem dX10_nextToken_90 : decode cX10_nextToken 90 = .ok (.invokestatic 71, 3) := by decide +kernel
theorem dX10_nextToken_93 : decode cX10_nextToken 93 = .ok (.ifCond .eq 129, 3) := by decide +kernel
theorem dX10_nextToken_96 : decode cX10_nextToken 96 = .ok (.aload_n 0, 1) := by decide +kernel
theorem dX10_nextToken_97 : decode cX10_nextToken 97 = .ok (.lconst 0, 1) := by decide +kernel
theorem dX10_nextToken_98 : decode cX10_nextToken 98 = .ok (.putfield 100, 3) := by decide +kernel
theorem dX10_nextToken_101 : decode cX10_nextToken 101 = .ok (.aload_n 0, 1) := by decide +kernel
theorem dX10_nextToken_102 : decode cX10_nextToken 102 = .ok (.getfield 86, 3) := by decide +kernel
theorem dX10_nextToken_105 : decode cX10_nextToken 105 = .ok (.aload_n 0, 1) := by decide +kernel
theorem dX10_nextToken_106 : decode cX10_nextToken 106 = .ok (.getfield 81, 3) := by decide +kernel
theorem dX10_nextToken_109 : decode cX10_nextToken 109 = .ok (.if_icmp .ge 82, 3) := by decide +kernel
theorem dX10_nextToken_112 : decode cX10_nextToken 112 = .ok (.aload_n 0, 1) := by decide +kernel
theorem dX10_nextToken_113 : decode cX10_nextToken 113 = .ok (.getfield 26, 3) := by decide +kernel
theorem dX10_nextToken_116 : decode cX10_nextToken 116 = .ok (.aload_n 0, 1) := by decide +kernel
theorem dX10_nextToken_117 : decode cX10_nextToken 117 = .ok (.getfield 86, 3) := by decide +kernel
theorem dX10_nextToken_120 : decode cX10_nextToken 120 = .ok (.iaload, 1) := by decide +kernel
theorem dX10_nextToken_121 : decode cX10_nextToken 121 = .ok (.bipush 97, 2) := by decide +kernel
theorem dX10_nextToken_123 : decode cX10_nextToken 123 = .ok (.bipush 122, 2) := by decide +kernel
theorem dX10_nextToken_125 : decode cX10_nextToken 125 = .ok (.invokestatic 71, 3) := by decide +kernel
theorem dX10_nextToken_128 : decode cX10_nextToken 128 = .ok (.ifCond .eq 63, 3) := by decide +kernel
theorem dX10_nextToken_131 : decode cX10_nextToken 131 = .ok (.aload_n 0, 1) := by decide +kernel
theorem dX10_nextToken_132 : decode cX10_nextToken 132 = .ok (.aload_n 0, 1) := by decide +kernel
theorem dX10_nextToken_133 : decode cX10_nextToken 133 = .ok (.getfield 86, 3) := by decide +kernel
theorem dX10_nextToken_136 : decode cX10_nextToken 136 = .ok (.aload_n 0, 1) := by decide +kernel
theorem dX10_nextToken_137 : decode cX10_nextToken 137 = .ok (.getfield 89, 3) := by decide +kernel
theorem dX10_nextToken_140 : decode cX10_nextToken 140 = .ok (.isub, 1) := by decide +kernel
theorem dX10_nextToken_141 : decode cX10_nextToken 141 = .ok (.bipush 9, 2) := by decide +kernel
theorem dX10_nextToken_143 : decode cX10_nextToken 143 = .ok (.if_icmp .ge 29, 3) := by decide +kernel
theorem dX10_nextToken_146 : decode cX10_nextToken 146 = .ok (.ldc2_w 104, 3) := by decide +kernel
theorem dX10_nextToken_149 : decode cX10_nextToken 149 = .ok (.aload_n 0, 1) := by decide +kernel
theorem dX10_nextToken_150 : decode cX10_nextToken 150 = .ok (.getfield 100, 3) := by decide +kernel
theorem dX10_nextToken_153 : decode cX10_nextToken 153 = .ok (.lmul, 1) := by decide +kernel
theorem dX10_nextToken_154 : decode cX10_nextToken 154 = .ok (.aload_n 0, 1) := by decide +kernel
theorem dX10_nextToken_155 : decode cX10_nextToken 155 = .ok (.getfield 26, 3) := by decide +kernel
theorem dX10_nextToken_158 : decode cX10_nextToken 158 = .ok (.aload_n 0, 1) := by decide +kernel
theorem dX10_nextToken_159 : decode cX10_nextToken 159 = .ok (.getfield 86, 3) := by decide +kernel
theorem dX10_nextToken_162 : decode cX10_nextToken 162 = .ok (.iaload, 1) := by decide +kernel
theorem dX10_nextToken_163 : decode cX10_nextToken 163 = .ok (.i2l, 1) := by decide +kernel
theorem dX10_nextToken_164 : decode cX10_nextToken 164 = .ok (.ladd, 1) := by decide +kernel
theorem dX10_nextToken_165 : decode cX10_nextToken 165 = .ok (.ldc2_w 106, 3) := by decide +kernel
theorem dX10_nextToken_168 : decode cX10_nextToken 168 = .ok (.lsub, 1) := by decide +kernel
theorem dX10_nextToken_169 : decode cX10_nextToken 169 = .ok (.goto 6, 3) := by decide +kernel
theorem dX10_nextToken_172 : decode cX10_nextToken 172 = .ok (.ldc2_w 108, 3) := by decide +kernel
theorem dX10_nextToken_175 : decode cX10_nextToken 175 = .ok (.putfield 100, 3) := by decide +kernel
theorem dX10_nextToken_178 : decode cX10_nextToken 178 = .ok (.aload_n 0, 1) := by decide +kernel
theorem dX10_nextToken_179 : decode cX10_nextToken 179 = .ok (.dup, 1) := by decide +kernel
theorem dX10_nextToken_180 : decode cX10_nextToken 180 = .ok (.getfield 86, 3) := by decide +kernel
theorem dX10_nextToken_183 : decode cX10_nextToken 183 = .ok (.iconst 1, 1) := by decide +kernel
theorem dX10_nextToken_184 : decode cX10_nextToken 184 = .ok (.iadd, 1) := by decide +kernel
theorem dX10_nextToken_185 : decode cX10_nextToken 185 = .ok (.putfield 86, 3) := by decide +kernel
theorem dX10_nextToken_188 : decode cX10_nextToken 188 = .ok (.goto (-87), 3) := by decide +kernel
theorem dX10_nextToken_191 : decode cX10_nextToken 191 = .ok (.aload_n 0, 1) := by decide +kernel
theorem dX10_nextToken_192 : decode cX10_nextToken 192 = .ok (.aload_n 0, 1) := by decide +kernel
theorem dX10_nextToken_193 : decode cX10_nextToken 193 = .ok (.getfield 86, 3) := by decide +kernel
theorem dX10_nextToken_196 : decode cX10_nextToken 196 = .ok (.aload_n 0, 1) := by decide +kernel
theorem dX10_nextToken_197 : decode cX10_nextToken 197 = .ok (.getfield 89, 3) := by decide +kernel
theorem dX10_nextToken_200 : decode cX10_nextToken 200 = .ok (.isub, 1) := by decide +kernel
theorem dX10_nextToken_201 : decode cX10_nextToken 201 = .ok (.bipush 9, 2) := by decide +kernel
theorem dX10_nextToken_203 : decode cX10_nextToken 203 = .ok (.if_icmp .le 9, 3) := by decide +kernel
theorem dX10_nextToken_206 : decode cX10_nextToken 206 = .ok (.ldc2_w 108, 3) := by decide +kernel
theorem dX10_nextToken_209 : decode cX10_nextToken 209 = .ok (.goto 7, 3) := by decide +kernel
theorem dX10_nextToken_212 : decode cX10_nextToken 212 = .ok (.aload_n 0, 1) := by decide +kernel
theorem dX10_nextToken_213 : decode cX10_nextToken 213 = .ok (.getfield 100, 3) := by decide +kernel
theorem dX10_nextToken_216 : decode cX10_nextToken 216 = .ok (.putfield 100, 3) := by decide +kernel
theorem dX10_nextToken_219 : decode cX10_nextToken 219 = .ok (.goto 175, 3) := by decide +kernel
theorem dX10_nextToken_222 : decode cX10_nextToken 222 = .ok (.aload_n 0, 1) := by decide +kernel
theorem dX10_nextToken_223 : decode cX10_nextToken 223 = .ok (.getfield 26, 3) := by decide +kernel
theorem dX10_nextToken_226 : decode cX10_nextToken 226 = .ok (.aload_n 0, 1) := by decide +kernel
theorem dX10_nextToken_227 : decode cX10_nextToken 227 = .ok (.getfield 86, 3) := by decide +kernel
theorem dX10_nextToken_230 : decode cX10_nextToken 230 = .ok (.iaload, 1) := by decide +kernel
theorem dX10_nextToken_231 : decode cX10_nextToken 231 = .ok (.bipush 48, 2) := by decide +kernel
theorem dX10_nextToken_233 : decode cX10_nextToken 233 = .ok (.bipush 57, 2) := by decide +kernel
theorem dX10_nextToken_235 : decode cX10_nextToken 235 = .ok (.invokestatic 71, 3) := by decide +kernel
theorem dX10_nextToken_238 : decode cX10_nextToken 238 = .ok (.ifCond .eq 119, 3) := by decide +kernel
theorem dX10_nextToken_241 : decode cX10_nextToken 241 = .ok (.aload_n 0, 1) := by decide +kernel
theorem dX10_nextToken_242 : decode cX10_nextToken 242 = .ok (.getfield 86, 3) := by decide +kernel
theorem dX10_nextToken_245 : decode cX10_nextToken 245 = .ok (.aload_n 0, 1) := by decide +kernel
theorem dX10_nextToken_246 : decode cX10_nextToken 246 = .ok (.getfield 81, 3) := by decide +kernel
theorem dX10_nextToken_249 : decode cX10_nextToken 249 = .ok (.if_icmp .ge 84, 3) := by decide +kernel
theorem dX10_nextToken_252 : decode cX10_nextToken 252 = .ok (.aload_n 0, 1) := by decide +kernel
theorem dX10_nextToken_253 : decode cX10_nextToken 253 = .ok (.getfield 26, 3) := by decide +kernel
theorem dX10_nextToken_256 : decode cX10_nextToken 256 = .ok (.aload_n 0, 1) := by decide +kernel
theorem dX10_nextToken_257 : decode cX10_nextToken 257 = .ok (.getfield 86, 3) := by decide +kernel
theorem dX10_nextToken_260 : decode cX10_nextToken 260 = .ok (.iaload, 1) := by decide +kernel
theorem dX10_nextToken_261 : decode cX10_nextToken 261 = .ok (.bipush 48, 2) := by decide +kernel
theorem dX10_nextToken_263 : decode cX10_nextToken 263 = .ok (.bipush 57, 2) := by decide +kernel
theorem dX10_nextToken_265 : decode cX10_nextToken 265 = .ok (.invokestatic 71, 3) := by decide +kernel
theorem dX10_nextToken_268 : decode cX10_nextToken 268 = .ok (.ifCond .eq 65, 3) := by decide +kernel
theorem dX10_nextToken_271 : decode cX10_nextToken 271 = .ok (.aload_n 0, 1) := by decide +kernel
theorem dX10_nextToken_272 : decode cX10_nextToken 272 = .ok (.aload_n 0, 1) := by decide +kernel
theorem dX10_nextToken_273 : decode cX10_nextToken 273 = .ok (.getfield 92, 3) := by decide +kernel
theorem dX10_nextToken_276 : decode cX10_nextToken 276 = .ok (.iconst 4, 1) := by decide +kernel
theorem dX10_nextToken_277 : decode cX10_nextToken 277 = .ok (.if_icmp .ge 26, 3) := by decide +kernel
theorem dX10_nextToken_280 : decode cX10_nextToken 280 = .ok (.bipush 10, 2) := by decide +kernel
theorem dX10_nextToken_282 : decode cX10_nextToken 282 = .ok (.aload_n 0, 1) := by decide +kernel
theorem dX10_nextToken_283 : decode cX10_nextToken 283 = .ok (.getfield 95, 3) := by decide +kernel
theorem dX10_nextToken_286 : decode cX10_nextToken 286 = .ok (.imul, 1) := by decide +kernel
theorem dX10_nextToken_287 : decode cX10_nextToken 287 = .ok (.aload_n 0, 1) := by decide +kernel
theorem dX10_nextToken_288 : decode cX10_nextToken 288 = .ok (.getfield 26, 3) := by decide +kernel
theorem dX10_nextToken_291 : decode cX10_nextToken 291 = .ok (.aload_n 0, 1) := by decide +kernel
theorem dX10_nextToken_292 : decode cX10_nextToken 292 = .ok (.getfield 86, 3) := by decide +kernel
theorem dX10_nextToken_295 : decode cX10_nextToken 295 = .ok (.iaload, 1) := by decide +kernel
theorem dX10_nextToken_296 : decode cX10_nextToken 296 = .ok (.iadd, 1) := by decide +kernel
theorem dX10_nextToken_297 : decode cX10_nextToken 297 = .ok (.bipush 48, 2) := by decide +kernel
theorem dX10_nextToken_299 : decode cX10_nextToken 299 = .ok (.isub, 1) := by decide +kernel
theorem dX10_nextToken_300 : decode cX10_nextToken 300 = .ok (.goto 7, 3) := by decide +kernel
theorem dX10_nextToken_303 : decode cX10_nextToken 303 = .ok (.aload_n 0, 1) := by decide +kernel
theorem dX10_nextToken_304 : decode cX10_nextToken 304 = .ok (.getfield 95, 3) := by decide +kernel
theorem dX10_nextToken_307 : decode cX10_nextToken 307 = .ok (.putfield 95, 3) := by decide +kernel
theorem dX10_nextToken_310 : decode cX10_nextToken 310 = .ok (.aload_n 0, 1) := by decide +kernel
theorem dX10_nextToken_311 : decode cX10_nextToken 311 = .ok (.dup, 1) := by decide +kernel
theorem dX10_nextToken_312 : decode cX10_nextToken 312 = .ok (.getfield 92, 3) := by decide +kernel
theorem dX10_nextToken_315 : decode cX10_nextToken 315 = .ok (.iconst 1, 1) := by decide +kernel
theorem dX10_nextToken_316 : decode cX10_nextToken 316 = .ok (.iadd, 1) := by decide +kernel
theorem dX10_nextToken_317 : decode cX10_nextToken 317 = .ok (.putfield 92, 3) := by decide +kernel
theorem dX10_nextToken_320 : decode cX10_nextToken 320 = .ok (.aload_n 0, 1) := by decide +kernel
theorem dX10_nextToken_321 : decode cX10_nextToken 321 = .ok (.dup, 1) := by decide +kernel
theorem dX10_nextToken_322 : decode cX10_nextToken 322 = .ok (.getfield 86, 3) := by decide +kernel
theorem dX10_nextToken_325 : decode cX10_nextToken 325 = .ok (.iconst 1, 1) := by decide +kernel
theorem dX10_nextToken_326 : decode cX10_nextToken 326 = .ok (.iadd, 1) := by decide +kernel
theorem dX10_nextToken_327 : decode cX10_nextToken 327 = .ok (.putfield 86, 3) := by decide +kernel
theorem dX10_nextToken_330 : decode cX10_nextToken 330 = .ok (.goto (-89), 3) := by decide +kernel
theorem dX10_nextToken_333 : decode cX10_nextToken 333 = .ok (.aload_n 0, 1) := by decide +kernel
theorem dX10_nextToken_334 : decode cX10_nextToken 334 = .ok (.aload_n 0, 1) := by decide +kernel
theorem dX10_nextToken_335 : decode cX10_nextToken 335 = .ok (.getfield 92, 3) := by decide +kernel
theorem dX10_nextToken_338 : decode cX10_nextToken 338 = .ok (.iconst 4, 1) := by decide +kernel
theorem dX10_nextToken_339 : decode cX10_nextToken 339 = .ok (.if_icmp .le 9, 3) := by decide +kernel
theorem dX10_nextToken_342 : decode cX10_nextToken 342 = .ok (.ldc2_w 108, 3) := by decide +kernel
theorem dX10_nextToken_345 : decode cX10_nextToken 345 = .ok (.goto 6, 3) := by decide +kernel
theorem dX10_nextToken_348 : decode cX10_nextToken 348 = .ok (.ldc2_w 110, 3) := by decide +kernel
theorem dX10_nextToken_351 : decode cX10_nextToken 351 = .ok (.putfield 100, 3) := by decide +kernel
theorem dX10_nextToken_354 : decode cX10_nextToken 354 = .ok (.goto 40, 3) := by decide +kernel
theorem dX10_nextToken_357 : decode cX10_nextToken 357 = .ok (.aload_n 0, 1) := by decide +kernel
theorem dX10_nextToken_358 : decode cX10_nextToken 358 = .ok (.aload_n 0, 1) := by decide +kernel
theorem dX10_nextToken_359 : decode cX10_nextToken 359 = .ok (.getfield 26, 3) := by decide +kernel
theorem dX10_nextToken_362 : decode cX10_nextToken 362 = .ok (.aload_n 0, 1) := by decide +kernel
theorem dX10_nextToken_363 : decode cX10_nextToken 363 = .ok (.getfield 86, 3) := by decide +kernel
theorem dX10_nextToken_366 : decode cX10_nextToken 366 = .ok (.iaload, 1) := by decide +kernel
theorem dX10_nextToken_367 : decode cX10_nextToken 367 = .ok (.bipush 59, 2) := by decide +kernel
theorem dX10_nextToken_369 : decode cX10_nextToken 369 = .ok (.if_icmp .ne 9, 3) := by decide +kernel
theorem dX10_nextToken_372 : decode cX10_nextToken 372 = .ok (.ldc2_w 112, 3) := by decide +kernel
theorem dX10_nextToken_375 : decode cX10_nextToken 375 = .ok (.goto 6, 3) := by decide +kernel
theorem dX10_nextToken_378 : decode cX10_nextToken 378 = .ok (.ldc2_w 108, 3) := by decide +kernel
theorem dX10_nextToken_381 : decode cX10_nextToken 381 = .ok (.putfield 100, 3) := by decide +kernel
theorem dX10_nextToken_384 : decode cX10_nextToken 384 = .ok (.aload_n 0, 1) := by decide +kernel
theorem dX10_nextToken_385 : decode cX10_nextToken 385 = .ok (.dup, 1) := by decide +kernel
theorem dX10_nextToken_386 : decode cX10_nextToken 386 = .ok (.getfield 86, 3) := by decide +kernel
theorem dX10_nextToken_389 : decode cX10_nextToken 389 = .ok (.iconst 1, 1) := by decide +kernel
theorem dX10_nextToken_390 : decode cX10_nextToken 390 = .ok (.iadd, 1) := by decide +kernel
theorem dX10_nextToken_391 : decode cX10_nextToken 391 = .ok (.putfield 86, 3) := by decide +kernel
theorem dX10_nextToken_394 : decode cX10_nextToken 394 = .ok (.return_, 1) := by decide +kernel
theorem dX10_fails_0 : decode cX10_fails 0 = .ok (.aload_n 0, 1) := by decide +kernel
theorem dX10_fails_1 : decode cX10_fails 1 = .ok (.aload_n 0, 1) := by decide +kernel
theorem dX10_fails_2 : decode cX10_fails 2 = .ok (.getfield 89, 3) := by decide +kernel
theorem dX10_fails_5 : decode cX10_fails 5 = .ok (.putfield 114, 3) := by decide +kernel
theorem dX10_fails_8 : decode cX10_fails 8 = .ok (.iconst 0, 1) := by decide +kernel
theorem dX10_fails_9 : decode cX10_fails 9 = .ok (.ireturn, 1) := by decide +kernel
theorem dX10_isNumber_0 : decode cX10_isNumber 0 = .ok (.aload_n 0, 1) := by decide +kernel
theorem dX10_isNumber_1 : decode cX10_isNumber 1 = .ok (.invokevirtual 117, 3) := by decide +kernel
theorem dX10_isNumber_4 : decode cX10_isNumber 4 = .ok (.aload_n 0, 1) := by decide +kernel
theorem dX10_isNumber_5 : decode cX10_isNumber 5 = .ok (.getfield 100, 3) := by decide +kernel
theorem dX10_isNumber_8 : decode cX10_isNumber 8 = .ok (.ldc2_w 110, 3) := by decide +kernel
theorem dX10_isNumber_11 : decode cX10_isNumber 11 = .ok (.lcmp, 1) := by decide +kernel
theorem dX10_isNumber_12 : decode cX10_isNumber 12 = .ok (.ifCond .ne 15, 3) := by decide +kernel
theorem dX10_isNumber_15 : decode cX10_isNumber 15 = .ok (.aload_n 0, 1) := by decide +kernel
theorem dX10_isNumber_16 : decode cX10_isNumber 16 = .ok (.getfield 95, 3) := by decide +kernel
theorem dX10_isNumber_19 : decode cX10_isNumber 19 = .ok (.iload_n 2, 1) := by decide +kernel
theorem dX10_isNumber_20 : decode cX10_isNumber 20 = .ok (.iload_n 3, 1) := by decide +kernel
theorem dX10_isNumber_21 : decode cX10_isNumber 21 = .ok (.invokestatic 71, 3) := by decide +kernel
theorem dX10_isNumber_24 : decode cX10_isNumber 24 = .ok (.ifCond .ne 8, 3) := by decide +kernel
theorem dX10_isNumber_27 : decode cX10_isNumber 27 = .ok (.aload_n 0, 1) := by decide +kernel
theorem dX10_isNumber_28 : decode cX10_isNumber 28 = .ok (.invokevirtual 120, 3) := by decide +kernel
theorem dX10_isNumber_31 : decode cX10_isNumber 31 = .ok (.ireturn, 1) := by decide +kernel
theorem dX10_isNumber_32 : decode cX10_isNumber 32 = .ok (.aload_n 0, 1) := by decide +kernel
theorem dX10_isNumber_33 : decode cX10_isNumber 33 = .ok (.getfield 29, 3) := by decide +kernel
theorem dX10_isNumber_36 : decode cX10_isNumber 36 = .ok (.iload_n 1, 1) := by decide +kernel
theorem dX10_isNumber_37 : decode cX10_isNumber 37 = .ok (.aload_n 0, 1) := by decide +kernel
theorem dX10_isNumber_38 : decode cX10_isNumber 38 = .ok (.getfield 95, 3) := by decide +kernel
theorem dX10_isNumber_41 : decode cX10_isNumber 41 = .ok (.iastore, 1) := by decide +kernel
theorem dX10_isNumber_42 : decode cX10_isNumber 42 = .ok (.iconst 1, 1) := by decide +kernel
theorem dX10_isNumber_43 : decode cX10_isNumber 43 = .ok (.ireturn, 1) := by decide +kernel
theorem dX10_isWay_0 : decode cX10_isWay 0 = .ok (.aload_n 0, 1) := by decide +kernel
theorem dX10_isWay_1 : decode cX10_isWay 1 = .ok (.iload_n 1, 1) := by decide +kernel
theorem dX10_isWay_2 : decode cX10_isWay 2 = .ok (.iconst 1, 1) := by decide +kernel
theorem dX10_isWay_3 : decode cX10_isWay 3 = .ok (.iadd, 1) := by decide +kernel
theorem dX10_isWay_4 : decode cX10_isWay 4 = .ok (.iconst 0, 1) := by decide +kernel
theorem dX10_isWay_5 : decode cX10_isWay 5 = .ok (.bipush 9, 2) := by decide +kernel
theorem dX10_isWay_7 : decode cX10_isWay 7 = .ok (.invokevirtual 124, 3) := by decide +kernel
theorem dX10_isWay_10 : decode cX10_isWay 10 = .ok (.ifCond .eq 16, 3) := by decide +kernel
theorem dX10_isWay_13 : decode cX10_isWay 13 = .ok (.aload_n 0, 1) := by decide +kernel
theorem dX10_isWay_14 : decode cX10_isWay 14 = .ok (.iload_n 1, 1) := by decide +kernel
theorem dX10_isWay_15 : decode cX10_isWay 15 = .ok (.iconst 2, 1) := by decide +kernel
theorem dX10_isWay_16 : decode cX10_isWay 16 = .ok (.iadd, 1) := by decide +kernel
theorem dX10_isWay_17 : decode cX10_isWay 17 = .ok (.iconst 0, 1) := by decide +kernel
theorem dX10_isWay_18 : decode cX10_isWay 18 = .ok (.bipush 9, 2) := by decide +kernel
theorem dX10_isWay_20 : decode cX10_isWay 20 = .ok (.invokevirtual 124, 3) := by decide +kernel
theorem dX10_isWay_23 : decode cX10_isWay 23 = .ok (.ifCond .ne 5, 3) := by decide +kernel
theorem dX10_isWay_26 : decode cX10_isWay 26 = .ok (.iconst 0, 1) := by decide +kernel
theorem dX10_isWay_27 : decode cX10_isWay 27 = .ok (.ireturn, 1) := by decide +kernel
theorem dX10_isWay_28 : decode cX10_isWay 28 = .ok (.aload_n 0, 1) := by decide +kernel
theorem dX10_isWay_29 : decode cX10_isWay 29 = .ok (.getfield 29, 3) := by decide +kernel
theorem dX10_isWay_32 : decode cX10_isWay 32 = .ok (.iload_n 1, 1) := by decide +kernel
theorem dX10_isWay_33 : decode cX10_isWay 33 = .ok (.iconst 1, 1) := by decide +kernel
theorem dX10_isWay_34 : decode cX10_isWay 34 = .ok (.iadd, 1) := by decide +kernel
theorem dX10_isWay_35 : decode cX10_isWay 35 = .ok (.iaload, 1) := by decide +kernel
theorem dX10_isWay_36 : decode cX10_isWay 36 = .ok (.aload_n 0, 1) := by decide +kernel
theorem dX10_isWay_37 : decode cX10_isWay 37 = .ok (.getfield 29, 3) := by decide +kernel
theorem dX10_isWay_40 : decode cX10_isWay 40 = .ok (.iload_n 1, 1) := by decide +kernel
theorem dX10_isWay_41 : decode cX10_isWay 41 = .ok (.iconst 2, 1) := by decide +kernel
theorem dX10_isWay_42 : decode cX10_isWay 42 = .ok (.iadd, 1) := by decide +kernel
theorem dX10_isWay_43 : decode cX10_isWay 43 = .ok (.iaload, 1) := by decide +kernel
theorem dX10_isWay_44 : decode cX10_isWay 44 = .ok (.if_icmp .ne 10, 3) := by decide +kernel
theorem dX10_isWay_47 : decode cX10_isWay 47 = .ok (.aload_n 0, 1) := by decide +kernel
theorem dX10_isWay_48 : decode cX10_isWay 48 = .ok (.invokevirtual 120, 3) := by decide +kernel
theorem dX10_isWay_51 : decode cX10_isWay 51 = .ok (.goto 14, 3) := by decide +kernel
theorem dX10_isWay_54 : decode cX10_isWay 54 = .ok (.aload_n 0, 1) := by decide +kernel
theorem dX10_isWay_55 : decode cX10_isWay 55 = .ok (.iload_n 1, 1) := by decide +kernel
theorem dX10_isWay_56 : decode cX10_isWay 56 = .ok (.iconst 3, 1) := by decide +kernel
theorem dX10_isWay_57 : decode cX10_isWay 57 = .ok (.iadd, 1) := by decide +kernel
theorem dX10_isWay_58 : decode cX10_isWay 58 = .ok (.iconst 0, 1) := by decide +kernel
theorem dX10_isWay_59 : decode cX10_isWay 59 = .ok (.sipush 999, 3) := by decide +kernel
theorem dX10_isWay_62 : decode cX10_isWay 62 = .ok (.invokevirtual 124, 3) := by decide +kernel
theorem dX10_isWay_65 : decode cX10_isWay 65 = .ok (.ireturn, 1) := by decide +kernel
theorem dX10_isLine_0 : decode cX10_isLine 0 = .ok (.aload_n 0, 1) := by decide +kernel
theorem dX10_isLine_1 : decode cX10_isLine 1 = .ok (.invokevirtual 117, 3) := by decide +kernel
theorem dX10_isLine_4 : decode cX10_isLine 4 = .ok (.aload_n 0, 1) := by decide +kernel
theorem dX10_isLine_5 : decode cX10_isLine 5 = .ok (.getfield 29, 3) := by decide +kernel
theorem dX10_isLine_8 : decode cX10_isLine 8 = .ok (.iload_n 1, 1) := by decide +kernel
theorem dX10_isLine_9 : decode cX10_isLine 9 = .ok (.aload_n 0, 1) := by decide +kernel
theorem dX10_isLine_10 : decode cX10_isLine 10 = .ok (.getfield 100, 3) := by decide +kernel
theorem dX10_isLine_13 : decode cX10_isLine 13 = .ok (.ldc2_w 127, 3) := by decide +kernel
theorem dX10_isLine_16 : decode cX10_isLine 16 = .ok (.lcmp, 1) := by decide +kernel
theorem dX10_isLine_17 : decode cX10_isLine 17 = .ok (.ifCond .ne 7, 3) := by decide +kernel
theorem dX10_isLine_20 : decode cX10_isLine 20 = .ok (.iconst 0, 1) := by decide +kernel
theorem dX10_isLine_21 : decode cX10_isLine 21 = .ok (.goto 79, 3) := by decide +kernel
theorem dX10_isLine_24 : decode cX10_isLine 24 = .ok (.aload_n 0, 1) := by decide +kernel
theorem dX10_isLine_25 : decode cX10_isLine 25 = .ok (.getfield 100, 3) := by decide +kernel
theorem dX10_isLine_28 : decode cX10_isLine 28 = .ok (.ldc2_w 129, 3) := by decide +kernel
theorem dX10_isLine_31 : decode cX10_isLine 31 = .ok (.lcmp, 1) := by decide +kernel
theorem dX10_isLine_32 : decode cX10_isLine 32 = .ok (.ifCond .ne 7, 3) := by decide +kernel
theorem dX10_isLine_35 : decode cX10_isLine 35 = .ok (.iconst 1, 1) := by decide +kernel
theorem dX10_isLine_36 : decode cX10_isLine 36 = .ok (.goto 64, 3) := by decide +kernel
theorem dX10_isLine_39 : decode cX10_isLine 39 = .ok (.aload_n 0, 1) := by decide +kernel
theorem dX10_isLine_40 : decode cX10_isLine 40 = .ok (.getfield 100, 3) := by decide +kernel
theorem dX10_isLine_43 : decode cX10_isLine 43 = .ok (.ldc2_w 131, 3) := by decide +kernel
theorem dX10_isLine_46 : decode cX10_isLine 46 = .ok (.lcmp, 1) := by decide +kernel
theorem dX10_isLine_47 : decode cX10_isLine 47 = .ok (.ifCond .ne 7, 3) := by decide +kernel
theorem dX10_isLine_50 : decode cX10_isLine 50 = .ok (.iconst 2, 1) := by decide +kernel
theorem dX10_isLine_51 : decode cX10_isLine 51 = .ok (.goto 49, 3) := by decide +kernel
theorem dX10_isLine_54 : decode cX10_isLine 54 = .ok (.aload_n 0, 1) := by decide +kernel
theorem dX10_isLine_55 : decode cX10_isLine 55 = .ok (.getfield 100, 3) := by decide +kernel
theorem dX10_isLine_58 : decode cX10_isLine 58 = .ok (.ldc2_w 133, 3) := by decide +kernel
theorem dX10_isLine_61 : decode cX10_isLine 61 = .ok (.lcmp, 1) := by decide +kernel
theorem dX10_isLine_62 : decode cX10_isLine 62 = .ok (.ifCond .ne 7, 3) := by decide +kernel
theorem dX10_isLine_65 : decode cX10_isLine 65 = .ok (.iconst 3, 1) := by decide +kernel
theorem dX10_isLine_66 : decode cX10_isLine 66 = .ok (.goto 34, 3) := by decide +kernel
theorem dX10_isLine_69 : decode cX10_isLine 69 = .ok (.aload_n 0, 1) := by decide +kernel
theorem dX10_isLine_70 : decode cX10_isLine 70 = .ok (.getfield 100, 3) := by decide +kernel
theorem dX10_isLine_73 : decode cX10_isLine 73 = .ok (.ldc2_w 135, 3) := by decide +kernel
theorem dX10_isLine_76 : decode cX10_isLine 76 = .ok (.lcmp, 1) := by decide +kernel
theorem dX10_isLine_77 : decode cX10_isLine 77 = .ok (.ifCond .ne 7, 3) := by decide +kernel
theorem dX10_isLine_80 : decode cX10_isLine 80 = .ok (.iconst 4, 1) := by decide +kernel
theorem dX10_isLine_81 : decode cX10_isLine 81 = .ok (.goto 19, 3) := by decide +kernel
theorem dX10_isLine_84 : decode cX10_isLine 84 = .ok (.aload_n 0, 1) := by decide +kernel
theorem dX10_isLine_85 : decode cX10_isLine 85 = .ok (.getfield 100, 3) := by decide +kernel
theorem dX10_isLine_88 : decode cX10_isLine 88 = .ok (.ldc2_w 137, 3) := by decide +kernel
theorem dX10_isLine_91 : decode cX10_isLine 91 = .ok (.lcmp, 1) := by decide +kernel
theorem dX10_isLine_92 : decode cX10_isLine 92 = .ok (.ifCond .ne 7, 3) := by decide +kernel
theorem dX10_isLine_95 : decode cX10_isLine 95 = .ok (.iconst 5, 1) := by decide +kernel
theorem dX10_isLine_96 : decode cX10_isLine 96 = .ok (.goto 4, 3) := by decide +kernel
theorem dX10_isLine_99 : decode cX10_isLine 99 = .ok (.iconst (-1), 1) := by decide +kernel
theorem dX10_isLine_100 : decode cX10_isLine 100 = .ok (.iastore, 1) := by decide +kernel
theorem dX10_isLine_101 : decode cX10_isLine 101 = .ok (.aload_n 0, 1) := by decide +kernel
theorem dX10_isLine_102 : decode cX10_isLine 102 = .ok (.getfield 29, 3) := by decide +kernel
theorem dX10_isLine_105 : decode cX10_isLine 105 = .ok (.iload_n 1, 1) := by decide +kernel
theorem dX10_isLine_106 : decode cX10_isLine 106 = .ok (.iaload, 1) := by decide +kernel
theorem dX10_isLine_107 : decode cX10_isLine 107 = .ok (.tableswitch 226 0 5 #[37, 105, 208, 208, 214, 214], 37) := by decide +kernel
theorem dX10_isLine_144 : decode cX10_isLine 144 = .ok (.aload_n 0, 1) := by decide +kernel
theorem dX10_isLine_145 : decode cX10_isLine 145 = .ok (.iload_n 1, 1) := by decide +kernel
theorem dX10_isLine_146 : decode cX10_isLine 146 = .ok (.iconst 1, 1) := by decide +kernel
theorem dX10_isLine_147 : decode cX10_isLine 147 = .ok (.iadd, 1) := by decide +kernel
theorem dX10_isLine_148 : decode cX10_isLine 148 = .ok (.iconst 0, 1) := by decide +kernel
theorem dX10_isLine_149 : decode cX10_isLine 149 = .ok (.bipush 9, 2) := by decide +kernel
theorem dX10_isLine_151 : decode cX10_isLine 151 = .ok (.invokevirtual 124, 3) := by decide +kernel
theorem dX10_isLine_154 : decode cX10_isLine 154 = .ok (.ifCond .eq 56, 3) := by decide +kernel
theorem dX10_isLine_157 : decode cX10_isLine 157 = .ok (.aload_n 0, 1) := by decide +kernel
theorem dX10_isLine_158 : decode cX10_isLine 158 = .ok (.iload_n 1, 1) := by decide +kernel
theorem dX10_isLine_159 : decode cX10_isLine 159 = .ok (.iconst 2, 1) := by decide +kernel
theorem dX10_isLine_160 : decode cX10_isLine 160 = .ok (.iadd, 1) := by decide +kernel
theorem dX10_isLine_161 : decode cX10_isLine 161 = .ok (.iconst 0, 1) := by decide +kernel
theorem dX10_isLine_162 : decode cX10_isLine 162 = .ok (.sipush 9999, 3) := by decide +kernel
theorem dX10_isLine_165 : decode cX10_isLine 165 = .ok (.invokevirtual 124, 3) := by decide +kernel
theorem dX10_isLine_168 : decode cX10_isLine 168 = .ok (.ifCond .eq 42, 3) := by decide +kernel
theorem dX10_isLine_171 : decode cX10_isLine 171 = .ok (.aload_n 0, 1) := by decide +kernel
theorem dX10_isLine_172 : decode cX10_isLine 172 = .ok (.iload_n 1, 1) := by decide +kernel
theorem dX10_isLine_173 : decode cX10_isLine 173 = .ok (.iconst 3, 1) := by decide +kernel
theorem dX10_isLine_174 : decode cX10_isLine 174 = .ok (.iadd, 1) := by decide +kernel
theorem dX10_isLine_175 : decode cX10_isLine 175 = .ok (.aload_n 0, 1) := by decide +kernel
theorem dX10_isLine_176 : decode cX10_isLine 176 = .ok (.getfield 29, 3) := by decide +kernel
theorem dX10_isLine_179 : decode cX10_isLine 179 = .ok (.iload_n 1, 1) := by decide +kernel
theorem dX10_isLine_180 : decode cX10_isLine 180 = .ok (.iconst 2, 1) := by decide +kernel
theorem dX10_isLine_181 : decode cX10_isLine 181 = .ok (.iadd, 1) := by decide +kernel
theorem dX10_isLine_182 : decode cX10_isLine 182 = .ok (.iaload, 1) := by decide +kernel
theorem dX10_isLine_183 : decode cX10_isLine 183 = .ok (.sipush 9999, 3) := by decide +kernel
theorem dX10_isLine_186 : decode cX10_isLine 186 = .ok (.invokevirtual 124, 3) := by decide +kernel
theorem dX10_isLine_189 : decode cX10_isLine 189 = .ok (.ifCond .eq 21, 3) := by decide +kernel
theorem dX10_isLine_192 : decode cX10_isLine 192 = .ok (.aload_n 0, 1) := by decide +kernel
theorem dX10_isLine_193 : decode cX10_isLine 193 = .ok (.iload_n 1, 1) := by decide +kernel
theorem dX10_isLine_194 : decode cX10_isLine 194 = .ok (.iconst 4, 1) := by decide +kernel
theorem dX10_isLine_195 : decode cX10_isLine 195 = .ok (.iadd, 1) := by decide +kernel
theorem dX10_isLine_196 : decode cX10_isLine 196 = .ok (.iconst 1, 1) := by decide +kernel
theorem dX10_isLine_197 : decode cX10_isLine 197 = .ok (.sipush 999, 3) := by decide +kernel
theorem dX10_isLine_200 : decode cX10_isLine 200 = .ok (.invokevirtual 124, 3) := by decide +kernel
theorem dX10_isLine_203 : decode cX10_isLine 203 = .ok (.ifCond .eq 7, 3) := by decide +kernel
theorem dX10_isLine_206 : decode cX10_isLine 206 = .ok (.iconst 1, 1) := by decide +kernel
theorem dX10_isLine_207 : decode cX10_isLine 207 = .ok (.goto 4, 3) := by decide +kernel
theorem dX10_isLine_210 : decode cX10_isLine 210 = .ok (.iconst 0, 1) := by decide +kernel
theorem dX10_isLine_211 : decode cX10_isLine 211 = .ok (.ireturn, 1) := by decide +kernel
theorem dX10_isLine_212 : decode cX10_isLine 212 = .ok (.aload_n 0, 1) := by decide +kernel
theorem dX10_isLine_213 : decode cX10_isLine 213 = .ok (.iload_n 1, 1) := by decide +kernel
theorem dX10_isLine_214 : decode cX10_isLine 214 = .ok (.iconst 1, 1) := by decide +kernel
theorem dX10_isLine_215 : decode cX10_isLine 215 = .ok (.iadd, 1) := by decide +kernel
theorem dX10_isLine_216 : decode cX10_isLine 216 = .ok (.iconst 0, 1) := by decide +kernel
theorem dX10_isLine_217 : decode cX10_isLine 217 = .ok (.bipush 8, 2) := by decide +kernel
theorem dX10_isLine_219 : decode cX10_isLine 219 = .ok (.invokevirtual 124, 3) := by decide +kernel
theorem dX10_isLine_222 : decode cX10_isLine 222 = .ok (.ifCond .eq 91, 3) := by decide +kernel
theorem dX10_isLine_225 : decode cX10_isLine 225 = .ok (.aload_n 0, 1) := by decide +kernel
theorem dX10_isLine_226 : decode cX10_isLine 226 = .ok (.iload_n 1, 1) := by decide +kernel
theorem dX10_isLine_227 : decode cX10_isLine 227 = .ok (.iconst 2, 1) := by decide +kernel
theorem dX10_isLine_228 : decode cX10_isLine 228 = .ok (.iadd, 1) := by decide +kernel
theorem dX10_isLine_229 : decode cX10_isLine 229 = .ok (.iconst 0, 1) := by decide +kernel
theorem dX10_isLine_230 : decode cX10_isLine 230 = .ok (.bipush 9, 2) := by decide +kernel
theorem dX10_isLine_232 : decode cX10_isLine 232 = .ok (.invokevirtual 124, 3) := by decide +kernel
theorem dX10_isLine_235 : decode cX10_isLine 235 = .ok (.ifCond .eq 78, 3) := by decide +kernel
theorem dX10_isLine_238 : decode cX10_isLine 238 = .ok (.aload_n 0, 1) := by decide +kernel
theorem dX10_isLine_239 : decode cX10_isLine 239 = .ok (.iload_n 1, 1) := by decide +kernel
theorem dX10_isLine_240 : decode cX10_isLine 240 = .ok (.iconst 3, 1) := by decide +kernel
theorem dX10_isLine_241 : decode cX10_isLine 241 = .ok (.iadd, 1) := by decide +kernel
theorem dX10_isLine_242 : decode cX10_isLine 242 = .ok (.iconst 0, 1) := by decide +kernel
theorem dX10_isLine_243 : decode cX10_isLine 243 = .ok (.sipush 9999, 3) := by decide +kernel
theorem dX10_isLine_246 : decode cX10_isLine 246 = .ok (.invokevirtual 124, 3) := by decide +kernel
theorem dX10_isLine_249 : decode cX10_isLine 249 = .ok (.ifCond .eq 64, 3) := by decide +kernel
theorem dX10_isLine_252 : decode cX10_isLine 252 = .ok (.aload_n 0, 1) := by decide +kernel
theorem dX10_isLine_253 : decode cX10_isLine 253 = .ok (.iload_n 1, 1) := by decide +kernel
theorem dX10_isLine_254 : decode cX10_isLine 254 = .ok (.iconst 4, 1) := by decide +kernel
theorem dX10_isLine_255 : decode cX10_isLine 255 = .ok (.iadd, 1) := by decide +kernel
theorem dX10_isLine_256 : decode cX10_isLine 256 = .ok (.iconst 0, 1) := by decide +kernel
theorem dX10_isLine_257 : decode cX10_isLine 257 = .ok (.sipush 999, 3) := by decide +kernel
theorem dX10_isLine_260 : decode cX10_isLine 260 = .ok (.invokevirtual 124, 3) := by decide +kernel
theorem dX10_isLine_263 : decode cX10_isLine 263 = .ok (.ifCond .eq 50, 3) := by decide +kernel
theorem dX10_isLine_266 : decode cX10_isLine 266 = .ok (.aload_n 0, 1) := by decide +kernel
theorem dX10_isLine_267 : decode cX10_isLine 267 = .ok (.iload_n 1, 1) := by decide +kernel
theorem dX10_isLine_268 : decode cX10_isLine 268 = .ok (.iconst 5, 1) := by decide +kernel
theorem dX10_isLine_269 : decode cX10_isLine 269 = .ok (.iadd, 1) := by decide +kernel
theorem dX10_isLine_270 : decode cX10_isLine 270 = .ok (.iconst 0, 1) := by decide +kernel
theorem dX10_isLine_271 : decode cX10_isLine 271 = .ok (.sipush 999, 3) := by decide +kernel
theorem dX10_isLine_274 : decode cX10_isLine 274 = .ok (.invokevirtual 124, 3) := by decide +kernel
theorem dX10_isLine_277 : decode cX10_isLine 277 = .ok (.ifCond .eq 36, 3) := by decide +kernel
theorem dX10_isLine_280 : decode cX10_isLine 280 = .ok (.aload_n 0, 1) := by decide +kernel
theorem dX10_isLine_281 : decode cX10_isLine 281 = .ok (.iload_n 1, 1) := by decide +kernel
theorem dX10_isLine_282 : decode cX10_isLine 282 = .ok (.bipush 6, 2) := by decide +kernel
theorem dX10_isLine_284 : decode cX10_isLine 284 = .ok (.iadd, 1) := by decide +kernel
theorem dX10_isLine_285 : decode cX10_isLine 285 = .ok (.iconst 0, 1) := by decide +kernel
theorem dX10_isLine_286 : decode cX10_isLine 286 = .ok (.sipush 999, 3) := by decide +kernel
theorem dX10_isLine_289 : decode cX10_isLine 289 = .ok (.invokevirtual 124, 3) := by decide +kernel
theorem dX10_isLine_292 : decode cX10_isLine 292 = .ok (.ifCond .eq 21, 3) := by decide +kernel
theorem dX10_isLine_295 : decode cX10_isLine 295 = .ok (.aload_n 0, 1) := by decide +kernel
theorem dX10_isLine_296 : decode cX10_isLine 296 = .ok (.iload_n 1, 1) := by decide +kernel
theorem dX10_isLine_297 : decode cX10_isLine 297 = .ok (.bipush 7, 2) := by decide +kernel
theorem dX10_isLine_299 : decode cX10_isLine 299 = .ok (.iadd, 1) := by decide +kernel
theorem dX10_isLine_300 : decode cX10_isLine 300 = .ok (.iconst 0, 1) := by decide +kernel
theorem dX10_isLine_301 : decode cX10_isLine 301 = .ok (.bipush 99, 2) := by decide +kernel
theorem dX10_isLine_303 : decode cX10_isLine 303 = .ok (.invokevirtual 124, 3) := by decide +kernel
theorem dX10_isLine_306 : decode cX10_isLine 306 = .ok (.ifCond .eq 7, 3) := by decide +kernel
theorem dX10_isLine_309 : decode cX10_isLine 309 = .ok (.iconst 1, 1) := by decide +kernel
theorem dX10_isLine_310 : decode cX10_isLine 310 = .ok (.goto 4, 3) := by decide +kernel
theorem dX10_isLine_313 : decode cX10_isLine 313 = .ok (.iconst 0, 1) := by decide +kernel
theorem dX10_isLine_314 : decode cX10_isLine 314 = .ok (.ireturn, 1) := by decide +kernel
theorem dX10_isLine_315 : decode cX10_isLine 315 = .ok (.aload_n 0, 1) := by decide +kernel
theorem dX10_isLine_316 : decode cX10_isLine 316 = .ok (.iload_n 1, 1) := by decide +kernel
theorem dX10_isLine_317 : decode cX10_isLine 317 = .ok (.invokevirtual 139, 3) := by decide +kernel
theorem dX10_isLine_320 : decode cX10_isLine 320 = .ok (.ireturn, 1) := by decide +kernel
theorem dX10_isLine_321 : decode cX10_isLine 321 = .ok (.aload_n 0, 1) := by decide +kernel
theorem dX10_isLine_322 : decode cX10_isLine 322 = .ok (.iload_n 1, 1) := by decide +kernel
theorem dX10_isLine_323 : decode cX10_isLine 323 = .ok (.iconst 1, 1) := by decide +kernel
theorem dX10_isLine_324 : decode cX10_isLine 324 = .ok (.iadd, 1) := by decide +kernel
theorem dX10_isLine_325 : decode cX10_isLine 325 = .ok (.iconst 0, 1) := by decide +kernel
theorem dX10_isLine_326 : decode cX10_isLine 326 = .ok (.sipush 999, 3) := by decide +kernel
theorem dX10_isLine_329 : decode cX10_isLine 329 = .ok (.invokevirtual 124, 3) := by decide +kernel
theorem dX10_isLine_332 : decode cX10_isLine 332 = .ok (.ireturn, 1) := by decide +kernel
theorem dX10_isLine_333 : decode cX10_isLine 333 = .ok (.aload_n 0, 1) := by decide +kernel
theorem dX10_isLine_334 : decode cX10_isLine 334 = .ok (.invokevirtual 120, 3) := by decide +kernel
theorem dX10_isLine_337 : decode cX10_isLine 337 = .ok (.ireturn, 1) := by decide +kernel
theorem dX10_isRead_0 : decode cX10_isRead 0 = .ok (.aload_n 0, 1) := by decide +kernel
theorem dX10_isRead_1 : decode cX10_isRead 1 = .ok (.iconst 0, 1) := by decide +kernel
theorem dX10_isRead_2 : decode cX10_isRead 2 = .ok (.putfield 86, 3) := by decide +kernel
theorem dX10_isRead_5 : decode cX10_isRead 5 = .ok (.aload_n 0, 1) := by decide +kernel
theorem dX10_isRead_6 : decode cX10_isRead 6 = .ok (.iconst 0, 1) := by decide +kernel
theorem dX10_isRead_7 : decode cX10_isRead 7 = .ok (.putfield 143, 3) := by decide +kernel
theorem dX10_isRead_10 : decode cX10_isRead 10 = .ok (.iconst 1, 1) := by decide +kernel
theorem dX10_isRead_11 : decode cX10_isRead 11 = .ok (.istore_n 1, 1) := by decide +kernel
theorem dX10_isRead_12 : decode cX10_isRead 12 = .ok (.iload_n 1, 1) := by decide +kernel
theorem dX10_isRead_13 : decode cX10_isRead 13 = .ok (.ifCond .eq 62, 3) := by decide +kernel
theorem dX10_isRead_16 : decode cX10_isRead 16 = .ok (.aload_n 0, 1) := by decide +kernel
theorem dX10_isRead_17 : decode cX10_isRead 17 = .ok (.bipush 8, 2) := by decide +kernel
theorem dX10_isRead_19 : decode cX10_isRead 19 = .ok (.aload_n 0, 1) := by decide +kernel
theorem dX10_isRead_20 : decode cX10_isRead 20 = .ok (.getfield 143, 3) := by decide +kernel
theorem dX10_isRead_23 : decode cX10_isRead 23 = .ok (.imul, 1) := by decide +kernel
theorem dX10_isRead_24 : decode cX10_isRead 24 = .ok (.invokevirtual 146, 3) := by decide +kernel
theorem dX10_isRead_27 : decode cX10_isRead 27 = .ok (.ifCond .ne 5, 3) := by decide +kernel
theorem dX10_isRead_30 : decode cX10_isRead 30 = .ok (.iconst 0, 1) := by decide +kernel
theorem dX10_isRead_31 : decode cX10_isRead 31 = .ok (.ireturn, 1) := by decide +kernel
theorem dX10_isRead_32 : decode cX10_isRead 32 = .ok (.aload_n 0, 1) := by decide +kernel
theorem dX10_isRead_33 : decode cX10_isRead 33 = .ok (.dup, 1) := by decide +kernel
theorem dX10_isRead_34 : decode cX10_isRead 34 = .ok (.getfield 143, 3) := by decide +kernel
theorem dX10_isRead_37 : decode cX10_isRead 37 = .ok (.iconst 1, 1) := by decide +kernel
theorem dX10_isRead_38 : decode cX10_isRead 38 = .ok (.iadd, 1) := by decide +kernel
theorem dX10_isRead_39 : decode cX10_isRead 39 = .ok (.putfield 143, 3) := by decide +kernel
theorem dX10_isRead_42 : decode cX10_isRead 42 = .ok (.aload_n 0, 1) := by decide +kernel
theorem dX10_isRead_43 : decode cX10_isRead 43 = .ok (.invokevirtual 117, 3) := by decide +kernel
theorem dX10_isRead_46 : decode cX10_isRead 46 = .ok (.aload_n 0, 1) := by decide +kernel
theorem dX10_isRead_47 : decode cX10_isRead 47 = .ok (.getfield 100, 3) := by decide +kernel
theorem dX10_isRead_50 : decode cX10_isRead 50 = .ok (.ldc2_w 112, 3) := by decide +kernel
theorem dX10_isRead_53 : decode cX10_isRead 53 = .ok (.lcmp, 1) := by decide +kernel
theorem dX10_isRead_54 : decode cX10_isRead 54 = .ok (.ifCond .ne 16, 3) := by decide +kernel
theorem dX10_isRead_57 : decode cX10_isRead 57 = .ok (.aload_n 0, 1) := by decide +kernel
theorem dX10_isRead_58 : decode cX10_isRead 58 = .ok (.getfield 143, 3) := by decide +kernel
theorem dX10_isRead_61 : decode cX10_isRead 61 = .ok (.bipush 8, 2) := by decide +kernel
theorem dX10_isRead_63 : decode cX10_isRead 63 = .ok (.if_icmp .ge 7, 3) := by decide +kernel
theorem dX10_isRead_66 : decode cX10_isRead 66 = .ok (.iconst 1, 1) := by decide +kernel
theorem dX10_isRead_67 : decode cX10_isRead 67 = .ok (.goto 4, 3) := by decide +kernel
theorem dX10_isRead_70 : decode cX10_isRead 70 = .ok (.iconst 0, 1) := by decide +kernel
theorem dX10_isRead_71 : decode cX10_isRead 71 = .ok (.istore_n 1, 1) := by decide +kernel
theorem dX10_isRead_72 : decode cX10_isRead 72 = .ok (.goto (-60), 3) := by decide +kernel
theorem dX10_isRead_75 : decode cX10_isRead 75 = .ok (.aload_n 0, 1) := by decide +kernel
theorem dX10_isRead_76 : decode cX10_isRead 76 = .ok (.getfield 100, 3) := by decide +kernel
theorem dX10_isRead_79 : decode cX10_isRead 79 = .ok (.ldc2_w 98, 3) := by decide +kernel
theorem dX10_isRead_82 : decode cX10_isRead 82 = .ok (.lcmp, 1) := by decide +kernel
theorem dX10_isRead_83 : decode cX10_isRead 83 = .ok (.ifCond .eq 10, 3) := by decide +kernel
theorem dX10_isRead_86 : decode cX10_isRead 86 = .ok (.aload_n 0, 1) := by decide +kernel
theorem dX10_isRead_87 : decode cX10_isRead 87 = .ok (.invokevirtual 120, 3) := by decide +kernel
theorem dX10_isRead_90 : decode cX10_isRead 90 = .ok (.ifCond .eq 7, 3) := by decide +kernel
theorem dX10_isRead_93 : decode cX10_isRead 93 = .ok (.iconst 1, 1) := by decide +kernel
theorem dX10_isRead_94 : decode cX10_isRead 94 = .ok (.goto 4, 3) := by decide +kernel
theorem dX10_isRead_97 : decode cX10_isRead 97 = .ok (.iconst 0, 1) := by decide +kernel
theorem dX10_isRead_98 : decode cX10_isRead 98 = .ok (.ireturn, 1) := by decide +kernel
theorem dX10_fault_0 : decode cX10_fault 0 = .ok (.aload_n 0, 1) := by decide +kernel
theorem dX10_fault_1 : decode cX10_fault 1 = .ok (.invokevirtual 149, 3) := by decide +kernel
theorem dX10_fault_4 : decode cX10_fault 4 = .ok (.ifCond .eq 7, 3) := by decide +kernel
theorem dX10_fault_7 : decode cX10_fault 7 = .ok (.iconst (-1), 1) := by decide +kernel
theorem dX10_fault_8 : decode cX10_fault 8 = .ok (.goto 7, 3) := by decide +kernel
theorem dX10_fault_11 : decode cX10_fault 11 = .ok (.aload_n 0, 1) := by decide +kernel
theorem dX10_fault_12 : decode cX10_fault 12 = .ok (.getfield 114, 3) := by decide +kernel
theorem dX10_fault_15 : decode cX10_fault 15 = .ok (.ireturn, 1) := by decide +kernel
theorem dX10_doLine_0 : decode cX10_doLine 0 = .ok (.aload_n 0, 1) := by decide +kernel
theorem dX10_doLine_1 : decode cX10_doLine 1 = .ok (.getfield 29, 3) := by decide +kernel
theorem dX10_doLine_4 : decode cX10_doLine 4 = .ok (.iload_n 1, 1) := by decide +kernel
theorem dX10_doLine_5 : decode cX10_doLine 5 = .ok (.iconst 1, 1) := by decide +kernel
theorem dX10_doLine_6 : decode cX10_doLine 6 = .ok (.iadd, 1) := by decide +kernel
theorem dX10_doLine_7 : decode cX10_doLine 7 = .ok (.iaload, 1) := by decide +kernel
theorem dX10_doLine_8 : decode cX10_doLine 8 = .ok (.istore_n 2, 1) := by decide +kernel
theorem dX10_doLine_9 : decode cX10_doLine 9 = .ok (.aload_n 0, 1) := by decide +kernel
theorem dX10_doLine_10 : decode cX10_doLine 10 = .ok (.getfield 29, 3) := by decide +kernel
theorem dX10_doLine_13 : decode cX10_doLine 13 = .ok (.iload_n 1, 1) := by decide +kernel
theorem dX10_doLine_14 : decode cX10_doLine 14 = .ok (.iconst 2, 1) := by decide +kernel
theorem dX10_doLine_15 : decode cX10_doLine 15 = .ok (.iadd, 1) := by decide +kernel
theorem dX10_doLine_16 : decode cX10_doLine 16 = .ok (.iaload, 1) := by decide +kernel
theorem dX10_doLine_17 : decode cX10_doLine 17 = .ok (.istore_n 3, 1) := by decide +kernel
theorem dX10_doLine_18 : decode cX10_doLine 18 = .ok (.aload_n 0, 1) := by decide +kernel
theorem dX10_doLine_19 : decode cX10_doLine 19 = .ok (.getfield 29, 3) := by decide +kernel
theorem dX10_doLine_22 : decode cX10_doLine 22 = .ok (.iload_n 1, 1) := by decide +kernel
theorem dX10_doLine_23 : decode cX10_doLine 23 = .ok (.iaload, 1) := by decide +kernel
theorem dX10_doLine_24 : decode cX10_doLine 24 = .ok (.tableswitch 203 0 4 #[36, 76, 130, 130, 195], 36) := by decide +kernel
theorem dX10_doLine_60 : decode cX10_doLine 60 = .ok (.iconst 0, 1) := by decide +kernel
theorem dX10_doLine_61 : decode cX10_doLine 61 = .ok (.istore 4, 2) := by decide +kernel
theorem dX10_doLine_63 : decode cX10_doLine 63 = .ok (.iload 4, 2) := by decide +kernel
theorem dX10_doLine_65 : decode cX10_doLine 65 = .ok (.iconst 3, 1) := by decide +kernel
theorem dX10_doLine_66 : decode cX10_doLine 66 = .ok (.if_icmp .ge 31, 3) := by decide +kernel
theorem dX10_doLine_69 : decode cX10_doLine 69 = .ok (.aload_n 0, 1) := by decide +kernel
theorem dX10_doLine_70 : decode cX10_doLine 70 = .ok (.getfield 7, 3) := by decide +kernel
theorem dX10_doLine_73 : decode cX10_doLine 73 = .ok (.iconst 3, 1) := by decide +kernel
theorem dX10_doLine_74 : decode cX10_doLine 74 = .ok (.iload_n 2, 1) := by decide +kernel
theorem dX10_doLine_75 : decode cX10_doLine 75 = .ok (.imul, 1) := by decide +kernel
theorem dX10_doLine_76 : decode cX10_doLine 76 = .ok (.iload 4, 2) := by decide +kernel
theorem dX10_doLine_78 : decode cX10_doLine 78 = .ok (.iadd, 1) := by decide +kernel
theorem dX10_doLine_79 : decode cX10_doLine 79 = .ok (.aload_n 0, 1) := by decide +kernel
theorem dX10_doLine_80 : decode cX10_doLine 80 = .ok (.getfield 29, 3) := by decide +kernel
theorem dX10_doLine_83 : decode cX10_doLine 83 = .ok (.iload_n 1, 1) := by decide +kernel
theorem dX10_doLine_84 : decode cX10_doLine 84 = .ok (.iconst 2, 1) := by decide +kernel
theorem dX10_doLine_85 : decode cX10_doLine 85 = .ok (.iadd, 1) := by decide +kernel
theorem dX10_doLine_86 : decode cX10_doLine 86 = .ok (.iload 4, 2) := by decide +kernel
theorem dX10_doLine_88 : decode cX10_doLine 88 = .ok (.iadd, 1) := by decide +kernel
theorem dX10_doLine_89 : decode cX10_doLine 89 = .ok (.iaload, 1) := by decide +kernel
theorem dX10_doLine_90 : decode cX10_doLine 90 = .ok (.iastore, 1) := by decide +kernel
theorem dX10_doLine_91 : decode cX10_doLine 91 = .ok (.iinc 4 1, 3) := by decide +kernel
theorem dX10_doLine_94 : decode cX10_doLine 94 = .ok (.goto (-31), 3) := by decide +kernel
theorem dX10_doLine_97 : decode cX10_doLine 97 = .ok (.goto 135, 3) := by decide +kernel
theorem dX10_doLine_100 : decode cX10_doLine 100 = .ok (.aload_n 0, 1) := by decide +kernel
theorem dX10_doLine_101 : decode cX10_doLine 101 = .ok (.aload_n 0, 1) := by decide +kernel
theorem dX10_doLine_102 : decode cX10_doLine 102 = .ok (.getfield 75, 3) := by decide +kernel
theorem dX10_doLine_105 : decode cX10_doLine 105 = .ok (.iconst 1, 1) := by decide +kernel
theorem dX10_doLine_106 : decode cX10_doLine 106 = .ok (.iload_n 2, 1) := by decide +kernel
theorem dX10_doLine_107 : decode cX10_doLine 107 = .ok (.ishl, 1) := by decide +kernel
theorem dX10_doLine_108 : decode cX10_doLine 108 = .ok (.ior, 1) := by decide +kernel
theorem dX10_doLine_109 : decode cX10_doLine 109 = .ok (.putfield 75, 3) := by decide +kernel
theorem dX10_doLine_112 : decode cX10_doLine 112 = .ok (.iconst 0, 1) := by decide +kernel
theorem dX10_doLine_113 : decode cX10_doLine 113 = .ok (.istore 4, 2) := by decide +kernel
theorem dX10_doLine_115 : decode cX10_doLine 115 = .ok (.iload 4, 2) := by decide +kernel
theorem dX10_doLine_117 : decode cX10_doLine 117 = .ok (.bipush 6, 2) := by decide +kernel
theorem dX10_doLine_119 : decode cX10_doLine 119 = .ok (.if_icmp .ge 32, 3) := by decide +kernel
theorem dX10_doLine_122 : decode cX10_doLine 122 = .ok (.aload_n 0, 1) := by decide +kernel
theorem dX10_doLine_123 : decode cX10_doLine 123 = .ok (.getfield 16, 3) := by decide +kernel
theorem dX10_doLine_126 : decode cX10_doLine 126 = .ok (.bipush 6, 2) := by decide +kernel
theorem dX10_doLine_128 : decode cX10_doLine 128 = .ok (.iload_n 2, 1) := by decide +kernel
theorem dX10_doLine_129 : decode cX10_doLine 129 = .ok (.imul, 1) := by decide +kernel
theorem dX10_doLine_130 : decode cX10_doLine 130 = .ok (.iload 4, 2) := by decide +kernel
theorem dX10_doLine_132 : decode cX10_doLine 132 = .ok (.iadd, 1) := by decide +kernel
theorem dX10_doLine_133 : decode cX10_doLine 133 = .ok (.aload_n 0, 1) := by decide +kernel
theorem dX10_doLine_134 : decode cX10_doLine 134 = .ok (.getfield 29, 3) := by decide +kernel
theorem dX10_doLine_137 : decode cX10_doLine 137 = .ok (.iload_n 1, 1) := by decide +kernel
theorem dX10_doLine_138 : decode cX10_doLine 138 = .ok (.iconst 2, 1) := by decide +kernel
theorem dX10_doLine_139 : decode cX10_doLine 139 = .ok (.iadd, 1) := by decide +kernel
theorem dX10_doLine_140 : decode cX10_doLine 140 = .ok (.iload 4, 2) := by decide +kernel
theorem dX10_doLine_142 : decode cX10_doLine 142 = .ok (.iadd, 1) := by decide +kernel
theorem dX10_doLine_143 : decode cX10_doLine 143 = .ok (.iaload, 1) := by decide +kernel
theorem dX10_doLine_144 : decode cX10_doLine 144 = .ok (.iastore, 1) := by decide +kernel
theorem dX10_doLine_145 : decode cX10_doLine 145 = .ok (.iinc 4 1, 3) := by decide +kernel
theorem dX10_doLine_148 : decode cX10_doLine 148 = .ok (.goto (-33), 3) := by decide +kernel
theorem dX10_doLine_151 : decode cX10_doLine 151 = .ok (.goto 81, 3) := by decide +kernel
theorem dX10_doLine_154 : decode cX10_doLine 154 = .ok (.aload_n 0, 1) := by decide +kernel
theorem dX10_doLine_155 : decode cX10_doLine 155 = .ok (.getfield 13, 3) := by decide +kernel
theorem dX10_doLine_158 : decode cX10_doLine 158 = .ok (.bipush 100, 2) := by decide +kernel
theorem dX10_doLine_160 : decode cX10_doLine 160 = .ok (.aload_n 0, 1) := by decide +kernel
theorem dX10_doLine_161 : decode cX10_doLine 161 = .ok (.getfield 29, 3) := by decide +kernel
theorem dX10_doLine_164 : decode cX10_doLine 164 = .ok (.iload_n 1, 1) := by decide +kernel
theorem dX10_doLine_165 : decode cX10_doLine 165 = .ok (.iaload, 1) := by decide +kernel
theorem dX10_doLine_166 : decode cX10_doLine 166 = .ok (.iconst 2, 1) := by decide +kernel
theorem dX10_doLine_167 : decode cX10_doLine 167 = .ok (.isub, 1) := by decide +kernel
theorem dX10_doLine_168 : decode cX10_doLine 168 = .ok (.imul, 1) := by decide +kernel
theorem dX10_doLine_169 : decode cX10_doLine 169 = .ok (.bipush 10, 2) := by decide +kernel
theorem dX10_doLine_171 : decode cX10_doLine 171 = .ok (.iload_n 2, 1) := by decide +kernel
theorem dX10_doLine_172 : decode cX10_doLine 172 = .ok (.imul, 1) := by decide +kernel
theorem dX10_doLine_173 : decode cX10_doLine 173 = .ok (.iadd, 1) := by decide +kernel
theorem dX10_doLine_174 : decode cX10_doLine 174 = .ok (.iload_n 3, 1) := by decide +kernel
theorem dX10_doLine_175 : decode cX10_doLine 175 = .ok (.iadd, 1) := by decide +kernel
theorem dX10_doLine_176 : decode cX10_doLine 176 = .ok (.aload_n 0, 1) := by decide +kernel
theorem dX10_doLine_177 : decode cX10_doLine 177 = .ok (.getfield 29, 3) := by decide +kernel
theorem dX10_doLine_180 : decode cX10_doLine 180 = .ok (.iload_n 1, 1) := by decide +kernel
theorem dX10_doLine_181 : decode cX10_doLine 181 = .ok (.iconst 3, 1) := by decide +kernel
theorem dX10_doLine_182 : decode cX10_doLine 182 = .ok (.iadd, 1) := by decide +kernel
theorem dX10_doLine_183 : decode cX10_doLine 183 = .ok (.iaload, 1) := by decide +kernel
theorem dX10_doLine_184 : decode cX10_doLine 184 = .ok (.iastore, 1) := by decide +kernel
theorem dX10_doLine_185 : decode cX10_doLine 185 = .ok (.aload_n 0, 1) := by decide +kernel
theorem dX10_doLine_186 : decode cX10_doLine 186 = .ok (.getfield 13, 3) := by decide +kernel
theorem dX10_doLine_189 : decode cX10_doLine 189 = .ok (.bipush 100, 2) := by decide +kernel
theorem dX10_doLine_191 : decode cX10_doLine 191 = .ok (.aload_n 0, 1) := by decide +kernel
theorem dX10_doLine_192 : decode cX10_doLine 192 = .ok (.getfield 29, 3) := by decide +kernel
theorem dX10_doLine_195 : decode cX10_doLine 195 = .ok (.iload_n 1, 1) := by decide +kernel
theorem dX10_doLine_196 : decode cX10_doLine 196 = .ok (.iaload, 1) := by decide +kernel
theorem dX10_doLine_197 : decode cX10_doLine 197 = .ok (.iconst 2, 1) := by decide +kernel
theorem dX10_doLine_198 : decode cX10_doLine 198 = .ok (.isub, 1) := by decide +kernel
theorem dX10_doLine_199 : decode cX10_doLine 199 = .ok (.imul, 1) := by decide +kernel
theorem dX10_doLine_200 : decode cX10_doLine 200 = .ok (.bipush 10, 2) := by decide +kernel
theorem dX10_doLine_202 : decode cX10_doLine 202 = .ok (.iload_n 3, 1) := by decide +kernel
theorem dX10_doLine_203 : decode cX10_doLine 203 = .ok (.imul, 1) := by decide +kernel
theorem dX10_doLine_204 : decode cX10_doLine 204 = .ok (.iadd, 1) := by decide +kernel
theorem dX10_doLine_205 : decode cX10_doLine 205 = .ok (.iload_n 2, 1) := by decide +kernel
theorem dX10_doLine_206 : decode cX10_doLine 206 = .ok (.iadd, 1) := by decide +kernel
theorem dX10_doLine_207 : decode cX10_doLine 207 = .ok (.aload_n 0, 1) := by decide +kernel
theorem dX10_doLine_208 : decode cX10_doLine 208 = .ok (.getfield 29, 3) := by decide +kernel
theorem dX10_doLine_211 : decode cX10_doLine 211 = .ok (.iload_n 1, 1) := by decide +kernel
theorem dX10_doLine_212 : decode cX10_doLine 212 = .ok (.iconst 3, 1) := by decide +kernel
theorem dX10_doLine_213 : decode cX10_doLine 213 = .ok (.iadd, 1) := by decide +kernel
theorem dX10_doLine_214 : decode cX10_doLine 214 = .ok (.iaload, 1) := by decide +kernel
theorem dX10_doLine_215 : decode cX10_doLine 215 = .ok (.iastore, 1) := by decide +kernel
theorem dX10_doLine_216 : decode cX10_doLine 216 = .ok (.goto 16, 3) := by decide +kernel
theorem dX10_doLine_219 : decode cX10_doLine 219 = .ok (.aload_n 0, 1) := by decide +kernel
theorem dX10_doLine_220 : decode cX10_doLine 220 = .ok (.iload_n 2, 1) := by decide +kernel
theorem dX10_doLine_221 : decode cX10_doLine 221 = .ok (.putfield 19, 3) := by decide +kernel
theorem dX10_doLine_224 : decode cX10_doLine 224 = .ok (.goto 8, 3) := by decide +kernel
theorem dX10_doLine_227 : decode cX10_doLine 227 = .ok (.aload_n 0, 1) := by decide +kernel
theorem dX10_doLine_228 : decode cX10_doLine 228 = .ok (.iload_n 2, 1) := by decide +kernel
theorem dX10_doLine_229 : decode cX10_doLine 229 = .ok (.putfield 23, 3) := by decide +kernel
theorem dX10_doLine_232 : decode cX10_doLine 232 = .ok (.return_, 1) := by decide +kernel
theorem dX10_land_0 : decode cX10_land 0 = .ok (.aload_n 0, 1) := by decide +kernel
theorem dX10_land_1 : decode cX10_land 1 = .ok (.invokevirtual 149, 3) := by decide +kernel
theorem dX10_land_4 : decode cX10_land 4 = .ok (.ifCond .ne 6, 3) := by decide +kernel
theorem dX10_land_7 : decode cX10_land 7 = .ok (.bipush (-4), 2) := by decide +kernel
theorem dX10_land_9 : decode cX10_land 9 = .ok (.ireturn, 1) := by decide +kernel
theorem dX10_land_10 : decode cX10_land 10 = .ok (.iconst 0, 1) := by decide +kernel
theorem dX10_land_11 : decode cX10_land 11 = .ok (.istore_n 1, 1) := by decide +kernel
theorem dX10_land_12 : decode cX10_land 12 = .ok (.iload_n 1, 1) := by decide +kernel
theorem dX10_land_13 : decode cX10_land 13 = .ok (.aload_n 0, 1) := by decide +kernel
theorem dX10_land_14 : decode cX10_land 14 = .ok (.getfield 143, 3) := by decide +kernel
theorem dX10_land_17 : decode cX10_land 17 = .ok (.if_icmp .ge 17, 3) := by decide +kernel
theorem dX10_land_20 : decode cX10_land 20 = .ok (.aload_n 0, 1) := by decide +kernel
theorem dX10_land_21 : decode cX10_land 21 = .ok (.bipush 8, 2) := by decide +kernel
theorem dX10_land_23 : decode cX10_land 23 = .ok (.iload_n 1, 1) := by decide +kernel
theorem dX10_land_24 : decode cX10_land 24 = .ok (.imul, 1) := by decide +kernel
theorem dX10_land_25 : decode cX10_land 25 = .ok (.invokevirtual 152, 3) := by decide +kernel
theorem dX10_land_28 : decode cX10_land 28 = .ok (.iinc 1 1, 3) := by decide +kernel
theorem dX10_land_31 : decode cX10_land 31 = .ok (.goto (-19), 3) := by decide +kernel
theorem dX10_land_34 : decode cX10_land 34 = .ok (.aload_n 0, 1) := by decide +kernel
theorem dX10_land_35 : decode cX10_land 35 = .ok (.iconst 0, 1) := by decide +kernel
theorem dX10_land_36 : decode cX10_land 36 = .ok (.putfield 81, 3) := by decide +kernel
theorem dX10_land_39 : decode cX10_land 39 = .ok (.aload_n 0, 1) := by decide +kernel
theorem dX10_land_40 : decode cX10_land 40 = .ok (.getfield 143, 3) := by decide +kernel
theorem dX10_land_43 : decode cX10_land 43 = .ok (.ireturn, 1) := by decide +kernel
theorem dX10_place_0 : decode cX10_place 0 = .ok (.iload_n 1, 1) := by decide +kernel
theorem dX10_place_1 : decode cX10_place 1 = .ok (.invokestatic 156, 3) := by decide +kernel
theorem dX10_place_4 : decode cX10_place 4 = .ok (.ifCond .ne 6, 3) := by decide +kernel
theorem dX10_place_7 : decode cX10_place 7 = .ok (.bipush (-2), 2) := by decide +kernel
theorem dX10_place_9 : decode cX10_place 9 = .ok (.ireturn, 1) := by decide +kernel
theorem dX10_place_10 : decode cX10_place 10 = .ok (.iload_n 2, 1) := by decide +kernel
theorem dX10_place_11 : decode cX10_place 11 = .ok (.iconst 0, 1) := by decide +kernel
theorem dX10_place_12 : decode cX10_place 12 = .ok (.iconst 2, 1) := by decide +kernel
theorem dX10_place_13 : decode cX10_place 13 = .ok (.invokestatic 71, 3) := by decide +kernel
theorem dX10_place_16 : decode cX10_place 16 = .ok (.ifCond .eq 16, 3) := by decide +kernel
theorem dX10_place_19 : decode cX10_place 19 = .ok (.aload_n 0, 1) := by decide +kernel
theorem dX10_place_20 : decode cX10_place 20 = .ok (.getfield 7, 3) := by decide +kernel
theorem dX10_place_23 : decode cX10_place 23 = .ok (.iconst 3, 1) := by decide +kernel
theorem dX10_place_24 : decode cX10_place 24 = .ok (.iload_n 1, 1) := by decide +kernel
theorem dX10_place_25 : decode cX10_place 25 = .ok (.imul, 1) := by decide +kernel
theorem dX10_place_26 : decode cX10_place 26 = .ok (.iload_n 2, 1) := by decide +kernel
theorem dX10_place_27 : decode cX10_place 27 = .ok (.iadd, 1) := by decide +kernel
theorem dX10_place_28 : decode cX10_place 28 = .ok (.iaload, 1) := by decide +kernel
theorem dX10_place_29 : decode cX10_place 29 = .ok (.goto 5, 3) := by decide +kernel
theorem dX10_place_32 : decode cX10_place 32 = .ok (.bipush (-3), 2) := by decide +kernel
theorem dX10_place_34 : decode cX10_place 34 = .ok (.ireturn, 1) := by decide +kernel
theorem dX10_flow_0 : decode cX10_flow 0 = .ok (.aload_n 0, 1) := by decide +kernel
theorem dX10_flow_1 : decode cX10_flow 1 = .ok (.iload_n 1, 1) := by decide +kernel
theorem dX10_flow_2 : decode cX10_flow 2 = .ok (.invokevirtual 159, 3) := by decide +kernel
theorem dX10_flow_5 : decode cX10_flow 5 = .ok (.ifCond .ne 6, 3) := by decide +kernel
theorem dX10_flow_8 : decode cX10_flow 8 = .ok (.bipush (-2), 2) := by decide +kernel
theorem dX10_flow_10 : decode cX10_flow 10 = .ok (.ireturn, 1) := by decide +kernel
theorem dX10_flow_11 : decode cX10_flow 11 = .ok (.iload_n 2, 1) := by decide +kernel
theorem dX10_flow_12 : decode cX10_flow 12 = .ok (.iconst 0, 1) := by decide +kernel
theorem dX10_flow_13 : decode cX10_flow 13 = .ok (.iconst 5, 1) := by decide +kernel
theorem dX10_flow_14 : decode cX10_flow 14 = .ok (.invokestatic 71, 3) := by decide +kernel
theorem dX10_flow_17 : decode cX10_flow 17 = .ok (.ifCond .eq 17, 3) := by decide +kernel
theorem dX10_flow_20 : decode cX10_flow 20 = .ok (.aload_n 0, 1) := by decide +kernel
theorem dX10_flow_21 : decode cX10_flow 21 = .ok (.getfield 16, 3) := by decide +kernel
theorem dX10_flow_24 : decode cX10_flow 24 = .ok (.bipush 6, 2) := by decide +kernel
theorem dX10_flow_26 : decode cX10_flow 26 = .ok (.iload_n 1, 1) := by decide +kernel
theorem dX10_flow_27 : decode cX10_flow 27 = .ok (.imul, 1) := by decide +kernel
theorem dX10_flow_28 : decode cX10_flow 28 = .ok (.iload_n 2, 1) := by decide +kernel
theorem dX10_flow_29 : decode cX10_flow 29 = .ok (.iadd, 1) := by decide +kernel
theorem dX10_flow_30 : decode cX10_flow 30 = .ok (.iaload, 1) := by decide +kernel
theorem dX10_flow_31 : decode cX10_flow 31 = .ok (.goto 5, 3) := by decide +kernel
theorem dX10_flow_34 : decode cX10_flow 34 = .ok (.bipush (-3), 2) := by decide +kernel
theorem dX10_flow_36 : decode cX10_flow 36 = .ok (.ireturn, 1) := by decide +kernel
theorem dX10_way_0 : decode cX10_way 0 = .ok (.iload_n 1, 1) := by decide +kernel
theorem dX10_way_1 : decode cX10_way 1 = .ok (.invokestatic 156, 3) := by decide +kernel
theorem dX10_way_4 : decode cX10_way 4 = .ok (.ifCond .eq 15, 3) := by decide +kernel
theorem dX10_way_7 : decode cX10_way 7 = .ok (.iload_n 2, 1) := by decide +kernel
theorem dX10_way_8 : decode cX10_way 8 = .ok (.invokestatic 156, 3) := by decide +kernel
theorem dX10_way_11 : decode cX10_way 11 = .ok (.ifCond .eq 8, 3) := by decide +kernel
theorem dX10_way_14 : decode cX10_way 14 = .ok (.iload_n 1, 1) := by decide +kernel
theorem dX10_way_15 : decode cX10_way 15 = .ok (.iload_n 2, 1) := by decide +kernel
theorem dX10_way_16 : decode cX10_way 16 = .ok (.if_icmp .ne 6, 3) := by decide +kernel
theorem dX10_way_19 : decode cX10_way 19 = .ok (.bipush (-2), 2) := by decide +kernel
theorem dX10_way_21 : decode cX10_way 21 = .ok (.ireturn, 1) := by decide +kernel
theorem dX10_way_22 : decode cX10_way 22 = .ok (.iload_n 3, 1) := by decide +kernel
theorem dX10_way_23 : decode cX10_way 23 = .ok (.iconst 0, 1) := by decide +kernel
theorem dX10_way_24 : decode cX10_way 24 = .ok (.iconst 1, 1) := by decide +kernel
theorem dX10_way_25 : decode cX10_way 25 = .ok (.invokestatic 71, 3) := by decide +kernel
theorem dX10_way_28 : decode cX10_way 28 = .ok (.ifCond .eq 22, 3) := by decide +kernel
theorem dX10_way_31 : decode cX10_way 31 = .ok (.aload_n 0, 1) := by decide +kernel
theorem dX10_way_32 : decode cX10_way 32 = .ok (.getfield 13, 3) := by decide +kernel
theorem dX10_way_35 : decode cX10_way 35 = .ok (.bipush 100, 2) := by decide +kernel
theorem dX10_way_37 : decode cX10_way 37 = .ok (.iload_n 3, 1) := by decide +kernel
theorem dX10_way_38 : decode cX10_way 38 = .ok (.imul, 1) := by decide +kernel
theorem dX10_way_39 : decode cX10_way 39 = .ok (.bipush 10, 2) := by decide +kernel
theorem dX10_way_41 : decode cX10_way 41 = .ok (.iload_n 1, 1) := by decide +kernel
theorem dX10_way_42 : decode cX10_way 42 = .ok (.imul, 1) := by decide +kernel
theorem dX10_way_43 : decode cX10_way 43 = .ok (.iadd, 1) := by decide +kernel
theorem dX10_way_44 : decode cX10_way 44 = .ok (.iload_n 2, 1) := by decide +kernel
theorem dX10_way_45 : decode cX10_way 45 = .ok (.iadd, 1) := by decide +kernel
theorem dX10_way_46 : decode cX10_way 46 = .ok (.iaload, 1) := by decide +kernel
theorem dX10_way_47 : decode cX10_way 47 = .ok (.goto 5, 3) := by decide +kernel
theorem dX10_way_50 : decode cX10_way 50 = .ok (.bipush (-3), 2) := by decide +kernel
theorem dX10_way_52 : decode cX10_way 52 = .ok (.ireturn, 1) := by decide +kernel
theorem dX10_areNumbers_0 : decode cX10_areNumbers 0 = .ok (.iload_n 0, 1) := by decide +kernel
theorem dX10_areNumbers_1 : decode cX10_areNumbers 1 = .ok (.sipush 1023, 3) := by decide +kernel
theorem dX10_areNumbers_4 : decode cX10_areNumbers 4 = .ok (.iand, 1) := by decide +kernel
theorem dX10_areNumbers_5 : decode cX10_areNumbers 5 = .ok (.sipush 1000, 3) := by decide +kernel
theorem dX10_areNumbers_8 : decode cX10_areNumbers 8 = .ok (.if_icmp .ge 35, 3) := by decide +kernel
theorem dX10_areNumbers_11 : decode cX10_areNumbers 11 = .ok (.iload_n 0, 1) := by decide +kernel
theorem dX10_areNumbers_12 : decode cX10_areNumbers 12 = .ok (.bipush 10, 2) := by decide +kernel
theorem dX10_areNumbers_14 : decode cX10_areNumbers 14 = .ok (.ishr, 1) := by decide +kernel
theorem dX10_areNumbers_15 : decode cX10_areNumbers 15 = .ok (.sipush 1023, 3) := by decide +kernel
theorem dX10_areNumbers_18 : decode cX10_areNumbers 18 = .ok (.iand, 1) := by decide +kernel
theorem dX10_areNumbers_19 : decode cX10_areNumbers 19 = .ok (.sipush 1000, 3) := by decide +kernel
theorem dX10_areNumbers_22 : decode cX10_areNumbers 22 = .ok (.if_icmp .ge 21, 3) := by decide +kernel
theorem dX10_areNumbers_25 : decode cX10_areNumbers 25 = .ok (.iload_n 0, 1) := by decide +kernel
theorem dX10_areNumbers_26 : decode cX10_areNumbers 26 = .ok (.bipush 20, 2) := by decide +kernel
theorem dX10_areNumbers_28 : decode cX10_areNumbers 28 = .ok (.ishr, 1) := by decide +kernel
theorem dX10_areNumbers_29 : decode cX10_areNumbers 29 = .ok (.sipush 1023, 3) := by decide +kernel
theorem dX10_areNumbers_32 : decode cX10_areNumbers 32 = .ok (.iand, 1) := by decide +kernel
theorem dX10_areNumbers_33 : decode cX10_areNumbers 33 = .ok (.sipush 1000, 3) := by decide +kernel
theorem dX10_areNumbers_36 : decode cX10_areNumbers 36 = .ok (.if_icmp .ge 7, 3) := by decide +kernel
theorem dX10_areNumbers_39 : decode cX10_areNumbers 39 = .ok (.iconst 1, 1) := by decide +kernel
theorem dX10_areNumbers_40 : decode cX10_areNumbers 40 = .ok (.goto 4, 3) := by decide +kernel
theorem dX10_areNumbers_43 : decode cX10_areNumbers 43 = .ok (.iconst 0, 1) := by decide +kernel
theorem dX10_areNumbers_44 : decode cX10_areNumbers 44 = .ok (.ireturn, 1) := by decide +kernel
theorem dX10_layNumbers_0 : decode cX10_layNumbers 0 = .ok (.iconst 0, 1) := by decide +kernel
theorem dX10_layNumbers_1 : decode cX10_layNumbers 1 = .ok (.istore 4, 2) := by decide +kernel
theorem dX10_layNumbers_3 : decode cX10_layNumbers 3 = .ok (.iload 4, 2) := by decide +kernel
theorem dX10_layNumbers_5 : decode cX10_layNumbers 5 = .ok (.iconst 3, 1) := by decide +kernel
theorem dX10_layNumbers_6 : decode cX10_layNumbers 6 = .ok (.if_icmp .ge 34, 3) := by decide +kernel
theorem dX10_layNumbers_9 : decode cX10_layNumbers 9 = .ok (.aload_n 0, 1) := by decide +kernel
theorem dX10_layNumbers_10 : decode cX10_layNumbers 10 = .ok (.getfield 32, 3) := by decide +kernel
theorem dX10_layNumbers_13 : decode cX10_layNumbers 13 = .ok (.bipush 11, 2) := by decide +kernel
theorem dX10_layNumbers_15 : decode cX10_layNumbers 15 = .ok (.iload_n 1, 1) := by decide +kernel
theorem dX10_layNumbers_16 : decode cX10_layNumbers 16 = .ok (.imul, 1) := by decide +kernel
theorem dX10_layNumbers_17 : decode cX10_layNumbers 17 = .ok (.iconst 1, 1) := by decide +kernel
theorem dX10_layNumbers_18 : decode cX10_layNumbers 18 = .ok (.iadd, 1) := by decide +kernel
theorem dX10_layNumbers_19 : decode cX10_layNumbers 19 = .ok (.iload 4, 2) := by decide +kernel
theorem dX10_layNumbers_21 : decode cX10_layNumbers 21 = .ok (.iadd, 1) := by decide +kernel
theorem dX10_layNumbers_22 : decode cX10_layNumbers 22 = .ok (.iload_n 2, 1) := by decide +kernel
theorem dX10_layNumbers_23 : decode cX10_layNumbers 23 = .ok (.bipush 10, 2) := by decide +kernel
theorem dX10_layNumbers_25 : decode cX10_layNumbers 25 = .ok (.iload 4, 2) := by decide +kernel
theorem dX10_layNumbers_27 : decode cX10_layNumbers 27 = .ok (.imul, 1) := by decide +kernel
theorem dX10_layNumbers_28 : decode cX10_layNumbers 28 = .ok (.ishr, 1) := by decide +kernel
theorem dX10_layNumbers_29 : decode cX10_layNumbers 29 = .ok (.sipush 1023, 3) := by decide +kernel
theorem dX10_layNumbers_32 : decode cX10_layNumbers 32 = .ok (.iand, 1) := by decide +kernel
theorem dX10_layNumbers_33 : decode cX10_layNumbers 33 = .ok (.iastore, 1) := by decide +kernel
theorem dX10_layNumbers_34 : decode cX10_layNumbers 34 = .ok (.iinc 4 1, 3) := by decide +kernel
theorem dX10_layNumbers_37 : decode cX10_layNumbers 37 = .ok (.goto (-34), 3) := by decide +kernel
theorem dX10_layNumbers_40 : decode cX10_layNumbers 40 = .ok (.aload_n 0, 1) := by decide +kernel
theorem dX10_layNumbers_41 : decode cX10_layNumbers 41 = .ok (.getfield 32, 3) := by decide +kernel
theorem dX10_layNumbers_44 : decode cX10_layNumbers 44 = .ok (.bipush 11, 2) := by decide +kernel
theorem dX10_layNumbers_46 : decode cX10_layNumbers 46 = .ok (.iload_n 1, 1) := by decide +kernel
theorem dX10_layNumbers_47 : decode cX10_layNumbers 47 = .ok (.imul, 1) := by decide +kernel
theorem dX10_layNumbers_48 : decode cX10_layNumbers 48 = .ok (.iconst 4, 1) := by decide +kernel
theorem dX10_layNumbers_49 : decode cX10_layNumbers 49 = .ok (.iadd, 1) := by decide +kernel
theorem dX10_layNumbers_50 : decode cX10_layNumbers 50 = .ok (.iload_n 3, 1) := by decide +kernel
theorem dX10_layNumbers_51 : decode cX10_layNumbers 51 = .ok (.iastore, 1) := by decide +kernel
theorem dX10_layNumbers_52 : decode cX10_layNumbers 52 = .ok (.return_, 1) := by decide +kernel
theorem dX10_blade_0 : decode cX10_blade 0 = .ok (.iload_n 1, 1) := by decide +kernel
theorem dX10_blade_1 : decode cX10_blade 1 = .ok (.invokestatic 156, 3) := by decide +kernel
theorem dX10_blade_4 : decode cX10_blade 4 = .ok (.ifCond .ne 6, 3) := by decide +kernel
theorem dX10_blade_7 : decode cX10_blade 7 = .ok (.bipush (-2), 2) := by decide +kernel
theorem dX10_blade_9 : decode cX10_blade 9 = .ok (.ireturn, 1) := by decide +kernel
theorem dX10_blade_10 : decode cX10_blade 10 = .ok (.iload_n 2, 1) := by decide +kernel
theorem dX10_blade_11 : decode cX10_blade 11 = .ok (.invokestatic 162, 3) := by decide +kernel
theorem dX10_blade_14 : decode cX10_blade 14 = .ok (.ifCond .eq 36, 3) := by decide +kernel
theorem dX10_blade_17 : decode cX10_blade 17 = .ok (.iload_n 3, 1) := by decide +kernel
theorem dX10_blade_18 : decode cX10_blade 18 = .ok (.iconst 1, 1) := by decide +kernel
theorem dX10_blade_19 : decode cX10_blade 19 = .ok (.bipush 99, 2) := by decide +kernel
theorem dX10_blade_21 : decode cX10_blade 21 = .ok (.invokestatic 71, 3) := by decide +kernel
theorem dX10_blade_24 : decode cX10_blade 24 = .ok (.ifCond .eq 26, 3) := by decide +kernel
theorem dX10_blade_27 : decode cX10_blade 27 = .ok (.iload 4, 2) := by decide +kernel
theorem dX10_blade_29 : decode cX10_blade 29 = .ok (.iconst 1, 1) := by decide +kernel
theorem dX10_blade_30 : decode cX10_blade 30 = .ok (.sipush 999, 3) := by decide +kernel
theorem dX10_blade_33 : decode cX10_blade 33 = .ok (.invokestatic 71, 3) := by decide +kernel
theorem dX10_blade_36 : decode cX10_blade 36 = .ok (.ifCond .eq 14, 3) := by decide +kernel
theorem dX10_blade_39 : decode cX10_blade 39 = .ok (.iload 5, 2) := by decide +kernel
theorem dX10_blade_41 : decode cX10_blade 41 = .ok (.iconst 0, 1) := by decide +kernel
theorem dX10_blade_42 : decode cX10_blade 42 = .ok (.bipush 99, 2) := by decide +kernel
theorem dX10_blade_44 : decode cX10_blade 44 = .ok (.invokestatic 71, 3) := by decide +kernel
theorem dX10_blade_47 : decode cX10_blade 47 = .ok (.ifCond .ne 6, 3) := by decide +kernel
theorem dX10_blade_50 : decode cX10_blade 50 = .ok (.bipush (-3), 2) := by decide +kernel
theorem dX10_blade_52 : decode cX10_blade 52 = .ok (.ireturn, 1) := by decide +kernel
theorem dX10_blade_53 : decode cX10_blade 53 = .ok (.aload_n 0, 1) := by decide +kernel
theorem dX10_blade_54 : decode cX10_blade 54 = .ok (.getfield 78, 3) := by decide +kernel
theorem dX10_blade_57 : decode cX10_blade 57 = .ok (.bipush 12, 2) := by decide +kernel
theorem dX10_blade_59 : decode cX10_blade 59 = .ok (.if_icmp .ne 6, 3) := by decide +kernel
theorem dX10_blade_62 : decode cX10_blade 62 = .ok (.bipush (-5), 2) := by decide +kernel
theorem dX10_blade_64 : decode cX10_blade 64 = .ok (.ireturn, 1) := by decide +kernel
theorem dX10_blade_65 : decode cX10_blade 65 = .ok (.bipush 11, 2) := by decide +kernel
theorem dX10_blade_67 : decode cX10_blade 67 = .ok (.aload_n 0, 1) := by decide +kernel
theorem dX10_blade_68 : decode cX10_blade 68 = .ok (.getfield 78, 3) := by decide +kernel
theorem dX10_blade_71 : decode cX10_blade 71 = .ok (.imul, 1) := by decide +kernel
theorem dX10_blade_72 : decode cX10_blade 72 = .ok (.istore 6, 2) := by decide +kernel
theorem dX10_blade_74 : decode cX10_blade 74 = .ok (.aload_n 0, 1) := by decide +kernel
theorem dX10_blade_75 : decode cX10_blade 75 = .ok (.getfield 32, 3) := by decide +kernel
theorem dX10_blade_78 : decode cX10_blade 78 = .ok (.iload 6, 2) := by decide +kernel
theorem dX10_blade_80 : decode cX10_blade 80 = .ok (.iload_n 1, 1) := by decide +kernel
theorem dX10_blade_81 : decode cX10_blade 81 = .ok (.iastore, 1) := by decide +kernel
theorem dX10_blade_82 : decode cX10_blade 82 = .ok (.aload_n 0, 1) := by decide +kernel
theorem dX10_blade_83 : decode cX10_blade 83 = .ok (.aload_n 0, 1) := by decide +kernel
theorem dX10_blade_84 : decode cX10_blade 84 = .ok (.getfield 78, 3) := by decide +kernel
theorem dX10_blade_87 : decode cX10_blade 87 = .ok (.iload_n 2, 1) := by decide +kernel
theorem dX10_blade_88 : decode cX10_blade 88 = .ok (.iload_n 3, 1) := by decide +kernel
theorem dX10_blade_89 : decode cX10_blade 89 = .ok (.invokevirtual 165, 3) := by decide +kernel
theorem dX10_blade_92 : decode cX10_blade 92 = .ok (.aload_n 0, 1) := by decide +kernel
theorem dX10_blade_93 : decode cX10_blade 93 = .ok (.getfield 32, 3) := by decide +kernel
theorem dX10_blade_96 : decode cX10_blade 96 = .ok (.iload 6, 2) := by decide +kernel
theorem dX10_blade_98 : decode cX10_blade 98 = .ok (.iconst 5, 1) := by decide +kernel
theorem dX10_blade_99 : decode cX10_blade 99 = .ok (.iadd, 1) := by decide +kernel
theorem dX10_blade_100 : decode cX10_blade 100 = .ok (.iload 4, 2) := by decide +kernel
theorem dX10_blade_102 : decode cX10_blade 102 = .ok (.iastore, 1) := by decide +kernel
theorem dX10_blade_103 : decode cX10_blade 103 = .ok (.aload_n 0, 1) := by decide +kernel
theorem dX10_blade_104 : decode cX10_blade 104 = .ok (.getfield 32, 3) := by decide +kernel
theorem dX10_blade_107 : decode cX10_blade 107 = .ok (.iload 6, 2) := by decide +kernel
theorem dX10_blade_109 : decode cX10_blade 109 = .ok (.bipush 6, 2) := by decide +kernel
theorem dX10_blade_111 : decode cX10_blade 111 = .ok (.iadd, 1) := by decide +kernel
theorem dX10_blade_112 : decode cX10_blade 112 = .ok (.iload 5, 2) := by decide +kernel
theorem dX10_blade_114 : decode cX10_blade 114 = .ok (.iastore, 1) := by decide +kernel
theorem dX10_blade_115 : decode cX10_blade 115 = .ok (.aload_n 0, 1) := by decide +kernel
theorem dX10_blade_116 : decode cX10_blade 116 = .ok (.getfield 32, 3) := by decide +kernel
theorem dX10_blade_119 : decode cX10_blade 119 = .ok (.iload 6, 2) := by decide +kernel
theorem dX10_blade_121 : decode cX10_blade 121 = .ok (.bipush 7, 2) := by decide +kernel
theorem dX10_blade_123 : decode cX10_blade 123 = .ok (.iadd, 1) := by decide +kernel
theorem dX10_blade_124 : decode cX10_blade 124 = .ok (.iconst 0, 1) := by decide +kernel
theorem dX10_blade_125 : decode cX10_blade 125 = .ok (.iastore, 1) := by decide +kernel
theorem dX10_blade_126 : decode cX10_blade 126 = .ok (.aload_n 0, 1) := by decide +kernel
theorem dX10_blade_127 : decode cX10_blade 127 = .ok (.getfield 32, 3) := by decide +kernel
theorem dX10_blade_130 : decode cX10_blade 130 = .ok (.iload 6, 2) := by decide +kernel
theorem dX10_blade_132 : decode cX10_blade 132 = .ok (.bipush 8, 2) := by decide +kernel
theorem dX10_blade_134 : decode cX10_blade 134 = .ok (.iadd, 1) := by decide +kernel
theorem dX10_blade_135 : decode cX10_blade 135 = .ok (.iconst 0, 1) := by decide +kernel
theorem dX10_blade_136 : decode cX10_blade 136 = .ok (.iastore, 1) := by decide +kernel
theorem dX10_blade_137 : decode cX10_blade 137 = .ok (.aload_n 0, 1) := by decide +kernel
theorem dX10_blade_138 : decode cX10_blade 138 = .ok (.getfield 32, 3) := by decide +kernel
theorem dX10_blade_141 : decode cX10_blade 141 = .ok (.iload 6, 2) := by decide +kernel
theorem dX10_blade_143 : decode cX10_blade 143 = .ok (.bipush 9, 2) := by decide +kernel
theorem dX10_blade_145 : decode cX10_blade 145 = .ok (.iadd, 1) := by decide +kernel
theorem dX10_blade_146 : decode cX10_blade 146 = .ok (.iconst (-1), 1) := by decide +kernel
theorem dX10_blade_147 : decode cX10_blade 147 = .ok (.iastore, 1) := by decide +kernel
theorem dX10_blade_148 : decode cX10_blade 148 = .ok (.aload_n 0, 1) := by decide +kernel
theorem dX10_blade_149 : decode cX10_blade 149 = .ok (.getfield 32, 3) := by decide +kernel
theorem dX10_blade_152 : decode cX10_blade 152 = .ok (.iload 6, 2) := by decide +kernel
theorem dX10_blade_154 : decode cX10_blade 154 = .ok (.bipush 10, 2) := by decide +kernel
theorem dX10_blade_156 : decode cX10_blade 156 = .ok (.iadd, 1) := by decide +kernel
theorem dX10_blade_157 : decode cX10_blade 157 = .ok (.iconst (-1), 1) := by decide +kernel
theorem dX10_blade_158 : decode cX10_blade 158 = .ok (.iastore, 1) := by decide +kernel
theorem dX10_blade_159 : decode cX10_blade 159 = .ok (.aload_n 0, 1) := by decide +kernel
theorem dX10_blade_160 : decode cX10_blade 160 = .ok (.dup, 1) := by decide +kernel
theorem dX10_blade_161 : decode cX10_blade 161 = .ok (.getfield 78, 3) := by decide +kernel
theorem dX10_blade_164 : decode cX10_blade 164 = .ok (.iconst 1, 1) := by decide +kernel
theorem dX10_blade_165 : decode cX10_blade 165 = .ok (.iadd, 1) := by decide +kernel
theorem dX10_blade_166 : decode cX10_blade 166 = .ok (.putfield 78, 3) := by decide +kernel
theorem dX10_blade_169 : decode cX10_blade 169 = .ok (.aload_n 0, 1) := by decide +kernel
theorem dX10_blade_170 : decode cX10_blade 170 = .ok (.getfield 78, 3) := by decide +kernel
theorem dX10_blade_173 : decode cX10_blade 173 = .ok (.iconst 1, 1) := by decide +kernel
theorem dX10_blade_174 : decode cX10_blade 174 = .ok (.isub, 1) := by decide +kernel
theorem dX10_blade_175 : decode cX10_blade 175 = .ok (.ireturn, 1) := by decide +kernel
theorem dX10_rim_0 : decode cX10_rim 0 = .ok (.aload_n 0, 1) := by decide +kernel
theorem dX10_rim_1 : decode cX10_rim 1 = .ok (.iload_n 1, 1) := by decide +kernel
theorem dX10_rim_2 : decode cX10_rim 2 = .ok (.invokevirtual 169, 3) := by decide +kernel
theorem dX10_rim_5 : decode cX10_rim 5 = .ok (.ifCond .ne 6, 3) := by decide +kernel
theorem dX10_rim_8 : decode cX10_rim 8 = .ok (.bipush (-2), 2) := by decide +kernel
theorem dX10_rim_10 : decode cX10_rim 10 = .ok (.ireturn, 1) := by decide +kernel
theorem dX10_rim_11 : decode cX10_rim 11 = .ok (.iload_n 2, 1) := by decide +kernel
theorem dX10_rim_12 : decode cX10_rim 12 = .ok (.iconst 0, 1) := by decide +kernel
theorem dX10_rim_13 : decode cX10_rim 13 = .ok (.sipush 999, 3) := by decide +kernel
theorem dX10_rim_16 : decode cX10_rim 16 = .ok (.invokestatic 71, 3) := by decide +kernel
theorem dX10_rim_19 : decode cX10_rim 19 = .ok (.ifCond .eq 23, 3) := by decide +kernel
theorem dX10_rim_22 : decode cX10_rim 22 = .ok (.iload_n 3, 1) := by decide +kernel
theorem dX10_rim_23 : decode cX10_rim 23 = .ok (.iconst 0, 1) := by decide +kernel
theorem dX10_rim_24 : decode cX10_rim 24 = .ok (.sipush 999, 3) := by decide +kernel
theorem dX10_rim_27 : decode cX10_rim 27 = .ok (.invokestatic 71, 3) := by decide +kernel
theorem dX10_rim_30 : decode cX10_rim 30 = .ok (.ifCond .eq 12, 3) := by decide +kernel
theorem dX10_rim_33 : decode cX10_rim 33 = .ok (.iload_n 3, 1) := by decide +kernel
theorem dX10_rim_34 : decode cX10_rim 34 = .ok (.ifCond .le 11, 3) := by decide +kernel
theorem dX10_rim_37 : decode cX10_rim 37 = .ok (.iload_n 3, 1) := by decide +kernel
theorem dX10_rim_38 : decode cX10_rim 38 = .ok (.iload_n 2, 1) := by decide +kernel
theorem dX10_rim_39 : decode cX10_rim 39 = .ok (.if_icmp .lt 6, 3) := by decide +kernel
theorem dX10_rim_42 : decode cX10_rim 42 = .ok (.bipush (-3), 2) := by decide +kernel
theorem dX10_rim_44 : decode cX10_rim 44 = .ok (.ireturn, 1) := by decide +kernel
theorem dX10_rim_45 : decode cX10_rim 45 = .ok (.aload_n 0, 1) := by decide +kernel
theorem dX10_rim_46 : decode cX10_rim 46 = .ok (.getfield 32, 3) := by decide +kernel
theorem dX10_rim_49 : decode cX10_rim 49 = .ok (.bipush 11, 2) := by decide +kernel
theorem dX10_rim_51 : decode cX10_rim 51 = .ok (.iload_n 1, 1) := by decide +kernel
theorem dX10_rim_52 : decode cX10_rim 52 = .ok (.imul, 1) := by decide +kernel
theorem dX10_rim_53 : decode cX10_rim 53 = .ok (.bipush 7, 2) := by decide +kernel
theorem dX10_rim_55 : decode cX10_rim 55 = .ok (.iadd, 1) := by decide +kernel
theorem dX10_rim_56 : decode cX10_rim 56 = .ok (.iload_n 2, 1) := by decide +kernel
theorem dX10_rim_57 : decode cX10_rim 57 = .ok (.iastore, 1) := by decide +kernel
theorem dX10_rim_58 : decode cX10_rim 58 = .ok (.aload_n 0, 1) := by decide +kernel
theorem dX10_rim_59 : decode cX10_rim 59 = .ok (.getfield 32, 3) := by decide +kernel
theorem dX10_rim_62 : decode cX10_rim 62 = .ok (.bipush 11, 2) := by decide +kernel
theorem dX10_rim_64 : decode cX10_rim 64 = .ok (.iload_n 1, 1) := by decide +kernel
theorem dX10_rim_65 : decode cX10_rim 65 = .ok (.imul, 1) := by decide +kernel
theorem dX10_rim_66 : decode cX10_rim 66 = .ok (.bipush 8, 2) := by decide +kernel
theorem dX10_rim_68 : decode cX10_rim 68 = .ok (.iadd, 1) := by decide +kernel
theorem dX10_rim_69 : decode cX10_rim 69 = .ok (.iload_n 3, 1) := by decide +kernel
theorem dX10_rim_70 : decode cX10_rim 70 = .ok (.iastore, 1) := by decide +kernel
theorem dX10_rim_71 : decode cX10_rim 71 = .ok (.iconst 1, 1) := by decide +kernel
theorem dX10_rim_72 : decode cX10_rim 72 = .ok (.ireturn, 1) := by decide +kernel
theorem dX10_measure_0 : decode cX10_measure 0 = .ok (.aload_n 0, 1) := by decide +kernel
theorem dX10_measure_1 : decode cX10_measure 1 = .ok (.iload_n 1, 1) := by decide +kernel
theorem dX10_measure_2 : decode cX10_measure 2 = .ok (.invokevirtual 169, 3) := by decide +kernel
theorem dX10_measure_5 : decode cX10_measure 5 = .ok (.ifCond .ne 6, 3) := by decide +kernel
theorem dX10_measure_8 : decode cX10_measure 8 = .ok (.bipush (-2), 2) := by decide +kernel
theorem dX10_measure_10 : decode cX10_measure 10 = .ok (.ireturn, 1) := by decide +kernel
theorem dX10_measure_11 : decode cX10_measure 11 = .ok (.iload_n 2, 1) := by decide +kernel
theorem dX10_measure_12 : decode cX10_measure 12 = .ok (.invokestatic 162, 3) := by decide +kernel
theorem dX10_measure_15 : decode cX10_measure 15 = .ok (.ifCond .eq 13, 3) := by decide +kernel
theorem dX10_measure_18 : decode cX10_measure 18 = .ok (.iload_n 3, 1) := by decide +kernel
theorem dX10_measure_19 : decode cX10_measure 19 = .ok (.iconst 1, 1) := by decide +kernel
theorem dX10_measure_20 : decode cX10_measure 20 = .ok (.bipush 99, 2) := by decide +kernel
theorem dX10_measure_22 : decode cX10_measure 22 = .ok (.invokestatic 71, 3) := by decide +kernel
theorem dX10_measure_25 : decode cX10_measure 25 = .ok (.ifCond .ne 6, 3) := by decide +kernel
theorem dX10_measure_28 : decode cX10_measure 28 = .ok (.bipush (-3), 2) := by decide +kernel
theorem dX10_measure_30 : decode cX10_measure 30 = .ok (.ireturn, 1) := by decide +kernel
theorem dX10_measure_31 : decode cX10_measure 31 = .ok (.aload_n 0, 1) := by decide +kernel
theorem dX10_measure_32 : decode cX10_measure 32 = .ok (.iload_n 1, 1) := by decide +kernel
theorem dX10_measure_33 : decode cX10_measure 33 = .ok (.iconst 4, 1) := by decide +kernel
theorem dX10_measure_34 : decode cX10_measure 34 = .ok (.invokevirtual 172, 3) := by decide +kernel
theorem dX10_measure_37 : decode cX10_measure 37 = .ok (.istore 4, 2) := by decide +kernel
theorem dX10_measure_39 : decode cX10_measure 39 = .ok (.aload_n 0, 1) := by decide +kernel
theorem dX10_measure_40 : decode cX10_measure 40 = .ok (.iload_n 1, 1) := by decide +kernel
theorem dX10_measure_41 : decode cX10_measure 41 = .ok (.iload_n 2, 1) := by decide +kernel
theorem dX10_measure_42 : decode cX10_measure 42 = .ok (.iload_n 3, 1) := by decide +kernel
theorem dX10_measure_43 : decode cX10_measure 43 = .ok (.invokevirtual 165, 3) := by decide +kernel
theorem dX10_measure_46 : decode cX10_measure 46 = .ok (.iload 4, 2) := by decide +kernel
theorem dX10_measure_48 : decode cX10_measure 48 = .ok (.ireturn, 1) := by decide +kernel
theorem dX10_of_0 : decode cX10_of 0 = .ok (.aload_n 0, 1) := by decide +kernel
theorem dX10_of_1 : decode cX10_of 1 = .ok (.iload_n 1, 1) := by decide +kernel
theorem dX10_of_2 : decode cX10_of 2 = .ok (.invokevirtual 169, 3) := by decide +kernel
theorem dX10_of_5 : decode cX10_of 5 = .ok (.ifCond .ne 6, 3) := by decide +kernel
theorem dX10_of_8 : decode cX10_of 8 = .ok (.bipush (-2), 2) := by decide +kernel
theorem dX10_of_10 : decode cX10_of 10 = .ok (.ireturn, 1) := by decide +kernel
theorem dX10_of_11 : decode cX10_of 11 = .ok (.iload_n 2, 1) := by decide +kernel
theorem dX10_of_12 : decode cX10_of 12 = .ok (.iconst 0, 1) := by decide +kernel
theorem dX10_of_13 : decode cX10_of 13 = .ok (.bipush 9, 2) := by decide +kernel
theorem dX10_of_15 : decode cX10_of 15 = .ok (.invokestatic 71, 3) := by decide +kernel
theorem dX10_of_18 : decode cX10_of 18 = .ok (.ifCond .eq 12, 3) := by decide +kernel
theorem dX10_of_21 : decode cX10_of 21 = .ok (.aload_n 0, 1) := by decide +kernel
theorem dX10_of_22 : decode cX10_of 22 = .ok (.iload_n 1, 1) := by decide +kernel
theorem dX10_of_23 : decode cX10_of 23 = .ok (.iload_n 2, 1) := by decide +kernel
theorem dX10_of_24 : decode cX10_of 24 = .ok (.invokevirtual 172, 3) := by decide +kernel
theorem dX10_of_27 : decode cX10_of 27 = .ok (.goto 5, 3) := by decide +kernel
theorem dX10_of_30 : decode cX10_of 30 = .ok (.bipush (-3), 2) := by decide +kernel
theorem dX10_of_32 : decode cX10_of 32 = .ok (.ireturn, 1) := by decide +kernel
theorem dX10_offOf_0 : decode cX10_offOf 0 = .ok (.iconst 0, 1) := by decide +kernel
theorem dX10_offOf_1 : decode cX10_offOf 1 = .ok (.istore_n 3, 1) := by decide +kernel
theorem dX10_offOf_2 : decode cX10_offOf 2 = .ok (.iconst 0, 1) := by decide +kernel
theorem dX10_offOf_3 : decode cX10_offOf 3 = .ok (.istore 4, 2) := by decide +kernel
theorem dX10_offOf_5 : decode cX10_offOf 5 = .ok (.iload 4, 2) := by decide +kernel
theorem dX10_offOf_7 : decode cX10_offOf 7 = .ok (.iconst 3, 1) := by decide +kernel
theorem dX10_offOf_8 : decode cX10_offOf 8 = .ok (.if_icmp .ge 85, 3) := by decide +kernel
theorem dX10_offOf_11 : decode cX10_offOf 11 = .ok (.aload_n 0, 1) := by decide +kernel
theorem dX10_offOf_12 : decode cX10_offOf 12 = .ok (.iload_n 1, 1) := by decide +kernel
theorem dX10_offOf_13 : decode cX10_offOf 13 = .ok (.iconst 1, 1) := by decide +kernel
theorem dX10_offOf_14 : decode cX10_offOf 14 = .ok (.iload 4, 2) := by decide +kernel
theorem dX10_offOf_16 : decode cX10_offOf 16 = .ok (.iadd, 1) := by decide +kernel
theorem dX10_offOf_17 : decode cX10_offOf 17 = .ok (.invokevirtual 172, 3) := by decide +kernel
theorem dX10_offOf_20 : decode cX10_offOf 20 = .ok (.aload_n 0, 1) := by decide +kernel
theorem dX10_offOf_21 : decode cX10_offOf 21 = .ok (.getfield 16, 3) := by decide +kernel
theorem dX10_offOf_24 : decode cX10_offOf 24 = .ok (.bipush 6, 2) := by decide +kernel
theorem dX10_offOf_26 : decode cX10_offOf 26 = .ok (.iload_n 2, 1) := by decide +kernel
theorem dX10_offOf_27 : decode cX10_offOf 27 = .ok (.imul, 1) := by decide +kernel
theorem dX10_offOf_28 : decode cX10_offOf 28 = .ok (.iconst 2, 1) := by decide +kernel
theorem dX10_offOf_29 : decode cX10_offOf 29 = .ok (.iadd, 1) := by decide +kernel
theorem dX10_offOf_30 : decode cX10_offOf 30 = .ok (.iload 4, 2) := by decide +kernel
theorem dX10_offOf_32 : decode cX10_offOf 32 = .ok (.iadd, 1) := by decide +kernel
theorem dX10_offOf_33 : decode cX10_offOf 33 = .ok (.iaload, 1) := by decide +kernel
theorem dX10_offOf_34 : decode cX10_offOf 34 = .ok (.isub, 1) := by decide +kernel
theorem dX10_offOf_35 : decode cX10_offOf 35 = .ok (.istore 5, 2) := by decide +kernel
theorem dX10_offOf_37 : decode cX10_offOf 37 = .ok (.bipush 10, 2) := by decide +kernel
theorem dX10_offOf_39 : decode cX10_offOf 39 = .ok (.iload 5, 2) := by decide +kernel
theorem dX10_offOf_41 : decode cX10_offOf 41 = .ok (.ifCond .ge 9, 3) := by decide +kernel
theorem dX10_offOf_44 : decode cX10_offOf 44 = .ok (.iload 5, 2) := by decide +kernel
theorem dX10_offOf_46 : decode cX10_offOf 46 = .ok (.ineg, 1) := by decide +kernel
theorem dX10_offOf_47 : decode cX10_offOf 47 = .ok (.goto 5, 3) := by decide +kernel
theorem dX10_offOf_50 : decode cX10_offOf 50 = .ok (.iload 5, 2) := by decide +kernel
theorem dX10_offOf_52 : decode cX10_offOf 52 = .ok (.imul, 1) := by decide +kernel
theorem dX10_offOf_53 : decode cX10_offOf 53 = .ok (.aload_n 0, 1) := by decide +kernel
theorem dX10_offOf_54 : decode cX10_offOf 54 = .ok (.iload_n 1, 1) := by decide +kernel
theorem dX10_offOf_55 : decode cX10_offOf 55 = .ok (.iconst 4, 1) := by decide +kernel
theorem dX10_offOf_56 : decode cX10_offOf 56 = .ok (.invokevirtual 172, 3) := by decide +kernel
theorem dX10_offOf_59 : decode cX10_offOf 59 = .ok (.aload_n 0, 1) := by decide +kernel
theorem dX10_offOf_60 : decode cX10_offOf 60 = .ok (.getfield 16, 3) := by decide +kernel
theorem dX10_offOf_63 : decode cX10_offOf 63 = .ok (.bipush 6, 2) := by decide +kernel
theorem dX10_offOf_65 : decode cX10_offOf 65 = .ok (.iload_n 2, 1) := by decide +kernel
theorem dX10_offOf_66 : decode cX10_offOf 66 = .ok (.imul, 1) := by decide +kernel
theorem dX10_offOf_67 : decode cX10_offOf 67 = .ok (.iconst 5, 1) := by decide +kernel
theorem dX10_offOf_68 : decode cX10_offOf 68 = .ok (.iadd, 1) := by decide +kernel
theorem dX10_offOf_69 : decode cX10_offOf 69 = .ok (.iaload, 1) := by decide +kernel
theorem dX10_offOf_70 : decode cX10_offOf 70 = .ok (.iadd, 1) := by decide +kernel
theorem dX10_offOf_71 : decode cX10_offOf 71 = .ok (.idiv, 1) := by decide +kernel
theorem dX10_offOf_72 : decode cX10_offOf 72 = .ok (.istore 6, 2) := by decide +kernel
theorem dX10_offOf_74 : decode cX10_offOf 74 = .ok (.iload 6, 2) := by decide +kernel
theorem dX10_offOf_76 : decode cX10_offOf 76 = .ok (.iload_n 3, 1) := by decide +kernel
theorem dX10_offOf_77 : decode cX10_offOf 77 = .ok (.if_icmp .le 8, 3) := by decide +kernel
theorem dX10_offOf_80 : decode cX10_offOf 80 = .ok (.iload 6, 2) := by decide +kernel
theorem dX10_offOf_82 : decode cX10_offOf 82 = .ok (.goto 4, 3) := by decide +kernel
theorem dX10_offOf_85 : decode cX10_offOf 85 = .ok (.iload_n 3, 1) := by decide +kernel
theorem dX10_offOf_86 : decode cX10_offOf 86 = .ok (.istore_n 3, 1) := by decide +kernel
theorem dX10_offOf_87 : decode cX10_offOf 87 = .ok (.iinc 4 1, 3) := by decide +kernel
theorem dX10_offOf_90 : decode cX10_offOf 90 = .ok (.goto (-85), 3) := by decide +kernel
theorem dX10_offOf_93 : decode cX10_offOf 93 = .ok (.iload_n 3, 1) := by decide +kernel
theorem dX10_offOf_94 : decode cX10_offOf 94 = .ok (.ireturn, 1) := by decide +kernel
theorem dX10_off_0 : decode cX10_off 0 = .ok (.aload_n 0, 1) := by decide +kernel
theorem dX10_off_1 : decode cX10_off 1 = .ok (.iload_n 1, 1) := by decide +kernel
theorem dX10_off_2 : decode cX10_off 2 = .ok (.invokevirtual 169, 3) := by decide +kernel
theorem dX10_off_5 : decode cX10_off 5 = .ok (.ifCond .eq 20, 3) := by decide +kernel
theorem dX10_off_8 : decode cX10_off 8 = .ok (.aload_n 0, 1) := by decide +kernel
theorem dX10_off_9 : decode cX10_off 9 = .ok (.iload_n 2, 1) := by decide +kernel
theorem dX10_off_10 : decode cX10_off 10 = .ok (.invokevirtual 159, 3) := by decide +kernel
theorem dX10_off_13 : decode cX10_off 13 = .ok (.ifCond .eq 12, 3) := by decide +kernel
theorem dX10_off_16 : decode cX10_off 16 = .ok (.aload_n 0, 1) := by decide +kernel
theorem dX10_off_17 : decode cX10_off 17 = .ok (.iload_n 1, 1) := by decide +kernel
theorem dX10_off_18 : decode cX10_off 18 = .ok (.iload_n 2, 1) := by decide +kernel
theorem dX10_off_19 : decode cX10_off 19 = .ok (.invokevirtual 176, 3) := by decide +kernel
theorem dX10_off_22 : decode cX10_off 22 = .ok (.goto 5, 3) := by decide +kernel
theorem dX10_off_25 : decode cX10_off 25 = .ok (.bipush (-2), 2) := by decide +kernel
theorem dX10_off_27 : decode cX10_off 27 = .ok (.ireturn, 1) := by decide +kernel
theorem dX10_canBe_0 : decode cX10_canBe 0 = .ok (.iconst 0, 1) := by decide +kernel
theorem dX10_canBe_1 : decode cX10_canBe 1 = .ok (.istore_n 2, 1) := by decide +kernel
theorem dX10_canBe_2 : decode cX10_canBe 2 = .ok (.iconst 0, 1) := by decide +kernel
theorem dX10_canBe_3 : decode cX10_canBe 3 = .ok (.istore_n 3, 1) := by decide +kernel
theorem dX10_canBe_4 : decode cX10_canBe 4 = .ok (.iload_n 3, 1) := by decide +kernel
theorem dX10_canBe_5 : decode cX10_canBe 5 = .ok (.bipush 9, 2) := by decide +kernel
theorem dX10_canBe_7 : decode cX10_canBe 7 = .ok (.if_icmp .ge 40, 3) := by decide +kernel
theorem dX10_canBe_10 : decode cX10_canBe 10 = .ok (.iload_n 2, 1) := by decide +kernel
theorem dX10_canBe_11 : decode cX10_canBe 11 = .ok (.aload_n 0, 1) := by decide +kernel
theorem dX10_canBe_12 : decode cX10_canBe 12 = .ok (.iload_n 3, 1) := by decide +kernel
theorem dX10_canBe_13 : decode cX10_canBe 13 = .ok (.invokevirtual 159, 3) := by decide +kernel
theorem dX10_canBe_16 : decode cX10_canBe 16 = .ok (.ifCond .eq 22, 3) := by decide +kernel
theorem dX10_canBe_19 : decode cX10_canBe 19 = .ok (.aload_n 0, 1) := by decide +kernel
theorem dX10_canBe_20 : decode cX10_canBe 20 = .ok (.iload_n 1, 1) := by decide +kernel
theorem dX10_canBe_21 : decode cX10_canBe 21 = .ok (.iload_n 3, 1) := by decide +kernel
theorem dX10_canBe_22 : decode cX10_canBe 22 = .ok (.invokevirtual 176, 3) := by decide +kernel
theorem dX10_canBe_25 : decode cX10_canBe 25 = .ok (.aload_n 0, 1) := by decide +kernel
theorem dX10_canBe_26 : decode cX10_canBe 26 = .ok (.getfield 19, 3) := by decide +kernel
theorem dX10_canBe_29 : decode cX10_canBe 29 = .ok (.if_icmp .gt 9, 3) := by decide +kernel
theorem dX10_canBe_32 : decode cX10_canBe 32 = .ok (.iconst 1, 1) := by decide +kernel
theorem dX10_canBe_33 : decode cX10_canBe 33 = .ok (.iload_n 3, 1) := by decide +kernel
theorem dX10_canBe_34 : decode cX10_canBe 34 = .ok (.ishl, 1) := by decide +kernel
theorem dX10_canBe_35 : decode cX10_canBe 35 = .ok (.goto 4, 3) := by decide +kernel
theorem dX10_canBe_38 : decode cX10_canBe 38 = .ok (.iconst 0, 1) := by decide +kernel
theorem dX10_canBe_39 : decode cX10_canBe 39 = .ok (.ior, 1) := by decide +kernel
theorem dX10_canBe_40 : decode cX10_canBe 40 = .ok (.istore_n 2, 1) := by decide +kernel
theorem dX10_canBe_41 : decode cX10_canBe 41 = .ok (.iinc 3 1, 3) := by decide +kernel
theorem dX10_canBe_44 : decode cX10_canBe 44 = .ok (.goto (-40), 3) := by decide +kernel
theorem dX10_canBe_47 : decode cX10_canBe 47 = .ok (.iload_n 2, 1) := by decide +kernel
theorem dX10_canBe_48 : decode cX10_canBe 48 = .ok (.ireturn, 1) := by decide +kernel
theorem dX10_can_0 : decode cX10_can 0 = .ok (.aload_n 0, 1) := by decide +kernel
theorem dX10_can_1 : decode cX10_can 1 = .ok (.iload_n 1, 1) := by decide +kernel
theorem dX10_can_2 : decode cX10_can 2 = .ok (.invokevirtual 169, 3) := by decide +kernel
theorem dX10_can_5 : decode cX10_can 5 = .ok (.ifCond .eq 11, 3) := by decide +kernel
theorem dX10_can_8 : decode cX10_can 8 = .ok (.aload_n 0, 1) := by decide +kernel
theorem dX10_can_9 : decode cX10_can 9 = .ok (.iload_n 1, 1) := by decide +kernel
theorem dX10_can_10 : decode cX10_can 10 = .ok (.invokevirtual 179, 3) := by decide +kernel
theorem dX10_can_13 : decode cX10_can 13 = .ok (.goto 5, 3) := by decide +kernel
theorem dX10_can_16 : decode cX10_can 16 = .ok (.bipush (-2), 2) := by decide +kernel
theorem dX10_can_18 : decode cX10_can 18 = .ok (.ireturn, 1) := by decide +kernel
theorem dX10_bits_0 : decode cX10_bits 0 = .ok (.iconst 0, 1) := by decide +kernel
theorem dX10_bits_1 : decode cX10_bits 1 = .ok (.istore_n 1, 1) := by decide +kernel
theorem dX10_bits_2 : decode cX10_bits 2 = .ok (.iconst 0, 1) := by decide +kernel
theorem dX10_bits_3 : decode cX10_bits 3 = .ok (.istore_n 2, 1) := by decide +kernel
theorem dX10_bits_4 : decode cX10_bits 4 = .ok (.iload_n 2, 1) := by decide +kernel
theorem dX10_bits_5 : decode cX10_bits 5 = .ok (.bipush 12, 2) := by decide +kernel
theorem dX10_bits_7 : decode cX10_bits 7 = .ok (.if_icmp .ge 17, 3) := by decide +kernel
theorem dX10_bits_10 : decode cX10_bits 10 = .ok (.iload_n 1, 1) := by decide +kernel
theorem dX10_bits_11 : decode cX10_bits 11 = .ok (.iload_n 0, 1) := by decide +kernel
theorem dX10_bits_12 : decode cX10_bits 12 = .ok (.iload_n 2, 1) := by decide +kernel
theorem dX10_bits_13 : decode cX10_bits 13 = .ok (.ishr, 1) := by decide +kernel
theorem dX10_bits_14 : decode cX10_bits 14 = .ok (.iconst 1, 1) := by decide +kernel
theorem dX10_bits_15 : decode cX10_bits 15 = .ok (.iand, 1) := by decide +kernel
theorem dX10_bits_16 : decode cX10_bits 16 = .ok (.iadd, 1) := by decide +kernel
theorem dX10_bits_17 : decode cX10_bits 17 = .ok (.istore_n 1, 1) := by decide +kernel
theorem dX10_bits_18 : decode cX10_bits 18 = .ok (.iinc 2 1, 3) := by decide +kernel
theorem dX10_bits_21 : decode cX10_bits 21 = .ok (.goto (-17), 3) := by decide +kernel
theorem dX10_bits_24 : decode cX10_bits 24 = .ok (.iload_n 1, 1) := by decide +kernel
theorem dX10_bits_25 : decode cX10_bits 25 = .ok (.ireturn, 1) := by decide +kernel
theorem dX10_named_0 : decode cX10_named 0 = .ok (.aload_n 0, 1) := by decide +kernel
theorem dX10_named_1 : decode cX10_named 1 = .ok (.iload_n 1, 1) := by decide +kernel
theorem dX10_named_2 : decode cX10_named 2 = .ok (.invokevirtual 169, 3) := by decide +kernel
theorem dX10_named_5 : decode cX10_named 5 = .ok (.ifCond .ne 6, 3) := by decide +kernel
theorem dX10_named_8 : decode cX10_named 8 = .ok (.bipush (-2), 2) := by decide +kernel
theorem dX10_named_10 : decode cX10_named 10 = .ok (.ireturn, 1) := by decide +kernel
theorem dX10_named_11 : decode cX10_named 11 = .ok (.aload_n 0, 1) := by decide +kernel
theorem dX10_named_12 : decode cX10_named 12 = .ok (.iload_n 1, 1) := by decide +kernel
theorem dX10_named_13 : decode cX10_named 13 = .ok (.invokevirtual 179, 3) := by decide +kernel
theorem dX10_named_16 : decode cX10_named 16 = .ok (.istore_n 2, 1) := by decide +kernel
theorem dX10_named_17 : decode cX10_named 17 = .ok (.iload_n 2, 1) := by decide +kernel
theorem dX10_named_18 : decode cX10_named 18 = .ok (.invokestatic 183, 3) := by decide +kernel
theorem dX10_named_21 : decode cX10_named 21 = .ok (.iconst 1, 1) := by decide +kernel
theorem dX10_named_22 : decode cX10_named 22 = .ok (.if_icmp .eq 5, 3) := by decide +kernel
theorem dX10_named_25 : decode cX10_named 25 = .ok (.iconst (-1), 1) := by decide +kernel
theorem dX10_named_26 : decode cX10_named 26 = .ok (.ireturn, 1) := by decide +kernel
theorem dX10_named_27 : decode cX10_named 27 = .ok (.iconst (-1), 1) := by decide +kernel
theorem dX10_named_28 : decode cX10_named 28 = .ok (.istore_n 3, 1) := by decide +kernel
theorem dX10_named_29 : decode cX10_named 29 = .ok (.iconst 0, 1) := by decide +kernel
theorem dX10_named_30 : decode cX10_named 30 = .ok (.istore 4, 2) := by decide +kernel
theorem dX10_named_32 : decode cX10_named 32 = .ok (.iload 4, 2) := by decide +kernel
theorem dX10_named_34 : decode cX10_named 34 = .ok (.bipush 9, 2) := by decide +kernel
theorem dX10_named_36 : decode cX10_named 36 = .ok (.if_icmp .ge 50, 3) := by decide +kernel
theorem dX10_named_39 : decode cX10_named 39 = .ok (.iload_n 2, 1) := by decide +kernel
theorem dX10_named_40 : decode cX10_named 40 = .ok (.iload 4, 2) := by decide +kernel
theorem dX10_named_42 : decode cX10_named 42 = .ok (.ishr, 1) := by decide +kernel
theorem dX10_named_43 : decode cX10_named 43 = .ok (.iconst 1, 1) := by decide +kernel
theorem dX10_named_44 : decode cX10_named 44 = .ok (.iand, 1) := by decide +kernel
theorem dX10_named_45 : decode cX10_named 45 = .ok (.iconst 1, 1) := by decide +kernel
theorem dX10_named_46 : decode cX10_named 46 = .ok (.if_icmp .ne 9, 3) := by decide +kernel
theorem dX10_named_49 : decode cX10_named 49 = .ok (.iload 4, 2) := by decide +kernel
theorem dX10_named_51 : decode cX10_named 51 = .ok (.istore_n 3, 1) := by decide +kernel
theorem dX10_named_52 : decode cX10_named 52 = .ok (.goto 28, 3) := by decide +kernel
theorem dX10_named_55 : decode cX10_named 55 = .ok (.aload_n 0, 1) := by decide +kernel
theorem dX10_named_56 : decode cX10_named 56 = .ok (.iload 4, 2) := by decide +kernel
theorem dX10_named_58 : decode cX10_named 58 = .ok (.invokevirtual 159, 3) := by decide +kernel
theorem dX10_named_61 : decode cX10_named 61 = .ok (.ifCond .eq 19, 3) := by decide +kernel
theorem dX10_named_64 : decode cX10_named 64 = .ok (.aload_n 0, 1) := by decide +kernel
theorem dX10_named_65 : decode cX10_named 65 = .ok (.iload_n 1, 1) := by decide +kernel
theorem dX10_named_66 : decode cX10_named 66 = .ok (.iload 4, 2) := by decide +kernel
theorem dX10_named_68 : decode cX10_named 68 = .ok (.invokevirtual 176, 3) := by decide +kernel
theorem dX10_named_71 : decode cX10_named 71 = .ok (.aload_n 0, 1) := by decide +kernel
theorem dX10_named_72 : decode cX10_named 72 = .ok (.getfield 23, 3) := by decide +kernel
theorem dX10_named_75 : decode cX10_named 75 = .ok (.if_icmp .ge 5, 3) := by decide +kernel
theorem dX10_named_78 : decode cX10_named 78 = .ok (.iconst (-1), 1) := by decide +kernel
theorem dX10_named_79 : decode cX10_named 79 = .ok (.ireturn, 1) := by decide +kernel
theorem dX10_named_80 : decode cX10_named 80 = .ok (.iinc 4 1, 3) := by decide +kernel
theorem dX10_named_83 : decode cX10_named 83 = .ok (.goto (-51), 3) := by decide +kernel
theorem dX10_named_86 : decode cX10_named 86 = .ok (.iload_n 3, 1) := by decide +kernel
theorem dX10_named_87 : decode cX10_named 87 = .ok (.ireturn, 1) := by decide +kernel
theorem dX10_isFrom_0 : decode cX10_isFrom 0 = .ok (.aload_n 0, 1) := by decide +kernel
theorem dX10_isFrom_1 : decode cX10_isFrom 1 = .ok (.iload_n 1, 1) := by decide +kernel
theorem dX10_isFrom_2 : decode cX10_isFrom 2 = .ok (.bipush 9, 2) := by decide +kernel
theorem dX10_isFrom_4 : decode cX10_isFrom 4 = .ok (.invokevirtual 172, 3) := by decide +kernel
theorem dX10_isFrom_7 : decode cX10_isFrom 7 = .ok (.istore_n 3, 1) := by decide +kernel
theorem dX10_isFrom_8 : decode cX10_isFrom 8 = .ok (.iload_n 3, 1) := by decide +kernel
theorem dX10_isFrom_9 : decode cX10_isFrom 9 = .ok (.iconst (-1), 1) := by decide +kernel
theorem dX10_isFrom_10 : decode cX10_isFrom 10 = .ok (.if_icmp .eq 19, 3) := by decide +kernel
theorem dX10_isFrom_13 : decode cX10_isFrom 13 = .ok (.iload_n 3, 1) := by decide +kernel
theorem dX10_isFrom_14 : decode cX10_isFrom 14 = .ok (.iload_n 2, 1) := by decide +kernel
theorem dX10_isFrom_15 : decode cX10_isFrom 15 = .ok (.if_icmp .eq 14, 3) := by decide +kernel
theorem dX10_isFrom_18 : decode cX10_isFrom 18 = .ok (.aload_n 0, 1) := by decide +kernel
theorem dX10_isFrom_19 : decode cX10_isFrom 19 = .ok (.iload_n 3, 1) := by decide +kernel
theorem dX10_isFrom_20 : decode cX10_isFrom 20 = .ok (.bipush 9, 2) := by decide +kernel
theorem dX10_isFrom_22 : decode cX10_isFrom 22 = .ok (.invokevirtual 172, 3) := by decide +kernel
theorem dX10_isFrom_25 : decode cX10_isFrom 25 = .ok (.istore_n 3, 1) := by decide +kernel
theorem dX10_isFrom_26 : decode cX10_isFrom 26 = .ok (.goto (-18), 3) := by decide +kernel
theorem dX10_isFrom_29 : decode cX10_isFrom 29 = .ok (.iload_n 3, 1) := by decide +kernel
theorem dX10_isFrom_30 : decode cX10_isFrom 30 = .ok (.iconst (-1), 1) := by decide +kernel
theorem dX10_isFrom_31 : decode cX10_isFrom 31 = .ok (.if_icmp .eq 7, 3) := by decide +kernel
theorem dX10_isFrom_34 : decode cX10_isFrom 34 = .ok (.iconst 1, 1) := by decide +kernel
theorem dX10_isFrom_35 : decode cX10_isFrom 35 = .ok (.goto 4, 3) := by decide +kernel
theorem dX10_isFrom_38 : decode cX10_isFrom 38 = .ok (.iconst 0, 1) := by decide +kernel
theorem dX10_isFrom_39 : decode cX10_isFrom 39 = .ok (.ireturn, 1) := by decide +kernel
theorem dX10_strike_0 : decode cX10_strike 0 = .ok (.aload_n 0, 1) := by decide +kernel
theorem dX10_strike_1 : decode cX10_strike 1 = .ok (.iload_n 1, 1) := by decide +kernel
theorem dX10_strike_2 : decode cX10_strike 2 = .ok (.invokevirtual 169, 3) := by decide +kernel
theorem dX10_strike_5 : decode cX10_strike 5 = .ok (.ifCond .eq 16, 3) := by decide +kernel
theorem dX10_strike_8 : decode cX10_strike 8 = .ok (.aload_n 0, 1) := by decide +kernel
theorem dX10_strike_9 : decode cX10_strike 9 = .ok (.iload_n 2, 1) := by decide +kernel
theorem dX10_strike_10 : decode cX10_strike 10 = .ok (.invokevirtual 169, 3) := by decide +kernel
theorem dX10_strike_13 : decode cX10_strike 13 = .ok (.ifCond .eq 8, 3) := by decide +kernel
theorem dX10_strike_16 : decode cX10_strike 16 = .ok (.iload_n 1, 1) := by decide +kernel
theorem dX10_strike_17 : decode cX10_strike 17 = .ok (.iload_n 2, 1) := by decide +kernel
theorem dX10_strike_18 : decode cX10_strike 18 = .ok (.if_icmp .ne 6, 3) := by decide +kernel
theorem dX10_strike_21 : decode cX10_strike 21 = .ok (.bipush (-2), 2) := by decide +kernel
theorem dX10_strike_23 : decode cX10_strike 23 = .ok (.ireturn, 1) := by decide +kernel
theorem dX10_strike_24 : decode cX10_strike 24 = .ok (.aload_n 0, 1) := by decide +kernel
theorem dX10_strike_25 : decode cX10_strike 25 = .ok (.iload_n 1, 1) := by decide +kernel
theorem dX10_strike_26 : decode cX10_strike 26 = .ok (.bipush 9, 2) := by decide +kernel
theorem dX10_strike_28 : decode cX10_strike 28 = .ok (.invokevirtual 172, 3) := by decide +kernel
theorem dX10_strike_31 : decode cX10_strike 31 = .ok (.iconst (-1), 1) := by decide +kernel
theorem dX10_strike_32 : decode cX10_strike 32 = .ok (.if_icmp .ne 12, 3) := by decide +kernel
theorem dX10_strike_35 : decode cX10_strike 35 = .ok (.aload_n 0, 1) := by decide +kernel
theorem dX10_strike_36 : decode cX10_strike 36 = .ok (.iload_n 2, 1) := by decide +kernel
theorem dX10_strike_37 : decode cX10_strike 37 = .ok (.iload_n 1, 1) := by decide +kernel
theorem dX10_strike_38 : decode cX10_strike 38 = .ok (.invokevirtual 186, 3) := by decide +kernel
theorem dX10_strike_41 : decode cX10_strike 41 = .ok (.ifCond .eq 6, 3) := by decide +kernel
theorem dX10_strike_44 : decode cX10_strike 44 = .ok (.bipush (-4), 2) := by decide +kernel
theorem dX10_strike_46 : decode cX10_strike 46 = .ok (.ireturn, 1) := by decide +kernel
theorem dX10_strike_47 : decode cX10_strike 47 = .ok (.aload_n 0, 1) := by decide +kernel
theorem dX10_strike_48 : decode cX10_strike 48 = .ok (.getfield 32, 3) := by decide +kernel
theorem dX10_strike_51 : decode cX10_strike 51 = .ok (.bipush 11, 2) := by decide +kernel
theorem dX10_strike_53 : decode cX10_strike 53 = .ok (.iload_n 1, 1) := by decide +kernel
theorem dX10_strike_54 : decode cX10_strike 54 = .ok (.imul, 1) := by decide +kernel
theorem dX10_strike_55 : decode cX10_strike 55 = .ok (.bipush 9, 2) := by decide +kernel
theorem dX10_strike_57 : decode cX10_strike 57 = .ok (.iadd, 1) := by decide +kernel
theorem dX10_strike_58 : decode cX10_strike 58 = .ok (.iload_n 2, 1) := by decide +kernel
theorem dX10_strike_59 : decode cX10_strike 59 = .ok (.iastore, 1) := by decide +kernel
theorem dX10_strike_60 : decode cX10_strike 60 = .ok (.iconst 1, 1) := by decide +kernel
theorem dX10_strike_61 : decode cX10_strike 61 = .ok (.ireturn, 1) := by decide +kernel
theorem dX10_undo_0 : decode cX10_undo 0 = .ok (.aload_n 0, 1) := by decide +kernel
theorem dX10_undo_1 : decode cX10_undo 1 = .ok (.iload_n 1, 1) := by decide +kernel
theorem dX10_undo_2 : decode cX10_undo 2 = .ok (.invokevirtual 169, 3) := by decide +kernel
theorem dX10_undo_5 : decode cX10_undo 5 = .ok (.ifCond .ne 6, 3) := by decide +kernel
theorem dX10_undo_8 : decode cX10_undo 8 = .ok (.bipush (-2), 2) := by decide +kernel
theorem dX10_undo_10 : decode cX10_undo 10 = .ok (.ireturn, 1) := by decide +kernel
theorem dX10_undo_11 : decode cX10_undo 11 = .ok (.aload_n 0, 1) := by decide +kernel
theorem dX10_undo_12 : decode cX10_undo 12 = .ok (.iload_n 1, 1) := by decide +kernel
theorem dX10_undo_13 : decode cX10_undo 13 = .ok (.bipush 9, 2) := by decide +kernel
theorem dX10_undo_15 : decode cX10_undo 15 = .ok (.invokevirtual 172, 3) := by decide +kernel
theorem dX10_undo_18 : decode cX10_undo 18 = .ok (.istore_n 2, 1) := by decide +kernel
theorem dX10_undo_19 : decode cX10_undo 19 = .ok (.aload_n 0, 1) := by decide +kernel
theorem dX10_undo_20 : decode cX10_undo 20 = .ok (.getfield 32, 3) := by decide +kernel
theorem dX10_undo_23 : decode cX10_undo 23 = .ok (.bipush 11, 2) := by decide +kernel
theorem dX10_undo_25 : decode cX10_undo 25 = .ok (.iload_n 1, 1) := by decide +kernel
theorem dX10_undo_26 : decode cX10_undo 26 = .ok (.imul, 1) := by decide +kernel
theorem dX10_undo_27 : decode cX10_undo 27 = .ok (.bipush 9, 2) := by decide +kernel
theorem dX10_undo_29 : decode cX10_undo 29 = .ok (.iadd, 1) := by decide +kernel
theorem dX10_undo_30 : decode cX10_undo 30 = .ok (.iconst (-1), 1) := by decide +kernel
theorem dX10_undo_31 : decode cX10_undo 31 = .ok (.iastore, 1) := by decide +kernel
theorem dX10_undo_32 : decode cX10_undo 32 = .ok (.iload_n 2, 1) := by decide +kernel
theorem dX10_undo_33 : decode cX10_undo 33 = .ok (.ireturn, 1) := by decide +kernel
theorem dX10_ago_0 : decode cX10_ago 0 = .ok (.iload_n 0, 1) := by decide +kernel
theorem dX10_ago_1 : decode cX10_ago 1 = .ok (.iload_n 0, 1) := by decide +kernel
theorem dX10_ago_2 : decode cX10_ago 2 = .ok (.imul, 1) := by decide +kernel
theorem dX10_ago_3 : decode cX10_ago 3 = .ok (.iload_n 1, 1) := by decide +kernel
theorem dX10_ago_4 : decode cX10_ago 4 = .ok (.idiv, 1) := by decide +kernel
theorem dX10_ago_5 : decode cX10_ago 5 = .ok (.istore_n 2, 1) := by decide +kernel
theorem dX10_ago_6 : decode cX10_ago 6 = .ok (.iload_n 2, 1) := by decide +kernel
theorem dX10_ago_7 : decode cX10_ago 7 = .ok (.sipush 9999, 3) := by decide +kernel
theorem dX10_ago_10 : decode cX10_ago 10 = .ok (.if_icmp .le 7, 3) := by decide +kernel
theorem dX10_ago_13 : decode cX10_ago 13 = .ok (.iconst 0, 1) := by decide +kernel
theorem dX10_ago_14 : decode cX10_ago 14 = .ok (.goto 8, 3) := by decide +kernel
theorem dX10_ago_17 : decode cX10_ago 17 = .ok (.sipush 9999, 3) := by decide +kernel
theorem dX10_ago_20 : decode cX10_ago 20 = .ok (.iload_n 2, 1) := by decide +kernel
theorem dX10_ago_21 : decode cX10_ago 21 = .ok (.isub, 1) := by decide +kernel
theorem dX10_ago_22 : decode cX10_ago 22 = .ok (.ireturn, 1) := by decide +kernel
theorem dX10_warmthOf_0 : decode cX10_warmthOf 0 = .ok (.aload_n 0, 1) := by decide +kernel
theorem dX10_warmthOf_1 : decode cX10_warmthOf 1 = .ok (.getfield 7, 3) := by decide +kernel
theorem dX10_warmthOf_4 : decode cX10_warmthOf 4 = .ok (.iconst 3, 1) := by decide +kernel
theorem dX10_warmthOf_5 : decode cX10_warmthOf 5 = .ok (.aload_n 0, 1) := by decide +kernel
theorem dX10_warmthOf_6 : decode cX10_warmthOf 6 = .ok (.iload_n 1, 1) := by decide +kernel
theorem dX10_warmthOf_7 : decode cX10_warmthOf 7 = .ok (.iconst 0, 1) := by decide +kernel
theorem dX10_warmthOf_8 : decode cX10_warmthOf 8 = .ok (.invokevirtual 172, 3) := by decide +kernel
theorem dX10_warmthOf_11 : decode cX10_warmthOf 11 = .ok (.imul, 1) := by decide +kernel
theorem dX10_warmthOf_12 : decode cX10_warmthOf 12 = .ok (.iconst 2, 1) := by decide +kernel
theorem dX10_warmthOf_13 : decode cX10_warmthOf 13 = .ok (.iadd, 1) := by decide +kernel
theorem dX10_warmthOf_14 : decode cX10_warmthOf 14 = .ok (.iaload, 1) := by decide +kernel
theorem dX10_warmthOf_15 : decode cX10_warmthOf 15 = .ok (.ireturn, 1) := by decide +kernel
theorem dX10_isReused_0 : decode cX10_isReused 0 = .ok (.aload_n 0, 1) := by decide +kernel
theorem dX10_isReused_1 : decode cX10_isReused 1 = .ok (.iload_n 1, 1) := by decide +kernel
theorem dX10_isReused_2 : decode cX10_isReused 2 = .ok (.bipush 8, 2) := by decide +kernel
theorem dX10_isReused_4 : decode cX10_isReused 4 = .ok (.invokevirtual 172, 3) := by decide +kernel
theorem dX10_isReused_7 : decode cX10_isReused 7 = .ok (.ifCond .le 7, 3) := by decide +kernel
theorem dX10_isReused_10 : decode cX10_isReused 10 = .ok (.iconst 1, 1) := by decide +kernel
theorem dX10_isReused_11 : decode cX10_isReused 11 = .ok (.goto 4, 3) := by decide +kernel
theorem dX10_isReused_14 : decode cX10_isReused 14 = .ok (.iconst 0, 1) := by decide +kernel
theorem dX10_isReused_15 : decode cX10_isReused 15 = .ok (.ireturn, 1) := by decide +kernel
theorem dX10_begin_0 : decode cX10_begin 0 = .ok (.aload_n 0, 1) := by decide +kernel
theorem dX10_begin_1 : decode cX10_begin 1 = .ok (.iload_n 1, 1) := by decide +kernel
theorem dX10_begin_2 : decode cX10_begin 2 = .ok (.invokevirtual 179, 3) := by decide +kernel
theorem dX10_begin_5 : decode cX10_begin 5 = .ok (.istore_n 2, 1) := by decide +kernel
theorem dX10_begin_6 : decode cX10_begin 6 = .ok (.iload_n 2, 1) := by decide +kernel
theorem dX10_begin_7 : decode cX10_begin 7 = .ok (.ifCond .ne 7, 3) := by decide +kernel
theorem dX10_begin_10 : decode cX10_begin 10 = .ok (.iconst 0, 1) := by decide +kernel
theorem dX10_begin_11 : decode cX10_begin 11 = .ok (.goto 6, 3) := by decide +kernel
theorem dX10_begin_14 : decode cX10_begin 14 = .ok (.sipush 9999, 3) := by decide +kernel
theorem dX10_begin_17 : decode cX10_begin 17 = .ok (.istore_n 3, 1) := by decide +kernel
theorem dX10_begin_18 : decode cX10_begin 18 = .ok (.iconst 0, 1) := by decide +kernel
theorem dX10_begin_19 : decode cX10_begin 19 = .ok (.istore 4, 2) := by decide +kernel
theorem dX10_begin_21 : decode cX10_begin 21 = .ok (.iload 4, 2) := by decide +kernel
theorem dX10_begin_23 : decode cX10_begin 23 = .ok (.bipush 9, 2) := by decide +kernel
theorem dX10_begin_25 : decode cX10_begin 25 = .ok (.if_icmp .ge 52, 3) := by decide +kernel
theorem dX10_begin_28 : decode cX10_begin 28 = .ok (.iload_n 2, 1) := by decide +kernel
theorem dX10_begin_29 : decode cX10_begin 29 = .ok (.iload 4, 2) := by decide +kernel
theorem dX10_begin_31 : decode cX10_begin 31 = .ok (.ishr, 1) := by decide +kernel
theorem dX10_begin_32 : decode cX10_begin 32 = .ok (.iconst 1, 1) := by decide +kernel
theorem dX10_begin_33 : decode cX10_begin 33 = .ok (.iand, 1) := by decide +kernel
theorem dX10_begin_34 : decode cX10_begin 34 = .ok (.iconst 1, 1) := by decide +kernel
theorem dX10_begin_35 : decode cX10_begin 35 = .ok (.if_icmp .ne 34, 3) := by decide +kernel
theorem dX10_begin_38 : decode cX10_begin 38 = .ok (.aload_n 0, 1) := by decide +kernel
theorem dX10_begin_39 : decode cX10_begin 39 = .ok (.getfield 16, 3) := by decide +kernel
theorem dX10_begin_42 : decode cX10_begin 42 = .ok (.bipush 6, 2) := by decide +kernel
theorem dX10_begin_44 : decode cX10_begin 44 = .ok (.iload 4, 2) := by decide +kernel
theorem dX10_begin_46 : decode cX10_begin 46 = .ok (.imul, 1) := by decide +kernel
theorem dX10_begin_47 : decode cX10_begin 47 = .ok (.iconst 1, 1) := by decide +kernel
theorem dX10_begin_48 : decode cX10_begin 48 = .ok (.iadd, 1) := by decide +kernel
theorem dX10_begin_49 : decode cX10_begin 49 = .ok (.iaload, 1) := by decide +kernel
theorem dX10_begin_50 : decode cX10_begin 50 = .ok (.iload_n 3, 1) := by decide +kernel
theorem dX10_begin_51 : decode cX10_begin 51 = .ok (.if_icmp .ge 18, 3) := by decide +kernel
theorem dX10_begin_54 : decode cX10_begin 54 = .ok (.aload_n 0, 1) := by decide +kernel
theorem dX10_begin_55 : decode cX10_begin 55 = .ok (.getfield 16, 3) := by decide +kernel
theorem dX10_begin_58 : decode cX10_begin 58 = .ok (.bipush 6, 2) := by decide +kernel
theorem dX10_begin_60 : decode cX10_begin 60 = .ok (.iload 4, 2) := by decide +kernel
theorem dX10_begin_62 : decode cX10_begin 62 = .ok (.imul, 1) := by decide +kernel
theorem dX10_begin_63 : decode cX10_begin 63 = .ok (.iconst 1, 1) := by decide +kernel
theorem dX10_begin_64 : decode cX10_begin 64 = .ok (.iadd, 1) := by decide +kernel
theorem dX10_begin_65 : decode cX10_begin 65 = .ok (.iaload, 1) := by decide +kernel
theorem dX10_begin_66 : decode cX10_begin 66 = .ok (.goto 4, 3) := by decide +kernel
theorem dX10_begin_69 : decode cX10_begin 69 = .ok (.iload_n 3, 1) := by decide +kernel
theorem dX10_begin_70 : decode cX10_begin 70 = .ok (.istore_n 3, 1) := by decide +kernel
theorem dX10_begin_71 : decode cX10_begin 71 = .ok (.iinc 4 1, 3) := by decide +kernel
theorem dX10_begin_74 : decode cX10_begin 74 = .ok (.goto (-53), 3) := by decide +kernel
theorem dX10_begin_77 : decode cX10_begin 77 = .ok (.aload_n 0, 1) := by decide +kernel
theorem dX10_begin_78 : decode cX10_begin 78 = .ok (.getfield 35, 3) := by decide +kernel
theorem dX10_begin_81 : decode cX10_begin 81 = .ok (.iload_n 1, 1) := by decide +kernel
theorem dX10_begin_82 : decode cX10_begin 82 = .ok (.iload_n 3, 1) := by decide +kernel
theorem dX10_begin_83 : decode cX10_begin 83 = .ok (.iastore, 1) := by decide +kernel
theorem dX10_begin_84 : decode cX10_begin 84 = .ok (.aload_n 0, 1) := by decide +kernel
theorem dX10_begin_85 : decode cX10_begin 85 = .ok (.getfield 38, 3) := by decide +kernel
theorem dX10_begin_88 : decode cX10_begin 88 = .ok (.iload_n 1, 1) := by decide +kernel
theorem dX10_begin_89 : decode cX10_begin 89 = .ok (.sipush 9999, 3) := by decide +kernel
theorem dX10_begin_92 : decode cX10_begin 92 = .ok (.iastore, 1) := by decide +kernel
theorem dX10_begin_93 : decode cX10_begin 93 = .ok (.aload_n 0, 1) := by decide +kernel
theorem dX10_begin_94 : decode cX10_begin 94 = .ok (.getfield 41, 3) := by decide +kernel
theorem dX10_begin_97 : decode cX10_begin 97 = .ok (.iload_n 1, 1) := by decide +kernel
theorem dX10_begin_98 : decode cX10_begin 98 = .ok (.iconst 0, 1) := by decide +kernel
theorem dX10_begin_99 : decode cX10_begin 99 = .ok (.iastore, 1) := by decide +kernel
theorem dX10_begin_100 : decode cX10_begin 100 = .ok (.aload_n 0, 1) := by decide +kernel
theorem dX10_begin_101 : decode cX10_begin 101 = .ok (.getfield 44, 3) := by decide +kernel
theorem dX10_begin_104 : decode cX10_begin 104 = .ok (.iload_n 1, 1) := by decide +kernel
theorem dX10_begin_105 : decode cX10_begin 105 = .ok (.sipush 9999, 3) := by decide +kernel
theorem dX10_begin_108 : decode cX10_begin 108 = .ok (.iastore, 1) := by decide +kernel
theorem dX10_begin_109 : decode cX10_begin 109 = .ok (.aload_n 0, 1) := by decide +kernel
theorem dX10_begin_110 : decode cX10_begin 110 = .ok (.iload_n 1, 1) := by decide +kernel
theorem dX10_begin_111 : decode cX10_begin 111 = .ok (.bipush 7, 2) := by decide +kernel
theorem dX10_begin_113 : decode cX10_begin 113 = .ok (.invokevirtual 172, 3) := by decide +kernel
theorem dX10_begin_116 : decode cX10_begin 116 = .ok (.ifCond .le 63, 3) := by decide +kernel
theorem dX10_begin_119 : decode cX10_begin 119 = .ok (.aload_n 0, 1) := by decide +kernel
theorem dX10_begin_120 : decode cX10_begin 120 = .ok (.iload_n 1, 1) := by decide +kernel
theorem dX10_begin_121 : decode cX10_begin 121 = .ok (.bipush 7, 2) := by decide +kernel
theorem dX10_begin_123 : decode cX10_begin 123 = .ok (.invokevirtual 172, 3) := by decide +kernel
theorem dX10_begin_126 : decode cX10_begin 126 = .ok (.iconst 1, 1) := by decide +kernel
theorem dX10_begin_127 : decode cX10_begin 127 = .ok (.iadd, 1) := by decide +kernel
theorem dX10_begin_128 : decode cX10_begin 128 = .ok (.aload_n 0, 1) := by decide +kernel
theorem dX10_begin_129 : decode cX10_begin 129 = .ok (.iload_n 1, 1) := by decide +kernel
theorem dX10_begin_130 : decode cX10_begin 130 = .ok (.invokevirtual 190, 3) := by decide +kernel
theorem dX10_begin_133 : decode cX10_begin 133 = .ok (.invokestatic 193, 3) := by decide +kernel
theorem dX10_begin_136 : decode cX10_begin 136 = .ok (.istore 4, 2) := by decide +kernel
theorem dX10_begin_138 : decode cX10_begin 138 = .ok (.aload_n 0, 1) := by decide +kernel
theorem dX10_begin_139 : decode cX10_begin 139 = .ok (.getfield 35, 3) := by decide +kernel
theorem dX10_begin_142 : decode cX10_begin 142 = .ok (.iload_n 1, 1) := by decide +kernel
theorem dX10_begin_143 : decode cX10_begin 143 = .ok (.iload 4, 2) := by decide +kernel
theorem dX10_begin_145 : decode cX10_begin 145 = .ok (.iload_n 3, 1) := by decide +kernel
theorem dX10_begin_146 : decode cX10_begin 146 = .ok (.if_icmp .le 8, 3) := by decide +kernel
theorem dX10_begin_149 : decode cX10_begin 149 = .ok (.iload 4, 2) := by decide +kernel
theorem dX10_begin_151 : decode cX10_begin 151 = .ok (.goto 4, 3) := by decide +kernel
theorem dX10_begin_154 : decode cX10_begin 154 = .ok (.iload_n 3, 1) := by decide +kernel
theorem dX10_begin_155 : decode cX10_begin 155 = .ok (.iastore, 1) := by decide +kernel
theorem dX10_begin_156 : decode cX10_begin 156 = .ok (.aload_n 0, 1) := by decide +kernel
theorem dX10_begin_157 : decode cX10_begin 157 = .ok (.getfield 38, 3) := by decide +kernel
theorem dX10_begin_160 : decode cX10_begin 160 = .ok (.iload_n 1, 1) := by decide +kernel
theorem dX10_begin_161 : decode cX10_begin 161 = .ok (.aload_n 0, 1) := by decide +kernel
theorem dX10_begin_162 : decode cX10_begin 162 = .ok (.iload_n 1, 1) := by decide +kernel
theorem dX10_begin_163 : decode cX10_begin 163 = .ok (.bipush 7, 2) := by decide +kernel
theorem dX10_begin_165 : decode cX10_begin 165 = .ok (.invokevirtual 172, 3) := by decide +kernel
theorem dX10_begin_168 : decode cX10_begin 168 = .ok (.iconst 1, 1) := by decide +kernel
theorem dX10_begin_169 : decode cX10_begin 169 = .ok (.isub, 1) := by decide +kernel
theorem dX10_begin_170 : decode cX10_begin 170 = .ok (.aload_n 0, 1) := by decide +kernel
theorem dX10_begin_171 : decode cX10_begin 171 = .ok (.iload_n 1, 1) := by decide +kernel
theorem dX10_begin_172 : decode cX10_begin 172 = .ok (.invokevirtual 190, 3) := by decide +kernel
theorem dX10_begin_175 : decode cX10_begin 175 = .ok (.invokestatic 193, 3) := by decide +kernel
theorem dX10_begin_178 : decode cX10_begin 178 = .ok (.iastore, 1) := by decide +kernel
theorem dX10_begin_179 : decode cX10_begin 179 = .ok (.aload_n 0, 1) := by decide +kernel
theorem dX10_begin_180 : decode cX10_begin 180 = .ok (.iload_n 1, 1) := by decide +kernel
theorem dX10_begin_181 : decode cX10_begin 181 = .ok (.invokevirtual 196, 3) := by decide +kernel
theorem dX10_begin_184 : decode cX10_begin 184 = .ok (.ifCond .eq 49, 3) := by decide +kernel
theorem dX10_begin_187 : decode cX10_begin 187 = .ok (.aload_n 0, 1) := by decide +kernel
theorem dX10_begin_188 : decode cX10_begin 188 = .ok (.getfield 41, 3) := by decide +kernel
theorem dX10_begin_191 : decode cX10_begin 191 = .ok (.iload_n 1, 1) := by decide +kernel
theorem dX10_begin_192 : decode cX10_begin 192 = .ok (.aload_n 0, 1) := by decide +kernel
theorem dX10_begin_193 : decode cX10_begin 193 = .ok (.iload_n 1, 1) := by decide +kernel
theorem dX10_begin_194 : decode cX10_begin 194 = .ok (.bipush 8, 2) := by decide +kernel
theorem dX10_begin_196 : decode cX10_begin 196 = .ok (.invokevirtual 172, 3) := by decide +kernel
theorem dX10_begin_199 : decode cX10_begin 199 = .ok (.iconst 1, 1) := by decide +kernel
theorem dX10_begin_200 : decode cX10_begin 200 = .ok (.iadd, 1) := by decide +kernel
theorem dX10_begin_201 : decode cX10_begin 201 = .ok (.aload_n 0, 1) := by decide +kernel
theorem dX10_begin_202 : decode cX10_begin 202 = .ok (.iload_n 1, 1) := by decide +kernel
theorem dX10_begin_203 : decode cX10_begin 203 = .ok (.invokevirtual 190, 3) := by decide +kernel
theorem dX10_begin_206 : decode cX10_begin 206 = .ok (.invokestatic 193, 3) := by decide +kernel
theorem dX10_begin_209 : decode cX10_begin 209 = .ok (.iastore, 1) := by decide +kernel
theorem dX10_begin_210 : decode cX10_begin 210 = .ok (.aload_n 0, 1) := by decide +kernel
theorem dX10_begin_211 : decode cX10_begin 211 = .ok (.getfield 44, 3) := by decide +kernel
theorem dX10_begin_214 : decode cX10_begin 214 = .ok (.iload_n 1, 1) := by decide +kernel
theorem dX10_begin_215 : decode cX10_begin 215 = .ok (.aload_n 0, 1) := by decide +kernel
theorem dX10_begin_216 : decode cX10_begin 216 = .ok (.iload_n 1, 1) := by decide +kernel
theorem dX10_begin_217 : decode cX10_begin 217 = .ok (.bipush 8, 2) := by decide +kernel
theorem dX10_begin_219 : decode cX10_begin 219 = .ok (.invokevirtual 172, 3) := by decide +kernel
theorem dX10_begin_222 : decode cX10_begin 222 = .ok (.iconst 1, 1) := by decide +kernel
theorem dX10_begin_223 : decode cX10_begin 223 = .ok (.isub, 1) := by decide +kernel
theorem dX10_begin_224 : decode cX10_begin 224 = .ok (.aload_n 0, 1) := by decide +kernel
theorem dX10_begin_225 : decode cX10_begin 225 = .ok (.iload_n 1, 1) := by decide +kernel
theorem dX10_begin_226 : decode cX10_begin 226 = .ok (.invokevirtual 190, 3) := by decide +kernel
theorem dX10_begin_229 : decode cX10_begin 229 = .ok (.invokestatic 193, 3) := by decide +kernel
theorem dX10_begin_232 : decode cX10_begin 232 = .ok (.iastore, 1) := by decide +kernel
theorem dX10_begin_233 : decode cX10_begin 233 = .ok (.aload_n 0, 1) := by decide +kernel
theorem dX10_begin_234 : decode cX10_begin 234 = .ok (.getfield 47, 3) := by decide +kernel
theorem dX10_begin_237 : decode cX10_begin 237 = .ok (.iload_n 1, 1) := by decide +kernel
theorem dX10_begin_238 : decode cX10_begin 238 = .ok (.aload_n 0, 1) := by decide +kernel
theorem dX10_begin_239 : decode cX10_begin 239 = .ok (.getfield 7, 3) := by decide +kernel
theorem dX10_begin_242 : decode cX10_begin 242 = .ok (.iconst 3, 1) := by decide +kernel
theorem dX10_begin_243 : decode cX10_begin 243 = .ok (.aload_n 0, 1) := by decide +kernel
theorem dX10_begin_244 : decode cX10_begin 244 = .ok (.iload_n 1, 1) := by decide +kernel
theorem dX10_begin_245 : decode cX10_begin 245 = .ok (.iconst 0, 1) := by decide +kernel
theorem dX10_begin_246 : decode cX10_begin 246 = .ok (.invokevirtual 172, 3) := by decide +kernel
theorem dX10_begin_249 : decode cX10_begin 249 = .ok (.imul, 1) := by decide +kernel
theorem dX10_begin_250 : decode cX10_begin 250 = .ok (.iaload, 1) := by decide +kernel
theorem dX10_begin_251 : decode cX10_begin 251 = .ok (.iastore, 1) := by decide +kernel
theorem dX10_begin_252 : decode cX10_begin 252 = .ok (.aload_n 0, 1) := by decide +kernel
theorem dX10_begin_253 : decode cX10_begin 253 = .ok (.getfield 50, 3) := by decide +kernel
theorem dX10_begin_256 : decode cX10_begin 256 = .ok (.iload_n 1, 1) := by decide +kernel
theorem dX10_begin_257 : decode cX10_begin 257 = .ok (.aload_n 0, 1) := by decide +kernel
theorem dX10_begin_258 : decode cX10_begin 258 = .ok (.getfield 7, 3) := by decide +kernel
theorem dX10_begin_261 : decode cX10_begin 261 = .ok (.iconst 3, 1) := by decide +kernel
theorem dX10_begin_262 : decode cX10_begin 262 = .ok (.aload_n 0, 1) := by decide +kernel
theorem dX10_begin_263 : decode cX10_begin 263 = .ok (.iload_n 1, 1) := by decide +kernel
theorem dX10_begin_264 : decode cX10_begin 264 = .ok (.iconst 0, 1) := by decide +kernel
theorem dX10_begin_265 : decode cX10_begin 265 = .ok (.invokevirtual 172, 3) := by decide +kernel
theorem dX10_begin_268 : decode cX10_begin 268 = .ok (.imul, 1) := by decide +kernel
theorem dX10_begin_269 : decode cX10_begin 269 = .ok (.iconst 1, 1) := by decide +kernel
theorem dX10_begin_270 : decode cX10_begin 270 = .ok (.iadd, 1) := by decide +kernel
theorem dX10_begin_271 : decode cX10_begin 271 = .ok (.iaload, 1) := by decide +kernel
theorem dX10_begin_272 : decode cX10_begin 272 = .ok (.iastore, 1) := by decide +kernel
theorem dX10_begin_273 : decode cX10_begin 273 = .ok (.return_, 1) := by decide +kernel
theorem dX10_greater_0 : decode cX10_greater 0 = .ok (.iload_n 0, 1) := by decide +kernel
