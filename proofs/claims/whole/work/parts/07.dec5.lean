theorem dX10_greater_1 : decode cX10_greater 1 = .ok (.iload_n 1, 1) := by decide +kernel
theorem dX10_greater_2 : decode cX10_greater 2 = .ok (.if_icmp .le 7, 3) := by decide +kernel
theorem dX10_greater_5 : decode cX10_greater 5 = .ok (.iload_n 0, 1) := by decide +kernel
theorem dX10_greater_6 : decode cX10_greater 6 = .ok (.goto 4, 3) := by decide +kernel
theorem dX10_greater_9 : decode cX10_greater 9 = .ok (.iload_n 1, 1) := by decide +kernel
theorem dX10_greater_10 : decode cX10_greater 10 = .ok (.ireturn, 1) := by decide +kernel
theorem dX10_lesser_0 : decode cX10_lesser 0 = .ok (.iload_n 0, 1) := by decide +kernel
theorem dX10_lesser_1 : decode cX10_lesser 1 = .ok (.iload_n 1, 1) := by decide +kernel
theorem dX10_lesser_2 : decode cX10_lesser 2 = .ok (.if_icmp .ge 7, 3) := by decide +kernel
theorem dX10_lesser_5 : decode cX10_lesser 5 = .ok (.iload_n 0, 1) := by decide +kernel
theorem dX10_lesser_6 : decode cX10_lesser 6 = .ok (.goto 4, 3) := by decide +kernel
theorem dX10_lesser_9 : decode cX10_lesser 9 = .ok (.iload_n 1, 1) := by decide +kernel
theorem dX10_lesser_10 : decode cX10_lesser 10 = .ok (.ireturn, 1) := by decide +kernel
theorem dX10_isBelow_0 : decode cX10_isBelow 0 = .ok (.aload_n 0, 1) := by decide +kernel
theorem dX10_isBelow_1 : decode cX10_isBelow 1 = .ok (.iload_n 1, 1) := by decide +kernel
theorem dX10_isBelow_2 : decode cX10_isBelow 2 = .ok (.iconst 0, 1) := by decide +kernel
theorem dX10_isBelow_3 : decode cX10_isBelow 3 = .ok (.invokevirtual 172, 3) := by decide +kernel
theorem dX10_isBelow_6 : decode cX10_isBelow 6 = .ok (.aload_n 0, 1) := by decide +kernel
theorem dX10_isBelow_7 : decode cX10_isBelow 7 = .ok (.iload_n 2, 1) := by decide +kernel
theorem dX10_isBelow_8 : decode cX10_isBelow 8 = .ok (.iconst 0, 1) := by decide +kernel
theorem dX10_isBelow_9 : decode cX10_isBelow 9 = .ok (.invokevirtual 172, 3) := by decide +kernel
theorem dX10_isBelow_12 : decode cX10_isBelow 12 = .ok (.if_icmp .ne 24, 3) := by decide +kernel
theorem dX10_isBelow_15 : decode cX10_isBelow 15 = .ok (.aload_n 0, 1) := by decide +kernel
theorem dX10_isBelow_16 : decode cX10_isBelow 16 = .ok (.iload_n 1, 1) := by decide +kernel
theorem dX10_isBelow_17 : decode cX10_isBelow 17 = .ok (.bipush 6, 2) := by decide +kernel
theorem dX10_isBelow_19 : decode cX10_isBelow 19 = .ok (.invokevirtual 172, 3) := by decide +kernel
theorem dX10_isBelow_22 : decode cX10_isBelow 22 = .ok (.aload_n 0, 1) := by decide +kernel
theorem dX10_isBelow_23 : decode cX10_isBelow 23 = .ok (.iload_n 2, 1) := by decide +kernel
theorem dX10_isBelow_24 : decode cX10_isBelow 24 = .ok (.bipush 6, 2) := by decide +kernel
theorem dX10_isBelow_26 : decode cX10_isBelow 26 = .ok (.invokevirtual 172, 3) := by decide +kernel
theorem dX10_isBelow_29 : decode cX10_isBelow 29 = .ok (.if_icmp .le 7, 3) := by decide +kernel
theorem dX10_isBelow_32 : decode cX10_isBelow 32 = .ok (.iconst 1, 1) := by decide +kernel
theorem dX10_isBelow_33 : decode cX10_isBelow 33 = .ok (.goto 4, 3) := by decide +kernel
theorem dX10_isBelow_36 : decode cX10_isBelow 36 = .ok (.iconst 0, 1) := by decide +kernel
theorem dX10_isBelow_37 : decode cX10_isBelow 37 = .ok (.ireturn, 1) := by decide +kernel
theorem dX10_goRound_0 : decode cX10_goRound 0 = .ok (.iconst 0, 1) := by decide +kernel
theorem dX10_goRound_1 : decode cX10_goRound 1 = .ok (.istore_n 1, 1) := by decide +kernel
theorem dX10_goRound_2 : decode cX10_goRound 2 = .ok (.iload_n 1, 1) := by decide +kernel
theorem dX10_goRound_3 : decode cX10_goRound 3 = .ok (.aload_n 0, 1) := by decide +kernel
theorem dX10_goRound_4 : decode cX10_goRound 4 = .ok (.getfield 78, 3) := by decide +kernel
theorem dX10_goRound_7 : decode cX10_goRound 7 = .ok (.if_icmp .ge 266, 3) := by decide +kernel
theorem dX10_goRound_10 : decode cX10_goRound 10 = .ok (.iconst 0, 1) := by decide +kernel
theorem dX10_goRound_11 : decode cX10_goRound 11 = .ok (.istore_n 2, 1) := by decide +kernel
theorem dX10_goRound_12 : decode cX10_goRound 12 = .ok (.iload_n 2, 1) := by decide +kernel
theorem dX10_goRound_13 : decode cX10_goRound 13 = .ok (.aload_n 0, 1) := by decide +kernel
theorem dX10_goRound_14 : decode cX10_goRound 14 = .ok (.getfield 78, 3) := by decide +kernel
theorem dX10_goRound_17 : decode cX10_goRound 17 = .ok (.if_icmp .ge 113, 3) := by decide +kernel
theorem dX10_goRound_20 : decode cX10_goRound 20 = .ok (.aload_n 0, 1) := by decide +kernel
theorem dX10_goRound_21 : decode cX10_goRound 21 = .ok (.iload_n 1, 1) := by decide +kernel
theorem dX10_goRound_22 : decode cX10_goRound 22 = .ok (.bipush 9, 2) := by decide +kernel
theorem dX10_goRound_24 : decode cX10_goRound 24 = .ok (.invokevirtual 172, 3) := by decide +kernel
theorem dX10_goRound_27 : decode cX10_goRound 27 = .ok (.iload_n 2, 1) := by decide +kernel
theorem dX10_goRound_28 : decode cX10_goRound 28 = .ok (.if_icmp .ne 45, 3) := by decide +kernel
theorem dX10_goRound_31 : decode cX10_goRound 31 = .ok (.aload_n 0, 1) := by decide +kernel
theorem dX10_goRound_32 : decode cX10_goRound 32 = .ok (.getfield 35, 3) := by decide +kernel
theorem dX10_goRound_35 : decode cX10_goRound 35 = .ok (.iload_n 1, 1) := by decide +kernel
theorem dX10_goRound_36 : decode cX10_goRound 36 = .ok (.aload_n 0, 1) := by decide +kernel
theorem dX10_goRound_37 : decode cX10_goRound 37 = .ok (.getfield 35, 3) := by decide +kernel
theorem dX10_goRound_40 : decode cX10_goRound 40 = .ok (.iload_n 1, 1) := by decide +kernel
theorem dX10_goRound_41 : decode cX10_goRound 41 = .ok (.iaload, 1) := by decide +kernel
theorem dX10_goRound_42 : decode cX10_goRound 42 = .ok (.aload_n 0, 1) := by decide +kernel
theorem dX10_goRound_43 : decode cX10_goRound 43 = .ok (.getfield 35, 3) := by decide +kernel
theorem dX10_goRound_46 : decode cX10_goRound 46 = .ok (.iload_n 2, 1) := by decide +kernel
theorem dX10_goRound_47 : decode cX10_goRound 47 = .ok (.iaload, 1) := by decide +kernel
theorem dX10_goRound_48 : decode cX10_goRound 48 = .ok (.invokestatic 199, 3) := by decide +kernel
theorem dX10_goRound_51 : decode cX10_goRound 51 = .ok (.iastore, 1) := by decide +kernel
theorem dX10_goRound_52 : decode cX10_goRound 52 = .ok (.aload_n 0, 1) := by decide +kernel
theorem dX10_goRound_53 : decode cX10_goRound 53 = .ok (.getfield 38, 3) := by decide +kernel
theorem dX10_goRound_56 : decode cX10_goRound 56 = .ok (.iload_n 2, 1) := by decide +kernel
theorem dX10_goRound_57 : decode cX10_goRound 57 = .ok (.aload_n 0, 1) := by decide +kernel
theorem dX10_goRound_58 : decode cX10_goRound 58 = .ok (.getfield 38, 3) := by decide +kernel
theorem dX10_goRound_61 : decode cX10_goRound 61 = .ok (.iload_n 2, 1) := by decide +kernel
theorem dX10_goRound_62 : decode cX10_goRound 62 = .ok (.iaload, 1) := by decide +kernel
theorem dX10_goRound_63 : decode cX10_goRound 63 = .ok (.aload_n 0, 1) := by decide +kernel
theorem dX10_goRound_64 : decode cX10_goRound 64 = .ok (.getfield 38, 3) := by decide +kernel
theorem dX10_goRound_67 : decode cX10_goRound 67 = .ok (.iload_n 1, 1) := by decide +kernel
theorem dX10_goRound_68 : decode cX10_goRound 68 = .ok (.iaload, 1) := by decide +kernel
theorem dX10_goRound_69 : decode cX10_goRound 69 = .ok (.invokestatic 202, 3) := by decide +kernel
theorem dX10_goRound_72 : decode cX10_goRound 72 = .ok (.iastore, 1) := by decide +kernel
theorem dX10_goRound_73 : decode cX10_goRound 73 = .ok (.aload_n 0, 1) := by decide +kernel
theorem dX10_goRound_74 : decode cX10_goRound 74 = .ok (.iload_n 1, 1) := by decide +kernel
theorem dX10_goRound_75 : decode cX10_goRound 75 = .ok (.iload_n 2, 1) := by decide +kernel
theorem dX10_goRound_76 : decode cX10_goRound 76 = .ok (.invokevirtual 205, 3) := by decide +kernel
theorem dX10_goRound_79 : decode cX10_goRound 79 = .ok (.ifCond .eq 45, 3) := by decide +kernel
theorem dX10_goRound_82 : decode cX10_goRound 82 = .ok (.aload_n 0, 1) := by decide +kernel
theorem dX10_goRound_83 : decode cX10_goRound 83 = .ok (.getfield 47, 3) := by decide +kernel
theorem dX10_goRound_86 : decode cX10_goRound 86 = .ok (.iload_n 2, 1) := by decide +kernel
theorem dX10_goRound_87 : decode cX10_goRound 87 = .ok (.aload_n 0, 1) := by decide +kernel
theorem dX10_goRound_88 : decode cX10_goRound 88 = .ok (.getfield 47, 3) := by decide +kernel
theorem dX10_goRound_91 : decode cX10_goRound 91 = .ok (.iload_n 2, 1) := by decide +kernel
theorem dX10_goRound_92 : decode cX10_goRound 92 = .ok (.iaload, 1) := by decide +kernel
theorem dX10_goRound_93 : decode cX10_goRound 93 = .ok (.aload_n 0, 1) := by decide +kernel
theorem dX10_goRound_94 : decode cX10_goRound 94 = .ok (.getfield 47, 3) := by decide +kernel
theorem dX10_goRound_97 : decode cX10_goRound 97 = .ok (.iload_n 1, 1) := by decide +kernel
theorem dX10_goRound_98 : decode cX10_goRound 98 = .ok (.iaload, 1) := by decide +kernel
theorem dX10_goRound_99 : decode cX10_goRound 99 = .ok (.invokestatic 199, 3) := by decide +kernel
theorem dX10_goRound_102 : decode cX10_goRound 102 = .ok (.iastore, 1) := by decide +kernel
theorem dX10_goRound_103 : decode cX10_goRound 103 = .ok (.aload_n 0, 1) := by decide +kernel
theorem dX10_goRound_104 : decode cX10_goRound 104 = .ok (.getfield 50, 3) := by decide +kernel
theorem dX10_goRound_107 : decode cX10_goRound 107 = .ok (.iload_n 1, 1) := by decide +kernel
theorem dX10_goRound_108 : decode cX10_goRound 108 = .ok (.aload_n 0, 1) := by decide +kernel
theorem dX10_goRound_109 : decode cX10_goRound 109 = .ok (.getfield 50, 3) := by decide +kernel
theorem dX10_goRound_112 : decode cX10_goRound 112 = .ok (.iload_n 1, 1) := by decide +kernel
theorem dX10_goRound_113 : decode cX10_goRound 113 = .ok (.iaload, 1) := by decide +kernel
theorem dX10_goRound_114 : decode cX10_goRound 114 = .ok (.aload_n 0, 1) := by decide +kernel
theorem dX10_goRound_115 : decode cX10_goRound 115 = .ok (.getfield 50, 3) := by decide +kernel
theorem dX10_goRound_118 : decode cX10_goRound 118 = .ok (.iload_n 2, 1) := by decide +kernel
theorem dX10_goRound_119 : decode cX10_goRound 119 = .ok (.iaload, 1) := by decide +kernel
theorem dX10_goRound_120 : decode cX10_goRound 120 = .ok (.invokestatic 202, 3) := by decide +kernel
theorem dX10_goRound_123 : decode cX10_goRound 123 = .ok (.iastore, 1) := by decide +kernel
theorem dX10_goRound_124 : decode cX10_goRound 124 = .ok (.iinc 2 1, 3) := by decide +kernel
theorem dX10_goRound_127 : decode cX10_goRound 127 = .ok (.goto (-115), 3) := by decide +kernel
theorem dX10_goRound_130 : decode cX10_goRound 130 = .ok (.aload_n 0, 1) := by decide +kernel
theorem dX10_goRound_131 : decode cX10_goRound 131 = .ok (.iload_n 1, 1) := by decide +kernel
theorem dX10_goRound_132 : decode cX10_goRound 132 = .ok (.invokevirtual 196, 3) := by decide +kernel
theorem dX10_goRound_135 : decode cX10_goRound 135 = .ok (.ifCond .eq 90, 3) := by decide +kernel
theorem dX10_goRound_138 : decode cX10_goRound 138 = .ok (.aload_n 0, 1) := by decide +kernel
theorem dX10_goRound_139 : decode cX10_goRound 139 = .ok (.getfield 41, 3) := by decide +kernel
theorem dX10_goRound_142 : decode cX10_goRound 142 = .ok (.iload_n 1, 1) := by decide +kernel
theorem dX10_goRound_143 : decode cX10_goRound 143 = .ok (.aload_n 0, 1) := by decide +kernel
theorem dX10_goRound_144 : decode cX10_goRound 144 = .ok (.getfield 41, 3) := by decide +kernel
theorem dX10_goRound_147 : decode cX10_goRound 147 = .ok (.iload_n 1, 1) := by decide +kernel
theorem dX10_goRound_148 : decode cX10_goRound 148 = .ok (.iaload, 1) := by decide +kernel
theorem dX10_goRound_149 : decode cX10_goRound 149 = .ok (.aload_n 0, 1) := by decide +kernel
theorem dX10_goRound_150 : decode cX10_goRound 150 = .ok (.getfield 35, 3) := by decide +kernel
theorem dX10_goRound_153 : decode cX10_goRound 153 = .ok (.iload_n 1, 1) := by decide +kernel
theorem dX10_goRound_154 : decode cX10_goRound 154 = .ok (.iaload, 1) := by decide +kernel
theorem dX10_goRound_155 : decode cX10_goRound 155 = .ok (.invokestatic 199, 3) := by decide +kernel
theorem dX10_goRound_158 : decode cX10_goRound 158 = .ok (.iastore, 1) := by decide +kernel
theorem dX10_goRound_159 : decode cX10_goRound 159 = .ok (.aload_n 0, 1) := by decide +kernel
theorem dX10_goRound_160 : decode cX10_goRound 160 = .ok (.getfield 47, 3) := by decide +kernel
theorem dX10_goRound_163 : decode cX10_goRound 163 = .ok (.iload_n 1, 1) := by decide +kernel
theorem dX10_goRound_164 : decode cX10_goRound 164 = .ok (.aload_n 0, 1) := by decide +kernel
theorem dX10_goRound_165 : decode cX10_goRound 165 = .ok (.getfield 47, 3) := by decide +kernel
theorem dX10_goRound_168 : decode cX10_goRound 168 = .ok (.iload_n 1, 1) := by decide +kernel
theorem dX10_goRound_169 : decode cX10_goRound 169 = .ok (.iaload, 1) := by decide +kernel
theorem dX10_goRound_170 : decode cX10_goRound 170 = .ok (.aload_n 0, 1) := by decide +kernel
theorem dX10_goRound_171 : decode cX10_goRound 171 = .ok (.getfield 41, 3) := by decide +kernel
theorem dX10_goRound_174 : decode cX10_goRound 174 = .ok (.iload_n 1, 1) := by decide +kernel
theorem dX10_goRound_175 : decode cX10_goRound 175 = .ok (.iaload, 1) := by decide +kernel
theorem dX10_goRound_176 : decode cX10_goRound 176 = .ok (.invokestatic 199, 3) := by decide +kernel
theorem dX10_goRound_179 : decode cX10_goRound 179 = .ok (.iastore, 1) := by decide +kernel
theorem dX10_goRound_180 : decode cX10_goRound 180 = .ok (.aload_n 0, 1) := by decide +kernel
theorem dX10_goRound_181 : decode cX10_goRound 181 = .ok (.getfield 44, 3) := by decide +kernel
theorem dX10_goRound_184 : decode cX10_goRound 184 = .ok (.iload_n 1, 1) := by decide +kernel
theorem dX10_goRound_185 : decode cX10_goRound 185 = .ok (.aload_n 0, 1) := by decide +kernel
theorem dX10_goRound_186 : decode cX10_goRound 186 = .ok (.getfield 44, 3) := by decide +kernel
theorem dX10_goRound_189 : decode cX10_goRound 189 = .ok (.iload_n 1, 1) := by decide +kernel
theorem dX10_goRound_190 : decode cX10_goRound 190 = .ok (.iaload, 1) := by decide +kernel
theorem dX10_goRound_191 : decode cX10_goRound 191 = .ok (.aload_n 0, 1) := by decide +kernel
theorem dX10_goRound_192 : decode cX10_goRound 192 = .ok (.getfield 50, 3) := by decide +kernel
theorem dX10_goRound_195 : decode cX10_goRound 195 = .ok (.iload_n 1, 1) := by decide +kernel
theorem dX10_goRound_196 : decode cX10_goRound 196 = .ok (.iaload, 1) := by decide +kernel
theorem dX10_goRound_197 : decode cX10_goRound 197 = .ok (.invokestatic 202, 3) := by decide +kernel
theorem dX10_goRound_200 : decode cX10_goRound 200 = .ok (.iastore, 1) := by decide +kernel
theorem dX10_goRound_201 : decode cX10_goRound 201 = .ok (.aload_n 0, 1) := by decide +kernel
theorem dX10_goRound_202 : decode cX10_goRound 202 = .ok (.getfield 38, 3) := by decide +kernel
theorem dX10_goRound_205 : decode cX10_goRound 205 = .ok (.iload_n 1, 1) := by decide +kernel
theorem dX10_goRound_206 : decode cX10_goRound 206 = .ok (.aload_n 0, 1) := by decide +kernel
theorem dX10_goRound_207 : decode cX10_goRound 207 = .ok (.getfield 38, 3) := by decide +kernel
theorem dX10_goRound_210 : decode cX10_goRound 210 = .ok (.iload_n 1, 1) := by decide +kernel
theorem dX10_goRound_211 : decode cX10_goRound 211 = .ok (.iaload, 1) := by decide +kernel
theorem dX10_goRound_212 : decode cX10_goRound 212 = .ok (.aload_n 0, 1) := by decide +kernel
theorem dX10_goRound_213 : decode cX10_goRound 213 = .ok (.getfield 44, 3) := by decide +kernel
theorem dX10_goRound_216 : decode cX10_goRound 216 = .ok (.iload_n 1, 1) := by decide +kernel
theorem dX10_goRound_217 : decode cX10_goRound 217 = .ok (.iaload, 1) := by decide +kernel
theorem dX10_goRound_218 : decode cX10_goRound 218 = .ok (.invokestatic 202, 3) := by decide +kernel
theorem dX10_goRound_221 : decode cX10_goRound 221 = .ok (.iastore, 1) := by decide +kernel
theorem dX10_goRound_222 : decode cX10_goRound 222 = .ok (.goto 45, 3) := by decide +kernel
theorem dX10_goRound_225 : decode cX10_goRound 225 = .ok (.aload_n 0, 1) := by decide +kernel
theorem dX10_goRound_226 : decode cX10_goRound 226 = .ok (.getfield 47, 3) := by decide +kernel
theorem dX10_goRound_229 : decode cX10_goRound 229 = .ok (.iload_n 1, 1) := by decide +kernel
theorem dX10_goRound_230 : decode cX10_goRound 230 = .ok (.aload_n 0, 1) := by decide +kernel
theorem dX10_goRound_231 : decode cX10_goRound 231 = .ok (.getfield 47, 3) := by decide +kernel
theorem dX10_goRound_234 : decode cX10_goRound 234 = .ok (.iload_n 1, 1) := by decide +kernel
theorem dX10_goRound_235 : decode cX10_goRound 235 = .ok (.iaload, 1) := by decide +kernel
theorem dX10_goRound_236 : decode cX10_goRound 236 = .ok (.aload_n 0, 1) := by decide +kernel
theorem dX10_goRound_237 : decode cX10_goRound 237 = .ok (.getfield 35, 3) := by decide +kernel
theorem dX10_goRound_240 : decode cX10_goRound 240 = .ok (.iload_n 1, 1) := by decide +kernel
theorem dX10_goRound_241 : decode cX10_goRound 241 = .ok (.iaload, 1) := by decide +kernel
theorem dX10_goRound_242 : decode cX10_goRound 242 = .ok (.invokestatic 199, 3) := by decide +kernel
theorem dX10_goRound_245 : decode cX10_goRound 245 = .ok (.iastore, 1) := by decide +kernel
theorem dX10_goRound_246 : decode cX10_goRound 246 = .ok (.aload_n 0, 1) := by decide +kernel
theorem dX10_goRound_247 : decode cX10_goRound 247 = .ok (.getfield 38, 3) := by decide +kernel
theorem dX10_goRound_250 : decode cX10_goRound 250 = .ok (.iload_n 1, 1) := by decide +kernel
theorem dX10_goRound_251 : decode cX10_goRound 251 = .ok (.aload_n 0, 1) := by decide +kernel
theorem dX10_goRound_252 : decode cX10_goRound 252 = .ok (.getfield 38, 3) := by decide +kernel
theorem dX10_goRound_255 : decode cX10_goRound 255 = .ok (.iload_n 1, 1) := by decide +kernel
theorem dX10_goRound_256 : decode cX10_goRound 256 = .ok (.iaload, 1) := by decide +kernel
theorem dX10_goRound_257 : decode cX10_goRound 257 = .ok (.aload_n 0, 1) := by decide +kernel
theorem dX10_goRound_258 : decode cX10_goRound 258 = .ok (.getfield 50, 3) := by decide +kernel
theorem dX10_goRound_261 : decode cX10_goRound 261 = .ok (.iload_n 1, 1) := by decide +kernel
theorem dX10_goRound_262 : decode cX10_goRound 262 = .ok (.iaload, 1) := by decide +kernel
theorem dX10_goRound_263 : decode cX10_goRound 263 = .ok (.invokestatic 202, 3) := by decide +kernel
theorem dX10_goRound_266 : decode cX10_goRound 266 = .ok (.iastore, 1) := by decide +kernel
theorem dX10_goRound_267 : decode cX10_goRound 267 = .ok (.iinc 1 1, 3) := by decide +kernel
theorem dX10_goRound_270 : decode cX10_goRound 270 = .ok (.goto (-268), 3) := by decide +kernel
theorem dX10_goRound_273 : decode cX10_goRound 273 = .ok (.return_, 1) := by decide +kernel
theorem dX10_areYears_0 : decode cX10_areYears 0 = .ok (.iconst 0, 1) := by decide +kernel
theorem dX10_areYears_1 : decode cX10_areYears 1 = .ok (.istore_n 1, 1) := by decide +kernel
theorem dX10_areYears_2 : decode cX10_areYears 2 = .ok (.iload_n 1, 1) := by decide +kernel
theorem dX10_areYears_3 : decode cX10_areYears 3 = .ok (.aload_n 0, 1) := by decide +kernel
theorem dX10_areYears_4 : decode cX10_areYears 4 = .ok (.getfield 78, 3) := by decide +kernel
theorem dX10_areYears_7 : decode cX10_areYears 7 = .ok (.if_icmp .ge 14, 3) := by decide +kernel
theorem dX10_areYears_10 : decode cX10_areYears 10 = .ok (.aload_n 0, 1) := by decide +kernel
theorem dX10_areYears_11 : decode cX10_areYears 11 = .ok (.iload_n 1, 1) := by decide +kernel
theorem dX10_areYears_12 : decode cX10_areYears 12 = .ok (.invokevirtual 208, 3) := by decide +kernel
theorem dX10_areYears_15 : decode cX10_areYears 15 = .ok (.iinc 1 1, 3) := by decide +kernel
theorem dX10_areYears_18 : decode cX10_areYears 18 = .ok (.goto (-16), 3) := by decide +kernel
theorem dX10_areYears_21 : decode cX10_areYears 21 = .ok (.iconst 0, 1) := by decide +kernel
theorem dX10_areYears_22 : decode cX10_areYears 22 = .ok (.istore_n 1, 1) := by decide +kernel
theorem dX10_areYears_23 : decode cX10_areYears 23 = .ok (.iload_n 1, 1) := by decide +kernel
theorem dX10_areYears_24 : decode cX10_areYears 24 = .ok (.bipush 40, 2) := by decide +kernel
theorem dX10_areYears_26 : decode cX10_areYears 26 = .ok (.if_icmp .ge 13, 3) := by decide +kernel
theorem dX10_areYears_29 : decode cX10_areYears 29 = .ok (.aload_n 0, 1) := by decide +kernel
theorem dX10_areYears_30 : decode cX10_areYears 30 = .ok (.invokevirtual 211, 3) := by decide +kernel
theorem dX10_areYears_33 : decode cX10_areYears 33 = .ok (.iinc 1 1, 3) := by decide +kernel
theorem dX10_areYears_36 : decode cX10_areYears 36 = .ok (.goto (-13), 3) := by decide +kernel
theorem dX10_areYears_39 : decode cX10_areYears 39 = .ok (.iconst 1, 1) := by decide +kernel
theorem dX10_areYears_40 : decode cX10_areYears 40 = .ok (.istore_n 1, 1) := by decide +kernel
theorem dX10_areYears_41 : decode cX10_areYears 41 = .ok (.iconst 0, 1) := by decide +kernel
theorem dX10_areYears_42 : decode cX10_areYears 42 = .ok (.istore_n 2, 1) := by decide +kernel
theorem dX10_areYears_43 : decode cX10_areYears 43 = .ok (.iload_n 2, 1) := by decide +kernel
theorem dX10_areYears_44 : decode cX10_areYears 44 = .ok (.aload_n 0, 1) := by decide +kernel
theorem dX10_areYears_45 : decode cX10_areYears 45 = .ok (.getfield 78, 3) := by decide +kernel
theorem dX10_areYears_48 : decode cX10_areYears 48 = .ok (.if_icmp .ge 72, 3) := by decide +kernel
theorem dX10_areYears_51 : decode cX10_areYears 51 = .ok (.iload_n 1, 1) := by decide +kernel
theorem dX10_areYears_52 : decode cX10_areYears 52 = .ok (.ifCond .eq 60, 3) := by decide +kernel
theorem dX10_areYears_55 : decode cX10_areYears 55 = .ok (.aload_n 0, 1) := by decide +kernel
theorem dX10_areYears_56 : decode cX10_areYears 56 = .ok (.getfield 35, 3) := by decide +kernel
theorem dX10_areYears_59 : decode cX10_areYears 59 = .ok (.iload_n 2, 1) := by decide +kernel
theorem dX10_areYears_60 : decode cX10_areYears 60 = .ok (.iaload, 1) := by decide +kernel
theorem dX10_areYears_61 : decode cX10_areYears 61 = .ok (.aload_n 0, 1) := by decide +kernel
theorem dX10_areYears_62 : decode cX10_areYears 62 = .ok (.getfield 38, 3) := by decide +kernel
theorem dX10_areYears_65 : decode cX10_areYears 65 = .ok (.iload_n 2, 1) := by decide +kernel
theorem dX10_areYears_66 : decode cX10_areYears 66 = .ok (.iaload, 1) := by decide +kernel
theorem dX10_areYears_67 : decode cX10_areYears 67 = .ok (.if_icmp .gt 45, 3) := by decide +kernel
theorem dX10_areYears_70 : decode cX10_areYears 70 = .ok (.aload_n 0, 1) := by decide +kernel
theorem dX10_areYears_71 : decode cX10_areYears 71 = .ok (.getfield 47, 3) := by decide +kernel
theorem dX10_areYears_74 : decode cX10_areYears 74 = .ok (.iload_n 2, 1) := by decide +kernel
theorem dX10_areYears_75 : decode cX10_areYears 75 = .ok (.iaload, 1) := by decide +kernel
theorem dX10_areYears_76 : decode cX10_areYears 76 = .ok (.aload_n 0, 1) := by decide +kernel
theorem dX10_areYears_77 : decode cX10_areYears 77 = .ok (.getfield 50, 3) := by decide +kernel
theorem dX10_areYears_80 : decode cX10_areYears 80 = .ok (.iload_n 2, 1) := by decide +kernel
theorem dX10_areYears_81 : decode cX10_areYears 81 = .ok (.iaload, 1) := by decide +kernel
theorem dX10_areYears_82 : decode cX10_areYears 82 = .ok (.if_icmp .gt 30, 3) := by decide +kernel
theorem dX10_areYears_85 : decode cX10_areYears 85 = .ok (.aload_n 0, 1) := by decide +kernel
theorem dX10_areYears_86 : decode cX10_areYears 86 = .ok (.iload_n 2, 1) := by decide +kernel
theorem dX10_areYears_87 : decode cX10_areYears 87 = .ok (.invokevirtual 196, 3) := by decide +kernel
theorem dX10_areYears_90 : decode cX10_areYears 90 = .ok (.ifCond .eq 18, 3) := by decide +kernel
theorem dX10_areYears_93 : decode cX10_areYears 93 = .ok (.aload_n 0, 1) := by decide +kernel
theorem dX10_areYears_94 : decode cX10_areYears 94 = .ok (.getfield 41, 3) := by decide +kernel
theorem dX10_areYears_97 : decode cX10_areYears 97 = .ok (.iload_n 2, 1) := by decide +kernel
theorem dX10_areYears_98 : decode cX10_areYears 98 = .ok (.iaload, 1) := by decide +kernel
theorem dX10_areYears_99 : decode cX10_areYears 99 = .ok (.aload_n 0, 1) := by decide +kernel
theorem dX10_areYears_100 : decode cX10_areYears 100 = .ok (.getfield 44, 3) := by decide +kernel
theorem dX10_areYears_103 : decode cX10_areYears 103 = .ok (.iload_n 2, 1) := by decide +kernel
theorem dX10_areYears_104 : decode cX10_areYears 104 = .ok (.iaload, 1) := by decide +kernel
theorem dX10_areYears_105 : decode cX10_areYears 105 = .ok (.if_icmp .gt 7, 3) := by decide +kernel
theorem dX10_areYears_108 : decode cX10_areYears 108 = .ok (.iconst 1, 1) := by decide +kernel
theorem dX10_areYears_109 : decode cX10_areYears 109 = .ok (.goto 4, 3) := by decide +kernel
theorem dX10_areYears_112 : decode cX10_areYears 112 = .ok (.iconst 0, 1) := by decide +kernel
theorem dX10_areYears_113 : decode cX10_areYears 113 = .ok (.istore_n 1, 1) := by decide +kernel
theorem dX10_areYears_114 : decode cX10_areYears 114 = .ok (.iinc 2 1, 3) := by decide +kernel
theorem dX10_areYears_117 : decode cX10_areYears 117 = .ok (.goto (-74), 3) := by decide +kernel
theorem dX10_areYears_120 : decode cX10_areYears 120 = .ok (.iload_n 1, 1) := by decide +kernel
theorem dX10_areYears_121 : decode cX10_areYears 121 = .ok (.ireturn, 1) := by decide +kernel
theorem dX10_span_0 : decode cX10_span 0 = .ok (.aload_n 0, 1) := by decide +kernel
theorem dX10_span_1 : decode cX10_span 1 = .ok (.iload_n 1, 1) := by decide +kernel
theorem dX10_span_2 : decode cX10_span 2 = .ok (.invokevirtual 169, 3) := by decide +kernel
theorem dX10_span_5 : decode cX10_span 5 = .ok (.ifCond .ne 6, 3) := by decide +kernel
theorem dX10_span_8 : decode cX10_span 8 = .ok (.bipush (-2), 2) := by decide +kernel
theorem dX10_span_10 : decode cX10_span 10 = .ok (.ireturn, 1) := by decide +kernel
theorem dX10_span_11 : decode cX10_span 11 = .ok (.iload_n 2, 1) := by decide +kernel
theorem dX10_span_12 : decode cX10_span 12 = .ok (.iconst 0, 1) := by decide +kernel
theorem dX10_span_13 : decode cX10_span 13 = .ok (.iconst 5, 1) := by decide +kernel
theorem dX10_span_14 : decode cX10_span 14 = .ok (.invokestatic 71, 3) := by decide +kernel
theorem dX10_span_17 : decode cX10_span 17 = .ok (.ifCond .ne 6, 3) := by decide +kernel
theorem dX10_span_20 : decode cX10_span 20 = .ok (.bipush (-3), 2) := by decide +kernel
theorem dX10_span_22 : decode cX10_span 22 = .ok (.ireturn, 1) := by decide +kernel
theorem dX10_span_23 : decode cX10_span 23 = .ok (.aload_n 0, 1) := by decide +kernel
theorem dX10_span_24 : decode cX10_span 24 = .ok (.invokevirtual 214, 3) := by decide +kernel
theorem dX10_span_27 : decode cX10_span 27 = .ok (.ifCond .ne 5, 3) := by decide +kernel
theorem dX10_span_30 : decode cX10_span 30 = .ok (.iconst (-1), 1) := by decide +kernel
theorem dX10_span_31 : decode cX10_span 31 = .ok (.ireturn, 1) := by decide +kernel
theorem dX10_span_32 : decode cX10_span 32 = .ok (.iload_n 2, 1) := by decide +kernel
theorem dX10_span_33 : decode cX10_span 33 = .ok (.tableswitch 94 0 4 #[35, 42, 49, 68, 87], 35) := by decide +kernel
theorem dX10_span_68 : decode cX10_span 68 = .ok (.aload_n 0, 1) := by decide +kernel
theorem dX10_span_69 : decode cX10_span 69 = .ok (.getfield 35, 3) := by decide +kernel
theorem dX10_span_72 : decode cX10_span 72 = .ok (.iload_n 1, 1) := by decide +kernel
theorem dX10_span_73 : decode cX10_span 73 = .ok (.iaload, 1) := by decide +kernel
theorem dX10_span_74 : decode cX10_span 74 = .ok (.ireturn, 1) := by decide +kernel
theorem dX10_span_75 : decode cX10_span 75 = .ok (.aload_n 0, 1) := by decide +kernel
theorem dX10_span_76 : decode cX10_span 76 = .ok (.getfield 38, 3) := by decide +kernel
theorem dX10_span_79 : decode cX10_span 79 = .ok (.iload_n 1, 1) := by decide +kernel
theorem dX10_span_80 : decode cX10_span 80 = .ok (.iaload, 1) := by decide +kernel
theorem dX10_span_81 : decode cX10_span 81 = .ok (.ireturn, 1) := by decide +kernel
theorem dX10_span_82 : decode cX10_span 82 = .ok (.aload_n 0, 1) := by decide +kernel
theorem dX10_span_83 : decode cX10_span 83 = .ok (.iload_n 1, 1) := by decide +kernel
theorem dX10_span_84 : decode cX10_span 84 = .ok (.invokevirtual 196, 3) := by decide +kernel
theorem dX10_span_87 : decode cX10_span 87 = .ok (.ifCond .eq 12, 3) := by decide +kernel
theorem dX10_span_90 : decode cX10_span 90 = .ok (.aload_n 0, 1) := by decide +kernel
theorem dX10_span_91 : decode cX10_span 91 = .ok (.getfield 41, 3) := by decide +kernel
theorem dX10_span_94 : decode cX10_span 94 = .ok (.iload_n 1, 1) := by decide +kernel
theorem dX10_span_95 : decode cX10_span 95 = .ok (.iaload, 1) := by decide +kernel
theorem dX10_span_96 : decode cX10_span 96 = .ok (.goto 4, 3) := by decide +kernel
theorem dX10_span_99 : decode cX10_span 99 = .ok (.iconst (-1), 1) := by decide +kernel
theorem dX10_span_100 : decode cX10_span 100 = .ok (.ireturn, 1) := by decide +kernel
theorem dX10_span_101 : decode cX10_span 101 = .ok (.aload_n 0, 1) := by decide +kernel
theorem dX10_span_102 : decode cX10_span 102 = .ok (.iload_n 1, 1) := by decide +kernel
theorem dX10_span_103 : decode cX10_span 103 = .ok (.invokevirtual 196, 3) := by decide +kernel
theorem dX10_span_106 : decode cX10_span 106 = .ok (.ifCond .eq 12, 3) := by decide +kernel
theorem dX10_span_109 : decode cX10_span 109 = .ok (.aload_n 0, 1) := by decide +kernel
theorem dX10_span_110 : decode cX10_span 110 = .ok (.getfield 44, 3) := by decide +kernel
theorem dX10_span_113 : decode cX10_span 113 = .ok (.iload_n 1, 1) := by decide +kernel
theorem dX10_span_114 : decode cX10_span 114 = .ok (.iaload, 1) := by decide +kernel
theorem dX10_span_115 : decode cX10_span 115 = .ok (.goto 4, 3) := by decide +kernel
theorem dX10_span_118 : decode cX10_span 118 = .ok (.iconst (-1), 1) := by decide +kernel
theorem dX10_span_119 : decode cX10_span 119 = .ok (.ireturn, 1) := by decide +kernel
theorem dX10_span_120 : decode cX10_span 120 = .ok (.aload_n 0, 1) := by decide +kernel
theorem dX10_span_121 : decode cX10_span 121 = .ok (.getfield 47, 3) := by decide +kernel
theorem dX10_span_124 : decode cX10_span 124 = .ok (.iload_n 1, 1) := by decide +kernel
theorem dX10_span_125 : decode cX10_span 125 = .ok (.iaload, 1) := by decide +kernel
theorem dX10_span_126 : decode cX10_span 126 = .ok (.ireturn, 1) := by decide +kernel
theorem dX10_span_127 : decode cX10_span 127 = .ok (.aload_n 0, 1) := by decide +kernel
theorem dX10_span_128 : decode cX10_span 128 = .ok (.getfield 50, 3) := by decide +kernel
theorem dX10_span_131 : decode cX10_span 131 = .ok (.iload_n 1, 1) := by decide +kernel
theorem dX10_span_132 : decode cX10_span 132 = .ok (.iaload, 1) := by decide +kernel
theorem dX10_span_133 : decode cX10_span 133 = .ok (.ireturn, 1) := by decide +kernel
theorem dX10_heirloom_0 : decode cX10_heirloom 0 = .ok (.aload_n 0, 1) := by decide +kernel
theorem dX10_heirloom_1 : decode cX10_heirloom 1 = .ok (.iload_n 1, 1) := by decide +kernel
theorem dX10_heirloom_2 : decode cX10_heirloom 2 = .ok (.invokevirtual 169, 3) := by decide +kernel
theorem dX10_heirloom_5 : decode cX10_heirloom 5 = .ok (.ifCond .ne 6, 3) := by decide +kernel
theorem dX10_heirloom_8 : decode cX10_heirloom 8 = .ok (.bipush (-2), 2) := by decide +kernel
theorem dX10_heirloom_10 : decode cX10_heirloom 10 = .ok (.ireturn, 1) := by decide +kernel
theorem dX10_heirloom_11 : decode cX10_heirloom 11 = .ok (.aload_n 0, 1) := by decide +kernel
theorem dX10_heirloom_12 : decode cX10_heirloom 12 = .ok (.invokevirtual 214, 3) := by decide +kernel
theorem dX10_heirloom_15 : decode cX10_heirloom 15 = .ok (.ifCond .ne 5, 3) := by decide +kernel
theorem dX10_heirloom_18 : decode cX10_heirloom 18 = .ok (.iconst (-1), 1) := by decide +kernel
theorem dX10_heirloom_19 : decode cX10_heirloom 19 = .ok (.ireturn, 1) := by decide +kernel
theorem dX10_heirloom_20 : decode cX10_heirloom 20 = .ok (.aload_n 0, 1) := by decide +kernel
theorem dX10_heirloom_21 : decode cX10_heirloom 21 = .ok (.iload_n 1, 1) := by decide +kernel
theorem dX10_heirloom_22 : decode cX10_heirloom 22 = .ok (.invokevirtual 196, 3) := by decide +kernel
theorem dX10_heirloom_25 : decode cX10_heirloom 25 = .ok (.ifCond .eq 12, 3) := by decide +kernel
theorem dX10_heirloom_28 : decode cX10_heirloom 28 = .ok (.aload_n 0, 1) := by decide +kernel
theorem dX10_heirloom_29 : decode cX10_heirloom 29 = .ok (.getfield 41, 3) := by decide +kernel
theorem dX10_heirloom_32 : decode cX10_heirloom 32 = .ok (.iload_n 1, 1) := by decide +kernel
theorem dX10_heirloom_33 : decode cX10_heirloom 33 = .ok (.iaload, 1) := by decide +kernel
theorem dX10_heirloom_34 : decode cX10_heirloom 34 = .ok (.goto 9, 3) := by decide +kernel
theorem dX10_heirloom_37 : decode cX10_heirloom 37 = .ok (.aload_n 0, 1) := by decide +kernel
theorem dX10_heirloom_38 : decode cX10_heirloom 38 = .ok (.getfield 35, 3) := by decide +kernel
theorem dX10_heirloom_41 : decode cX10_heirloom 41 = .ok (.iload_n 1, 1) := by decide +kernel
theorem dX10_heirloom_42 : decode cX10_heirloom 42 = .ok (.iaload, 1) := by decide +kernel
theorem dX10_heirloom_43 : decode cX10_heirloom 43 = .ok (.istore_n 2, 1) := by decide +kernel
theorem dX10_heirloom_44 : decode cX10_heirloom 44 = .ok (.aload_n 0, 1) := by decide +kernel
theorem dX10_heirloom_45 : decode cX10_heirloom 45 = .ok (.iload_n 1, 1) := by decide +kernel
theorem dX10_heirloom_46 : decode cX10_heirloom 46 = .ok (.invokevirtual 196, 3) := by decide +kernel
theorem dX10_heirloom_49 : decode cX10_heirloom 49 = .ok (.ifCond .eq 12, 3) := by decide +kernel
theorem dX10_heirloom_52 : decode cX10_heirloom 52 = .ok (.aload_n 0, 1) := by decide +kernel
theorem dX10_heirloom_53 : decode cX10_heirloom 53 = .ok (.getfield 44, 3) := by decide +kernel
theorem dX10_heirloom_56 : decode cX10_heirloom 56 = .ok (.iload_n 1, 1) := by decide +kernel
theorem dX10_heirloom_57 : decode cX10_heirloom 57 = .ok (.iaload, 1) := by decide +kernel
theorem dX10_heirloom_58 : decode cX10_heirloom 58 = .ok (.goto 9, 3) := by decide +kernel
theorem dX10_heirloom_61 : decode cX10_heirloom 61 = .ok (.aload_n 0, 1) := by decide +kernel
theorem dX10_heirloom_62 : decode cX10_heirloom 62 = .ok (.getfield 38, 3) := by decide +kernel
theorem dX10_heirloom_65 : decode cX10_heirloom 65 = .ok (.iload_n 1, 1) := by decide +kernel
theorem dX10_heirloom_66 : decode cX10_heirloom 66 = .ok (.iaload, 1) := by decide +kernel
theorem dX10_heirloom_67 : decode cX10_heirloom 67 = .ok (.istore_n 3, 1) := by decide +kernel
theorem dX10_heirloom_68 : decode cX10_heirloom 68 = .ok (.iload_n 3, 1) := by decide +kernel
theorem dX10_heirloom_69 : decode cX10_heirloom 69 = .ok (.aload_n 0, 1) := by decide +kernel
theorem dX10_heirloom_70 : decode cX10_heirloom 70 = .ok (.getfield 47, 3) := by decide +kernel
theorem dX10_heirloom_73 : decode cX10_heirloom 73 = .ok (.iload_n 1, 1) := by decide +kernel
theorem dX10_heirloom_74 : decode cX10_heirloom 74 = .ok (.iaload, 1) := by decide +kernel
theorem dX10_heirloom_75 : decode cX10_heirloom 75 = .ok (.if_icmp .ge 7, 3) := by decide +kernel
theorem dX10_heirloom_78 : decode cX10_heirloom 78 = .ok (.iconst 2, 1) := by decide +kernel
theorem dX10_heirloom_79 : decode cX10_heirloom 79 = .ok (.goto 18, 3) := by decide +kernel
theorem dX10_heirloom_82 : decode cX10_heirloom 82 = .ok (.iload_n 2, 1) := by decide +kernel
theorem dX10_heirloom_83 : decode cX10_heirloom 83 = .ok (.aload_n 0, 1) := by decide +kernel
theorem dX10_heirloom_84 : decode cX10_heirloom 84 = .ok (.getfield 50, 3) := by decide +kernel
theorem dX10_heirloom_87 : decode cX10_heirloom 87 = .ok (.iload_n 1, 1) := by decide +kernel
theorem dX10_heirloom_88 : decode cX10_heirloom 88 = .ok (.iaload, 1) := by decide +kernel
theorem dX10_heirloom_89 : decode cX10_heirloom 89 = .ok (.if_icmp .ge 7, 3) := by decide +kernel
theorem dX10_heirloom_92 : decode cX10_heirloom 92 = .ok (.iconst 1, 1) := by decide +kernel
theorem dX10_heirloom_93 : decode cX10_heirloom 93 = .ok (.goto 4, 3) := by decide +kernel
theorem dX10_heirloom_96 : decode cX10_heirloom 96 = .ok (.iconst 0, 1) := by decide +kernel
theorem dX10_heirloom_97 : decode cX10_heirloom 97 = .ok (.ireturn, 1) := by decide +kernel
theorem dX10_mayBeFrom_0 : decode cX10_mayBeFrom 0 = .ok (.iconst 0, 1) := by decide +kernel
theorem dX10_mayBeFrom_1 : decode cX10_mayBeFrom 1 = .ok (.istore_n 2, 1) := by decide +kernel
theorem dX10_mayBeFrom_2 : decode cX10_mayBeFrom 2 = .ok (.aload_n 0, 1) := by decide +kernel
theorem dX10_mayBeFrom_3 : decode cX10_mayBeFrom 3 = .ok (.iload_n 1, 1) := by decide +kernel
theorem dX10_mayBeFrom_4 : decode cX10_mayBeFrom 4 = .ok (.bipush 9, 2) := by decide +kernel
theorem dX10_mayBeFrom_6 : decode cX10_mayBeFrom 6 = .ok (.invokevirtual 172, 3) := by decide +kernel
theorem dX10_mayBeFrom_9 : decode cX10_mayBeFrom 9 = .ok (.istore_n 3, 1) := by decide +kernel
theorem dX10_mayBeFrom_10 : decode cX10_mayBeFrom 10 = .ok (.iconst 0, 1) := by decide +kernel
theorem dX10_mayBeFrom_11 : decode cX10_mayBeFrom 11 = .ok (.istore 4, 2) := by decide +kernel
theorem dX10_mayBeFrom_13 : decode cX10_mayBeFrom 13 = .ok (.iload 4, 2) := by decide +kernel
theorem dX10_mayBeFrom_15 : decode cX10_mayBeFrom 15 = .ok (.aload_n 0, 1) := by decide +kernel
theorem dX10_mayBeFrom_16 : decode cX10_mayBeFrom 16 = .ok (.getfield 78, 3) := by decide +kernel
theorem dX10_mayBeFrom_19 : decode cX10_mayBeFrom 19 = .ok (.if_icmp .ge 101, 3) := by decide +kernel
theorem dX10_mayBeFrom_22 : decode cX10_mayBeFrom 22 = .ok (.iload 4, 2) := by decide +kernel
theorem dX10_mayBeFrom_24 : decode cX10_mayBeFrom 24 = .ok (.iload_n 1, 1) := by decide +kernel
theorem dX10_mayBeFrom_25 : decode cX10_mayBeFrom 25 = .ok (.if_icmp .eq 89, 3) := by decide +kernel
theorem dX10_mayBeFrom_28 : decode cX10_mayBeFrom 28 = .ok (.aload_n 0, 1) := by decide +kernel
theorem dX10_mayBeFrom_29 : decode cX10_mayBeFrom 29 = .ok (.iload_n 1, 1) := by decide +kernel
theorem dX10_mayBeFrom_30 : decode cX10_mayBeFrom 30 = .ok (.invokevirtual 179, 3) := by decide +kernel
theorem dX10_mayBeFrom_33 : decode cX10_mayBeFrom 33 = .ok (.aload_n 0, 1) := by decide +kernel
theorem dX10_mayBeFrom_34 : decode cX10_mayBeFrom 34 = .ok (.iload 4, 2) := by decide +kernel
theorem dX10_mayBeFrom_36 : decode cX10_mayBeFrom 36 = .ok (.invokevirtual 179, 3) := by decide +kernel
theorem dX10_mayBeFrom_39 : decode cX10_mayBeFrom 39 = .ok (.iand, 1) := by decide +kernel
theorem dX10_mayBeFrom_40 : decode cX10_mayBeFrom 40 = .ok (.ifCond .eq 74, 3) := by decide +kernel
theorem dX10_mayBeFrom_43 : decode cX10_mayBeFrom 43 = .ok (.aload_n 0, 1) := by decide +kernel
theorem dX10_mayBeFrom_44 : decode cX10_mayBeFrom 44 = .ok (.iload 4, 2) := by decide +kernel
theorem dX10_mayBeFrom_46 : decode cX10_mayBeFrom 46 = .ok (.iconst 5, 1) := by decide +kernel
theorem dX10_mayBeFrom_47 : decode cX10_mayBeFrom 47 = .ok (.invokevirtual 172, 3) := by decide +kernel
theorem dX10_mayBeFrom_50 : decode cX10_mayBeFrom 50 = .ok (.aload_n 0, 1) := by decide +kernel
theorem dX10_mayBeFrom_51 : decode cX10_mayBeFrom 51 = .ok (.iload_n 1, 1) := by decide +kernel
theorem dX10_mayBeFrom_52 : decode cX10_mayBeFrom 52 = .ok (.iconst 5, 1) := by decide +kernel
theorem dX10_mayBeFrom_53 : decode cX10_mayBeFrom 53 = .ok (.invokevirtual 172, 3) := by decide +kernel
theorem dX10_mayBeFrom_56 : decode cX10_mayBeFrom 56 = .ok (.if_icmp .le 58, 3) := by decide +kernel
theorem dX10_mayBeFrom_59 : decode cX10_mayBeFrom 59 = .ok (.aload_n 0, 1) := by decide +kernel
theorem dX10_mayBeFrom_60 : decode cX10_mayBeFrom 60 = .ok (.iload 4, 2) := by decide +kernel
theorem dX10_mayBeFrom_62 : decode cX10_mayBeFrom 62 = .ok (.iload_n 1, 1) := by decide +kernel
theorem dX10_mayBeFrom_63 : decode cX10_mayBeFrom 63 = .ok (.invokevirtual 186, 3) := by decide +kernel
theorem dX10_mayBeFrom_66 : decode cX10_mayBeFrom 66 = .ok (.ifCond .ne 48, 3) := by decide +kernel
theorem dX10_mayBeFrom_69 : decode cX10_mayBeFrom 69 = .ok (.aload_n 0, 1) := by decide +kernel
theorem dX10_mayBeFrom_70 : decode cX10_mayBeFrom 70 = .ok (.getfield 32, 3) := by decide +kernel
theorem dX10_mayBeFrom_73 : decode cX10_mayBeFrom 73 = .ok (.bipush 11, 2) := by decide +kernel
theorem dX10_mayBeFrom_75 : decode cX10_mayBeFrom 75 = .ok (.iload_n 1, 1) := by decide +kernel
theorem dX10_mayBeFrom_76 : decode cX10_mayBeFrom 76 = .ok (.imul, 1) := by decide +kernel
theorem dX10_mayBeFrom_77 : decode cX10_mayBeFrom 77 = .ok (.bipush 9, 2) := by decide +kernel
theorem dX10_mayBeFrom_79 : decode cX10_mayBeFrom 79 = .ok (.iadd, 1) := by decide +kernel
theorem dX10_mayBeFrom_80 : decode cX10_mayBeFrom 80 = .ok (.iload 4, 2) := by decide +kernel
theorem dX10_mayBeFrom_82 : decode cX10_mayBeFrom 82 = .ok (.iastore, 1) := by decide +kernel
theorem dX10_mayBeFrom_83 : decode cX10_mayBeFrom 83 = .ok (.iload_n 2, 1) := by decide +kernel
theorem dX10_mayBeFrom_84 : decode cX10_mayBeFrom 84 = .ok (.aload_n 0, 1) := by decide +kernel
theorem dX10_mayBeFrom_85 : decode cX10_mayBeFrom 85 = .ok (.invokevirtual 214, 3) := by decide +kernel
theorem dX10_mayBeFrom_88 : decode cX10_mayBeFrom 88 = .ok (.ifCond .eq 10, 3) := by decide +kernel
theorem dX10_mayBeFrom_91 : decode cX10_mayBeFrom 91 = .ok (.iconst 1, 1) := by decide +kernel
theorem dX10_mayBeFrom_92 : decode cX10_mayBeFrom 92 = .ok (.iload 4, 2) := by decide +kernel
theorem dX10_mayBeFrom_94 : decode cX10_mayBeFrom 94 = .ok (.ishl, 1) := by decide +kernel
theorem dX10_mayBeFrom_95 : decode cX10_mayBeFrom 95 = .ok (.goto 4, 3) := by decide +kernel
theorem dX10_mayBeFrom_98 : decode cX10_mayBeFrom 98 = .ok (.iconst 0, 1) := by decide +kernel
theorem dX10_mayBeFrom_99 : decode cX10_mayBeFrom 99 = .ok (.ior, 1) := by decide +kernel
theorem dX10_mayBeFrom_100 : decode cX10_mayBeFrom 100 = .ok (.istore_n 2, 1) := by decide +kernel
theorem dX10_mayBeFrom_101 : decode cX10_mayBeFrom 101 = .ok (.aload_n 0, 1) := by decide +kernel
theorem dX10_mayBeFrom_102 : decode cX10_mayBeFrom 102 = .ok (.getfield 32, 3) := by decide +kernel
theorem dX10_mayBeFrom_105 : decode cX10_mayBeFrom 105 = .ok (.bipush 11, 2) := by decide +kernel
theorem dX10_mayBeFrom_107 : decode cX10_mayBeFrom 107 = .ok (.iload_n 1, 1) := by decide +kernel
theorem dX10_mayBeFrom_108 : decode cX10_mayBeFrom 108 = .ok (.imul, 1) := by decide +kernel
theorem dX10_mayBeFrom_109 : decode cX10_mayBeFrom 109 = .ok (.bipush 9, 2) := by decide +kernel
theorem dX10_mayBeFrom_111 : decode cX10_mayBeFrom 111 = .ok (.iadd, 1) := by decide +kernel
theorem dX10_mayBeFrom_112 : decode cX10_mayBeFrom 112 = .ok (.iload_n 3, 1) := by decide +kernel
theorem dX10_mayBeFrom_113 : decode cX10_mayBeFrom 113 = .ok (.iastore, 1) := by decide +kernel
theorem dX10_mayBeFrom_114 : decode cX10_mayBeFrom 114 = .ok (.iinc 4 1, 3) := by decide +kernel
theorem dX10_mayBeFrom_117 : decode cX10_mayBeFrom 117 = .ok (.goto (-104), 3) := by decide +kernel
theorem dX10_mayBeFrom_120 : decode cX10_mayBeFrom 120 = .ok (.iload_n 2, 1) := by decide +kernel
theorem dX10_mayBeFrom_121 : decode cX10_mayBeFrom 121 = .ok (.ireturn, 1) := by decide +kernel
theorem dX10_from_0 : decode cX10_from 0 = .ok (.aload_n 0, 1) := by decide +kernel
theorem dX10_from_1 : decode cX10_from 1 = .ok (.iload_n 1, 1) := by decide +kernel
theorem dX10_from_2 : decode cX10_from 2 = .ok (.invokevirtual 169, 3) := by decide +kernel
theorem dX10_from_5 : decode cX10_from 5 = .ok (.ifCond .eq 11, 3) := by decide +kernel
theorem dX10_from_8 : decode cX10_from 8 = .ok (.aload_n 0, 1) := by decide +kernel
theorem dX10_from_9 : decode cX10_from 9 = .ok (.iload_n 1, 1) := by decide +kernel
theorem dX10_from_10 : decode cX10_from 10 = .ok (.invokevirtual 217, 3) := by decide +kernel
theorem dX10_from_13 : decode cX10_from 13 = .ok (.goto 5, 3) := by decide +kernel
theorem dX10_from_16 : decode cX10_from 16 = .ok (.bipush (-2), 2) := by decide +kernel
theorem dX10_from_18 : decode cX10_from 18 = .ok (.ireturn, 1) := by decide +kernel
theorem dX10_chain_0 : decode cX10_chain 0 = .ok (.iload_n 1, 1) := by decide +kernel
theorem dX10_chain_1 : decode cX10_chain 1 = .ok (.bipush (-2), 2) := by decide +kernel
theorem dX10_chain_3 : decode cX10_chain 3 = .ok (.if_icmp .ge 6, 3) := by decide +kernel
theorem dX10_chain_6 : decode cX10_chain 6 = .ok (.bipush (-3), 2) := by decide +kernel
theorem dX10_chain_8 : decode cX10_chain 8 = .ok (.ireturn, 1) := by decide +kernel
theorem dX10_chain_9 : decode cX10_chain 9 = .ok (.iconst 0, 1) := by decide +kernel
theorem dX10_chain_10 : decode cX10_chain 10 = .ok (.istore_n 2, 1) := by decide +kernel
theorem dX10_chain_11 : decode cX10_chain 11 = .ok (.iload_n 2, 1) := by decide +kernel
theorem dX10_chain_12 : decode cX10_chain 12 = .ok (.aload_n 0, 1) := by decide +kernel
theorem dX10_chain_13 : decode cX10_chain 13 = .ok (.getfield 78, 3) := by decide +kernel
theorem dX10_chain_16 : decode cX10_chain 16 = .ok (.if_icmp .ge 27, 3) := by decide +kernel
theorem dX10_chain_19 : decode cX10_chain 19 = .ok (.aload_n 0, 1) := by decide +kernel
theorem dX10_chain_20 : decode cX10_chain 20 = .ok (.getfield 53, 3) := by decide +kernel
theorem dX10_chain_23 : decode cX10_chain 23 = .ok (.iload_n 2, 1) := by decide +kernel
theorem dX10_chain_24 : decode cX10_chain 24 = .ok (.aload_n 0, 1) := by decide +kernel
theorem dX10_chain_25 : decode cX10_chain 25 = .ok (.iload_n 2, 1) := by decide +kernel
theorem dX10_chain_26 : decode cX10_chain 26 = .ok (.invokevirtual 217, 3) := by decide +kernel
theorem dX10_chain_29 : decode cX10_chain 29 = .ok (.iastore, 1) := by decide +kernel
theorem dX10_chain_30 : decode cX10_chain 30 = .ok (.aload_n 0, 1) := by decide +kernel
theorem dX10_chain_31 : decode cX10_chain 31 = .ok (.getfield 56, 3) := by decide +kernel
theorem dX10_chain_34 : decode cX10_chain 34 = .ok (.iload_n 2, 1) := by decide +kernel
theorem dX10_chain_35 : decode cX10_chain 35 = .ok (.iconst 1, 1) := by decide +kernel
theorem dX10_chain_36 : decode cX10_chain 36 = .ok (.iastore, 1) := by decide +kernel
theorem dX10_chain_37 : decode cX10_chain 37 = .ok (.iinc 2 1, 3) := by decide +kernel
theorem dX10_chain_40 : decode cX10_chain 40 = .ok (.goto (-29), 3) := by decide +kernel
theorem dX10_chain_43 : decode cX10_chain 43 = .ok (.iconst 0, 1) := by decide +kernel
theorem dX10_chain_44 : decode cX10_chain 44 = .ok (.istore_n 2, 1) := by decide +kernel
theorem dX10_chain_45 : decode cX10_chain 45 = .ok (.iload_n 2, 1) := by decide +kernel
theorem dX10_chain_46 : decode cX10_chain 46 = .ok (.aload_n 0, 1) := by decide +kernel
theorem dX10_chain_47 : decode cX10_chain 47 = .ok (.getfield 78, 3) := by decide +kernel
theorem dX10_chain_50 : decode cX10_chain 50 = .ok (.if_icmp .ge 91, 3) := by decide +kernel
theorem dX10_chain_53 : decode cX10_chain 53 = .ok (.iconst 0, 1) := by decide +kernel
theorem dX10_chain_54 : decode cX10_chain 54 = .ok (.istore_n 3, 1) := by decide +kernel
theorem dX10_chain_55 : decode cX10_chain 55 = .ok (.iload_n 3, 1) := by decide +kernel
theorem dX10_chain_56 : decode cX10_chain 56 = .ok (.aload_n 0, 1) := by decide +kernel
theorem dX10_chain_57 : decode cX10_chain 57 = .ok (.getfield 78, 3) := by decide +kernel
theorem dX10_chain_60 : decode cX10_chain 60 = .ok (.if_icmp .ge 75, 3) := by decide +kernel
theorem dX10_chain_63 : decode cX10_chain 63 = .ok (.iconst 0, 1) := by decide +kernel
theorem dX10_chain_64 : decode cX10_chain 64 = .ok (.istore 4, 2) := by decide +kernel
theorem dX10_chain_66 : decode cX10_chain 66 = .ok (.iload 4, 2) := by decide +kernel
theorem dX10_chain_68 : decode cX10_chain 68 = .ok (.aload_n 0, 1) := by decide +kernel
theorem dX10_chain_69 : decode cX10_chain 69 = .ok (.getfield 78, 3) := by decide +kernel
theorem dX10_chain_72 : decode cX10_chain 72 = .ok (.if_icmp .ge 57, 3) := by decide +kernel
theorem dX10_chain_75 : decode cX10_chain 75 = .ok (.aload_n 0, 1) := by decide +kernel
theorem dX10_chain_76 : decode cX10_chain 76 = .ok (.getfield 56, 3) := by decide +kernel
theorem dX10_chain_79 : decode cX10_chain 79 = .ok (.iload_n 3, 1) := by decide +kernel
theorem dX10_chain_80 : decode cX10_chain 80 = .ok (.aload_n 0, 1) := by decide +kernel
theorem dX10_chain_81 : decode cX10_chain 81 = .ok (.getfield 53, 3) := by decide +kernel
theorem dX10_chain_84 : decode cX10_chain 84 = .ok (.iload 4, 2) := by decide +kernel
theorem dX10_chain_86 : decode cX10_chain 86 = .ok (.iaload, 1) := by decide +kernel
theorem dX10_chain_87 : decode cX10_chain 87 = .ok (.iload_n 3, 1) := by decide +kernel
theorem dX10_chain_88 : decode cX10_chain 88 = .ok (.ishr, 1) := by decide +kernel
theorem dX10_chain_89 : decode cX10_chain 89 = .ok (.iconst 1, 1) := by decide +kernel
theorem dX10_chain_90 : decode cX10_chain 90 = .ok (.iand, 1) := by decide +kernel
theorem dX10_chain_91 : decode cX10_chain 91 = .ok (.iconst 1, 1) := by decide +kernel
theorem dX10_chain_92 : decode cX10_chain 92 = .ok (.if_icmp .ne 24, 3) := by decide +kernel
theorem dX10_chain_95 : decode cX10_chain 95 = .ok (.aload_n 0, 1) := by decide +kernel
theorem dX10_chain_96 : decode cX10_chain 96 = .ok (.getfield 56, 3) := by decide +kernel
theorem dX10_chain_99 : decode cX10_chain 99 = .ok (.iload_n 3, 1) := by decide +kernel
theorem dX10_chain_100 : decode cX10_chain 100 = .ok (.iaload, 1) := by decide +kernel
theorem dX10_chain_101 : decode cX10_chain 101 = .ok (.aload_n 0, 1) := by decide +kernel
theorem dX10_chain_102 : decode cX10_chain 102 = .ok (.getfield 56, 3) := by decide +kernel
theorem dX10_chain_105 : decode cX10_chain 105 = .ok (.iload 4, 2) := by decide +kernel
theorem dX10_chain_107 : decode cX10_chain 107 = .ok (.iaload, 1) := by decide +kernel
theorem dX10_chain_108 : decode cX10_chain 108 = .ok (.iconst 1, 1) := by decide +kernel
theorem dX10_chain_109 : decode cX10_chain 109 = .ok (.iadd, 1) := by decide +kernel
theorem dX10_chain_110 : decode cX10_chain 110 = .ok (.invokestatic 199, 3) := by decide +kernel
theorem dX10_chain_113 : decode cX10_chain 113 = .ok (.goto 9, 3) := by decide +kernel
theorem dX10_chain_116 : decode cX10_chain 116 = .ok (.aload_n 0, 1) := by decide +kernel
theorem dX10_chain_117 : decode cX10_chain 117 = .ok (.getfield 56, 3) := by decide +kernel
theorem dX10_chain_120 : decode cX10_chain 120 = .ok (.iload_n 3, 1) := by decide +kernel
theorem dX10_chain_121 : decode cX10_chain 121 = .ok (.iaload, 1) := by decide +kernel
theorem dX10_chain_122 : decode cX10_chain 122 = .ok (.iastore, 1) := by decide +kernel
theorem dX10_chain_123 : decode cX10_chain 123 = .ok (.iinc 4 1, 3) := by decide +kernel
theorem dX10_chain_126 : decode cX10_chain 126 = .ok (.goto (-60), 3) := by decide +kernel
theorem dX10_chain_129 : decode cX10_chain 129 = .ok (.iinc 3 1, 3) := by decide +kernel
theorem dX10_chain_132 : decode cX10_chain 132 = .ok (.goto (-77), 3) := by decide +kernel
theorem dX10_chain_135 : decode cX10_chain 135 = .ok (.iinc 2 1, 3) := by decide +kernel
theorem dX10_chain_138 : decode cX10_chain 138 = .ok (.goto (-93), 3) := by decide +kernel
theorem dX10_chain_141 : decode cX10_chain 141 = .ok (.iconst (-1), 1) := by decide +kernel
theorem dX10_chain_142 : decode cX10_chain 142 = .ok (.istore_n 2, 1) := by decide +kernel
theorem dX10_chain_143 : decode cX10_chain 143 = .ok (.iconst 0, 1) := by decide +kernel
theorem dX10_chain_144 : decode cX10_chain 144 = .ok (.istore_n 3, 1) := by decide +kernel
theorem dX10_chain_145 : decode cX10_chain 145 = .ok (.iload_n 3, 1) := by decide +kernel
theorem dX10_chain_146 : decode cX10_chain 146 = .ok (.aload_n 0, 1) := by decide +kernel
theorem dX10_chain_147 : decode cX10_chain 147 = .ok (.getfield 78, 3) := by decide +kernel
theorem dX10_chain_150 : decode cX10_chain 150 = .ok (.if_icmp .ge 35, 3) := by decide +kernel
theorem dX10_chain_153 : decode cX10_chain 153 = .ok (.iload_n 2, 1) := by decide +kernel
theorem dX10_chain_154 : decode cX10_chain 154 = .ok (.iconst (-1), 1) := by decide +kernel
theorem dX10_chain_155 : decode cX10_chain 155 = .ok (.if_icmp .eq 18, 3) := by decide +kernel
theorem dX10_chain_158 : decode cX10_chain 158 = .ok (.aload_n 0, 1) := by decide +kernel
theorem dX10_chain_159 : decode cX10_chain 159 = .ok (.getfield 56, 3) := by decide +kernel
theorem dX10_chain_162 : decode cX10_chain 162 = .ok (.iload_n 3, 1) := by decide +kernel
theorem dX10_chain_163 : decode cX10_chain 163 = .ok (.iaload, 1) := by decide +kernel
theorem dX10_chain_164 : decode cX10_chain 164 = .ok (.aload_n 0, 1) := by decide +kernel
theorem dX10_chain_165 : decode cX10_chain 165 = .ok (.getfield 56, 3) := by decide +kernel
theorem dX10_chain_168 : decode cX10_chain 168 = .ok (.iload_n 2, 1) := by decide +kernel
theorem dX10_chain_169 : decode cX10_chain 169 = .ok (.iaload, 1) := by decide +kernel
theorem dX10_chain_170 : decode cX10_chain 170 = .ok (.if_icmp .le 7, 3) := by decide +kernel
theorem dX10_chain_173 : decode cX10_chain 173 = .ok (.iload_n 3, 1) := by decide +kernel
theorem dX10_chain_174 : decode cX10_chain 174 = .ok (.goto 4, 3) := by decide +kernel
theorem dX10_chain_177 : decode cX10_chain 177 = .ok (.iload_n 2, 1) := by decide +kernel
theorem dX10_chain_178 : decode cX10_chain 178 = .ok (.istore_n 2, 1) := by decide +kernel
theorem dX10_chain_179 : decode cX10_chain 179 = .ok (.iinc 3 1, 3) := by decide +kernel
theorem dX10_chain_182 : decode cX10_chain 182 = .ok (.goto (-37), 3) := by decide +kernel
theorem dX10_chain_185 : decode cX10_chain 185 = .ok (.iload_n 2, 1) := by decide +kernel
theorem dX10_chain_186 : decode cX10_chain 186 = .ok (.iconst (-1), 1) := by decide +kernel
theorem dX10_chain_187 : decode cX10_chain 187 = .ok (.if_icmp .ne 13, 3) := by decide +kernel
theorem dX10_chain_190 : decode cX10_chain 190 = .ok (.iload_n 1, 1) := by decide +kernel
theorem dX10_chain_191 : decode cX10_chain 191 = .ok (.ifCond .lt 7, 3) := by decide +kernel
theorem dX10_chain_194 : decode cX10_chain 194 = .ok (.iconst (-1), 1) := by decide +kernel
theorem dX10_chain_195 : decode cX10_chain 195 = .ok (.goto 4, 3) := by decide +kernel
theorem dX10_chain_198 : decode cX10_chain 198 = .ok (.iconst 0, 1) := by decide +kernel
theorem dX10_chain_199 : decode cX10_chain 199 = .ok (.ireturn, 1) := by decide +kernel
theorem dX10_chain_200 : decode cX10_chain 200 = .ok (.aload_n 0, 1) := by decide +kernel
theorem dX10_chain_201 : decode cX10_chain 201 = .ok (.getfield 56, 3) := by decide +kernel
theorem dX10_chain_204 : decode cX10_chain 204 = .ok (.iload_n 2, 1) := by decide +kernel
theorem dX10_chain_205 : decode cX10_chain 205 = .ok (.iaload, 1) := by decide +kernel
theorem dX10_chain_206 : decode cX10_chain 206 = .ok (.istore_n 3, 1) := by decide +kernel
theorem dX10_chain_207 : decode cX10_chain 207 = .ok (.iload_n 2, 1) := by decide +kernel
theorem dX10_chain_208 : decode cX10_chain 208 = .ok (.istore 4, 2) := by decide +kernel
theorem dX10_chain_210 : decode cX10_chain 210 = .ok (.iconst 0, 1) := by decide +kernel
theorem dX10_chain_211 : decode cX10_chain 211 = .ok (.istore 5, 2) := by decide +kernel
theorem dX10_chain_213 : decode cX10_chain 213 = .ok (.iload 5, 2) := by decide +kernel
theorem dX10_chain_215 : decode cX10_chain 215 = .ok (.iload_n 3, 1) := by decide +kernel
theorem dX10_chain_216 : decode cX10_chain 216 = .ok (.if_icmp .ge 94, 3) := by decide +kernel
theorem dX10_chain_219 : decode cX10_chain 219 = .ok (.iload 5, 2) := by decide +kernel
theorem dX10_chain_221 : decode cX10_chain 221 = .ok (.iload_n 1, 1) := by decide +kernel
theorem dX10_chain_222 : decode cX10_chain 222 = .ok (.if_icmp .ne 5, 3) := by decide +kernel
theorem dX10_chain_225 : decode cX10_chain 225 = .ok (.iload_n 2, 1) := by decide +kernel
theorem dX10_chain_226 : decode cX10_chain 226 = .ok (.ireturn, 1) := by decide +kernel
theorem dX10_chain_227 : decode cX10_chain 227 = .ok (.iconst (-1), 1) := by decide +kernel
theorem dX10_chain_228 : decode cX10_chain 228 = .ok (.istore 6, 2) := by decide +kernel
theorem dX10_chain_230 : decode cX10_chain 230 = .ok (.aload_n 0, 1) := by decide +kernel
theorem dX10_chain_231 : decode cX10_chain 231 = .ok (.getfield 78, 3) := by decide +kernel
theorem dX10_chain_234 : decode cX10_chain 234 = .ok (.iconst 1, 1) := by decide +kernel
theorem dX10_chain_235 : decode cX10_chain 235 = .ok (.isub, 1) := by decide +kernel
theorem dX10_chain_236 : decode cX10_chain 236 = .ok (.istore 7, 2) := by decide +kernel
theorem dX10_chain_238 : decode cX10_chain 238 = .ok (.iload 7, 2) := by decide +kernel
theorem dX10_chain_240 : decode cX10_chain 240 = .ok (.ifCond .lt 51, 3) := by decide +kernel
theorem dX10_chain_243 : decode cX10_chain 243 = .ok (.aload_n 0, 1) := by decide +kernel
theorem dX10_chain_244 : decode cX10_chain 244 = .ok (.getfield 53, 3) := by decide +kernel
theorem dX10_chain_247 : decode cX10_chain 247 = .ok (.iload 7, 2) := by decide +kernel
theorem dX10_chain_249 : decode cX10_chain 249 = .ok (.iaload, 1) := by decide +kernel
theorem dX10_chain_250 : decode cX10_chain 250 = .ok (.iload_n 2, 1) := by decide +kernel
theorem dX10_chain_251 : decode cX10_chain 251 = .ok (.ishr, 1) := by decide +kernel
theorem dX10_chain_252 : decode cX10_chain 252 = .ok (.iconst 1, 1) := by decide +kernel
theorem dX10_chain_253 : decode cX10_chain 253 = .ok (.iand, 1) := by decide +kernel
theorem dX10_chain_254 : decode cX10_chain 254 = .ok (.iconst 1, 1) := by decide +kernel
theorem dX10_chain_255 : decode cX10_chain 255 = .ok (.if_icmp .ne 26, 3) := by decide +kernel
theorem dX10_chain_258 : decode cX10_chain 258 = .ok (.aload_n 0, 1) := by decide +kernel
theorem dX10_chain_259 : decode cX10_chain 259 = .ok (.getfield 56, 3) := by decide +kernel
theorem dX10_chain_262 : decode cX10_chain 262 = .ok (.iload 7, 2) := by decide +kernel
theorem dX10_chain_264 : decode cX10_chain 264 = .ok (.iaload, 1) := by decide +kernel
theorem dX10_chain_265 : decode cX10_chain 265 = .ok (.iconst 1, 1) := by decide +kernel
theorem dX10_chain_266 : decode cX10_chain 266 = .ok (.iadd, 1) := by decide +kernel
theorem dX10_chain_267 : decode cX10_chain 267 = .ok (.aload_n 0, 1) := by decide +kernel
theorem dX10_chain_268 : decode cX10_chain 268 = .ok (.getfield 56, 3) := by decide +kernel
theorem dX10_chain_271 : decode cX10_chain 271 = .ok (.iload_n 2, 1) := by decide +kernel
theorem dX10_chain_272 : decode cX10_chain 272 = .ok (.iaload, 1) := by decide +kernel
theorem dX10_chain_273 : decode cX10_chain 273 = .ok (.if_icmp .ne 8, 3) := by decide +kernel
theorem dX10_chain_276 : decode cX10_chain 276 = .ok (.iload 7, 2) := by decide +kernel
theorem dX10_chain_278 : decode cX10_chain 278 = .ok (.goto 5, 3) := by decide +kernel
theorem dX10_chain_281 : decode cX10_chain 281 = .ok (.iload 6, 2) := by decide +kernel
theorem dX10_chain_283 : decode cX10_chain 283 = .ok (.istore 6, 2) := by decide +kernel
theorem dX10_chain_285 : decode cX10_chain 285 = .ok (.iinc 7 (-1), 3) := by decide +kernel
theorem dX10_chain_288 : decode cX10_chain 288 = .ok (.goto (-50), 3) := by decide +kernel
theorem dX10_chain_291 : decode cX10_chain 291 = .ok (.iload 6, 2) := by decide +kernel
theorem dX10_chain_293 : decode cX10_chain 293 = .ok (.iconst (-1), 1) := by decide +kernel
theorem dX10_chain_294 : decode cX10_chain 294 = .ok (.if_icmp .ne 7, 3) := by decide +kernel
theorem dX10_chain_297 : decode cX10_chain 297 = .ok (.iload_n 2, 1) := by decide +kernel
theorem dX10_chain_298 : decode cX10_chain 298 = .ok (.goto 5, 3) := by decide +kernel
theorem dX10_chain_301 : decode cX10_chain 301 = .ok (.iload 6, 2) := by decide +kernel
theorem dX10_chain_303 : decode cX10_chain 303 = .ok (.istore_n 2, 1) := by decide +kernel
theorem dX10_chain_304 : decode cX10_chain 304 = .ok (.iinc 5 1, 3) := by decide +kernel
theorem dX10_chain_307 : decode cX10_chain 307 = .ok (.goto (-94), 3) := by decide +kernel
theorem dX10_chain_310 : decode cX10_chain 310 = .ok (.iload_n 1, 1) := by decide +kernel
theorem dX10_chain_311 : decode cX10_chain 311 = .ok (.iconst (-1), 1) := by decide +kernel
theorem dX10_chain_312 : decode cX10_chain 312 = .ok (.if_icmp .ne 7, 3) := by decide +kernel
theorem dX10_chain_315 : decode cX10_chain 315 = .ok (.iload_n 3, 1) := by decide +kernel
theorem dX10_chain_316 : decode cX10_chain 316 = .ok (.goto 27, 3) := by decide +kernel
theorem dX10_chain_319 : decode cX10_chain 319 = .ok (.iload_n 1, 1) := by decide +kernel
theorem dX10_chain_320 : decode cX10_chain 320 = .ok (.bipush (-2), 2) := by decide +kernel
theorem dX10_chain_322 : decode cX10_chain 322 = .ok (.if_icmp .ne 20, 3) := by decide +kernel
theorem dX10_chain_325 : decode cX10_chain 325 = .ok (.aload_n 0, 1) := by decide +kernel
theorem dX10_chain_326 : decode cX10_chain 326 = .ok (.iload 4, 2) := by decide +kernel
theorem dX10_chain_328 : decode cX10_chain 328 = .ok (.iconst 5, 1) := by decide +kernel
theorem dX10_chain_329 : decode cX10_chain 329 = .ok (.invokevirtual 172, 3) := by decide +kernel
theorem dX10_chain_332 : decode cX10_chain 332 = .ok (.aload_n 0, 1) := by decide +kernel
theorem dX10_chain_333 : decode cX10_chain 333 = .ok (.iload_n 2, 1) := by decide +kernel
theorem dX10_chain_334 : decode cX10_chain 334 = .ok (.iconst 5, 1) := by decide +kernel
theorem dX10_chain_335 : decode cX10_chain 335 = .ok (.invokevirtual 172, 3) := by decide +kernel
theorem dX10_chain_338 : decode cX10_chain 338 = .ok (.isub, 1) := by decide +kernel
theorem dX10_chain_339 : decode cX10_chain 339 = .ok (.goto 4, 3) := by decide +kernel
theorem dX10_chain_342 : decode cX10_chain 342 = .ok (.iconst (-1), 1) := by decide +kernel
theorem dX10_chain_343 : decode cX10_chain 343 = .ok (.ireturn, 1) := by decide +kernel
theorem dX10_isLive_0 : decode cX10_isLive 0 = .ok (.iload_n 2, 1) := by decide +kernel
theorem dX10_isLive_1 : decode cX10_isLive 1 = .ok (.aload_n 0, 1) := by decide +kernel
theorem dX10_isLive_2 : decode cX10_isLive 2 = .ok (.getfield 7, 3) := by decide +kernel
theorem dX10_isLive_5 : decode cX10_isLive 5 = .ok (.iconst 3, 1) := by decide +kernel
theorem dX10_isLive_6 : decode cX10_isLive 6 = .ok (.iload_n 1, 1) := by decide +kernel
theorem dX10_isLive_7 : decode cX10_isLive 7 = .ok (.imul, 1) := by decide +kernel
theorem dX10_isLive_8 : decode cX10_isLive 8 = .ok (.iaload, 1) := by decide +kernel
theorem dX10_isLive_9 : decode cX10_isLive 9 = .ok (.aload_n 0, 1) := by decide +kernel
theorem dX10_isLive_10 : decode cX10_isLive 10 = .ok (.getfield 7, 3) := by decide +kernel
theorem dX10_isLive_13 : decode cX10_isLive 13 = .ok (.iconst 3, 1) := by decide +kernel
theorem dX10_isLive_14 : decode cX10_isLive 14 = .ok (.iload_n 1, 1) := by decide +kernel
theorem dX10_isLive_15 : decode cX10_isLive 15 = .ok (.imul, 1) := by decide +kernel
theorem dX10_isLive_16 : decode cX10_isLive 16 = .ok (.iconst 1, 1) := by decide +kernel
theorem dX10_isLive_17 : decode cX10_isLive 17 = .ok (.iadd, 1) := by decide +kernel
theorem dX10_isLive_18 : decode cX10_isLive 18 = .ok (.iaload, 1) := by decide +kernel
theorem dX10_isLive_19 : decode cX10_isLive 19 = .ok (.invokestatic 71, 3) := by decide +kernel
theorem dX10_isLive_22 : decode cX10_isLive 22 = .ok (.ireturn, 1) := by decide +kernel
theorem dX10_layOut_0 : decode cX10_layOut 0 = .ok (.iconst 0, 1) := by decide +kernel
theorem dX10_layOut_1 : decode cX10_layOut 1 = .ok (.istore 4, 2) := by decide +kernel
theorem dX10_layOut_3 : decode cX10_layOut 3 = .ok (.iload 4, 2) := by decide +kernel
theorem dX10_layOut_5 : decode cX10_layOut 5 = .ok (.bipush 10, 2) := by decide +kernel
theorem dX10_layOut_7 : decode cX10_layOut 7 = .ok (.if_icmp .ge 41, 3) := by decide +kernel
theorem dX10_layOut_10 : decode cX10_layOut 10 = .ok (.aload_n 0, 1) := by decide +kernel
theorem dX10_layOut_11 : decode cX10_layOut 11 = .ok (.getfield 59, 3) := by decide +kernel
theorem dX10_layOut_14 : decode cX10_layOut 14 = .ok (.iload 4, 2) := by decide +kernel
theorem dX10_layOut_16 : decode cX10_layOut 16 = .ok (.iload 4, 2) := by decide +kernel
theorem dX10_layOut_18 : decode cX10_layOut 18 = .ok (.iload_n 1, 1) := by decide +kernel
theorem dX10_layOut_19 : decode cX10_layOut 19 = .ok (.if_icmp .ne 7, 3) := by decide +kernel
theorem dX10_layOut_22 : decode cX10_layOut 22 = .ok (.iconst 0, 1) := by decide +kernel
theorem dX10_layOut_23 : decode cX10_layOut 23 = .ok (.goto 4, 3) := by decide +kernel
theorem dX10_layOut_26 : decode cX10_layOut 26 = .ok (.iconst (-1), 1) := by decide +kernel
theorem dX10_layOut_27 : decode cX10_layOut 27 = .ok (.iastore, 1) := by decide +kernel
theorem dX10_layOut_28 : decode cX10_layOut 28 = .ok (.aload_n 0, 1) := by decide +kernel
theorem dX10_layOut_29 : decode cX10_layOut 29 = .ok (.getfield 62, 3) := by decide +kernel
theorem dX10_layOut_32 : decode cX10_layOut 32 = .ok (.iload 4, 2) := by decide +kernel
theorem dX10_layOut_34 : decode cX10_layOut 34 = .ok (.aload_n 0, 1) := by decide +kernel
theorem dX10_layOut_35 : decode cX10_layOut 35 = .ok (.getfield 59, 3) := by decide +kernel
theorem dX10_layOut_38 : decode cX10_layOut 38 = .ok (.iload 4, 2) := by decide +kernel
theorem dX10_layOut_40 : decode cX10_layOut 40 = .ok (.iaload, 1) := by decide +kernel
theorem dX10_layOut_41 : decode cX10_layOut 41 = .ok (.iastore, 1) := by decide +kernel
theorem dX10_layOut_42 : decode cX10_layOut 42 = .ok (.iinc 4 1, 3) := by decide +kernel
theorem dX10_layOut_45 : decode cX10_layOut 45 = .ok (.goto (-42), 3) := by decide +kernel
theorem dX10_layOut_48 : decode cX10_layOut 48 = .ok (.iconst 0, 1) := by decide +kernel
theorem dX10_layOut_49 : decode cX10_layOut 49 = .ok (.istore 4, 2) := by decide +kernel
theorem dX10_layOut_51 : decode cX10_layOut 51 = .ok (.iload 4, 2) := by decide +kernel
theorem dX10_layOut_53 : decode cX10_layOut 53 = .ok (.bipush 10, 2) := by decide +kernel
theorem dX10_layOut_55 : decode cX10_layOut 55 = .ok (.if_icmp .ge 242, 3) := by decide +kernel
theorem dX10_layOut_58 : decode cX10_layOut 58 = .ok (.iconst 0, 1) := by decide +kernel
theorem dX10_layOut_59 : decode cX10_layOut 59 = .ok (.istore 5, 2) := by decide +kernel
theorem dX10_layOut_61 : decode cX10_layOut 61 = .ok (.iload 5, 2) := by decide +kernel
theorem dX10_layOut_63 : decode cX10_layOut 63 = .ok (.bipush 10, 2) := by decide +kernel
theorem dX10_layOut_65 : decode cX10_layOut 65 = .ok (.if_icmp .ge 226, 3) := by decide +kernel
theorem dX10_layOut_68 : decode cX10_layOut 68 = .ok (.iconst 0, 1) := by decide +kernel
theorem dX10_layOut_69 : decode cX10_layOut 69 = .ok (.istore 6, 2) := by decide +kernel
theorem dX10_layOut_71 : decode cX10_layOut 71 = .ok (.iload 6, 2) := by decide +kernel
theorem dX10_layOut_73 : decode cX10_layOut 73 = .ok (.bipush 10, 2) := by decide +kernel
theorem dX10_layOut_75 : decode cX10_layOut 75 = .ok (.if_icmp .ge 210, 3) := by decide +kernel
theorem dX10_layOut_78 : decode cX10_layOut 78 = .ok (.aload_n 0, 1) := by decide +kernel
theorem dX10_layOut_79 : decode cX10_layOut 79 = .ok (.getfield 59, 3) := by decide +kernel
theorem dX10_layOut_82 : decode cX10_layOut 82 = .ok (.iload 5, 2) := by decide +kernel
theorem dX10_layOut_84 : decode cX10_layOut 84 = .ok (.iaload, 1) := by decide +kernel
theorem dX10_layOut_85 : decode cX10_layOut 85 = .ok (.iconst (-1), 1) := by decide +kernel
theorem dX10_layOut_86 : decode cX10_layOut 86 = .ok (.if_icmp .eq 199, 3) := by decide +kernel
theorem dX10_layOut_89 : decode cX10_layOut 89 = .ok (.aload_n 0, 1) := by decide +kernel
theorem dX10_layOut_90 : decode cX10_layOut 90 = .ok (.getfield 13, 3) := by decide +kernel
theorem dX10_layOut_93 : decode cX10_layOut 93 = .ok (.bipush 10, 2) := by decide +kernel
theorem dX10_layOut_95 : decode cX10_layOut 95 = .ok (.iload 5, 2) := by decide +kernel
theorem dX10_layOut_97 : decode cX10_layOut 97 = .ok (.imul, 1) := by decide +kernel
theorem dX10_layOut_98 : decode cX10_layOut 98 = .ok (.iload 6, 2) := by decide +kernel
theorem dX10_layOut_100 : decode cX10_layOut 100 = .ok (.iadd, 1) := by decide +kernel
theorem dX10_layOut_101 : decode cX10_layOut 101 = .ok (.iaload, 1) := by decide +kernel
theorem dX10_layOut_102 : decode cX10_layOut 102 = .ok (.istore 7, 2) := by decide +kernel
theorem dX10_layOut_104 : decode cX10_layOut 104 = .ok (.iload_n 3, 1) := by decide +kernel
theorem dX10_layOut_105 : decode cX10_layOut 105 = .ok (.ifCond .eq 22, 3) := by decide +kernel
theorem dX10_layOut_108 : decode cX10_layOut 108 = .ok (.aload_n 0, 1) := by decide +kernel
theorem dX10_layOut_109 : decode cX10_layOut 109 = .ok (.getfield 13, 3) := by decide +kernel
theorem dX10_layOut_112 : decode cX10_layOut 112 = .ok (.bipush 100, 2) := by decide +kernel
theorem dX10_layOut_114 : decode cX10_layOut 114 = .ok (.bipush 10, 2) := by decide +kernel
theorem dX10_layOut_116 : decode cX10_layOut 116 = .ok (.iload 5, 2) := by decide +kernel
theorem dX10_layOut_118 : decode cX10_layOut 118 = .ok (.imul, 1) := by decide +kernel
theorem dX10_layOut_119 : decode cX10_layOut 119 = .ok (.iadd, 1) := by decide +kernel
theorem dX10_layOut_120 : decode cX10_layOut 120 = .ok (.iload 6, 2) := by decide +kernel
theorem dX10_layOut_122 : decode cX10_layOut 122 = .ok (.iadd, 1) := by decide +kernel
theorem dX10_layOut_123 : decode cX10_layOut 123 = .ok (.iaload, 1) := by decide +kernel
theorem dX10_layOut_124 : decode cX10_layOut 124 = .ok (.goto 4, 3) := by decide +kernel
theorem dX10_layOut_127 : decode cX10_layOut 127 = .ok (.iconst 0, 1) := by decide +kernel
theorem dX10_layOut_128 : decode cX10_layOut 128 = .ok (.istore 8, 2) := by decide +kernel
theorem dX10_layOut_130 : decode cX10_layOut 130 = .ok (.iload 7, 2) := by decide +kernel
theorem dX10_layOut_132 : decode cX10_layOut 132 = .ok (.ifCond .ne 8, 3) := by decide +kernel
theorem dX10_layOut_135 : decode cX10_layOut 135 = .ok (.iload 8, 2) := by decide +kernel
theorem dX10_layOut_137 : decode cX10_layOut 137 = .ok (.goto 20, 3) := by decide +kernel
theorem dX10_layOut_140 : decode cX10_layOut 140 = .ok (.iload 8, 2) := by decide +kernel
theorem dX10_layOut_142 : decode cX10_layOut 142 = .ok (.ifCond .ne 8, 3) := by decide +kernel
theorem dX10_layOut_145 : decode cX10_layOut 145 = .ok (.iload 7, 2) := by decide +kernel
theorem dX10_layOut_147 : decode cX10_layOut 147 = .ok (.goto 10, 3) := by decide +kernel
theorem dX10_layOut_150 : decode cX10_layOut 150 = .ok (.iload 7, 2) := by decide +kernel
theorem dX10_layOut_152 : decode cX10_layOut 152 = .ok (.iload 8, 2) := by decide +kernel
theorem dX10_layOut_154 : decode cX10_layOut 154 = .ok (.invokestatic 202, 3) := by decide +kernel
theorem dX10_layOut_157 : decode cX10_layOut 157 = .ok (.istore 9, 2) := by decide +kernel
theorem dX10_layOut_159 : decode cX10_layOut 159 = .ok (.iload 9, 2) := by decide +kernel
theorem dX10_layOut_161 : decode cX10_layOut 161 = .ok (.ifCond .le 118, 3) := by decide +kernel
theorem dX10_layOut_164 : decode cX10_layOut 164 = .ok (.iload_n 2, 1) := by decide +kernel
theorem dX10_layOut_165 : decode cX10_layOut 165 = .ok (.iconst (-1), 1) := by decide +kernel
theorem dX10_layOut_166 : decode cX10_layOut 166 = .ok (.if_icmp .eq 13, 3) := by decide +kernel
theorem dX10_layOut_169 : decode cX10_layOut 169 = .ok (.aload_n 0, 1) := by decide +kernel
theorem dX10_layOut_170 : decode cX10_layOut 170 = .ok (.iload 6, 2) := by decide +kernel
theorem dX10_layOut_172 : decode cX10_layOut 172 = .ok (.iload_n 2, 1) := by decide +kernel
theorem dX10_layOut_173 : decode cX10_layOut 173 = .ok (.invokevirtual 220, 3) := by decide +kernel
theorem dX10_layOut_176 : decode cX10_layOut 176 = .ok (.ifCond .eq 103, 3) := by decide +kernel
theorem dX10_layOut_179 : decode cX10_layOut 179 = .ok (.aload_n 0, 1) := by decide +kernel
theorem dX10_layOut_180 : decode cX10_layOut 180 = .ok (.getfield 59, 3) := by decide +kernel
theorem dX10_layOut_183 : decode cX10_layOut 183 = .ok (.iload 6, 2) := by decide +kernel
theorem dX10_layOut_185 : decode cX10_layOut 185 = .ok (.aload_n 0, 1) := by decide +kernel
theorem dX10_layOut_186 : decode cX10_layOut 186 = .ok (.getfield 59, 3) := by decide +kernel
theorem dX10_layOut_189 : decode cX10_layOut 189 = .ok (.iload 6, 2) := by decide +kernel
theorem dX10_layOut_191 : decode cX10_layOut 191 = .ok (.iaload, 1) := by decide +kernel
theorem dX10_layOut_192 : decode cX10_layOut 192 = .ok (.iconst (-1), 1) := by decide +kernel
theorem dX10_layOut_193 : decode cX10_layOut 193 = .ok (.if_icmp .ne 15, 3) := by decide +kernel
theorem dX10_layOut_196 : decode cX10_layOut 196 = .ok (.aload_n 0, 1) := by decide +kernel
theorem dX10_layOut_197 : decode cX10_layOut 197 = .ok (.getfield 59, 3) := by decide +kernel
theorem dX10_layOut_200 : decode cX10_layOut 200 = .ok (.iload 5, 2) := by decide +kernel
theorem dX10_layOut_202 : decode cX10_layOut 202 = .ok (.iaload, 1) := by decide +kernel
theorem dX10_layOut_203 : decode cX10_layOut 203 = .ok (.iconst 1, 1) := by decide +kernel
theorem dX10_layOut_204 : decode cX10_layOut 204 = .ok (.iadd, 1) := by decide +kernel
theorem dX10_layOut_205 : decode cX10_layOut 205 = .ok (.goto 22, 3) := by decide +kernel
theorem dX10_layOut_208 : decode cX10_layOut 208 = .ok (.aload_n 0, 1) := by decide +kernel
theorem dX10_layOut_209 : decode cX10_layOut 209 = .ok (.getfield 59, 3) := by decide +kernel
theorem dX10_layOut_212 : decode cX10_layOut 212 = .ok (.iload 6, 2) := by decide +kernel
theorem dX10_layOut_214 : decode cX10_layOut 214 = .ok (.iaload, 1) := by decide +kernel
theorem dX10_layOut_215 : decode cX10_layOut 215 = .ok (.aload_n 0, 1) := by decide +kernel
theorem dX10_layOut_216 : decode cX10_layOut 216 = .ok (.getfield 59, 3) := by decide +kernel
theorem dX10_layOut_219 : decode cX10_layOut 219 = .ok (.iload 5, 2) := by decide +kernel
theorem dX10_layOut_221 : decode cX10_layOut 221 = .ok (.iaload, 1) := by decide +kernel
theorem dX10_layOut_222 : decode cX10_layOut 222 = .ok (.iconst 1, 1) := by decide +kernel
theorem dX10_layOut_223 : decode cX10_layOut 223 = .ok (.iadd, 1) := by decide +kernel
theorem dX10_layOut_224 : decode cX10_layOut 224 = .ok (.invokestatic 202, 3) := by decide +kernel
theorem dX10_layOut_227 : decode cX10_layOut 227 = .ok (.iastore, 1) := by decide +kernel
theorem dX10_layOut_228 : decode cX10_layOut 228 = .ok (.aload_n 0, 1) := by decide +kernel
theorem dX10_layOut_229 : decode cX10_layOut 229 = .ok (.getfield 62, 3) := by decide +kernel
theorem dX10_layOut_232 : decode cX10_layOut 232 = .ok (.iload 6, 2) := by decide +kernel
theorem dX10_layOut_234 : decode cX10_layOut 234 = .ok (.aload_n 0, 1) := by decide +kernel
theorem dX10_layOut_235 : decode cX10_layOut 235 = .ok (.getfield 62, 3) := by decide +kernel
theorem dX10_layOut_238 : decode cX10_layOut 238 = .ok (.iload 6, 2) := by decide +kernel
theorem dX10_layOut_240 : decode cX10_layOut 240 = .ok (.iaload, 1) := by decide +kernel
theorem dX10_layOut_241 : decode cX10_layOut 241 = .ok (.iconst (-1), 1) := by decide +kernel
theorem dX10_layOut_242 : decode cX10_layOut 242 = .ok (.if_icmp .ne 16, 3) := by decide +kernel
theorem dX10_layOut_245 : decode cX10_layOut 245 = .ok (.aload_n 0, 1) := by decide +kernel
theorem dX10_layOut_246 : decode cX10_layOut 246 = .ok (.getfield 62, 3) := by decide +kernel
theorem dX10_layOut_249 : decode cX10_layOut 249 = .ok (.iload 5, 2) := by decide +kernel
theorem dX10_layOut_251 : decode cX10_layOut 251 = .ok (.iaload, 1) := by decide +kernel
theorem dX10_layOut_252 : decode cX10_layOut 252 = .ok (.iload 9, 2) := by decide +kernel
theorem dX10_layOut_254 : decode cX10_layOut 254 = .ok (.iadd, 1) := by decide +kernel
theorem dX10_layOut_255 : decode cX10_layOut 255 = .ok (.goto 23, 3) := by decide +kernel
theorem dX10_layOut_258 : decode cX10_layOut 258 = .ok (.aload_n 0, 1) := by decide +kernel
theorem dX10_layOut_259 : decode cX10_layOut 259 = .ok (.getfield 62, 3) := by decide +kernel
theorem dX10_layOut_262 : decode cX10_layOut 262 = .ok (.iload 6, 2) := by decide +kernel
theorem dX10_layOut_264 : decode cX10_layOut 264 = .ok (.iaload, 1) := by decide +kernel
theorem dX10_layOut_265 : decode cX10_layOut 265 = .ok (.aload_n 0, 1) := by decide +kernel
theorem dX10_layOut_266 : decode cX10_layOut 266 = .ok (.getfield 62, 3) := by decide +kernel
theorem dX10_layOut_269 : decode cX10_layOut 269 = .ok (.iload 5, 2) := by decide +kernel
theorem dX10_layOut_271 : decode cX10_layOut 271 = .ok (.iaload, 1) := by decide +kernel
theorem dX10_layOut_272 : decode cX10_layOut 272 = .ok (.iload 9, 2) := by decide +kernel
theorem dX10_layOut_274 : decode cX10_layOut 274 = .ok (.iadd, 1) := by decide +kernel
theorem dX10_layOut_275 : decode cX10_layOut 275 = .ok (.invokestatic 202, 3) := by decide +kernel
theorem dX10_layOut_278 : decode cX10_layOut 278 = .ok (.iastore, 1) := by decide +kernel
theorem dX10_layOut_279 : decode cX10_layOut 279 = .ok (.iinc 6 1, 3) := by decide +kernel
theorem dX10_layOut_282 : decode cX10_layOut 282 = .ok (.goto (-211), 3) := by decide +kernel
theorem dX10_layOut_285 : decode cX10_layOut 285 = .ok (.iinc 5 1, 3) := by decide +kernel
theorem dX10_layOut_288 : decode cX10_layOut 288 = .ok (.goto (-227), 3) := by decide +kernel
theorem dX10_layOut_291 : decode cX10_layOut 291 = .ok (.iinc 4 1, 3) := by decide +kernel
theorem dX10_layOut_294 : decode cX10_layOut 294 = .ok (.goto (-243), 3) := by decide +kernel
theorem dX10_layOut_297 : decode cX10_layOut 297 = .ok (.return_, 1) := by decide +kernel
theorem dX10_legs_0 : decode cX10_legs 0 = .ok (.aload_n 0, 1) := by decide +kernel
theorem dX10_legs_1 : decode cX10_legs 1 = .ok (.iload_n 1, 1) := by decide +kernel
theorem dX10_legs_2 : decode cX10_legs 2 = .ok (.invokevirtual 169, 3) := by decide +kernel
theorem dX10_legs_5 : decode cX10_legs 5 = .ok (.ifCond .eq 11, 3) := by decide +kernel
theorem dX10_legs_8 : decode cX10_legs 8 = .ok (.aload_n 0, 1) := by decide +kernel
theorem dX10_legs_9 : decode cX10_legs 9 = .ok (.iload_n 2, 1) := by decide +kernel
theorem dX10_legs_10 : decode cX10_legs 10 = .ok (.invokevirtual 159, 3) := by decide +kernel
theorem dX10_legs_13 : decode cX10_legs 13 = .ok (.ifCond .ne 6, 3) := by decide +kernel
theorem dX10_legs_16 : decode cX10_legs 16 = .ok (.bipush (-2), 2) := by decide +kernel
theorem dX10_legs_18 : decode cX10_legs 18 = .ok (.ireturn, 1) := by decide +kernel
theorem dX10_legs_19 : decode cX10_legs 19 = .ok (.iload_n 3, 1) := by decide +kernel
theorem dX10_legs_20 : decode cX10_legs 20 = .ok (.iconst 0, 1) := by decide +kernel
theorem dX10_legs_21 : decode cX10_legs 21 = .ok (.sipush 9999, 3) := by decide +kernel
theorem dX10_legs_24 : decode cX10_legs 24 = .ok (.invokestatic 71, 3) := by decide +kernel
theorem dX10_legs_27 : decode cX10_legs 27 = .ok (.ifCond .eq 13, 3) := by decide +kernel
theorem dX10_legs_30 : decode cX10_legs 30 = .ok (.iload 5, 2) := by decide +kernel
theorem dX10_legs_32 : decode cX10_legs 32 = .ok (.iconst 0, 1) := by decide +kernel
theorem dX10_legs_33 : decode cX10_legs 33 = .ok (.iconst 1, 1) := by decide +kernel
theorem dX10_legs_34 : decode cX10_legs 34 = .ok (.invokestatic 71, 3) := by decide +kernel
theorem dX10_legs_37 : decode cX10_legs 37 = .ok (.ifCond .ne 6, 3) := by decide +kernel
theorem dX10_legs_40 : decode cX10_legs 40 = .ok (.bipush (-3), 2) := by decide +kernel
theorem dX10_legs_42 : decode cX10_legs 42 = .ok (.ireturn, 1) := by decide +kernel
theorem dX10_legs_43 : decode cX10_legs 43 = .ok (.aload_n 0, 1) := by decide +kernel
theorem dX10_legs_44 : decode cX10_legs 44 = .ok (.aload_n 0, 1) := by decide +kernel
theorem dX10_legs_45 : decode cX10_legs 45 = .ok (.getfield 16, 3) := by decide +kernel
theorem dX10_legs_48 : decode cX10_legs 48 = .ok (.bipush 6, 2) := by decide +kernel
theorem dX10_legs_50 : decode cX10_legs 50 = .ok (.iload_n 2, 1) := by decide +kernel
theorem dX10_legs_51 : decode cX10_legs 51 = .ok (.imul, 1) := by decide +kernel
theorem dX10_legs_52 : decode cX10_legs 52 = .ok (.iaload, 1) := by decide +kernel
theorem dX10_legs_53 : decode cX10_legs 53 = .ok (.iload_n 3, 1) := by decide +kernel
theorem dX10_legs_54 : decode cX10_legs 54 = .ok (.iload 4, 2) := by decide +kernel
theorem dX10_legs_56 : decode cX10_legs 56 = .ok (.invokevirtual 223, 3) := by decide +kernel
theorem dX10_legs_59 : decode cX10_legs 59 = .ok (.iload 5, 2) := by decide +kernel
theorem dX10_legs_61 : decode cX10_legs 61 = .ok (.ifCond .ne 17, 3) := by decide +kernel
theorem dX10_legs_64 : decode cX10_legs 64 = .ok (.aload_n 0, 1) := by decide +kernel
theorem dX10_legs_65 : decode cX10_legs 65 = .ok (.getfield 59, 3) := by decide +kernel
theorem dX10_legs_68 : decode cX10_legs 68 = .ok (.aload_n 0, 1) := by decide +kernel
theorem dX10_legs_69 : decode cX10_legs 69 = .ok (.iload_n 1, 1) := by decide +kernel
theorem dX10_legs_70 : decode cX10_legs 70 = .ok (.iconst 0, 1) := by decide +kernel
theorem dX10_legs_71 : decode cX10_legs 71 = .ok (.invokevirtual 172, 3) := by decide +kernel
theorem dX10_legs_74 : decode cX10_legs 74 = .ok (.iaload, 1) := by decide +kernel
theorem dX10_legs_75 : decode cX10_legs 75 = .ok (.goto 14, 3) := by decide +kernel
theorem dX10_legs_78 : decode cX10_legs 78 = .ok (.aload_n 0, 1) := by decide +kernel
theorem dX10_legs_79 : decode cX10_legs 79 = .ok (.getfield 62, 3) := by decide +kernel
theorem dX10_legs_82 : decode cX10_legs 82 = .ok (.aload_n 0, 1) := by decide +kernel
theorem dX10_legs_83 : decode cX10_legs 83 = .ok (.iload_n 1, 1) := by decide +kernel
theorem dX10_legs_84 : decode cX10_legs 84 = .ok (.iconst 0, 1) := by decide +kernel
theorem dX10_legs_85 : decode cX10_legs 85 = .ok (.invokevirtual 172, 3) := by decide +kernel
theorem dX10_legs_88 : decode cX10_legs 88 = .ok (.iaload, 1) := by decide +kernel
theorem dX10_legs_89 : decode cX10_legs 89 = .ok (.ireturn, 1) := by decide +kernel
theorem dX10_comesBy_0 : decode cX10_comesBy 0 = .ok (.aload_n 0, 1) := by decide +kernel
theorem dX10_comesBy_1 : decode cX10_comesBy 1 = .ok (.getfield 35, 3) := by decide +kernel
theorem dX10_comesBy_4 : decode cX10_comesBy 4 = .ok (.iload_n 1, 1) := by decide +kernel
theorem dX10_comesBy_5 : decode cX10_comesBy 5 = .ok (.iaload, 1) := by decide +kernel
theorem dX10_comesBy_6 : decode cX10_comesBy 6 = .ok (.aload_n 0, 1) := by decide +kernel
theorem dX10_comesBy_7 : decode cX10_comesBy 7 = .ok (.getfield 16, 3) := by decide +kernel
theorem dX10_comesBy_10 : decode cX10_comesBy 10 = .ok (.bipush 6, 2) := by decide +kernel
theorem dX10_comesBy_12 : decode cX10_comesBy 12 = .ok (.iload_n 2, 1) := by decide +kernel
theorem dX10_comesBy_13 : decode cX10_comesBy 13 = .ok (.imul, 1) := by decide +kernel
theorem dX10_comesBy_14 : decode cX10_comesBy 14 = .ok (.iconst 1, 1) := by decide +kernel
theorem dX10_comesBy_15 : decode cX10_comesBy 15 = .ok (.iadd, 1) := by decide +kernel
theorem dX10_comesBy_16 : decode cX10_comesBy 16 = .ok (.iaload, 1) := by decide +kernel
theorem dX10_comesBy_17 : decode cX10_comesBy 17 = .ok (.invokestatic 199, 3) := by decide +kernel
theorem dX10_comesBy_20 : decode cX10_comesBy 20 = .ok (.istore 5, 2) := by decide +kernel
theorem dX10_comesBy_22 : decode cX10_comesBy 22 = .ok (.iconst (-1), 1) := by decide +kernel
theorem dX10_comesBy_23 : decode cX10_comesBy 23 = .ok (.istore 6, 2) := by decide +kernel
theorem dX10_comesBy_25 : decode cX10_comesBy 25 = .ok (.iconst (-1), 1) := by decide +kernel
theorem dX10_comesBy_26 : decode cX10_comesBy 26 = .ok (.istore 7, 2) := by decide +kernel
theorem dX10_comesBy_28 : decode cX10_comesBy 28 = .ok (.iconst 0, 1) := by decide +kernel
theorem dX10_comesBy_29 : decode cX10_comesBy 29 = .ok (.istore 8, 2) := by decide +kernel
theorem dX10_comesBy_31 : decode cX10_comesBy 31 = .ok (.iload 8, 2) := by decide +kernel
theorem dX10_comesBy_33 : decode cX10_comesBy 33 = .ok (.bipush 21, 2) := by decide +kernel
theorem dX10_comesBy_35 : decode cX10_comesBy 35 = .ok (.if_icmp .ge 162, 3) := by decide +kernel
theorem dX10_comesBy_38 : decode cX10_comesBy 38 = .ok (.iload 8, 2) := by decide +kernel
theorem dX10_comesBy_40 : decode cX10_comesBy 40 = .ok (.bipush 20, 2) := by decide +kernel
theorem dX10_comesBy_42 : decode cX10_comesBy 42 = .ok (.if_icmp .ne 8, 3) := by decide +kernel
theorem dX10_comesBy_45 : decode cX10_comesBy 45 = .ok (.iload 5, 2) := by decide +kernel
theorem dX10_comesBy_47 : decode cX10_comesBy 47 = .ok (.goto 39, 3) := by decide +kernel
theorem dX10_comesBy_50 : decode cX10_comesBy 50 = .ok (.iload 8, 2) := by decide +kernel
theorem dX10_comesBy_52 : decode cX10_comesBy 52 = .ok (.iconst 2, 1) := by decide +kernel
theorem dX10_comesBy_53 : decode cX10_comesBy 53 = .ok (.irem, 1) := by decide +kernel
theorem dX10_comesBy_54 : decode cX10_comesBy 54 = .ok (.ifCond .ne 17, 3) := by decide +kernel
theorem dX10_comesBy_57 : decode cX10_comesBy 57 = .ok (.aload_n 0, 1) := by decide +kernel
theorem dX10_comesBy_58 : decode cX10_comesBy 58 = .ok (.getfield 7, 3) := by decide +kernel
theorem dX10_comesBy_61 : decode cX10_comesBy 61 = .ok (.iconst 3, 1) := by decide +kernel
theorem dX10_comesBy_62 : decode cX10_comesBy 62 = .ok (.iload 8, 2) := by decide +kernel
theorem dX10_comesBy_64 : decode cX10_comesBy 64 = .ok (.iconst 2, 1) := by decide +kernel
theorem dX10_comesBy_65 : decode cX10_comesBy 65 = .ok (.idiv, 1) := by decide +kernel
theorem dX10_comesBy_66 : decode cX10_comesBy 66 = .ok (.imul, 1) := by decide +kernel
theorem dX10_comesBy_67 : decode cX10_comesBy 67 = .ok (.iaload, 1) := by decide +kernel
theorem dX10_comesBy_68 : decode cX10_comesBy 68 = .ok (.goto 18, 3) := by decide +kernel
theorem dX10_comesBy_71 : decode cX10_comesBy 71 = .ok (.aload_n 0, 1) := by decide +kernel
theorem dX10_comesBy_72 : decode cX10_comesBy 72 = .ok (.getfield 7, 3) := by decide +kernel
theorem dX10_comesBy_75 : decode cX10_comesBy 75 = .ok (.iconst 3, 1) := by decide +kernel
theorem dX10_comesBy_76 : decode cX10_comesBy 76 = .ok (.iload 8, 2) := by decide +kernel
theorem dX10_comesBy_78 : decode cX10_comesBy 78 = .ok (.iconst 2, 1) := by decide +kernel
theorem dX10_comesBy_79 : decode cX10_comesBy 79 = .ok (.idiv, 1) := by decide +kernel
theorem dX10_comesBy_80 : decode cX10_comesBy 80 = .ok (.imul, 1) := by decide +kernel
theorem dX10_comesBy_81 : decode cX10_comesBy 81 = .ok (.iconst 1, 1) := by decide +kernel
theorem dX10_comesBy_82 : decode cX10_comesBy 82 = .ok (.iadd, 1) := by decide +kernel
theorem dX10_comesBy_83 : decode cX10_comesBy 83 = .ok (.iaload, 1) := by decide +kernel
theorem dX10_comesBy_84 : decode cX10_comesBy 84 = .ok (.iconst 1, 1) := by decide +kernel
theorem dX10_comesBy_85 : decode cX10_comesBy 85 = .ok (.iadd, 1) := by decide +kernel
theorem dX10_comesBy_86 : decode cX10_comesBy 86 = .ok (.istore 9, 2) := by decide +kernel
theorem dX10_comesBy_88 : decode cX10_comesBy 88 = .ok (.iload 9, 2) := by decide +kernel
theorem dX10_comesBy_90 : decode cX10_comesBy 90 = .ok (.iload 5, 2) := by decide +kernel
theorem dX10_comesBy_92 : decode cX10_comesBy 92 = .ok (.if_icmp .lt 99, 3) := by decide +kernel
theorem dX10_comesBy_95 : decode cX10_comesBy 95 = .ok (.iload 9, 2) := by decide +kernel
theorem dX10_comesBy_97 : decode cX10_comesBy 97 = .ok (.aload_n 0, 1) := by decide +kernel
theorem dX10_comesBy_98 : decode cX10_comesBy 98 = .ok (.getfield 50, 3) := by decide +kernel
theorem dX10_comesBy_101 : decode cX10_comesBy 101 = .ok (.iload_n 1, 1) := by decide +kernel
theorem dX10_comesBy_102 : decode cX10_comesBy 102 = .ok (.iaload, 1) := by decide +kernel
theorem dX10_comesBy_103 : decode cX10_comesBy 103 = .ok (.if_icmp .gt 88, 3) := by decide +kernel
theorem dX10_comesBy_106 : decode cX10_comesBy 106 = .ok (.aload_n 0, 1) := by decide +kernel
theorem dX10_comesBy_107 : decode cX10_comesBy 107 = .ok (.aload_n 0, 1) := by decide +kernel
theorem dX10_comesBy_108 : decode cX10_comesBy 108 = .ok (.getfield 16, 3) := by decide +kernel
theorem dX10_comesBy_111 : decode cX10_comesBy 111 = .ok (.bipush 6, 2) := by decide +kernel
theorem dX10_comesBy_113 : decode cX10_comesBy 113 = .ok (.iload_n 2, 1) := by decide +kernel
theorem dX10_comesBy_114 : decode cX10_comesBy 114 = .ok (.imul, 1) := by decide +kernel
theorem dX10_comesBy_115 : decode cX10_comesBy 115 = .ok (.iaload, 1) := by decide +kernel
theorem dX10_comesBy_116 : decode cX10_comesBy 116 = .ok (.iload 9, 2) := by decide +kernel
theorem dX10_comesBy_118 : decode cX10_comesBy 118 = .ok (.iload_n 3, 1) := by decide +kernel
theorem dX10_comesBy_119 : decode cX10_comesBy 119 = .ok (.invokevirtual 223, 3) := by decide +kernel
theorem dX10_comesBy_122 : decode cX10_comesBy 122 = .ok (.aload_n 0, 1) := by decide +kernel
theorem dX10_comesBy_123 : decode cX10_comesBy 123 = .ok (.getfield 59, 3) := by decide +kernel
theorem dX10_comesBy_126 : decode cX10_comesBy 126 = .ok (.aload_n 0, 1) := by decide +kernel
theorem dX10_comesBy_127 : decode cX10_comesBy 127 = .ok (.iload_n 1, 1) := by decide +kernel
theorem dX10_comesBy_128 : decode cX10_comesBy 128 = .ok (.iconst 0, 1) := by decide +kernel
theorem dX10_comesBy_129 : decode cX10_comesBy 129 = .ok (.invokevirtual 172, 3) := by decide +kernel
theorem dX10_comesBy_132 : decode cX10_comesBy 132 = .ok (.iaload, 1) := by decide +kernel
theorem dX10_comesBy_133 : decode cX10_comesBy 133 = .ok (.istore 10, 2) := by decide +kernel
theorem dX10_comesBy_135 : decode cX10_comesBy 135 = .ok (.iload 10, 2) := by decide +kernel
theorem dX10_comesBy_137 : decode cX10_comesBy 137 = .ok (.iconst (-1), 1) := by decide +kernel
theorem dX10_comesBy_138 : decode cX10_comesBy 138 = .ok (.if_icmp .eq 21, 3) := by decide +kernel
theorem dX10_comesBy_141 : decode cX10_comesBy 141 = .ok (.iload 7, 2) := by decide +kernel
theorem dX10_comesBy_143 : decode cX10_comesBy 143 = .ok (.iconst (-1), 1) := by decide +kernel
theorem dX10_comesBy_144 : decode cX10_comesBy 144 = .ok (.if_icmp .eq 10, 3) := by decide +kernel
theorem dX10_comesBy_147 : decode cX10_comesBy 147 = .ok (.iload 9, 2) := by decide +kernel
theorem dX10_comesBy_149 : decode cX10_comesBy 149 = .ok (.iload 7, 2) := by decide +kernel
theorem dX10_comesBy_151 : decode cX10_comesBy 151 = .ok (.if_icmp .ge 8, 3) := by decide +kernel
theorem dX10_comesBy_154 : decode cX10_comesBy 154 = .ok (.iload 9, 2) := by decide +kernel
theorem dX10_comesBy_156 : decode cX10_comesBy 156 = .ok (.goto 5, 3) := by decide +kernel
theorem dX10_comesBy_159 : decode cX10_comesBy 159 = .ok (.iload 7, 2) := by decide +kernel
theorem dX10_comesBy_161 : decode cX10_comesBy 161 = .ok (.istore 7, 2) := by decide +kernel
theorem dX10_comesBy_163 : decode cX10_comesBy 163 = .ok (.iload 10, 2) := by decide +kernel
theorem dX10_comesBy_165 : decode cX10_comesBy 165 = .ok (.iconst (-1), 1) := by decide +kernel
theorem dX10_comesBy_166 : decode cX10_comesBy 166 = .ok (.if_icmp .eq 21, 3) := by decide +kernel
theorem dX10_comesBy_169 : decode cX10_comesBy 169 = .ok (.iload 6, 2) := by decide +kernel
theorem dX10_comesBy_171 : decode cX10_comesBy 171 = .ok (.iconst (-1), 1) := by decide +kernel
theorem dX10_comesBy_172 : decode cX10_comesBy 172 = .ok (.if_icmp .eq 10, 3) := by decide +kernel
theorem dX10_comesBy_175 : decode cX10_comesBy 175 = .ok (.iload 10, 2) := by decide +kernel
theorem dX10_comesBy_177 : decode cX10_comesBy 177 = .ok (.iload 6, 2) := by decide +kernel
theorem dX10_comesBy_179 : decode cX10_comesBy 179 = .ok (.if_icmp .ge 8, 3) := by decide +kernel
theorem dX10_comesBy_182 : decode cX10_comesBy 182 = .ok (.iload 10, 2) := by decide +kernel
theorem dX10_comesBy_184 : decode cX10_comesBy 184 = .ok (.goto 5, 3) := by decide +kernel
theorem dX10_comesBy_187 : decode cX10_comesBy 187 = .ok (.iload 6, 2) := by decide +kernel
theorem dX10_comesBy_189 : decode cX10_comesBy 189 = .ok (.istore 6, 2) := by decide +kernel
theorem dX10_comesBy_191 : decode cX10_comesBy 191 = .ok (.iinc 8 1, 3) := by decide +kernel
theorem dX10_comesBy_194 : decode cX10_comesBy 194 = .ok (.goto (-163), 3) := by decide +kernel
theorem dX10_comesBy_197 : decode cX10_comesBy 197 = .ok (.iload 4, 2) := by decide +kernel
theorem dX10_comesBy_199 : decode cX10_comesBy 199 = .ok (.ifCond .ne 8, 3) := by decide +kernel
theorem dX10_comesBy_202 : decode cX10_comesBy 202 = .ok (.iload 7, 2) := by decide +kernel
theorem dX10_comesBy_204 : decode cX10_comesBy 204 = .ok (.goto 5, 3) := by decide +kernel
theorem dX10_comesBy_207 : decode cX10_comesBy 207 = .ok (.iload 6, 2) := by decide +kernel
theorem dX10_comesBy_209 : decode cX10_comesBy 209 = .ok (.ireturn, 1) := by decide +kernel
theorem dX10_reach_0 : decode cX10_reach 0 = .ok (.aload_n 0, 1) := by decide +kernel
theorem dX10_reach_1 : decode cX10_reach 1 = .ok (.iload_n 1, 1) := by decide +kernel
theorem dX10_reach_2 : decode cX10_reach 2 = .ok (.invokevirtual 169, 3) := by decide +kernel
theorem dX10_reach_5 : decode cX10_reach 5 = .ok (.ifCond .eq 11, 3) := by decide +kernel
theorem dX10_reach_8 : decode cX10_reach 8 = .ok (.aload_n 0, 1) := by decide +kernel
theorem dX10_reach_9 : decode cX10_reach 9 = .ok (.iload_n 2, 1) := by decide +kernel
theorem dX10_reach_10 : decode cX10_reach 10 = .ok (.invokevirtual 159, 3) := by decide +kernel
theorem dX10_reach_13 : decode cX10_reach 13 = .ok (.ifCond .ne 6, 3) := by decide +kernel
theorem dX10_reach_16 : decode cX10_reach 16 = .ok (.bipush (-2), 2) := by decide +kernel
theorem dX10_reach_18 : decode cX10_reach 18 = .ok (.ireturn, 1) := by decide +kernel
theorem dX10_reach_19 : decode cX10_reach 19 = .ok (.iload 4, 2) := by decide +kernel
theorem dX10_reach_21 : decode cX10_reach 21 = .ok (.iconst 0, 1) := by decide +kernel
theorem dX10_reach_22 : decode cX10_reach 22 = .ok (.iconst 1, 1) := by decide +kernel
theorem dX10_reach_23 : decode cX10_reach 23 = .ok (.invokestatic 71, 3) := by decide +kernel
theorem dX10_reach_26 : decode cX10_reach 26 = .ok (.ifCond .ne 6, 3) := by decide +kernel
theorem dX10_reach_29 : decode cX10_reach 29 = .ok (.bipush (-3), 2) := by decide +kernel
theorem dX10_reach_31 : decode cX10_reach 31 = .ok (.ireturn, 1) := by decide +kernel
theorem dX10_reach_32 : decode cX10_reach 32 = .ok (.aload_n 0, 1) := by decide +kernel
theorem dX10_reach_33 : decode cX10_reach 33 = .ok (.invokevirtual 214, 3) := by decide +kernel
theorem dX10_reach_36 : decode cX10_reach 36 = .ok (.ifCond .eq 15, 3) := by decide +kernel
theorem dX10_reach_39 : decode cX10_reach 39 = .ok (.aload_n 0, 1) := by decide +kernel
theorem dX10_reach_40 : decode cX10_reach 40 = .ok (.iload_n 1, 1) := by decide +kernel
theorem dX10_reach_41 : decode cX10_reach 41 = .ok (.iload_n 2, 1) := by decide +kernel
theorem dX10_reach_42 : decode cX10_reach 42 = .ok (.iload_n 3, 1) := by decide +kernel
theorem dX10_reach_43 : decode cX10_reach 43 = .ok (.iload 4, 2) := by decide +kernel
theorem dX10_reach_45 : decode cX10_reach 45 = .ok (.invokevirtual 227, 3) := by decide +kernel
theorem dX10_reach_48 : decode cX10_reach 48 = .ok (.goto 4, 3) := by decide +kernel
theorem dX10_reach_51 : decode cX10_reach 51 = .ok (.iconst (-1), 1) := by decide +kernel
theorem dX10_reach_52 : decode cX10_reach 52 = .ok (.ireturn, 1) := by decide +kernel
theorem dX10_byBoat_0 : decode cX10_byBoat 0 = .ok (.aload_n 0, 1) := by decide +kernel
theorem dX10_byBoat_1 : decode cX10_byBoat 1 = .ok (.invokevirtual 214, 3) := by decide +kernel
theorem dX10_byBoat_4 : decode cX10_byBoat 4 = .ok (.ifCond .ne 5, 3) := by decide +kernel
theorem dX10_byBoat_7 : decode cX10_byBoat 7 = .ok (.iconst 0, 1) := by decide +kernel
theorem dX10_byBoat_8 : decode cX10_byBoat 8 = .ok (.ireturn, 1) := by decide +kernel
theorem dX10_byBoat_9 : decode cX10_byBoat 9 = .ok (.iconst 0, 1) := by decide +kernel
theorem dX10_byBoat_10 : decode cX10_byBoat 10 = .ok (.istore_n 1, 1) := by decide +kernel
theorem dX10_byBoat_11 : decode cX10_byBoat 11 = .ok (.iconst 0, 1) := by decide +kernel
theorem dX10_byBoat_12 : decode cX10_byBoat 12 = .ok (.istore_n 2, 1) := by decide +kernel
theorem dX10_byBoat_13 : decode cX10_byBoat 13 = .ok (.iload_n 2, 1) := by decide +kernel
theorem dX10_byBoat_14 : decode cX10_byBoat 14 = .ok (.aload_n 0, 1) := by decide +kernel
theorem dX10_byBoat_15 : decode cX10_byBoat 15 = .ok (.getfield 78, 3) := by decide +kernel
theorem dX10_byBoat_18 : decode cX10_byBoat 18 = .ok (.if_icmp .ge 117, 3) := by decide +kernel
theorem dX10_byBoat_21 : decode cX10_byBoat 21 = .ok (.aload_n 0, 1) := by decide +kernel
theorem dX10_byBoat_22 : decode cX10_byBoat 22 = .ok (.iload_n 2, 1) := by decide +kernel
theorem dX10_byBoat_23 : decode cX10_byBoat 23 = .ok (.invokevirtual 179, 3) := by decide +kernel
theorem dX10_byBoat_26 : decode cX10_byBoat 26 = .ok (.istore_n 3, 1) := by decide +kernel
theorem dX10_byBoat_27 : decode cX10_byBoat 27 = .ok (.iconst 0, 1) := by decide +kernel
theorem dX10_byBoat_28 : decode cX10_byBoat 28 = .ok (.istore 4, 2) := by decide +kernel
theorem dX10_byBoat_30 : decode cX10_byBoat 30 = .ok (.iconst 0, 1) := by decide +kernel
theorem dX10_byBoat_31 : decode cX10_byBoat 31 = .ok (.istore 5, 2) := by decide +kernel
theorem dX10_byBoat_33 : decode cX10_byBoat 33 = .ok (.iconst 0, 1) := by decide +kernel
theorem dX10_byBoat_34 : decode cX10_byBoat 34 = .ok (.istore 6, 2) := by decide +kernel
theorem dX10_byBoat_36 : decode cX10_byBoat 36 = .ok (.iload 6, 2) := by decide +kernel
theorem dX10_byBoat_38 : decode cX10_byBoat 38 = .ok (.bipush 9, 2) := by decide +kernel
theorem dX10_byBoat_40 : decode cX10_byBoat 40 = .ok (.if_icmp .ge 69, 3) := by decide +kernel
theorem dX10_byBoat_43 : decode cX10_byBoat 43 = .ok (.iload_n 3, 1) := by decide +kernel
theorem dX10_byBoat_44 : decode cX10_byBoat 44 = .ok (.iload 6, 2) := by decide +kernel
theorem dX10_byBoat_46 : decode cX10_byBoat 46 = .ok (.ishr, 1) := by decide +kernel
theorem dX10_byBoat_47 : decode cX10_byBoat 47 = .ok (.iconst 1, 1) := by decide +kernel
theorem dX10_byBoat_48 : decode cX10_byBoat 48 = .ok (.iand, 1) := by decide +kernel
theorem dX10_byBoat_49 : decode cX10_byBoat 49 = .ok (.iconst 1, 1) := by decide +kernel
theorem dX10_byBoat_50 : decode cX10_byBoat 50 = .ok (.if_icmp .ne 53, 3) := by decide +kernel
theorem dX10_byBoat_53 : decode cX10_byBoat 53 = .ok (.iload 4, 2) := by decide +kernel
theorem dX10_byBoat_55 : decode cX10_byBoat 55 = .ok (.ifCond .ne 16, 3) := by decide +kernel
theorem dX10_byBoat_58 : decode cX10_byBoat 58 = .ok (.aload_n 0, 1) := by decide +kernel
theorem dX10_byBoat_59 : decode cX10_byBoat 59 = .ok (.iload_n 2, 1) := by decide +kernel
theorem dX10_byBoat_60 : decode cX10_byBoat 60 = .ok (.iload 6, 2) := by decide +kernel
theorem dX10_byBoat_62 : decode cX10_byBoat 62 = .ok (.iconst 0, 1) := by decide +kernel
theorem dX10_byBoat_63 : decode cX10_byBoat 63 = .ok (.iconst 0, 1) := by decide +kernel
theorem dX10_byBoat_64 : decode cX10_byBoat 64 = .ok (.invokevirtual 227, 3) := by decide +kernel
theorem dX10_byBoat_67 : decode cX10_byBoat 67 = .ok (.iconst (-1), 1) := by decide +kernel
theorem dX10_byBoat_68 : decode cX10_byBoat 68 = .ok (.if_icmp .eq 7, 3) := by decide +kernel
theorem dX10_byBoat_71 : decode cX10_byBoat 71 = .ok (.iconst 1, 1) := by decide +kernel
theorem dX10_byBoat_72 : decode cX10_byBoat 72 = .ok (.goto 4, 3) := by decide +kernel
theorem dX10_byBoat_75 : decode cX10_byBoat 75 = .ok (.iconst 0, 1) := by decide +kernel
theorem dX10_byBoat_76 : decode cX10_byBoat 76 = .ok (.istore 4, 2) := by decide +kernel
theorem dX10_byBoat_78 : decode cX10_byBoat 78 = .ok (.iload 5, 2) := by decide +kernel
theorem dX10_byBoat_80 : decode cX10_byBoat 80 = .ok (.ifCond .ne 16, 3) := by decide +kernel
theorem dX10_byBoat_83 : decode cX10_byBoat 83 = .ok (.aload_n 0, 1) := by decide +kernel
theorem dX10_byBoat_84 : decode cX10_byBoat 84 = .ok (.iload_n 2, 1) := by decide +kernel
theorem dX10_byBoat_85 : decode cX10_byBoat 85 = .ok (.iload 6, 2) := by decide +kernel
theorem dX10_byBoat_87 : decode cX10_byBoat 87 = .ok (.iconst 1, 1) := by decide +kernel
theorem dX10_byBoat_88 : decode cX10_byBoat 88 = .ok (.iconst 0, 1) := by decide +kernel
theorem dX10_byBoat_89 : decode cX10_byBoat 89 = .ok (.invokevirtual 227, 3) := by decide +kernel
theorem dX10_byBoat_92 : decode cX10_byBoat 92 = .ok (.iconst (-1), 1) := by decide +kernel
theorem dX10_byBoat_93 : decode cX10_byBoat 93 = .ok (.if_icmp .eq 7, 3) := by decide +kernel
theorem dX10_byBoat_96 : decode cX10_byBoat 96 = .ok (.iconst 1, 1) := by decide +kernel
theorem dX10_byBoat_97 : decode cX10_byBoat 97 = .ok (.goto 4, 3) := by decide +kernel
theorem dX10_byBoat_100 : decode cX10_byBoat 100 = .ok (.iconst 0, 1) := by decide +kernel
theorem dX10_byBoat_101 : decode cX10_byBoat 101 = .ok (.istore 5, 2) := by decide +kernel
theorem dX10_byBoat_103 : decode cX10_byBoat 103 = .ok (.iinc 6 1, 3) := by decide +kernel
theorem dX10_byBoat_106 : decode cX10_byBoat 106 = .ok (.goto (-70), 3) := by decide +kernel
theorem dX10_byBoat_109 : decode cX10_byBoat 109 = .ok (.iload_n 1, 1) := by decide +kernel
theorem dX10_byBoat_110 : decode cX10_byBoat 110 = .ok (.iload 5, 2) := by decide +kernel
theorem dX10_byBoat_112 : decode cX10_byBoat 112 = .ok (.ifCond .eq 14, 3) := by decide +kernel
theorem dX10_byBoat_115 : decode cX10_byBoat 115 = .ok (.iload 4, 2) := by decide +kernel
theorem dX10_byBoat_117 : decode cX10_byBoat 117 = .ok (.ifCond .ne 9, 3) := by decide +kernel
theorem dX10_byBoat_120 : decode cX10_byBoat 120 = .ok (.iconst 1, 1) := by decide +kernel
theorem dX10_byBoat_121 : decode cX10_byBoat 121 = .ok (.iload_n 2, 1) := by decide +kernel
theorem dX10_byBoat_122 : decode cX10_byBoat 122 = .ok (.ishl, 1) := by decide +kernel
theorem dX10_byBoat_123 : decode cX10_byBoat 123 = .ok (.goto 4, 3) := by decide +kernel
theorem dX10_byBoat_126 : decode cX10_byBoat 126 = .ok (.iconst 0, 1) := by decide +kernel
theorem dX10_byBoat_127 : decode cX10_byBoat 127 = .ok (.ior, 1) := by decide +kernel
theorem dX10_byBoat_128 : decode cX10_byBoat 128 = .ok (.istore_n 1, 1) := by decide +kernel
theorem dX10_byBoat_129 : decode cX10_byBoat 129 = .ok (.iinc 2 1, 3) := by decide +kernel
theorem dX10_byBoat_132 : decode cX10_byBoat 132 = .ok (.goto (-119), 3) := by decide +kernel
theorem dX10_byBoat_135 : decode cX10_byBoat 135 = .ok (.iload_n 1, 1) := by decide +kernel
theorem dX10_byBoat_136 : decode cX10_byBoat 136 = .ok (.ireturn, 1) := by decide +kernel
theorem dX10_boats_0 : decode cX10_boats 0 = .ok (.aload_n 0, 1) := by decide +kernel
theorem dX10_boats_1 : decode cX10_boats 1 = .ok (.invokevirtual 231, 3) := by decide +kernel
theorem dX10_boats_4 : decode cX10_boats 4 = .ok (.ireturn, 1) := by decide +kernel
theorem dX10_sea_0 : decode cX10_sea 0 = .ok (.aload_n 0, 1) := by decide +kernel
theorem dX10_sea_1 : decode cX10_sea 1 = .ok (.invokevirtual 231, 3) := by decide +kernel
theorem dX10_sea_4 : decode cX10_sea 4 = .ok (.istore_n 1, 1) := by decide +kernel
theorem dX10_sea_5 : decode cX10_sea 5 = .ok (.iconst (-1), 1) := by decide +kernel
theorem dX10_sea_6 : decode cX10_sea 6 = .ok (.istore_n 2, 1) := by decide +kernel
theorem dX10_sea_7 : decode cX10_sea 7 = .ok (.iconst 0, 1) := by decide +kernel
theorem dX10_sea_8 : decode cX10_sea 8 = .ok (.istore_n 3, 1) := by decide +kernel
theorem dX10_sea_9 : decode cX10_sea 9 = .ok (.iload_n 3, 1) := by decide +kernel
theorem dX10_sea_10 : decode cX10_sea 10 = .ok (.aload_n 0, 1) := by decide +kernel
theorem dX10_sea_11 : decode cX10_sea 11 = .ok (.getfield 78, 3) := by decide +kernel
theorem dX10_sea_14 : decode cX10_sea 14 = .ok (.if_icmp .ge 44, 3) := by decide +kernel
theorem dX10_sea_17 : decode cX10_sea 17 = .ok (.iload_n 1, 1) := by decide +kernel
theorem dX10_sea_18 : decode cX10_sea 18 = .ok (.iload_n 3, 1) := by decide +kernel
theorem dX10_sea_19 : decode cX10_sea 19 = .ok (.ishr, 1) := by decide +kernel
theorem dX10_sea_20 : decode cX10_sea 20 = .ok (.iconst 1, 1) := by decide +kernel
theorem dX10_sea_21 : decode cX10_sea 21 = .ok (.iand, 1) := by decide +kernel
theorem dX10_sea_22 : decode cX10_sea 22 = .ok (.iconst 1, 1) := by decide +kernel
theorem dX10_sea_23 : decode cX10_sea 23 = .ok (.if_icmp .ne 27, 3) := by decide +kernel
theorem dX10_sea_26 : decode cX10_sea 26 = .ok (.iload_n 2, 1) := by decide +kernel
theorem dX10_sea_27 : decode cX10_sea 27 = .ok (.iconst (-1), 1) := by decide +kernel
theorem dX10_sea_28 : decode cX10_sea 28 = .ok (.if_icmp .eq 13, 3) := by decide +kernel
theorem dX10_sea_31 : decode cX10_sea 31 = .ok (.aload_n 0, 1) := by decide +kernel
theorem dX10_sea_32 : decode cX10_sea 32 = .ok (.getfield 50, 3) := by decide +kernel
theorem dX10_sea_35 : decode cX10_sea 35 = .ok (.iload_n 3, 1) := by decide +kernel
theorem dX10_sea_36 : decode cX10_sea 36 = .ok (.iaload, 1) := by decide +kernel
theorem dX10_sea_37 : decode cX10_sea 37 = .ok (.iload_n 2, 1) := by decide +kernel
theorem dX10_sea_38 : decode cX10_sea 38 = .ok (.if_icmp .ge 12, 3) := by decide +kernel
theorem dX10_sea_41 : decode cX10_sea 41 = .ok (.aload_n 0, 1) := by decide +kernel
theorem dX10_sea_42 : decode cX10_sea 42 = .ok (.getfield 50, 3) := by decide +kernel
theorem dX10_sea_45 : decode cX10_sea 45 = .ok (.iload_n 3, 1) := by decide +kernel
theorem dX10_sea_46 : decode cX10_sea 46 = .ok (.iaload, 1) := by decide +kernel
theorem dX10_sea_47 : decode cX10_sea 47 = .ok (.goto 4, 3) := by decide +kernel
theorem dX10_sea_50 : decode cX10_sea 50 = .ok (.iload_n 2, 1) := by decide +kernel
theorem dX10_sea_51 : decode cX10_sea 51 = .ok (.istore_n 2, 1) := by decide +kernel
theorem dX10_sea_52 : decode cX10_sea 52 = .ok (.iinc 3 1, 3) := by decide +kernel
theorem dX10_sea_55 : decode cX10_sea 55 = .ok (.goto (-46), 3) := by decide +kernel
theorem dX10_sea_58 : decode cX10_sea 58 = .ok (.iload_n 2, 1) := by decide +kernel
theorem dX10_sea_59 : decode cX10_sea 59 = .ok (.ireturn, 1) := by decide +kernel
theorem dX10_next_0 : decode cX10_next 0 = .ok (.iconst (-1), 1) := by decide +kernel
theorem dX10_next_1 : decode cX10_next 1 = .ok (.istore_n 1, 1) := by decide +kernel
theorem dX10_next_2 : decode cX10_next 2 = .ok (.iconst 0, 1) := by decide +kernel
theorem dX10_next_3 : decode cX10_next 3 = .ok (.istore_n 2, 1) := by decide +kernel
theorem dX10_next_4 : decode cX10_next 4 = .ok (.iload_n 2, 1) := by decide +kernel
theorem dX10_next_5 : decode cX10_next 5 = .ok (.aload_n 0, 1) := by decide +kernel
theorem dX10_next_6 : decode cX10_next 6 = .ok (.getfield 78, 3) := by decide +kernel
theorem dX10_next_9 : decode cX10_next 9 = .ok (.if_icmp .ge 75, 3) := by decide +kernel
theorem dX10_next_12 : decode cX10_next 12 = .ok (.aload_n 0, 1) := by decide +kernel
theorem dX10_next_13 : decode cX10_next 13 = .ok (.iload_n 2, 1) := by decide +kernel
theorem dX10_next_14 : decode cX10_next 14 = .ok (.invokevirtual 179, 3) := by decide +kernel
theorem dX10_next_17 : decode cX10_next 17 = .ok (.invokestatic 183, 3) := by decide +kernel
theorem dX10_next_20 : decode cX10_next 20 = .ok (.istore_n 3, 1) := by decide +kernel
theorem dX10_next_21 : decode cX10_next 21 = .ok (.iload_n 1, 1) := by decide +kernel
theorem dX10_next_22 : decode cX10_next 22 = .ok (.iconst (-1), 1) := by decide +kernel
theorem dX10_next_23 : decode cX10_next 23 = .ok (.if_icmp .ne 7, 3) := by decide +kernel
theorem dX10_next_26 : decode cX10_next 26 = .ok (.iconst 1, 1) := by decide +kernel
theorem dX10_next_27 : decode cX10_next 27 = .ok (.goto 11, 3) := by decide +kernel
theorem dX10_next_30 : decode cX10_next 30 = .ok (.aload_n 0, 1) := by decide +kernel
theorem dX10_next_31 : decode cX10_next 31 = .ok (.iload_n 1, 1) := by decide +kernel
theorem dX10_next_32 : decode cX10_next 32 = .ok (.invokevirtual 179, 3) := by decide +kernel
theorem dX10_next_35 : decode cX10_next 35 = .ok (.invokestatic 183, 3) := by decide +kernel
theorem dX10_next_38 : decode cX10_next 38 = .ok (.istore 4, 2) := by decide +kernel
theorem dX10_next_40 : decode cX10_next 40 = .ok (.iload_n 3, 1) := by decide +kernel
theorem dX10_next_41 : decode cX10_next 41 = .ok (.iload 4, 2) := by decide +kernel
theorem dX10_next_43 : decode cX10_next 43 = .ok (.if_icmp .gt 29, 3) := by decide +kernel
theorem dX10_next_46 : decode cX10_next 46 = .ok (.iload_n 3, 1) := by decide +kernel
theorem dX10_next_47 : decode cX10_next 47 = .ok (.iload 4, 2) := by decide +kernel
theorem dX10_next_49 : decode cX10_next 49 = .ok (.if_icmp .ne 27, 3) := by decide +kernel
theorem dX10_next_52 : decode cX10_next 52 = .ok (.iload_n 1, 1) := by decide +kernel
theorem dX10_next_53 : decode cX10_next 53 = .ok (.iconst (-1), 1) := by decide +kernel
theorem dX10_next_54 : decode cX10_next 54 = .ok (.if_icmp .eq 22, 3) := by decide +kernel
theorem dX10_next_57 : decode cX10_next 57 = .ok (.aload_n 0, 1) := by decide +kernel
theorem dX10_next_58 : decode cX10_next 58 = .ok (.iload_n 2, 1) := by decide +kernel
theorem dX10_next_59 : decode cX10_next 59 = .ok (.iconst 4, 1) := by decide +kernel
theorem dX10_next_60 : decode cX10_next 60 = .ok (.invokevirtual 172, 3) := by decide +kernel
theorem dX10_next_63 : decode cX10_next 63 = .ok (.aload_n 0, 1) := by decide +kernel
theorem dX10_next_64 : decode cX10_next 64 = .ok (.iload_n 1, 1) := by decide +kernel
theorem dX10_next_65 : decode cX10_next 65 = .ok (.iconst 4, 1) := by decide +kernel
theorem dX10_next_66 : decode cX10_next 66 = .ok (.invokevirtual 172, 3) := by decide +kernel
theorem dX10_next_69 : decode cX10_next 69 = .ok (.if_icmp .le 7, 3) := by decide +kernel
theorem dX10_next_72 : decode cX10_next 72 = .ok (.iload_n 2, 1) := by decide +kernel
theorem dX10_next_73 : decode cX10_next 73 = .ok (.goto 4, 3) := by decide +kernel
theorem dX10_next_76 : decode cX10_next 76 = .ok (.iload_n 1, 1) := by decide +kernel
theorem dX10_next_77 : decode cX10_next 77 = .ok (.istore_n 1, 1) := by decide +kernel
theorem dX10_next_78 : decode cX10_next 78 = .ok (.iinc 2 1, 3) := by decide +kernel
theorem dX10_next_81 : decode cX10_next 81 = .ok (.goto (-77), 3) := by decide +kernel
theorem dX10_next_84 : decode cX10_next 84 = .ok (.iload_n 1, 1) := by decide +kernel
theorem dX10_next_85 : decode cX10_next 85 = .ok (.ireturn, 1) := by decide +kernel
theorem dX10_counts_0 : decode cX10_counts 0 = .ok (.iload_n 1, 1) := by decide +kernel
theorem dX10_counts_1 : decode cX10_counts 1 = .ok (.invokestatic 156, 3) := by decide +kernel
theorem dX10_counts_4 : decode cX10_counts 4 = .ok (.ifCond .eq 11, 3) := by decide +kernel
theorem dX10_counts_7 : decode cX10_counts 7 = .ok (.aload_n 0, 1) := by decide +kernel
theorem dX10_counts_8 : decode cX10_counts 8 = .ok (.iload_n 2, 1) := by decide +kernel
theorem dX10_counts_9 : decode cX10_counts 9 = .ok (.invokevirtual 159, 3) := by decide +kernel
theorem dX10_counts_12 : decode cX10_counts 12 = .ok (.ifCond .ne 6, 3) := by decide +kernel
theorem dX10_counts_15 : decode cX10_counts 15 = .ok (.bipush (-2), 2) := by decide +kernel
theorem dX10_counts_17 : decode cX10_counts 17 = .ok (.ireturn, 1) := by decide +kernel
theorem dX10_counts_18 : decode cX10_counts 18 = .ok (.iload 4, 2) := by decide +kernel
theorem dX10_counts_20 : decode cX10_counts 20 = .ok (.iconst 1, 1) := by decide +kernel
theorem dX10_counts_21 : decode cX10_counts 21 = .ok (.sipush 999, 3) := by decide +kernel
theorem dX10_counts_24 : decode cX10_counts 24 = .ok (.invokestatic 71, 3) := by decide +kernel
theorem dX10_counts_27 : decode cX10_counts 27 = .ok (.ifCond .eq 13, 3) := by decide +kernel
theorem dX10_counts_30 : decode cX10_counts 30 = .ok (.iload_n 3, 1) := by decide +kernel
theorem dX10_counts_31 : decode cX10_counts 31 = .ok (.iconst 0, 1) := by decide +kernel
theorem dX10_counts_32 : decode cX10_counts 32 = .ok (.iload 4, 2) := by decide +kernel
theorem dX10_counts_34 : decode cX10_counts 34 = .ok (.invokestatic 71, 3) := by decide +kernel
theorem dX10_counts_37 : decode cX10_counts 37 = .ok (.ifCond .ne 6, 3) := by decide +kernel
theorem dX10_counts_40 : decode cX10_counts 40 = .ok (.bipush (-3), 2) := by decide +kernel
theorem dX10_counts_42 : decode cX10_counts 42 = .ok (.ireturn, 1) := by decide +kernel
theorem dX10_counts_43 : decode cX10_counts 43 = .ok (.aload_n 0, 1) := by decide +kernel
theorem dX10_counts_44 : decode cX10_counts 44 = .ok (.getfield 65, 3) := by decide +kernel
theorem dX10_counts_47 : decode cX10_counts 47 = .ok (.bipush 10, 2) := by decide +kernel
theorem dX10_counts_49 : decode cX10_counts 49 = .ok (.iload_n 2, 1) := by decide +kernel
theorem dX10_counts_50 : decode cX10_counts 50 = .ok (.imul, 1) := by decide +kernel
theorem dX10_counts_51 : decode cX10_counts 51 = .ok (.iload_n 1, 1) := by decide +kernel
theorem dX10_counts_52 : decode cX10_counts 52 = .ok (.iadd, 1) := by decide +kernel
theorem dX10_counts_53 : decode cX10_counts 53 = .ok (.iload_n 3, 1) := by decide +kernel
theorem dX10_counts_54 : decode cX10_counts 54 = .ok (.iastore, 1) := by decide +kernel
theorem dX10_counts_55 : decode cX10_counts 55 = .ok (.aload_n 0, 1) := by decide +kernel
theorem dX10_counts_56 : decode cX10_counts 56 = .ok (.getfield 68, 3) := by decide +kernel
theorem dX10_counts_59 : decode cX10_counts 59 = .ok (.bipush 10, 2) := by decide +kernel
theorem dX10_counts_61 : decode cX10_counts 61 = .ok (.iload_n 2, 1) := by decide +kernel
theorem dX10_counts_62 : decode cX10_counts 62 = .ok (.imul, 1) := by decide +kernel
theorem dX10_counts_63 : decode cX10_counts 63 = .ok (.iload_n 1, 1) := by decide +kernel
theorem dX10_counts_64 : decode cX10_counts 64 = .ok (.iadd, 1) := by decide +kernel
theorem dX10_counts_65 : decode cX10_counts 65 = .ok (.iload 4, 2) := by decide +kernel
theorem dX10_counts_67 : decode cX10_counts 67 = .ok (.iastore, 1) := by decide +kernel
theorem dX10_counts_68 : decode cX10_counts 68 = .ok (.iconst 1, 1) := by decide +kernel
theorem dX10_counts_69 : decode cX10_counts 69 = .ok (.ireturn, 1) := by decide +kernel
theorem dX10_shareBy_0 : decode cX10_shareBy 0 = .ok (.iload_n 0, 1) := by decide +kernel
theorem dX10_shareBy_1 : decode cX10_shareBy 1 = .ok (.iconst 1, 1) := by decide +kernel
theorem dX10_shareBy_2 : decode cX10_shareBy 2 = .ok (.if_icmp .ne 18, 3) := by decide +kernel
theorem dX10_shareBy_5 : decode cX10_shareBy 5 = .ok (.iconst 0, 1) := by decide +kernel
theorem dX10_shareBy_6 : decode cX10_shareBy 6 = .ok (.sipush 1000, 3) := by decide +kernel
theorem dX10_shareBy_9 : decode cX10_shareBy 9 = .ok (.iload_n 1, 1) := by decide +kernel
theorem dX10_shareBy_10 : decode cX10_shareBy 10 = .ok (.iload_n 2, 1) := by decide +kernel
theorem dX10_shareBy_11 : decode cX10_shareBy 11 = .ok (.imul, 1) := by decide +kernel
theorem dX10_shareBy_12 : decode cX10_shareBy 12 = .ok (.bipush 10, 2) := by decide +kernel
theorem dX10_shareBy_14 : decode cX10_shareBy 14 = .ok (.idiv, 1) := by decide +kernel
theorem dX10_shareBy_15 : decode cX10_shareBy 15 = .ok (.isub, 1) := by decide +kernel
theorem dX10_shareBy_16 : decode cX10_shareBy 16 = .ok (.invokestatic 199, 3) := by decide +kernel
theorem dX10_shareBy_19 : decode cX10_shareBy 19 = .ok (.ireturn, 1) := by decide +kernel
theorem dX10_shareBy_20 : decode cX10_shareBy 20 = .ok (.iload_n 0, 1) := by decide +kernel
theorem dX10_shareBy_21 : decode cX10_shareBy 21 = .ok (.iconst 2, 1) := by decide +kernel
theorem dX10_shareBy_22 : decode cX10_shareBy 22 = .ok (.if_icmp .ne 20, 3) := by decide +kernel
theorem dX10_shareBy_25 : decode cX10_shareBy 25 = .ok (.iload_n 2, 1) := by decide +kernel
theorem dX10_shareBy_26 : decode cX10_shareBy 26 = .ok (.bipush 10, 2) := by decide +kernel
theorem dX10_shareBy_28 : decode cX10_shareBy 28 = .ok (.iload_n 1, 1) := by decide +kernel
theorem dX10_shareBy_29 : decode cX10_shareBy 29 = .ok (.imul, 1) := by decide +kernel
theorem dX10_shareBy_30 : decode cX10_shareBy 30 = .ok (.if_icmp .gt 9, 3) := by decide +kernel
theorem dX10_shareBy_33 : decode cX10_shareBy 33 = .ok (.sipush 900, 3) := by decide +kernel
theorem dX10_shareBy_36 : decode cX10_shareBy 36 = .ok (.goto 5, 3) := by decide +kernel
theorem dX10_shareBy_39 : decode cX10_shareBy 39 = .ok (.bipush 100, 2) := by decide +kernel
theorem dX10_shareBy_41 : decode cX10_shareBy 41 = .ok (.ireturn, 1) := by decide +kernel
theorem dX10_shareBy_42 : decode cX10_shareBy 42 = .ok (.sipush 1000, 3) := by decide +kernel
theorem dX10_shareBy_45 : decode cX10_shareBy 45 = .ok (.istore_n 3, 1) := by decide +kernel
theorem dX10_shareBy_46 : decode cX10_shareBy 46 = .ok (.iload_n 2, 1) := by decide +kernel
theorem dX10_shareBy_47 : decode cX10_shareBy 47 = .ok (.bipush 10, 2) := by decide +kernel
theorem dX10_shareBy_49 : decode cX10_shareBy 49 = .ok (.iload_n 1, 1) := by decide +kernel
theorem dX10_shareBy_50 : decode cX10_shareBy 50 = .ok (.imul, 1) := by decide +kernel
theorem dX10_shareBy_51 : decode cX10_shareBy 51 = .ok (.idiv, 1) := by decide +kernel
theorem dX10_shareBy_52 : decode cX10_shareBy 52 = .ok (.istore 4, 2) := by decide +kernel
theorem dX10_shareBy_54 : decode cX10_shareBy 54 = .ok (.iload 4, 2) := by decide +kernel
theorem dX10_shareBy_56 : decode cX10_shareBy 56 = .ok (.ifCond .le 17, 3) := by decide +kernel
theorem dX10_shareBy_59 : decode cX10_shareBy 59 = .ok (.iload_n 3, 1) := by decide +kernel
theorem dX10_shareBy_60 : decode cX10_shareBy 60 = .ok (.ifCond .le 13, 3) := by decide +kernel
theorem dX10_shareBy_63 : decode cX10_shareBy 63 = .ok (.iload_n 3, 1) := by decide +kernel
theorem dX10_shareBy_64 : decode cX10_shareBy 64 = .ok (.iconst 2, 1) := by decide +kernel
theorem dX10_shareBy_65 : decode cX10_shareBy 65 = .ok (.idiv, 1) := by decide +kernel
theorem dX10_shareBy_66 : decode cX10_shareBy 66 = .ok (.istore_n 3, 1) := by decide +kernel
theorem dX10_shareBy_67 : decode cX10_shareBy 67 = .ok (.iinc 4 (-1), 3) := by decide +kernel
theorem dX10_shareBy_70 : decode cX10_shareBy 70 = .ok (.goto (-16), 3) := by decide +kernel
theorem dX10_shareBy_73 : decode cX10_shareBy 73 = .ok (.iload_n 3, 1) := by decide +kernel
theorem dX10_shareBy_74 : decode cX10_shareBy 74 = .ok (.ireturn, 1) := by decide +kernel
theorem dX10_missBy_0 : decode cX10_missBy 0 = .ok (.iconst 0, 1) := by decide +kernel
theorem dX10_missBy_1 : decode cX10_missBy 1 = .ok (.istore 4, 2) := by decide +kernel
theorem dX10_missBy_3 : decode cX10_missBy 3 = .ok (.iconst 0, 1) := by decide +kernel
theorem dX10_missBy_4 : decode cX10_missBy 4 = .ok (.istore 5, 2) := by decide +kernel
theorem dX10_missBy_6 : decode cX10_missBy 6 = .ok (.iload 5, 2) := by decide +kernel
theorem dX10_missBy_8 : decode cX10_missBy 8 = .ok (.bipush 10, 2) := by decide +kernel
theorem dX10_missBy_10 : decode cX10_missBy 10 = .ok (.if_icmp .ge 97, 3) := by decide +kernel
theorem dX10_missBy_13 : decode cX10_missBy 13 = .ok (.aload_n 0, 1) := by decide +kernel
theorem dX10_missBy_14 : decode cX10_missBy 14 = .ok (.getfield 68, 3) := by decide +kernel
theorem dX10_missBy_17 : decode cX10_missBy 17 = .ok (.bipush 10, 2) := by decide +kernel
theorem dX10_missBy_19 : decode cX10_missBy 19 = .ok (.iload_n 1, 1) := by decide +kernel
theorem dX10_missBy_20 : decode cX10_missBy 20 = .ok (.imul, 1) := by decide +kernel
theorem dX10_missBy_21 : decode cX10_missBy 21 = .ok (.iload 5, 2) := by decide +kernel
theorem dX10_missBy_23 : decode cX10_missBy 23 = .ok (.iadd, 1) := by decide +kernel
theorem dX10_missBy_24 : decode cX10_missBy 24 = .ok (.iaload, 1) := by decide +kernel
theorem dX10_missBy_25 : decode cX10_missBy 25 = .ok (.ifCond .le 76, 3) := by decide +kernel
theorem dX10_missBy_28 : decode cX10_missBy 28 = .ok (.aload_n 0, 1) := by decide +kernel
theorem dX10_missBy_29 : decode cX10_missBy 29 = .ok (.getfield 62, 3) := by decide +kernel
theorem dX10_missBy_32 : decode cX10_missBy 32 = .ok (.iload 5, 2) := by decide +kernel
theorem dX10_missBy_34 : decode cX10_missBy 34 = .ok (.iaload, 1) := by decide +kernel
theorem dX10_missBy_35 : decode cX10_missBy 35 = .ok (.iconst (-1), 1) := by decide +kernel
theorem dX10_missBy_36 : decode cX10_missBy 36 = .ok (.if_icmp .eq 65, 3) := by decide +kernel
theorem dX10_missBy_39 : decode cX10_missBy 39 = .ok (.sipush 1000, 3) := by decide +kernel
theorem dX10_missBy_42 : decode cX10_missBy 42 = .ok (.aload_n 0, 1) := by decide +kernel
theorem dX10_missBy_43 : decode cX10_missBy 43 = .ok (.getfield 65, 3) := by decide +kernel
theorem dX10_missBy_46 : decode cX10_missBy 46 = .ok (.bipush 10, 2) := by decide +kernel
theorem dX10_missBy_48 : decode cX10_missBy 48 = .ok (.iload_n 1, 1) := by decide +kernel
theorem dX10_missBy_49 : decode cX10_missBy 49 = .ok (.imul, 1) := by decide +kernel
theorem dX10_missBy_50 : decode cX10_missBy 50 = .ok (.iload 5, 2) := by decide +kernel
theorem dX10_missBy_52 : decode cX10_missBy 52 = .ok (.iadd, 1) := by decide +kernel
theorem dX10_missBy_53 : decode cX10_missBy 53 = .ok (.iaload, 1) := by decide +kernel
theorem dX10_missBy_54 : decode cX10_missBy 54 = .ok (.imul, 1) := by decide +kernel
theorem dX10_missBy_55 : decode cX10_missBy 55 = .ok (.aload_n 0, 1) := by decide +kernel
theorem dX10_missBy_56 : decode cX10_missBy 56 = .ok (.getfield 68, 3) := by decide +kernel
theorem dX10_missBy_59 : decode cX10_missBy 59 = .ok (.bipush 10, 2) := by decide +kernel
theorem dX10_missBy_61 : decode cX10_missBy 61 = .ok (.iload_n 1, 1) := by decide +kernel
theorem dX10_missBy_62 : decode cX10_missBy 62 = .ok (.imul, 1) := by decide +kernel
theorem dX10_missBy_63 : decode cX10_missBy 63 = .ok (.iload 5, 2) := by decide +kernel
theorem dX10_missBy_65 : decode cX10_missBy 65 = .ok (.iadd, 1) := by decide +kernel
theorem dX10_missBy_66 : decode cX10_missBy 66 = .ok (.iaload, 1) := by decide +kernel
theorem dX10_missBy_67 : decode cX10_missBy 67 = .ok (.idiv, 1) := by decide +kernel
theorem dX10_missBy_68 : decode cX10_missBy 68 = .ok (.iload_n 2, 1) := by decide +kernel
theorem dX10_missBy_69 : decode cX10_missBy 69 = .ok (.iload_n 3, 1) := by decide +kernel
theorem dX10_missBy_70 : decode cX10_missBy 70 = .ok (.aload_n 0, 1) := by decide +kernel
theorem dX10_missBy_71 : decode cX10_missBy 71 = .ok (.getfield 62, 3) := by decide +kernel
theorem dX10_missBy_74 : decode cX10_missBy 74 = .ok (.iload 5, 2) := by decide +kernel
theorem dX10_missBy_76 : decode cX10_missBy 76 = .ok (.iaload, 1) := by decide +kernel
theorem dX10_missBy_77 : decode cX10_missBy 77 = .ok (.invokestatic 235, 3) := by decide +kernel
theorem dX10_missBy_80 : decode cX10_missBy 80 = .ok (.isub, 1) := by decide +kernel
theorem dX10_missBy_81 : decode cX10_missBy 81 = .ok (.istore 6, 2) := by decide +kernel
theorem dX10_missBy_83 : decode cX10_missBy 83 = .ok (.iload 4, 2) := by decide +kernel
theorem dX10_missBy_85 : decode cX10_missBy 85 = .ok (.iload 6, 2) := by decide +kernel
theorem dX10_missBy_87 : decode cX10_missBy 87 = .ok (.ifCond .ge 9, 3) := by decide +kernel
theorem dX10_missBy_90 : decode cX10_missBy 90 = .ok (.iload 6, 2) := by decide +kernel
theorem dX10_missBy_92 : decode cX10_missBy 92 = .ok (.ineg, 1) := by decide +kernel
theorem dX10_missBy_93 : decode cX10_missBy 93 = .ok (.goto 5, 3) := by decide +kernel
theorem dX10_missBy_96 : decode cX10_missBy 96 = .ok (.iload 6, 2) := by decide +kernel
theorem dX10_missBy_98 : decode cX10_missBy 98 = .ok (.iadd, 1) := by decide +kernel
theorem dX10_missBy_99 : decode cX10_missBy 99 = .ok (.istore 4, 2) := by decide +kernel
theorem dX10_missBy_101 : decode cX10_missBy 101 = .ok (.iinc 5 1, 3) := by decide +kernel
theorem dX10_missBy_104 : decode cX10_missBy 104 = .ok (.goto (-98), 3) := by decide +kernel
theorem dX10_missBy_107 : decode cX10_missBy 107 = .ok (.iload 4, 2) := by decide +kernel
theorem dX10_missBy_109 : decode cX10_missBy 109 = .ok (.ireturn, 1) := by decide +kernel
theorem dX10_miss_0 : decode cX10_miss 0 = .ok (.aload_n 0, 1) := by decide +kernel
theorem dX10_miss_1 : decode cX10_miss 1 = .ok (.iload_n 1, 1) := by decide +kernel
theorem dX10_miss_2 : decode cX10_miss 2 = .ok (.invokevirtual 159, 3) := by decide +kernel
theorem dX10_miss_5 : decode cX10_miss 5 = .ok (.ifCond .ne 6, 3) := by decide +kernel
theorem dX10_miss_8 : decode cX10_miss 8 = .ok (.bipush (-2), 2) := by decide +kernel
theorem dX10_miss_10 : decode cX10_miss 10 = .ok (.ireturn, 1) := by decide +kernel
theorem dX10_miss_11 : decode cX10_miss 11 = .ok (.iload_n 2, 1) := by decide +kernel
theorem dX10_miss_12 : decode cX10_miss 12 = .ok (.iconst 0, 1) := by decide +kernel
theorem dX10_miss_13 : decode cX10_miss 13 = .ok (.iconst 2, 1) := by decide +kernel
theorem dX10_miss_14 : decode cX10_miss 14 = .ok (.invokestatic 71, 3) := by decide +kernel
theorem dX10_miss_17 : decode cX10_miss 17 = .ok (.ifCond .eq 13, 3) := by decide +kernel
theorem dX10_miss_20 : decode cX10_miss 20 = .ok (.iload_n 3, 1) := by decide +kernel
theorem dX10_miss_21 : decode cX10_miss 21 = .ok (.iconst 1, 1) := by decide +kernel
theorem dX10_miss_22 : decode cX10_miss 22 = .ok (.bipush 99, 2) := by decide +kernel
theorem dX10_miss_24 : decode cX10_miss 24 = .ok (.invokestatic 71, 3) := by decide +kernel
theorem dX10_miss_27 : decode cX10_miss 27 = .ok (.ifCond .ne 6, 3) := by decide +kernel
theorem dX10_miss_30 : decode cX10_miss 30 = .ok (.bipush (-3), 2) := by decide +kernel
theorem dX10_miss_32 : decode cX10_miss 32 = .ok (.ireturn, 1) := by decide +kernel
theorem dX10_miss_33 : decode cX10_miss 33 = .ok (.aload_n 0, 1) := by decide +kernel
theorem dX10_miss_34 : decode cX10_miss 34 = .ok (.aload_n 0, 1) := by decide +kernel
theorem dX10_miss_35 : decode cX10_miss 35 = .ok (.getfield 16, 3) := by decide +kernel
theorem dX10_miss_38 : decode cX10_miss 38 = .ok (.bipush 6, 2) := by decide +kernel
theorem dX10_miss_40 : decode cX10_miss 40 = .ok (.iload_n 1, 1) := by decide +kernel
theorem dX10_miss_41 : decode cX10_miss 41 = .ok (.imul, 1) := by decide +kernel
theorem dX10_miss_42 : decode cX10_miss 42 = .ok (.iaload, 1) := by decide +kernel
theorem dX10_miss_43 : decode cX10_miss 43 = .ok (.iconst (-1), 1) := by decide +kernel
theorem dX10_miss_44 : decode cX10_miss 44 = .ok (.iconst 1, 1) := by decide +kernel
theorem dX10_miss_45 : decode cX10_miss 45 = .ok (.invokevirtual 223, 3) := by decide +kernel
theorem dX10_miss_48 : decode cX10_miss 48 = .ok (.aload_n 0, 1) := by decide +kernel
theorem dX10_miss_49 : decode cX10_miss 49 = .ok (.iload_n 1, 1) := by decide +kernel
theorem dX10_miss_50 : decode cX10_miss 50 = .ok (.iload_n 2, 1) := by decide +kernel
theorem dX10_miss_51 : decode cX10_miss 51 = .ok (.iload_n 3, 1) := by decide +kernel
theorem dX10_miss_52 : decode cX10_miss 52 = .ok (.invokevirtual 239, 3) := by decide +kernel
theorem dX10_miss_55 : decode cX10_miss 55 = .ok (.ireturn, 1) := by decide +kernel
theorem dX10_law_0 : decode cX10_law 0 = .ok (.aload_n 0, 1) := by decide +kernel
theorem dX10_law_1 : decode cX10_law 1 = .ok (.iload_n 1, 1) := by decide +kernel
theorem dX10_law_2 : decode cX10_law 2 = .ok (.invokevirtual 159, 3) := by decide +kernel
theorem dX10_law_5 : decode cX10_law 5 = .ok (.ifCond .ne 6, 3) := by decide +kernel
theorem dX10_law_8 : decode cX10_law 8 = .ok (.bipush (-2), 2) := by decide +kernel
theorem dX10_law_10 : decode cX10_law 10 = .ok (.ireturn, 1) := by decide +kernel
theorem dX10_law_11 : decode cX10_law 11 = .ok (.iload_n 2, 1) := by decide +kernel
theorem dX10_law_12 : decode cX10_law 12 = .ok (.iconst 0, 1) := by decide +kernel
theorem dX10_law_13 : decode cX10_law 13 = .ok (.iconst 1, 1) := by decide +kernel
theorem dX10_law_14 : decode cX10_law 14 = .ok (.invokestatic 71, 3) := by decide +kernel
theorem dX10_law_17 : decode cX10_law 17 = .ok (.ifCond .ne 6, 3) := by decide +kernel
theorem dX10_law_20 : decode cX10_law 20 = .ok (.bipush (-3), 2) := by decide +kernel
theorem dX10_law_22 : decode cX10_law 22 = .ok (.ireturn, 1) := by decide +kernel
theorem dX10_law_23 : decode cX10_law 23 = .ok (.aload_n 0, 1) := by decide +kernel
theorem dX10_law_24 : decode cX10_law 24 = .ok (.aload_n 0, 1) := by decide +kernel
theorem dX10_law_25 : decode cX10_law 25 = .ok (.getfield 16, 3) := by decide +kernel
theorem dX10_law_28 : decode cX10_law 28 = .ok (.bipush 6, 2) := by decide +kernel
theorem dX10_law_30 : decode cX10_law 30 = .ok (.iload_n 1, 1) := by decide +kernel
theorem dX10_law_31 : decode cX10_law 31 = .ok (.imul, 1) := by decide +kernel
theorem dX10_law_32 : decode cX10_law 32 = .ok (.iaload, 1) := by decide +kernel
theorem dX10_law_33 : decode cX10_law 33 = .ok (.iconst (-1), 1) := by decide +kernel
theorem dX10_law_34 : decode cX10_law 34 = .ok (.iconst 1, 1) := by decide +kernel
theorem dX10_law_35 : decode cX10_law 35 = .ok (.invokevirtual 223, 3) := by decide +kernel
theorem dX10_law_38 : decode cX10_law 38 = .ok (.iconst (-1), 1) := by decide +kernel
theorem dX10_law_39 : decode cX10_law 39 = .ok (.istore_n 3, 1) := by decide +kernel
theorem dX10_law_40 : decode cX10_law 40 = .ok (.iconst 0, 1) := by decide +kernel
theorem dX10_law_41 : decode cX10_law 41 = .ok (.istore 4, 2) := by decide +kernel
theorem dX10_law_43 : decode cX10_law 43 = .ok (.iconst 0, 1) := by decide +kernel
theorem dX10_law_44 : decode cX10_law 44 = .ok (.istore 5, 2) := by decide +kernel
theorem dX10_law_46 : decode cX10_law 46 = .ok (.iload 5, 2) := by decide +kernel
theorem dX10_law_48 : decode cX10_law 48 = .ok (.iconst 3, 1) := by decide +kernel
theorem dX10_law_49 : decode cX10_law 49 = .ok (.if_icmp .ge 61, 3) := by decide +kernel
theorem dX10_law_52 : decode cX10_law 52 = .ok (.iconst 1, 1) := by decide +kernel
theorem dX10_law_53 : decode cX10_law 53 = .ok (.istore 6, 2) := by decide +kernel
theorem dX10_law_55 : decode cX10_law 55 = .ok (.iload 6, 2) := by decide +kernel
theorem dX10_law_57 : decode cX10_law 57 = .ok (.bipush 100, 2) := by decide +kernel
theorem dX10_law_59 : decode cX10_law 59 = .ok (.if_icmp .ge 45, 3) := by decide +kernel
theorem dX10_law_62 : decode cX10_law 62 = .ok (.aload_n 0, 1) := by decide +kernel
theorem dX10_law_63 : decode cX10_law 63 = .ok (.iload_n 1, 1) := by decide +kernel
theorem dX10_law_64 : decode cX10_law 64 = .ok (.iload 5, 2) := by decide +kernel
theorem dX10_law_66 : decode cX10_law 66 = .ok (.iload 6, 2) := by decide +kernel
theorem dX10_law_68 : decode cX10_law 68 = .ok (.invokevirtual 239, 3) := by decide +kernel
theorem dX10_law_71 : decode cX10_law 71 = .ok (.istore 7, 2) := by decide +kernel
theorem dX10_law_73 : decode cX10_law 73 = .ok (.iload_n 3, 1) := by decide +kernel
theorem dX10_law_74 : decode cX10_law 74 = .ok (.iconst (-1), 1) := by decide +kernel
theorem dX10_law_75 : decode cX10_law 75 = .ok (.if_icmp .eq 10, 3) := by decide +kernel
theorem dX10_law_78 : decode cX10_law 78 = .ok (.iload 7, 2) := by decide +kernel
theorem dX10_law_80 : decode cX10_law 80 = .ok (.iload 4, 2) := by decide +kernel
theorem dX10_law_82 : decode cX10_law 82 = .ok (.if_icmp .ge 16, 3) := by decide +kernel
theorem dX10_law_85 : decode cX10_law 85 = .ok (.bipush 100, 2) := by decide +kernel
theorem dX10_law_87 : decode cX10_law 87 = .ok (.iload 5, 2) := by decide +kernel
theorem dX10_law_89 : decode cX10_law 89 = .ok (.imul, 1) := by decide +kernel
theorem dX10_law_90 : decode cX10_law 90 = .ok (.iload 6, 2) := by decide +kernel
theorem dX10_law_92 : decode cX10_law 92 = .ok (.iadd, 1) := by decide +kernel
theorem dX10_law_93 : decode cX10_law 93 = .ok (.istore_n 3, 1) := by decide +kernel
theorem dX10_law_94 : decode cX10_law 94 = .ok (.iload 7, 2) := by decide +kernel
theorem dX10_law_96 : decode cX10_law 96 = .ok (.istore 4, 2) := by decide +kernel
theorem dX10_law_98 : decode cX10_law 98 = .ok (.iinc 6 1, 3) := by decide +kernel
theorem dX10_law_101 : decode cX10_law 101 = .ok (.goto (-46), 3) := by decide +kernel
theorem dX10_law_104 : decode cX10_law 104 = .ok (.iinc 5 1, 3) := by decide +kernel
theorem dX10_law_107 : decode cX10_law 107 = .ok (.goto (-61), 3) := by decide +kernel
theorem dX10_law_110 : decode cX10_law 110 = .ok (.iload_n 2, 1) := by decide +kernel
theorem dX10_law_111 : decode cX10_law 111 = .ok (.ifCond .ne 7, 3) := by decide +kernel
theorem dX10_law_114 : decode cX10_law 114 = .ok (.iload_n 3, 1) := by decide +kernel
theorem dX10_law_115 : decode cX10_law 115 = .ok (.goto 5, 3) := by decide +kernel
theorem dX10_law_118 : decode cX10_law 118 = .ok (.iload 4, 2) := by decide +kernel
theorem dX10_law_120 : decode cX10_law 120 = .ok (.ireturn, 1) := by decide +kernel
theorem dX10_dated_0 : decode cX10_dated 0 = .ok (.aload_n 0, 1) := by decide +kernel
theorem dX10_dated_1 : decode cX10_dated 1 = .ok (.iload_n 1, 1) := by decide +kernel
theorem dX10_dated_2 : decode cX10_dated 2 = .ok (.invokevirtual 169, 3) := by decide +kernel
theorem dX10_dated_5 : decode cX10_dated 5 = .ok (.ifCond .ne 6, 3) := by decide +kernel
theorem dX10_dated_8 : decode cX10_dated 8 = .ok (.bipush (-2), 2) := by decide +kernel
theorem dX10_dated_10 : decode cX10_dated 10 = .ok (.ireturn, 1) := by decide +kernel
theorem dX10_dated_11 : decode cX10_dated 11 = .ok (.iload_n 2, 1) := by decide +kernel
theorem dX10_dated_12 : decode cX10_dated 12 = .ok (.iconst (-1), 1) := by decide +kernel
theorem dX10_dated_13 : decode cX10_dated 13 = .ok (.sipush 9999, 3) := by decide +kernel
theorem dX10_dated_16 : decode cX10_dated 16 = .ok (.invokestatic 71, 3) := by decide +kernel
theorem dX10_dated_19 : decode cX10_dated 19 = .ok (.ifCond .ne 6, 3) := by decide +kernel
theorem dX10_dated_22 : decode cX10_dated 22 = .ok (.bipush (-3), 2) := by decide +kernel
theorem dX10_dated_24 : decode cX10_dated 24 = .ok (.ireturn, 1) := by decide +kernel
theorem dX10_dated_25 : decode cX10_dated 25 = .ok (.aload_n 0, 1) := by decide +kernel
theorem dX10_dated_26 : decode cX10_dated 26 = .ok (.getfield 32, 3) := by decide +kernel
theorem dX10_dated_29 : decode cX10_dated 29 = .ok (.bipush 11, 2) := by decide +kernel
theorem dX10_dated_31 : decode cX10_dated 31 = .ok (.iload_n 1, 1) := by decide +kernel
theorem dX10_dated_32 : decode cX10_dated 32 = .ok (.imul, 1) := by decide +kernel
theorem dX10_dated_33 : decode cX10_dated 33 = .ok (.bipush 10, 2) := by decide +kernel
theorem dX10_dated_35 : decode cX10_dated 35 = .ok (.iadd, 1) := by decide +kernel
theorem dX10_dated_36 : decode cX10_dated 36 = .ok (.iload_n 2, 1) := by decide +kernel
theorem dX10_dated_37 : decode cX10_dated 37 = .ok (.iastore, 1) := by decide +kernel
theorem dX10_dated_38 : decode cX10_dated 38 = .ok (.iconst 1, 1) := by decide +kernel
theorem dX10_dated_39 : decode cX10_dated 39 = .ok (.ireturn, 1) := by decide +kernel
theorem dX10_learnt_0 : decode cX10_learnt 0 = .ok (.iload_n 1, 1) := by decide +kernel
theorem dX10_learnt_1 : decode cX10_learnt 1 = .ok (.invokestatic 156, 3) := by decide +kernel
theorem dX10_learnt_4 : decode cX10_learnt 4 = .ok (.ifCond .ne 6, 3) := by decide +kernel
theorem dX10_learnt_7 : decode cX10_learnt 7 = .ok (.bipush (-2), 2) := by decide +kernel
theorem dX10_learnt_9 : decode cX10_learnt 9 = .ok (.ireturn, 1) := by decide +kernel
theorem dX10_learnt_10 : decode cX10_learnt 10 = .ok (.iload_n 2, 1) := by decide +kernel
theorem dX10_learnt_11 : decode cX10_learnt 11 = .ok (.iconst 0, 1) := by decide +kernel
theorem dX10_learnt_12 : decode cX10_learnt 12 = .ok (.iconst 1, 1) := by decide +kernel
theorem dX10_learnt_13 : decode cX10_learnt 13 = .ok (.invokestatic 71, 3) := by decide +kernel
theorem dX10_learnt_16 : decode cX10_learnt 16 = .ok (.ifCond .ne 6, 3) := by decide +kernel
theorem dX10_learnt_19 : decode cX10_learnt 19 = .ok (.bipush (-3), 2) := by decide +kernel
theorem dX10_learnt_21 : decode cX10_learnt 21 = .ok (.ireturn, 1) := by decide +kernel
theorem dX10_learnt_22 : decode cX10_learnt 22 = .ok (.iconst (-1), 1) := by decide +kernel
theorem dX10_learnt_23 : decode cX10_learnt 23 = .ok (.istore_n 3, 1) := by decide +kernel
theorem dX10_learnt_24 : decode cX10_learnt 24 = .ok (.iconst (-1), 1) := by decide +kernel
theorem dX10_learnt_25 : decode cX10_learnt 25 = .ok (.istore 4, 2) := by decide +kernel
theorem dX10_learnt_27 : decode cX10_learnt 27 = .ok (.iconst 1, 1) := by decide +kernel
theorem dX10_learnt_28 : decode cX10_learnt 28 = .ok (.istore 5, 2) := by decide +kernel
theorem dX10_learnt_30 : decode cX10_learnt 30 = .ok (.iload 5, 2) := by decide +kernel
theorem dX10_learnt_32 : decode cX10_learnt 32 = .ok (.sipush 1000, 3) := by decide +kernel
theorem dX10_learnt_35 : decode cX10_learnt 35 = .ok (.if_icmp .ge 167, 3) := by decide +kernel
theorem dX10_learnt_38 : decode cX10_learnt 38 = .ok (.iconst 1, 1) := by decide +kernel
theorem dX10_learnt_39 : decode cX10_learnt 39 = .ok (.istore 6, 2) := by decide +kernel
theorem dX10_learnt_41 : decode cX10_learnt 41 = .ok (.iconst 0, 1) := by decide +kernel
theorem dX10_learnt_42 : decode cX10_learnt 42 = .ok (.istore 7, 2) := by decide +kernel
theorem dX10_learnt_44 : decode cX10_learnt 44 = .ok (.iconst 0, 1) := by decide +kernel
theorem dX10_learnt_45 : decode cX10_learnt 45 = .ok (.istore 8, 2) := by decide +kernel
theorem dX10_learnt_47 : decode cX10_learnt 47 = .ok (.iload 8, 2) := by decide +kernel
theorem dX10_learnt_49 : decode cX10_learnt 49 = .ok (.aload_n 0, 1) := by decide +kernel
theorem dX10_learnt_50 : decode cX10_learnt 50 = .ok (.getfield 78, 3) := by decide +kernel
theorem dX10_learnt_53 : decode cX10_learnt 53 = .ok (.if_icmp .ge 102, 3) := by decide +kernel
theorem dX10_learnt_56 : decode cX10_learnt 56 = .ok (.aload_n 0, 1) := by decide +kernel
theorem dX10_learnt_57 : decode cX10_learnt 57 = .ok (.iload 8, 2) := by decide +kernel
theorem dX10_learnt_59 : decode cX10_learnt 59 = .ok (.iconst 0, 1) := by decide +kernel
theorem dX10_learnt_60 : decode cX10_learnt 60 = .ok (.invokevirtual 172, 3) := by decide +kernel
theorem dX10_learnt_63 : decode cX10_learnt 63 = .ok (.iload_n 1, 1) := by decide +kernel
theorem dX10_learnt_64 : decode cX10_learnt 64 = .ok (.if_icmp .ne 85, 3) := by decide +kernel
theorem dX10_learnt_67 : decode cX10_learnt 67 = .ok (.aload_n 0, 1) := by decide +kernel
theorem dX10_learnt_68 : decode cX10_learnt 68 = .ok (.iload 8, 2) := by decide +kernel
theorem dX10_learnt_70 : decode cX10_learnt 70 = .ok (.bipush 7, 2) := by decide +kernel
theorem dX10_learnt_72 : decode cX10_learnt 72 = .ok (.invokevirtual 172, 3) := by decide +kernel
theorem dX10_learnt_75 : decode cX10_learnt 75 = .ok (.ifCond .le 74, 3) := by decide +kernel
theorem dX10_learnt_78 : decode cX10_learnt 78 = .ok (.aload_n 0, 1) := by decide +kernel
theorem dX10_learnt_79 : decode cX10_learnt 79 = .ok (.iload 8, 2) := by decide +kernel
theorem dX10_learnt_81 : decode cX10_learnt 81 = .ok (.bipush 10, 2) := by decide +kernel
theorem dX10_learnt_83 : decode cX10_learnt 83 = .ok (.invokevirtual 172, 3) := by decide +kernel
theorem dX10_learnt_86 : decode cX10_learnt 86 = .ok (.iconst (-1), 1) := by decide +kernel
theorem dX10_learnt_87 : decode cX10_learnt 87 = .ok (.if_icmp .eq 62, 3) := by decide +kernel
theorem dX10_learnt_90 : decode cX10_learnt 90 = .ok (.iconst 1, 1) := by decide +kernel
theorem dX10_learnt_91 : decode cX10_learnt 91 = .ok (.istore 7, 2) := by decide +kernel
theorem dX10_learnt_93 : decode cX10_learnt 93 = .ok (.iload 6, 2) := by decide +kernel
theorem dX10_learnt_95 : decode cX10_learnt 95 = .ok (.ifCond .eq 51, 3) := by decide +kernel
theorem dX10_learnt_98 : decode cX10_learnt 98 = .ok (.aload_n 0, 1) := by decide +kernel
theorem dX10_learnt_99 : decode cX10_learnt 99 = .ok (.iload 8, 2) := by decide +kernel
theorem dX10_learnt_101 : decode cX10_learnt 101 = .ok (.bipush 10, 2) := by decide +kernel
theorem dX10_learnt_103 : decode cX10_learnt 103 = .ok (.invokevirtual 172, 3) := by decide +kernel
theorem dX10_learnt_106 : decode cX10_learnt 106 = .ok (.aload_n 0, 1) := by decide +kernel
theorem dX10_learnt_107 : decode cX10_learnt 107 = .ok (.iload 8, 2) := by decide +kernel
theorem dX10_learnt_109 : decode cX10_learnt 109 = .ok (.bipush 7, 2) := by decide +kernel
theorem dX10_learnt_111 : decode cX10_learnt 111 = .ok (.invokevirtual 172, 3) := by decide +kernel
theorem dX10_learnt_114 : decode cX10_learnt 114 = .ok (.iconst 1, 1) := by decide +kernel
theorem dX10_learnt_115 : decode cX10_learnt 115 = .ok (.iadd, 1) := by decide +kernel
theorem dX10_learnt_116 : decode cX10_learnt 116 = .ok (.iload 5, 2) := by decide +kernel
theorem dX10_learnt_118 : decode cX10_learnt 118 = .ok (.invokestatic 193, 3) := by decide +kernel
theorem dX10_learnt_121 : decode cX10_learnt 121 = .ok (.aload_n 0, 1) := by decide +kernel
theorem dX10_learnt_122 : decode cX10_learnt 122 = .ok (.iload 8, 2) := by decide +kernel
theorem dX10_learnt_124 : decode cX10_learnt 124 = .ok (.bipush 7, 2) := by decide +kernel
theorem dX10_learnt_126 : decode cX10_learnt 126 = .ok (.invokevirtual 172, 3) := by decide +kernel
theorem dX10_learnt_129 : decode cX10_learnt 129 = .ok (.iconst 1, 1) := by decide +kernel
theorem dX10_learnt_130 : decode cX10_learnt 130 = .ok (.isub, 1) := by decide +kernel
theorem dX10_learnt_131 : decode cX10_learnt 131 = .ok (.iload 5, 2) := by decide +kernel
theorem dX10_learnt_133 : decode cX10_learnt 133 = .ok (.invokestatic 193, 3) := by decide +kernel
theorem dX10_learnt_136 : decode cX10_learnt 136 = .ok (.invokestatic 71, 3) := by decide +kernel
theorem dX10_learnt_139 : decode cX10_learnt 139 = .ok (.ifCond .eq 7, 3) := by decide +kernel
theorem dX10_learnt_142 : decode cX10_learnt 142 = .ok (.iconst 1, 1) := by decide +kernel
theorem dX10_learnt_143 : decode cX10_learnt 143 = .ok (.goto 4, 3) := by decide +kernel
theorem dX10_learnt_146 : decode cX10_learnt 146 = .ok (.iconst 0, 1) := by decide +kernel
theorem dX10_learnt_147 : decode cX10_learnt 147 = .ok (.istore 6, 2) := by decide +kernel
theorem dX10_learnt_149 : decode cX10_learnt 149 = .ok (.iinc 8 1, 3) := by decide +kernel
theorem dX10_learnt_152 : decode cX10_learnt 152 = .ok (.goto (-105), 3) := by decide +kernel
theorem dX10_learnt_155 : decode cX10_learnt 155 = .ok (.iload 6, 2) := by decide +kernel
theorem dX10_learnt_157 : decode cX10_learnt 157 = .ok (.ifCond .eq 18, 3) := by decide +kernel
theorem dX10_learnt_160 : decode cX10_learnt 160 = .ok (.iload 7, 2) := by decide +kernel
theorem dX10_learnt_162 : decode cX10_learnt 162 = .ok (.ifCond .eq 13, 3) := by decide +kernel
theorem dX10_learnt_165 : decode cX10_learnt 165 = .ok (.iload_n 3, 1) := by decide +kernel
theorem dX10_learnt_166 : decode cX10_learnt 166 = .ok (.iconst (-1), 1) := by decide +kernel
theorem dX10_learnt_167 : decode cX10_learnt 167 = .ok (.if_icmp .ne 8, 3) := by decide +kernel
theorem dX10_learnt_170 : decode cX10_learnt 170 = .ok (.iload 5, 2) := by decide +kernel
theorem dX10_learnt_172 : decode cX10_learnt 172 = .ok (.goto 4, 3) := by decide +kernel
theorem dX10_learnt_175 : decode cX10_learnt 175 = .ok (.iload_n 3, 1) := by decide +kernel
theorem dX10_learnt_176 : decode cX10_learnt 176 = .ok (.istore_n 3, 1) := by decide +kernel
theorem dX10_learnt_177 : decode cX10_learnt 177 = .ok (.iload 6, 2) := by decide +kernel
theorem dX10_learnt_179 : decode cX10_learnt 179 = .ok (.ifCond .eq 13, 3) := by decide +kernel
theorem dX10_learnt_182 : decode cX10_learnt 182 = .ok (.iload 7, 2) := by decide +kernel
theorem dX10_learnt_184 : decode cX10_learnt 184 = .ok (.ifCond .eq 8, 3) := by decide +kernel
theorem dX10_learnt_187 : decode cX10_learnt 187 = .ok (.iload 5, 2) := by decide +kernel
theorem dX10_learnt_189 : decode cX10_learnt 189 = .ok (.goto 5, 3) := by decide +kernel
theorem dX10_learnt_192 : decode cX10_learnt 192 = .ok (.iload 4, 2) := by decide +kernel
theorem dX10_learnt_194 : decode cX10_learnt 194 = .ok (.istore 4, 2) := by decide +kernel
theorem dX10_learnt_196 : decode cX10_learnt 196 = .ok (.iinc 5 1, 3) := by decide +kernel
theorem dX10_learnt_199 : decode cX10_learnt 199 = .ok (.goto (-169), 3) := by decide +kernel
theorem dX10_learnt_202 : decode cX10_learnt 202 = .ok (.iload_n 2, 1) := by decide +kernel
theorem dX10_learnt_203 : decode cX10_learnt 203 = .ok (.ifCond .ne 7, 3) := by decide +kernel
theorem dX10_learnt_206 : decode cX10_learnt 206 = .ok (.iload_n 3, 1) := by decide +kernel
theorem dX10_learnt_207 : decode cX10_learnt 207 = .ok (.goto 5, 3) := by decide +kernel
theorem dX10_learnt_210 : decode cX10_learnt 210 = .ok (.iload 4, 2) := by decide +kernel
theorem dX10_learnt_212 : decode cX10_learnt 212 = .ok (.ireturn, 1) := by decide +kernel
theorem dX10_count_0 : decode cX10_count 0 = .ok (.iconst 0, 1) := by decide +kernel
theorem dX10_count_1 : decode cX10_count 1 = .ok (.istore_n 2, 1) := by decide +kernel
theorem dX10_count_2 : decode cX10_count 2 = .ok (.iload_n 1, 1) := by decide +kernel
theorem dX10_count_3 : decode cX10_count 3 = .ok (.tableswitch 102 0 5 #[37, 45, 50, 55, 60, 65], 37) := by decide +kernel
theorem dX10_count_40 : decode cX10_count 40 = .ok (.aload_n 0, 1) := by decide +kernel
theorem dX10_count_41 : decode cX10_count 41 = .ok (.getfield 75, 3) := by decide +kernel
theorem dX10_count_44 : decode cX10_count 44 = .ok (.invokestatic 183, 3) := by decide +kernel
theorem dX10_count_47 : decode cX10_count 47 = .ok (.ireturn, 1) := by decide +kernel
theorem dX10_count_48 : decode cX10_count 48 = .ok (.aload_n 0, 1) := by decide +kernel
theorem dX10_count_49 : decode cX10_count 49 = .ok (.getfield 81, 3) := by decide +kernel
theorem dX10_count_52 : decode cX10_count 52 = .ok (.ireturn, 1) := by decide +kernel
theorem dX10_count_53 : decode cX10_count 53 = .ok (.aload_n 0, 1) := by decide +kernel
theorem dX10_count_54 : decode cX10_count 54 = .ok (.getfield 78, 3) := by decide +kernel
theorem dX10_count_57 : decode cX10_count 57 = .ok (.ireturn, 1) := by decide +kernel
theorem dX10_count_58 : decode cX10_count 58 = .ok (.aload_n 0, 1) := by decide +kernel
theorem dX10_count_59 : decode cX10_count 59 = .ok (.getfield 19, 3) := by decide +kernel
theorem dX10_count_62 : decode cX10_count 62 = .ok (.ireturn, 1) := by decide +kernel
theorem dX10_count_63 : decode cX10_count 63 = .ok (.aload_n 0, 1) := by decide +kernel
theorem dX10_count_64 : decode cX10_count 64 = .ok (.getfield 23, 3) := by decide +kernel
theorem dX10_count_67 : decode cX10_count 67 = .ok (.ireturn, 1) := by decide +kernel
theorem dX10_count_68 : decode cX10_count 68 = .ok (.iconst 0, 1) := by decide +kernel
theorem dX10_count_69 : decode cX10_count 69 = .ok (.istore_n 3, 1) := by decide +kernel
theorem dX10_count_70 : decode cX10_count 70 = .ok (.iload_n 3, 1) := by decide +kernel
theorem dX10_count_71 : decode cX10_count 71 = .ok (.aload_n 0, 1) := by decide +kernel
theorem dX10_count_72 : decode cX10_count 72 = .ok (.getfield 78, 3) := by decide +kernel
theorem dX10_count_75 : decode cX10_count 75 = .ok (.if_icmp .ge 28, 3) := by decide +kernel
theorem dX10_count_78 : decode cX10_count 78 = .ok (.iload_n 2, 1) := by decide +kernel
theorem dX10_count_79 : decode cX10_count 79 = .ok (.aload_n 0, 1) := by decide +kernel
theorem dX10_count_80 : decode cX10_count 80 = .ok (.iload_n 3, 1) := by decide +kernel
theorem dX10_count_81 : decode cX10_count 81 = .ok (.bipush 9, 2) := by decide +kernel
theorem dX10_count_83 : decode cX10_count 83 = .ok (.invokevirtual 172, 3) := by decide +kernel
theorem dX10_count_86 : decode cX10_count 86 = .ok (.iconst (-1), 1) := by decide +kernel
theorem dX10_count_87 : decode cX10_count 87 = .ok (.if_icmp .eq 7, 3) := by decide +kernel
theorem dX10_count_90 : decode cX10_count 90 = .ok (.iconst 1, 1) := by decide +kernel
theorem dX10_count_91 : decode cX10_count 91 = .ok (.goto 4, 3) := by decide +kernel
theorem dX10_count_94 : decode cX10_count 94 = .ok (.iconst 0, 1) := by decide +kernel
theorem dX10_count_95 : decode cX10_count 95 = .ok (.iadd, 1) := by decide +kernel
theorem dX10_count_96 : decode cX10_count 96 = .ok (.istore_n 2, 1) := by decide +kernel
theorem dX10_count_97 : decode cX10_count 97 = .ok (.iinc 3 1, 3) := by decide +kernel
theorem dX10_count_100 : decode cX10_count 100 = .ok (.goto (-30), 3) := by decide +kernel
theorem dX10_count_103 : decode cX10_count 103 = .ok (.iload_n 2, 1) := by decide +kernel
theorem dX10_count_104 : decode cX10_count 104 = .ok (.ireturn, 1) := by decide +kernel
theorem dX10_count_105 : decode cX10_count 105 = .ok (.bipush (-3), 2) := by decide +kernel
theorem dX10_count_107 : decode cX10_count 107 = .ok (.ireturn, 1) := by decide +kernel
