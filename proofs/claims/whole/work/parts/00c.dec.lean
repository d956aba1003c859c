/-! decode rows, printed by program of the program's bytes -/
theorem dX12_init_0 : decode cX12_init 0 = .ok (.aload_n 0, 1) := by decide +kernel
theorem dX12_init_1 : decode cX12_init 1 = .ok (.invokespecial 1, 3) := by decide +kernel
theorem dX12_init_4 : decode cX12_init 4 = .ok (.aload_n 0, 1) := by decide +kernel
theorem dX12_init_5 : decode cX12_init 5 = .ok (.sipush 2400, 3) := by decide +kernel
theorem dX12_init_8 : decode cX12_init 8 = .ok (.newarray .byte, 2) := by decide +kernel
theorem dX12_init_10 : decode cX12_init 10 = .ok (.putfield 7, 3) := by decide +kernel
theorem dX12_init_13 : decode cX12_init 13 = .ok (.aload_n 0, 1) := by decide +kernel
theorem dX12_init_14 : decode cX12_init 14 = .ok (.iconst 4, 1) := by decide +kernel
theorem dX12_init_15 : decode cX12_init 15 = .ok (.newarray .int, 2) := by decide +kernel
theorem dX12_init_17 : decode cX12_init 17 = .ok (.putfield 13, 3) := by decide +kernel
theorem dX12_init_20 : decode cX12_init 20 = .ok (.aload_n 0, 1) := by decide +kernel
theorem dX12_init_21 : decode cX12_init 21 = .ok (.iconst 4, 1) := by decide +kernel
theorem dX12_init_22 : decode cX12_init 22 = .ok (.newarray .int, 2) := by decide +kernel
theorem dX12_init_24 : decode cX12_init 24 = .ok (.putfield 17, 3) := by decide +kernel
theorem dX12_init_27 : decode cX12_init 27 = .ok (.aload_n 0, 1) := by decide +kernel
theorem dX12_init_28 : decode cX12_init 28 = .ok (.iconst 4, 1) := by decide +kernel
theorem dX12_init_29 : decode cX12_init 29 = .ok (.newarray .int, 2) := by decide +kernel
theorem dX12_init_31 : decode cX12_init 31 = .ok (.putfield 20, 3) := by decide +kernel
theorem dX12_init_34 : decode cX12_init 34 = .ok (.aload_n 0, 1) := by decide +kernel
theorem dX12_init_35 : decode cX12_init 35 = .ok (.bipush 16, 2) := by decide +kernel
theorem dX12_init_37 : decode cX12_init 37 = .ok (.newarray .int, 2) := by decide +kernel
theorem dX12_init_39 : decode cX12_init 39 = .ok (.putfield 23, 3) := by decide +kernel
theorem dX12_init_42 : decode cX12_init 42 = .ok (.aload_n 0, 1) := by decide +kernel
theorem dX12_init_43 : decode cX12_init 43 = .ok (.sipush 424, 3) := by decide +kernel
theorem dX12_init_46 : decode cX12_init 46 = .ok (.newarray .int, 2) := by decide +kernel
theorem dX12_init_48 : decode cX12_init 48 = .ok (.putfield 26, 3) := by decide +kernel
theorem dX12_init_51 : decode cX12_init 51 = .ok (.aload_n 0, 1) := by decide +kernel
theorem dX12_init_52 : decode cX12_init 52 = .ok (.sipush 968, 3) := by decide +kernel
theorem dX12_init_55 : decode cX12_init 55 = .ok (.newarray .int, 2) := by decide +kernel
theorem dX12_init_57 : decode cX12_init 57 = .ok (.putfield 29, 3) := by decide +kernel
theorem dX12_init_60 : decode cX12_init 60 = .ok (.aload_n 0, 1) := by decide +kernel
theorem dX12_init_61 : decode cX12_init 61 = .ok (.sipush 312, 3) := by decide +kernel
theorem dX12_init_64 : decode cX12_init 64 = .ok (.newarray .int, 2) := by decide +kernel
theorem dX12_init_66 : decode cX12_init 66 = .ok (.putfield 32, 3) := by decide +kernel
theorem dX12_init_69 : decode cX12_init 69 = .ok (.aload_n 0, 1) := by decide +kernel
theorem dX12_init_70 : decode cX12_init 70 = .ok (.sipush 248, 3) := by decide +kernel
theorem dX12_init_73 : decode cX12_init 73 = .ok (.newarray .int, 2) := by decide +kernel
theorem dX12_init_75 : decode cX12_init 75 = .ok (.putfield 35, 3) := by decide +kernel
theorem dX12_init_78 : decode cX12_init 78 = .ok (.aload_n 0, 1) := by decide +kernel
theorem dX12_init_79 : decode cX12_init 79 = .ok (.bipush 121, 2) := by decide +kernel
theorem dX12_init_81 : decode cX12_init 81 = .ok (.newarray .int, 2) := by decide +kernel
theorem dX12_init_83 : decode cX12_init 83 = .ok (.putfield 38, 3) := by decide +kernel
theorem dX12_init_86 : decode cX12_init 86 = .ok (.aload_n 0, 1) := by decide +kernel
theorem dX12_init_87 : decode cX12_init 87 = .ok (.iconst 3, 1) := by decide +kernel
theorem dX12_init_88 : decode cX12_init 88 = .ok (.newarray .int, 2) := by decide +kernel
theorem dX12_init_90 : decode cX12_init 90 = .ok (.putfield 41, 3) := by decide +kernel
theorem dX12_init_93 : decode cX12_init 93 = .ok (.aload_n 0, 1) := by decide +kernel
theorem dX12_init_94 : decode cX12_init 94 = .ok (.bipush 64, 2) := by decide +kernel
theorem dX12_init_96 : decode cX12_init 96 = .ok (.newarray .int, 2) := by decide +kernel
theorem dX12_init_98 : decode cX12_init 98 = .ok (.putfield 44, 3) := by decide +kernel
theorem dX12_init_101 : decode cX12_init 101 = .ok (.aload_n 0, 1) := by decide +kernel
theorem dX12_init_102 : decode cX12_init 102 = .ok (.bipush 6, 2) := by decide +kernel
theorem dX12_init_104 : decode cX12_init 104 = .ok (.newarray .int, 2) := by decide +kernel
theorem dX12_init_106 : decode cX12_init 106 = .ok (.putfield 47, 3) := by decide +kernel
theorem dX12_init_109 : decode cX12_init 109 = .ok (.aload_n 0, 1) := by decide +kernel
theorem dX12_init_110 : decode cX12_init 110 = .ok (.bipush 6, 2) := by decide +kernel
theorem dX12_init_112 : decode cX12_init 112 = .ok (.newarray .int, 2) := by decide +kernel
theorem dX12_init_114 : decode cX12_init 114 = .ok (.putfield 50, 3) := by decide +kernel
theorem dX12_init_117 : decode cX12_init 117 = .ok (.aload_n 0, 1) := by decide +kernel
theorem dX12_init_118 : decode cX12_init 118 = .ok (.bipush 6, 2) := by decide +kernel
theorem dX12_init_120 : decode cX12_init 120 = .ok (.newarray .int, 2) := by decide +kernel
theorem dX12_init_122 : decode cX12_init 122 = .ok (.putfield 53, 3) := by decide +kernel
theorem dX12_init_125 : decode cX12_init 125 = .ok (.aload_n 0, 1) := by decide +kernel
theorem dX12_init_126 : decode cX12_init 126 = .ok (.bipush 6, 2) := by decide +kernel
theorem dX12_init_128 : decode cX12_init 128 = .ok (.newarray .int, 2) := by decide +kernel
theorem dX12_init_130 : decode cX12_init 130 = .ok (.putfield 56, 3) := by decide +kernel
theorem dX12_init_133 : decode cX12_init 133 = .ok (.aload_n 0, 1) := by decide +kernel
theorem dX12_init_134 : decode cX12_init 134 = .ok (.bipush 64, 2) := by decide +kernel
theorem dX12_init_136 : decode cX12_init 136 = .ok (.newarray .long, 2) := by decide +kernel
theorem dX12_init_138 : decode cX12_init 138 = .ok (.putfield 59, 3) := by decide +kernel
theorem dX12_init_141 : decode cX12_init 141 = .ok (.aload_n 0, 1) := by decide +kernel
theorem dX12_init_142 : decode cX12_init 142 = .ok (.bipush 64, 2) := by decide +kernel
theorem dX12_init_144 : decode cX12_init 144 = .ok (.newarray .long, 2) := by decide +kernel
theorem dX12_init_146 : decode cX12_init 146 = .ok (.putfield 63, 3) := by decide +kernel
theorem dX12_init_149 : decode cX12_init 149 = .ok (.aload_n 0, 1) := by decide +kernel
theorem dX12_init_150 : decode cX12_init 150 = .ok (.sipush 4096, 3) := by decide +kernel
theorem dX12_init_153 : decode cX12_init 153 = .ok (.newarray .int, 2) := by decide +kernel
theorem dX12_init_155 : decode cX12_init 155 = .ok (.putfield 66, 3) := by decide +kernel
theorem dX12_init_158 : decode cX12_init 158 = .ok (.aload_n 0, 1) := by decide +kernel
theorem dX12_init_159 : decode cX12_init 159 = .ok (.sipush 4096, 3) := by decide +kernel
theorem dX12_init_162 : decode cX12_init 162 = .ok (.newarray .int, 2) := by decide +kernel
theorem dX12_init_164 : decode cX12_init 164 = .ok (.putfield 69, 3) := by decide +kernel
theorem dX12_init_167 : decode cX12_init 167 = .ok (.aload_n 0, 1) := by decide +kernel
theorem dX12_init_168 : decode cX12_init 168 = .ok (.ldc 72, 2) := by decide +kernel
theorem dX12_init_170 : decode cX12_init 170 = .ok (.newarray .int, 2) := by decide +kernel
theorem dX12_init_172 : decode cX12_init 172 = .ok (.putfield 73, 3) := by decide +kernel
theorem dX12_init_175 : decode cX12_init 175 = .ok (.aload_n 0, 1) := by decide +kernel
theorem dX12_init_176 : decode cX12_init 176 = .ok (.sipush 256, 3) := by decide +kernel
theorem dX12_init_179 : decode cX12_init 179 = .ok (.newarray .int, 2) := by decide +kernel
theorem dX12_init_181 : decode cX12_init 181 = .ok (.putfield 76, 3) := by decide +kernel
theorem dX12_init_184 : decode cX12_init 184 = .ok (.aload_n 0, 1) := by decide +kernel
theorem dX12_init_185 : decode cX12_init 185 = .ok (.bipush 64, 2) := by decide +kernel
theorem dX12_init_187 : decode cX12_init 187 = .ok (.newarray .int, 2) := by decide +kernel
theorem dX12_init_189 : decode cX12_init 189 = .ok (.putfield 79, 3) := by decide +kernel
theorem dX12_init_192 : decode cX12_init 192 = .ok (.aload_n 0, 1) := by decide +kernel
theorem dX12_init_193 : decode cX12_init 193 = .ok (.bipush 64, 2) := by decide +kernel
theorem dX12_init_195 : decode cX12_init 195 = .ok (.newarray .int, 2) := by decide +kernel
theorem dX12_init_197 : decode cX12_init 197 = .ok (.putfield 82, 3) := by decide +kernel
theorem dX12_init_200 : decode cX12_init 200 = .ok (.aload_n 0, 1) := by decide +kernel
theorem dX12_init_201 : decode cX12_init 201 = .ok (.bipush 64, 2) := by decide +kernel
theorem dX12_init_203 : decode cX12_init 203 = .ok (.newarray .int, 2) := by decide +kernel
theorem dX12_init_205 : decode cX12_init 205 = .ok (.putfield 85, 3) := by decide +kernel
theorem dX12_init_208 : decode cX12_init 208 = .ok (.aload_n 0, 1) := by decide +kernel
theorem dX12_init_209 : decode cX12_init 209 = .ok (.sipush 128, 3) := by decide +kernel
theorem dX12_init_212 : decode cX12_init 212 = .ok (.newarray .int, 2) := by decide +kernel
theorem dX12_init_214 : decode cX12_init 214 = .ok (.putfield 88, 3) := by decide +kernel
theorem dX12_init_217 : decode cX12_init 217 = .ok (.aload_n 0, 1) := by decide +kernel
theorem dX12_init_218 : decode cX12_init 218 = .ok (.sipush 128, 3) := by decide +kernel
theorem dX12_init_221 : decode cX12_init 221 = .ok (.newarray .int, 2) := by decide +kernel
theorem dX12_init_223 : decode cX12_init 223 = .ok (.putfield 91, 3) := by decide +kernel
theorem dX12_init_226 : decode cX12_init 226 = .ok (.aload_n 0, 1) := by decide +kernel
theorem dX12_init_227 : decode cX12_init 227 = .ok (.sipush 4096, 3) := by decide +kernel
theorem dX12_init_230 : decode cX12_init 230 = .ok (.newarray .boolean, 2) := by decide +kernel
theorem dX12_init_232 : decode cX12_init 232 = .ok (.putfield 94, 3) := by decide +kernel
theorem dX12_init_235 : decode cX12_init 235 = .ok (.aload_n 0, 1) := by decide +kernel
theorem dX12_init_236 : decode cX12_init 236 = .ok (.bipush 49, 2) := by decide +kernel
theorem dX12_init_238 : decode cX12_init 238 = .ok (.newarray .int, 2) := by decide +kernel
theorem dX12_init_240 : decode cX12_init 240 = .ok (.putfield 98, 3) := by decide +kernel
theorem dX12_init_243 : decode cX12_init 243 = .ok (.aload_n 0, 1) := by decide +kernel
theorem dX12_init_244 : decode cX12_init 244 = .ok (.sipush 448, 3) := by decide +kernel
theorem dX12_init_247 : decode cX12_init 247 = .ok (.newarray .int, 2) := by decide +kernel
theorem dX12_init_249 : decode cX12_init 249 = .ok (.putfield 101, 3) := by decide +kernel
theorem dX12_init_252 : decode cX12_init 252 = .ok (.aload_n 0, 1) := by decide +kernel
theorem dX12_init_253 : decode cX12_init 253 = .ok (.iconst 3, 1) := by decide +kernel
theorem dX12_init_254 : decode cX12_init 254 = .ok (.newarray .boolean, 2) := by decide +kernel
theorem dX12_init_256 : decode cX12_init 256 = .ok (.putfield 104, 3) := by decide +kernel
theorem dX12_init_259 : decode cX12_init 259 = .ok (.aload_n 0, 1) := by decide +kernel
theorem dX12_init_260 : decode cX12_init 260 = .ok (.getfield 20, 3) := by decide +kernel
theorem dX12_init_263 : decode cX12_init 263 = .ok (.iconst 0, 1) := by decide +kernel
theorem dX12_init_264 : decode cX12_init 264 = .ok (.iconst (-1), 1) := by decide +kernel
theorem dX12_init_265 : decode cX12_init 265 = .ok (.iastore, 1) := by decide +kernel
theorem dX12_init_266 : decode cX12_init 266 = .ok (.return_, 1) := by decide +kernel
theorem dX12_in_0 : decode cX12_in 0 = .ok (.iload_n 0, 1) := by decide +kernel
theorem dX12_in_1 : decode cX12_in 1 = .ok (.iload_n 1, 1) := by decide +kernel
theorem dX12_in_2 : decode cX12_in 2 = .ok (.if_icmp .lt 12, 3) := by decide +kernel
theorem dX12_in_5 : decode cX12_in 5 = .ok (.iload_n 0, 1) := by decide +kernel
theorem dX12_in_6 : decode cX12_in 6 = .ok (.iload_n 2, 1) := by decide +kernel
theorem dX12_in_7 : decode cX12_in 7 = .ok (.if_icmp .gt 7, 3) := by decide +kernel
theorem dX12_in_10 : decode cX12_in 10 = .ok (.iconst 1, 1) := by decide +kernel
theorem dX12_in_11 : decode cX12_in 11 = .ok (.goto 4, 3) := by decide +kernel
theorem dX12_in_14 : decode cX12_in 14 = .ok (.iconst 0, 1) := by decide +kernel
theorem dX12_in_15 : decode cX12_in 15 = .ok (.ireturn, 1) := by decide +kernel
theorem dX12_has_0 : decode cX12_has 0 = .ok (.iload_n 0, 1) := by decide +kernel
theorem dX12_has_1 : decode cX12_has 1 = .ok (.iload_n 1, 1) := by decide +kernel
theorem dX12_has_2 : decode cX12_has 2 = .ok (.ishr, 1) := by decide +kernel
theorem dX12_has_3 : decode cX12_has 3 = .ok (.iconst 1, 1) := by decide +kernel
theorem dX12_has_4 : decode cX12_has 4 = .ok (.iand, 1) := by decide +kernel
theorem dX12_has_5 : decode cX12_has 5 = .ok (.iconst 1, 1) := by decide +kernel
theorem dX12_has_6 : decode cX12_has 6 = .ok (.if_icmp .ne 7, 3) := by decide +kernel
theorem dX12_has_9 : decode cX12_has 9 = .ok (.iconst 1, 1) := by decide +kernel
theorem dX12_has_10 : decode cX12_has 10 = .ok (.goto 4, 3) := by decide +kernel
theorem dX12_has_13 : decode cX12_has 13 = .ok (.iconst 0, 1) := by decide +kernel
theorem dX12_has_14 : decode cX12_has 14 = .ok (.ireturn, 1) := by decide +kernel
theorem dX12_greater_0 : decode cX12_greater 0 = .ok (.iload_n 0, 1) := by decide +kernel
theorem dX12_greater_1 : decode cX12_greater 1 = .ok (.iload_n 1, 1) := by decide +kernel
theorem dX12_greater_2 : decode cX12_greater 2 = .ok (.if_icmp .le 7, 3) := by decide +kernel
theorem dX12_greater_5 : decode cX12_greater 5 = .ok (.iload_n 0, 1) := by decide +kernel
theorem dX12_greater_6 : decode cX12_greater 6 = .ok (.goto 4, 3) := by decide +kernel
theorem dX12_greater_9 : decode cX12_greater 9 = .ok (.iload_n 1, 1) := by decide +kernel
theorem dX12_greater_10 : decode cX12_greater 10 = .ok (.ireturn, 1) := by decide +kernel
theorem dX12_lesser_0 : decode cX12_lesser 0 = .ok (.iload_n 0, 1) := by decide +kernel
theorem dX12_lesser_1 : decode cX12_lesser 1 = .ok (.iload_n 1, 1) := by decide +kernel
theorem dX12_lesser_2 : decode cX12_lesser 2 = .ok (.if_icmp .ge 7, 3) := by decide +kernel
theorem dX12_lesser_5 : decode cX12_lesser 5 = .ok (.iload_n 0, 1) := by decide +kernel
theorem dX12_lesser_6 : decode cX12_lesser 6 = .ok (.goto 4, 3) := by decide +kernel
theorem dX12_lesser_9 : decode cX12_lesser 9 = .ok (.iload_n 1, 1) := by decide +kernel
theorem dX12_lesser_10 : decode cX12_lesser 10 = .ok (.ireturn, 1) := by decide +kernel
theorem dX12_ones_0 : decode cX12_ones 0 = .ok (.iconst 0, 1) := by decide +kernel
theorem dX12_ones_1 : decode cX12_ones 1 = .ok (.istore_n 1, 1) := by decide +kernel
theorem dX12_ones_2 : decode cX12_ones 2 = .ok (.iconst 0, 1) := by decide +kernel
theorem dX12_ones_3 : decode cX12_ones 3 = .ok (.istore_n 2, 1) := by decide +kernel
theorem dX12_ones_4 : decode cX12_ones 4 = .ok (.iload_n 2, 1) := by decide +kernel
theorem dX12_ones_5 : decode cX12_ones 5 = .ok (.bipush 8, 2) := by decide +kernel
theorem dX12_ones_7 : decode cX12_ones 7 = .ok (.if_icmp .ge 25, 3) := by decide +kernel
theorem dX12_ones_10 : decode cX12_ones 10 = .ok (.iload_n 1, 1) := by decide +kernel
theorem dX12_ones_11 : decode cX12_ones 11 = .ok (.iload_n 0, 1) := by decide +kernel
theorem dX12_ones_12 : decode cX12_ones 12 = .ok (.iload_n 2, 1) := by decide +kernel
theorem dX12_ones_13 : decode cX12_ones 13 = .ok (.invokestatic 111, 3) := by decide +kernel
theorem dX12_ones_16 : decode cX12_ones 16 = .ok (.ifCond .eq 7, 3) := by decide +kernel
theorem dX12_ones_19 : decode cX12_ones 19 = .ok (.iconst 1, 1) := by decide +kernel
theorem dX12_ones_20 : decode cX12_ones 20 = .ok (.goto 4, 3) := by decide +kernel
theorem dX12_ones_23 : decode cX12_ones 23 = .ok (.iconst 0, 1) := by decide +kernel
theorem dX12_ones_24 : decode cX12_ones 24 = .ok (.iadd, 1) := by decide +kernel
theorem dX12_ones_25 : decode cX12_ones 25 = .ok (.istore_n 1, 1) := by decide +kernel
theorem dX12_ones_26 : decode cX12_ones 26 = .ok (.iinc 2 1, 3) := by decide +kernel
theorem dX12_ones_29 : decode cX12_ones 29 = .ok (.goto (-25), 3) := by decide +kernel
theorem dX12_ones_32 : decode cX12_ones 32 = .ok (.iload_n 1, 1) := by decide +kernel
theorem dX12_ones_33 : decode cX12_ones 33 = .ok (.ireturn, 1) := by decide +kernel
theorem dX12_copyRow_0 : decode cX12_copyRow 0 = .ok (.iconst 0, 1) := by decide +kernel
theorem dX12_copyRow_1 : decode cX12_copyRow 1 = .ok (.istore 4, 2) := by decide +kernel
theorem dX12_copyRow_3 : decode cX12_copyRow 3 = .ok (.iload 4, 2) := by decide +kernel
theorem dX12_copyRow_5 : decode cX12_copyRow 5 = .ok (.iload_n 1, 1) := by decide +kernel
theorem dX12_copyRow_6 : decode cX12_copyRow 6 = .ok (.if_icmp .ge 25, 3) := by decide +kernel
theorem dX12_copyRow_9 : decode cX12_copyRow 9 = .ok (.aload_n 0, 1) := by decide +kernel
theorem dX12_copyRow_10 : decode cX12_copyRow 10 = .ok (.iload_n 1, 1) := by decide +kernel
theorem dX12_copyRow_11 : decode cX12_copyRow 11 = .ok (.iload_n 3, 1) := by decide +kernel
theorem dX12_copyRow_12 : decode cX12_copyRow 12 = .ok (.imul, 1) := by decide +kernel
theorem dX12_copyRow_13 : decode cX12_copyRow 13 = .ok (.iload 4, 2) := by decide +kernel
theorem dX12_copyRow_15 : decode cX12_copyRow 15 = .ok (.iadd, 1) := by decide +kernel
theorem dX12_copyRow_16 : decode cX12_copyRow 16 = .ok (.aload_n 0, 1) := by decide +kernel
theorem dX12_copyRow_17 : decode cX12_copyRow 17 = .ok (.iload_n 1, 1) := by decide +kernel
theorem dX12_copyRow_18 : decode cX12_copyRow 18 = .ok (.iload_n 2, 1) := by decide +kernel
theorem dX12_copyRow_19 : decode cX12_copyRow 19 = .ok (.imul, 1) := by decide +kernel
theorem dX12_copyRow_20 : decode cX12_copyRow 20 = .ok (.iload 4, 2) := by decide +kernel
theorem dX12_copyRow_22 : decode cX12_copyRow 22 = .ok (.iadd, 1) := by decide +kernel
theorem dX12_copyRow_23 : decode cX12_copyRow 23 = .ok (.iaload, 1) := by decide +kernel
theorem dX12_copyRow_24 : decode cX12_copyRow 24 = .ok (.iastore, 1) := by decide +kernel
theorem dX12_copyRow_25 : decode cX12_copyRow 25 = .ok (.iinc 4 1, 3) := by decide +kernel
theorem dX12_copyRow_28 : decode cX12_copyRow 28 = .ok (.goto (-25), 3) := by decide +kernel
theorem dX12_copyRow_31 : decode cX12_copyRow 31 = .ok (.return_, 1) := by decide +kernel
theorem dX12_copyAll_0 : decode cX12_copyAll 0 = .ok (.iconst 0, 1) := by decide +kernel
theorem dX12_copyAll_1 : decode cX12_copyAll 1 = .ok (.istore_n 3, 1) := by decide +kernel
theorem dX12_copyAll_2 : decode cX12_copyAll 2 = .ok (.iload_n 3, 1) := by decide +kernel
theorem dX12_copyAll_3 : decode cX12_copyAll 3 = .ok (.sipush 600, 3) := by decide +kernel
theorem dX12_copyAll_6 : decode cX12_copyAll 6 = .ok (.if_icmp .ge 33, 3) := by decide +kernel
theorem dX12_copyAll_9 : decode cX12_copyAll 9 = .ok (.aload_n 0, 1) := by decide +kernel
theorem dX12_copyAll_10 : decode cX12_copyAll 10 = .ok (.getfield 7, 3) := by decide +kernel
theorem dX12_copyAll_13 : decode cX12_copyAll 13 = .ok (.sipush 600, 3) := by decide +kernel
theorem dX12_copyAll_16 : decode cX12_copyAll 16 = .ok (.iload_n 2, 1) := by decide +kernel
theorem dX12_copyAll_17 : decode cX12_copyAll 17 = .ok (.imul, 1) := by decide +kernel
theorem dX12_copyAll_18 : decode cX12_copyAll 18 = .ok (.iload_n 3, 1) := by decide +kernel
theorem dX12_copyAll_19 : decode cX12_copyAll 19 = .ok (.iadd, 1) := by decide +kernel
theorem dX12_copyAll_20 : decode cX12_copyAll 20 = .ok (.aload_n 0, 1) := by decide +kernel
theorem dX12_copyAll_21 : decode cX12_copyAll 21 = .ok (.getfield 7, 3) := by decide +kernel
theorem dX12_copyAll_24 : decode cX12_copyAll 24 = .ok (.sipush 600, 3) := by decide +kernel
theorem dX12_copyAll_27 : decode cX12_copyAll 27 = .ok (.iload_n 1, 1) := by decide +kernel
theorem dX12_copyAll_28 : decode cX12_copyAll 28 = .ok (.imul, 1) := by decide +kernel
theorem dX12_copyAll_29 : decode cX12_copyAll 29 = .ok (.iload_n 3, 1) := by decide +kernel
theorem dX12_copyAll_30 : decode cX12_copyAll 30 = .ok (.iadd, 1) := by decide +kernel
theorem dX12_copyAll_31 : decode cX12_copyAll 31 = .ok (.baload, 1) := by decide +kernel
theorem dX12_copyAll_32 : decode cX12_copyAll 32 = .ok (.bastore, 1) := by decide +kernel
theorem dX12_copyAll_33 : decode cX12_copyAll 33 = .ok (.iinc 3 1, 3) := by decide +kernel
theorem dX12_copyAll_36 : decode cX12_copyAll 36 = .ok (.goto (-34), 3) := by decide +kernel
theorem dX12_copyAll_39 : decode cX12_copyAll 39 = .ok (.aload_n 0, 1) := by decide +kernel
theorem dX12_copyAll_40 : decode cX12_copyAll 40 = .ok (.getfield 13, 3) := by decide +kernel
theorem dX12_copyAll_43 : decode cX12_copyAll 43 = .ok (.iconst 1, 1) := by decide +kernel
theorem dX12_copyAll_44 : decode cX12_copyAll 44 = .ok (.iload_n 1, 1) := by decide +kernel
theorem dX12_copyAll_45 : decode cX12_copyAll 45 = .ok (.iload_n 2, 1) := by decide +kernel
theorem dX12_copyAll_46 : decode cX12_copyAll 46 = .ok (.invokestatic 115, 3) := by decide +kernel
theorem dX12_copyAll_49 : decode cX12_copyAll 49 = .ok (.aload_n 0, 1) := by decide +kernel
theorem dX12_copyAll_50 : decode cX12_copyAll 50 = .ok (.getfield 17, 3) := by decide +kernel
theorem dX12_copyAll_53 : decode cX12_copyAll 53 = .ok (.iconst 1, 1) := by decide +kernel
theorem dX12_copyAll_54 : decode cX12_copyAll 54 = .ok (.iload_n 1, 1) := by decide +kernel
theorem dX12_copyAll_55 : decode cX12_copyAll 55 = .ok (.iload_n 2, 1) := by decide +kernel
theorem dX12_copyAll_56 : decode cX12_copyAll 56 = .ok (.invokestatic 115, 3) := by decide +kernel
theorem dX12_copyAll_59 : decode cX12_copyAll 59 = .ok (.aload_n 0, 1) := by decide +kernel
theorem dX12_copyAll_60 : decode cX12_copyAll 60 = .ok (.getfield 20, 3) := by decide +kernel
theorem dX12_copyAll_63 : decode cX12_copyAll 63 = .ok (.iconst 1, 1) := by decide +kernel
theorem dX12_copyAll_64 : decode cX12_copyAll 64 = .ok (.iload_n 1, 1) := by decide +kernel
theorem dX12_copyAll_65 : decode cX12_copyAll 65 = .ok (.iload_n 2, 1) := by decide +kernel
theorem dX12_copyAll_66 : decode cX12_copyAll 66 = .ok (.invokestatic 115, 3) := by decide +kernel
theorem dX12_copyAll_69 : decode cX12_copyAll 69 = .ok (.aload_n 0, 1) := by decide +kernel
theorem dX12_copyAll_70 : decode cX12_copyAll 70 = .ok (.getfield 23, 3) := by decide +kernel
theorem dX12_copyAll_73 : decode cX12_copyAll 73 = .ok (.iconst 4, 1) := by decide +kernel
theorem dX12_copyAll_74 : decode cX12_copyAll 74 = .ok (.iload_n 1, 1) := by decide +kernel
theorem dX12_copyAll_75 : decode cX12_copyAll 75 = .ok (.iload_n 2, 1) := by decide +kernel
theorem dX12_copyAll_76 : decode cX12_copyAll 76 = .ok (.invokestatic 115, 3) := by decide +kernel
theorem dX12_copyAll_79 : decode cX12_copyAll 79 = .ok (.aload_n 0, 1) := by decide +kernel
theorem dX12_copyAll_80 : decode cX12_copyAll 80 = .ok (.getfield 26, 3) := by decide +kernel
theorem dX12_copyAll_83 : decode cX12_copyAll 83 = .ok (.bipush 106, 2) := by decide +kernel
theorem dX12_copyAll_85 : decode cX12_copyAll 85 = .ok (.iload_n 1, 1) := by decide +kernel
theorem dX12_copyAll_86 : decode cX12_copyAll 86 = .ok (.iload_n 2, 1) := by decide +kernel
theorem dX12_copyAll_87 : decode cX12_copyAll 87 = .ok (.invokestatic 115, 3) := by decide +kernel
theorem dX12_copyAll_90 : decode cX12_copyAll 90 = .ok (.aload_n 0, 1) := by decide +kernel
theorem dX12_copyAll_91 : decode cX12_copyAll 91 = .ok (.getfield 29, 3) := by decide +kernel
theorem dX12_copyAll_94 : decode cX12_copyAll 94 = .ok (.sipush 242, 3) := by decide +kernel
theorem dX12_copyAll_97 : decode cX12_copyAll 97 = .ok (.iload_n 1, 1) := by decide +kernel
theorem dX12_copyAll_98 : decode cX12_copyAll 98 = .ok (.iload_n 2, 1) := by decide +kernel
theorem dX12_copyAll_99 : decode cX12_copyAll 99 = .ok (.invokestatic 115, 3) := by decide +kernel
theorem dX12_copyAll_102 : decode cX12_copyAll 102 = .ok (.aload_n 0, 1) := by decide +kernel
theorem dX12_copyAll_103 : decode cX12_copyAll 103 = .ok (.getfield 32, 3) := by decide +kernel
theorem dX12_copyAll_106 : decode cX12_copyAll 106 = .ok (.bipush 78, 2) := by decide +kernel
theorem dX12_copyAll_108 : decode cX12_copyAll 108 = .ok (.iload_n 1, 1) := by decide +kernel
theorem dX12_copyAll_109 : decode cX12_copyAll 109 = .ok (.iload_n 2, 1) := by decide +kernel
theorem dX12_copyAll_110 : decode cX12_copyAll 110 = .ok (.invokestatic 115, 3) := by decide +kernel
theorem dX12_copyAll_113 : decode cX12_copyAll 113 = .ok (.aload_n 0, 1) := by decide +kernel
theorem dX12_copyAll_114 : decode cX12_copyAll 114 = .ok (.getfield 35, 3) := by decide +kernel
theorem dX12_copyAll_117 : decode cX12_copyAll 117 = .ok (.bipush 62, 2) := by decide +kernel
theorem dX12_copyAll_119 : decode cX12_copyAll 119 = .ok (.iload_n 1, 1) := by decide +kernel
theorem dX12_copyAll_120 : decode cX12_copyAll 120 = .ok (.iload_n 2, 1) := by decide +kernel
theorem dX12_copyAll_121 : decode cX12_copyAll 121 = .ok (.invokestatic 115, 3) := by decide +kernel
theorem dX12_copyAll_124 : decode cX12_copyAll 124 = .ok (.return_, 1) := by decide +kernel
theorem dX12_is_0 : decode cX12_is 0 = .ok (.iload_n 2, 1) := by decide +kernel
theorem dX12_is_1 : decode cX12_is 1 = .ok (.iconst 0, 1) := by decide +kernel
theorem dX12_is_2 : decode cX12_is 2 = .ok (.aload_n 0, 1) := by decide +kernel
theorem dX12_is_3 : decode cX12_is 3 = .ok (.getfield 23, 3) := by decide +kernel
theorem dX12_is_6 : decode cX12_is 6 = .ok (.iload_n 1, 1) := by decide +kernel
theorem dX12_is_7 : decode cX12_is 7 = .ok (.iaload, 1) := by decide +kernel
theorem dX12_is_8 : decode cX12_is 8 = .ok (.iconst 1, 1) := by decide +kernel
theorem dX12_is_9 : decode cX12_is 9 = .ok (.isub, 1) := by decide +kernel
theorem dX12_is_10 : decode cX12_is 10 = .ok (.invokestatic 119, 3) := by decide +kernel
theorem dX12_is_13 : decode cX12_is 13 = .ok (.ireturn, 1) := by decide +kernel
theorem dX12_feed_0 : decode cX12_feed 0 = .ok (.aload_n 0, 1) := by decide +kernel
theorem dX12_feed_1 : decode cX12_feed 1 = .ok (.iconst 0, 1) := by decide +kernel
theorem dX12_feed_2 : decode cX12_feed 2 = .ok (.putfield 107, 3) := by decide +kernel
theorem dX12_feed_5 : decode cX12_feed 5 = .ok (.aload_n 0, 1) := by decide +kernel
theorem dX12_feed_6 : decode cX12_feed 6 = .ok (.getfield 13, 3) := by decide +kernel
theorem dX12_feed_9 : decode cX12_feed 9 = .ok (.iconst 0, 1) := by decide +kernel
theorem dX12_feed_10 : decode cX12_feed 10 = .ok (.iaload, 1) := by decide +kernel
theorem dX12_feed_11 : decode cX12_feed 11 = .ok (.bipush 20, 2) := by decide +kernel
theorem dX12_feed_13 : decode cX12_feed 13 = .ok (.iadd, 1) := by decide +kernel
theorem dX12_feed_14 : decode cX12_feed 14 = .ok (.sipush 600, 3) := by decide +kernel
theorem dX12_feed_17 : decode cX12_feed 17 = .ok (.if_icmp .le 5, 3) := by decide +kernel
theorem dX12_feed_20 : decode cX12_feed 20 = .ok (.iconst (-1), 1) := by decide +kernel
theorem dX12_feed_21 : decode cX12_feed 21 = .ok (.ireturn, 1) := by decide +kernel
theorem dX12_feed_22 : decode cX12_feed 22 = .ok (.aload_n 0, 1) := by decide +kernel
theorem dX12_feed_23 : decode cX12_feed 23 = .ok (.iload_n 1, 1) := by decide +kernel
theorem dX12_feed_24 : decode cX12_feed 24 = .ok (.invokevirtual 123, 3) := by decide +kernel
theorem dX12_feed_27 : decode cX12_feed 27 = .ok (.aload_n 0, 1) := by decide +kernel
theorem dX12_feed_28 : decode cX12_feed 28 = .ok (.iload_n 2, 1) := by decide +kernel
theorem dX12_feed_29 : decode cX12_feed 29 = .ok (.invokevirtual 123, 3) := by decide +kernel
theorem dX12_feed_32 : decode cX12_feed 32 = .ok (.aload_n 0, 1) := by decide +kernel
theorem dX12_feed_33 : decode cX12_feed 33 = .ok (.iload_n 3, 1) := by decide +kernel
theorem dX12_feed_34 : decode cX12_feed 34 = .ok (.invokevirtual 123, 3) := by decide +kernel
theorem dX12_feed_37 : decode cX12_feed 37 = .ok (.aload_n 0, 1) := by decide +kernel
theorem dX12_feed_38 : decode cX12_feed 38 = .ok (.iload 4, 2) := by decide +kernel
theorem dX12_feed_40 : decode cX12_feed 40 = .ok (.invokevirtual 123, 3) := by decide +kernel
theorem dX12_feed_43 : decode cX12_feed 43 = .ok (.aload_n 0, 1) := by decide +kernel
theorem dX12_feed_44 : decode cX12_feed 44 = .ok (.iload 5, 2) := by decide +kernel
theorem dX12_feed_46 : decode cX12_feed 46 = .ok (.invokevirtual 123, 3) := by decide +kernel
theorem dX12_feed_49 : decode cX12_feed 49 = .ok (.aload_n 0, 1) := by decide +kernel
theorem dX12_feed_50 : decode cX12_feed 50 = .ok (.getfield 13, 3) := by decide +kernel
theorem dX12_feed_53 : decode cX12_feed 53 = .ok (.iconst 0, 1) := by decide +kernel
theorem dX12_feed_54 : decode cX12_feed 54 = .ok (.iaload, 1) := by decide +kernel
theorem dX12_feed_55 : decode cX12_feed 55 = .ok (.ireturn, 1) := by decide +kernel
theorem dX12_four_0 : decode cX12_four 0 = .ok (.bipush 24, 2) := by decide +kernel
theorem dX12_four_2 : decode cX12_four 2 = .ok (.istore_n 2, 1) := by decide +kernel
theorem dX12_four_3 : decode cX12_four 3 = .ok (.iload_n 2, 1) := by decide +kernel
theorem dX12_four_4 : decode cX12_four 4 = .ok (.ifCond .lt 34, 3) := by decide +kernel
theorem dX12_four_7 : decode cX12_four 7 = .ok (.aload_n 0, 1) := by decide +kernel
theorem dX12_four_8 : decode cX12_four 8 = .ok (.getfield 7, 3) := by decide +kernel
theorem dX12_four_11 : decode cX12_four 11 = .ok (.aload_n 0, 1) := by decide +kernel
theorem dX12_four_12 : decode cX12_four 12 = .ok (.getfield 13, 3) := by decide +kernel
theorem dX12_four_15 : decode cX12_four 15 = .ok (.iconst 0, 1) := by decide +kernel
theorem dX12_four_16 : decode cX12_four 16 = .ok (.iaload, 1) := by decide +kernel
theorem dX12_four_17 : decode cX12_four 17 = .ok (.iload_n 1, 1) := by decide +kernel
theorem dX12_four_18 : decode cX12_four 18 = .ok (.iload_n 2, 1) := by decide +kernel
theorem dX12_four_19 : decode cX12_four 19 = .ok (.ishr, 1) := by decide +kernel
theorem dX12_four_20 : decode cX12_four 20 = .ok (.i2b, 1) := by decide +kernel
theorem dX12_four_21 : decode cX12_four 21 = .ok (.bastore, 1) := by decide +kernel
theorem dX12_four_22 : decode cX12_four 22 = .ok (.aload_n 0, 1) := by decide +kernel
theorem dX12_four_23 : decode cX12_four 23 = .ok (.getfield 13, 3) := by decide +kernel
theorem dX12_four_26 : decode cX12_four 26 = .ok (.iconst 0, 1) := by decide +kernel
theorem dX12_four_27 : decode cX12_four 27 = .ok (.dup2, 1) := by decide +kernel
theorem dX12_four_28 : decode cX12_four 28 = .ok (.iaload, 1) := by decide +kernel
theorem dX12_four_29 : decode cX12_four 29 = .ok (.iconst 1, 1) := by decide +kernel
theorem dX12_four_30 : decode cX12_four 30 = .ok (.iadd, 1) := by decide +kernel
theorem dX12_four_31 : decode cX12_four 31 = .ok (.iastore, 1) := by decide +kernel
theorem dX12_four_32 : decode cX12_four 32 = .ok (.iinc 2 (-8), 3) := by decide +kernel
theorem dX12_four_35 : decode cX12_four 35 = .ok (.goto (-32), 3) := by decide +kernel
theorem dX12_four_38 : decode cX12_four 38 = .ok (.return_, 1) := by decide +kernel
theorem dX12_end_0 : decode cX12_end 0 = .ok (.aload_n 0, 1) := by decide +kernel
theorem dX12_end_1 : decode cX12_end 1 = .ok (.iconst 0, 1) := by decide +kernel
theorem dX12_end_2 : decode cX12_end 2 = .ok (.putfield 107, 3) := by decide +kernel
theorem dX12_end_5 : decode cX12_end 5 = .ok (.iload_n 1, 1) := by decide +kernel
theorem dX12_end_6 : decode cX12_end 6 = .ok (.iconst 0, 1) := by decide +kernel
theorem dX12_end_7 : decode cX12_end 7 = .ok (.aload_n 0, 1) := by decide +kernel
theorem dX12_end_8 : decode cX12_end 8 = .ok (.getfield 13, 3) := by decide +kernel
theorem dX12_end_11 : decode cX12_end 11 = .ok (.iconst 0, 1) := by decide +kernel
theorem dX12_end_12 : decode cX12_end 12 = .ok (.iaload, 1) := by decide +kernel
theorem dX12_end_13 : decode cX12_end 13 = .ok (.invokestatic 119, 3) := by decide +kernel
theorem dX12_end_16 : decode cX12_end 16 = .ok (.ifCond .ne 5, 3) := by decide +kernel
theorem dX12_end_19 : decode cX12_end 19 = .ok (.iconst (-1), 1) := by decide +kernel
theorem dX12_end_20 : decode cX12_end 20 = .ok (.ireturn, 1) := by decide +kernel
theorem dX12_end_21 : decode cX12_end 21 = .ok (.aload_n 0, 1) := by decide +kernel
theorem dX12_end_22 : decode cX12_end 22 = .ok (.getfield 13, 3) := by decide +kernel
theorem dX12_end_25 : decode cX12_end 25 = .ok (.iconst 0, 1) := by decide +kernel
theorem dX12_end_26 : decode cX12_end 26 = .ok (.iload_n 1, 1) := by decide +kernel
theorem dX12_end_27 : decode cX12_end 27 = .ok (.iastore, 1) := by decide +kernel
theorem dX12_end_28 : decode cX12_end 28 = .ok (.iload_n 1, 1) := by decide +kernel
theorem dX12_end_29 : decode cX12_end 29 = .ok (.ireturn, 1) := by decide +kernel
theorem dX12_see_0 : decode cX12_see 0 = .ok (.aload_n 0, 1) := by decide +kernel
theorem dX12_see_1 : decode cX12_see 1 = .ok (.getfield 127, 3) := by decide +kernel
theorem dX12_see_4 : decode cX12_see 4 = .ok (.aload_n 0, 1) := by decide +kernel
theorem dX12_see_5 : decode cX12_see 5 = .ok (.getfield 130, 3) := by decide +kernel
theorem dX12_see_8 : decode cX12_see 8 = .ok (.if_icmp .ge 19, 3) := by decide +kernel
theorem dX12_see_11 : decode cX12_see 11 = .ok (.aload_n 0, 1) := by decide +kernel
theorem dX12_see_12 : decode cX12_see 12 = .ok (.getfield 7, 3) := by decide +kernel
theorem dX12_see_15 : decode cX12_see 15 = .ok (.aload_n 0, 1) := by decide +kernel
theorem dX12_see_16 : decode cX12_see 16 = .ok (.getfield 127, 3) := by decide +kernel
theorem dX12_see_19 : decode cX12_see 19 = .ok (.baload, 1) := by decide +kernel
theorem dX12_see_20 : decode cX12_see 20 = .ok (.sipush 255, 3) := by decide +kernel
theorem dX12_see_23 : decode cX12_see 23 = .ok (.iand, 1) := by decide +kernel
theorem dX12_see_24 : decode cX12_see 24 = .ok (.goto 4, 3) := by decide +kernel
theorem dX12_see_27 : decode cX12_see 27 = .ok (.iconst (-1), 1) := by decide +kernel
theorem dX12_see_28 : decode cX12_see 28 = .ok (.ireturn, 1) := by decide +kernel
theorem dX12_token_0 : decode cX12_token 0 = .ok (.aload_n 0, 1) := by decide +kernel
theorem dX12_token_1 : decode cX12_token 1 = .ok (.invokevirtual 133, 3) := by decide +kernel
theorem dX12_token_4 : decode cX12_token 4 = .ok (.bipush 10, 2) := by decide +kernel
theorem dX12_token_6 : decode cX12_token 6 = .ok (.if_icmp .eq 12, 3) := by decide +kernel
theorem dX12_token_9 : decode cX12_token 9 = .ok (.aload_n 0, 1) := by decide +kernel
theorem dX12_token_10 : decode cX12_token 10 = .ok (.invokevirtual 133, 3) := by decide +kernel
theorem dX12_token_13 : decode cX12_token 13 = .ok (.bipush 32, 2) := by decide +kernel
theorem dX12_token_15 : decode cX12_token 15 = .ok (.if_icmp .ne 16, 3) := by decide +kernel
theorem dX12_token_18 : decode cX12_token 18 = .ok (.aload_n 0, 1) := by decide +kernel
theorem dX12_token_19 : decode cX12_token 19 = .ok (.dup, 1) := by decide +kernel
theorem dX12_token_20 : decode cX12_token 20 = .ok (.getfield 127, 3) := by decide +kernel
theorem dX12_token_23 : decode cX12_token 23 = .ok (.iconst 1, 1) := by decide +kernel
theorem dX12_token_24 : decode cX12_token 24 = .ok (.iadd, 1) := by decide +kernel
theorem dX12_token_25 : decode cX12_token 25 = .ok (.putfield 127, 3) := by decide +kernel
theorem dX12_token_28 : decode cX12_token 28 = .ok (.goto (-28), 3) := by decide +kernel
theorem dX12_token_31 : decode cX12_token 31 = .ok (.aload_n 0, 1) := by decide +kernel
theorem dX12_token_32 : decode cX12_token 32 = .ok (.aload_n 0, 1) := by decide +kernel
theorem dX12_token_33 : decode cX12_token 33 = .ok (.getfield 127, 3) := by decide +kernel
theorem dX12_token_36 : decode cX12_token 36 = .ok (.putfield 137, 3) := by decide +kernel
theorem dX12_token_39 : decode cX12_token 39 = .ok (.aload_n 0, 1) := by decide +kernel
theorem dX12_token_40 : decode cX12_token 40 = .ok (.invokevirtual 133, 3) := by decide +kernel
theorem dX12_token_43 : decode cX12_token 43 = .ok (.istore_n 1, 1) := by decide +kernel
theorem dX12_token_44 : decode cX12_token 44 = .ok (.aload_n 0, 1) := by decide +kernel
theorem dX12_token_45 : decode cX12_token 45 = .ok (.lconst 0, 1) := by decide +kernel
theorem dX12_token_46 : decode cX12_token 46 = .ok (.putfield 140, 3) := by decide +kernel
theorem dX12_token_49 : decode cX12_token 49 = .ok (.iconst 0, 1) := by decide +kernel
theorem dX12_token_50 : decode cX12_token 50 = .ok (.istore_n 2, 1) := by decide +kernel
theorem dX12_token_51 : decode cX12_token 51 = .ok (.iload_n 1, 1) := by decide +kernel
theorem dX12_token_52 : decode cX12_token 52 = .ok (.ifCond .ge 11, 3) := by decide +kernel
theorem dX12_token_55 : decode cX12_token 55 = .ok (.aload_n 0, 1) := by decide +kernel
theorem dX12_token_56 : decode cX12_token 56 = .ok (.iconst 0, 1) := by decide +kernel
theorem dX12_token_57 : decode cX12_token 57 = .ok (.putfield 144, 3) := by decide +kernel
theorem dX12_token_60 : decode cX12_token 60 = .ok (.goto 206, 3) := by decide +kernel
theorem dX12_token_63 : decode cX12_token 63 = .ok (.iload_n 1, 1) := by decide +kernel
theorem dX12_token_64 : decode cX12_token 64 = .ok (.bipush 97, 2) := by decide +kernel
theorem dX12_token_66 : decode cX12_token 66 = .ok (.bipush 122, 2) := by decide +kernel
theorem dX12_token_68 : decode cX12_token 68 = .ok (.invokestatic 119, 3) := by decide +kernel
theorem dX12_token_71 : decode cX12_token 71 = .ok (.ifCond .eq 76, 3) := by decide +kernel
theorem dX12_token_74 : decode cX12_token 74 = .ok (.aload_n 0, 1) := by decide +kernel
theorem dX12_token_75 : decode cX12_token 75 = .ok (.invokevirtual 133, 3) := by decide +kernel
theorem dX12_token_78 : decode cX12_token 78 = .ok (.bipush 97, 2) := by decide +kernel
theorem dX12_token_80 : decode cX12_token 80 = .ok (.bipush 122, 2) := by decide +kernel
theorem dX12_token_82 : decode cX12_token 82 = .ok (.invokestatic 119, 3) := by decide +kernel
theorem dX12_token_85 : decode cX12_token 85 = .ok (.ifCond .eq 36, 3) := by decide +kernel
theorem dX12_token_88 : decode cX12_token 88 = .ok (.aload_n 0, 1) := by decide +kernel
theorem dX12_token_89 : decode cX12_token 89 = .ok (.aload_n 0, 1) := by decide +kernel
theorem dX12_token_90 : decode cX12_token 90 = .ok (.getfield 140, 3) := by decide +kernel
theorem dX12_token_93 : decode cX12_token 93 = .ok (.bipush 8, 2) := by decide +kernel
theorem dX12_token_95 : decode cX12_token 95 = .ok (.lshl, 1) := by decide +kernel
theorem dX12_token_96 : decode cX12_token 96 = .ok (.aload_n 0, 1) := by decide +kernel
theorem dX12_token_97 : decode cX12_token 97 = .ok (.invokevirtual 133, 3) := by decide +kernel
theorem dX12_token_100 : decode cX12_token 100 = .ok (.i2l, 1) := by decide +kernel
theorem dX12_token_101 : decode cX12_token 101 = .ok (.lor, 1) := by decide +kernel
theorem dX12_token_102 : decode cX12_token 102 = .ok (.putfield 140, 3) := by decide +kernel
theorem dX12_token_105 : decode cX12_token 105 = .ok (.aload_n 0, 1) := by decide +kernel
theorem dX12_token_106 : decode cX12_token 106 = .ok (.dup, 1) := by decide +kernel
theorem dX12_token_107 : decode cX12_token 107 = .ok (.getfield 127, 3) := by decide +kernel
theorem dX12_token_110 : decode cX12_token 110 = .ok (.iconst 1, 1) := by decide +kernel
theorem dX12_token_111 : decode cX12_token 111 = .ok (.iadd, 1) := by decide +kernel
theorem dX12_token_112 : decode cX12_token 112 = .ok (.putfield 127, 3) := by decide +kernel
theorem dX12_token_115 : decode cX12_token 115 = .ok (.iinc 2 1, 3) := by decide +kernel
theorem dX12_token_118 : decode cX12_token 118 = .ok (.goto (-44), 3) := by decide +kernel
theorem dX12_token_121 : decode cX12_token 121 = .ok (.aload_n 0, 1) := by decide +kernel
theorem dX12_token_122 : decode cX12_token 122 = .ok (.iload_n 2, 1) := by decide +kernel
theorem dX12_token_123 : decode cX12_token 123 = .ok (.bipush 8, 2) := by decide +kernel
theorem dX12_token_125 : decode cX12_token 125 = .ok (.if_icmp .le 7, 3) := by decide +kernel
theorem dX12_token_128 : decode cX12_token 128 = .ok (.lconst 0, 1) := by decide +kernel
theorem dX12_token_129 : decode cX12_token 129 = .ok (.goto 7, 3) := by decide +kernel
theorem dX12_token_132 : decode cX12_token 132 = .ok (.aload_n 0, 1) := by decide +kernel
theorem dX12_token_133 : decode cX12_token 133 = .ok (.getfield 140, 3) := by decide +kernel
theorem dX12_token_136 : decode cX12_token 136 = .ok (.putfield 140, 3) := by decide +kernel
theorem dX12_token_139 : decode cX12_token 139 = .ok (.aload_n 0, 1) := by decide +kernel
theorem dX12_token_140 : decode cX12_token 140 = .ok (.iconst 2, 1) := by decide +kernel
theorem dX12_token_141 : decode cX12_token 141 = .ok (.putfield 144, 3) := by decide +kernel
theorem dX12_token_144 : decode cX12_token 144 = .ok (.goto 122, 3) := by decide +kernel
theorem dX12_token_147 : decode cX12_token 147 = .ok (.iload_n 1, 1) := by decide +kernel
theorem dX12_token_148 : decode cX12_token 148 = .ok (.bipush 48, 2) := by decide +kernel
theorem dX12_token_150 : decode cX12_token 150 = .ok (.bipush 57, 2) := by decide +kernel
theorem dX12_token_152 : decode cX12_token 152 = .ok (.invokestatic 119, 3) := by decide +kernel
theorem dX12_token_155 : decode cX12_token 155 = .ok (.ifCond .eq 86, 3) := by decide +kernel
theorem dX12_token_158 : decode cX12_token 158 = .ok (.aload_n 0, 1) := by decide +kernel
theorem dX12_token_159 : decode cX12_token 159 = .ok (.iconst 0, 1) := by decide +kernel
theorem dX12_token_160 : decode cX12_token 160 = .ok (.putfield 147, 3) := by decide +kernel
theorem dX12_token_163 : decode cX12_token 163 = .ok (.aload_n 0, 1) := by decide +kernel
theorem dX12_token_164 : decode cX12_token 164 = .ok (.invokevirtual 133, 3) := by decide +kernel
theorem dX12_token_167 : decode cX12_token 167 = .ok (.bipush 48, 2) := by decide +kernel
theorem dX12_token_169 : decode cX12_token 169 = .ok (.bipush 57, 2) := by decide +kernel
theorem dX12_token_171 : decode cX12_token 171 = .ok (.invokestatic 119, 3) := by decide +kernel
theorem dX12_token_174 : decode cX12_token 174 = .ok (.ifCond .eq 50, 3) := by decide +kernel
theorem dX12_token_177 : decode cX12_token 177 = .ok (.aload_n 0, 1) := by decide +kernel
theorem dX12_token_178 : decode cX12_token 178 = .ok (.iload_n 2, 1) := by decide +kernel
theorem dX12_token_179 : decode cX12_token 179 = .ok (.iconst 2, 1) := by decide +kernel
theorem dX12_token_180 : decode cX12_token 180 = .ok (.if_icmp .ge 21, 3) := by decide +kernel
theorem dX12_token_183 : decode cX12_token 183 = .ok (.bipush 10, 2) := by decide +kernel
theorem dX12_token_185 : decode cX12_token 185 = .ok (.aload_n 0, 1) := by decide +kernel
theorem dX12_token_186 : decode cX12_token 186 = .ok (.getfield 147, 3) := by decide +kernel
theorem dX12_token_189 : decode cX12_token 189 = .ok (.imul, 1) := by decide +kernel
theorem dX12_token_190 : decode cX12_token 190 = .ok (.aload_n 0, 1) := by decide +kernel
theorem dX12_token_191 : decode cX12_token 191 = .ok (.invokevirtual 133, 3) := by decide +kernel
theorem dX12_token_194 : decode cX12_token 194 = .ok (.iadd, 1) := by decide +kernel
theorem dX12_token_195 : decode cX12_token 195 = .ok (.bipush 48, 2) := by decide +kernel
theorem dX12_token_197 : decode cX12_token 197 = .ok (.isub, 1) := by decide +kernel
theorem dX12_token_198 : decode cX12_token 198 = .ok (.goto 7, 3) := by decide +kernel
theorem dX12_token_201 : decode cX12_token 201 = .ok (.aload_n 0, 1) := by decide +kernel
theorem dX12_token_202 : decode cX12_token 202 = .ok (.getfield 147, 3) := by decide +kernel
theorem dX12_token_205 : decode cX12_token 205 = .ok (.putfield 147, 3) := by decide +kernel
theorem dX12_token_208 : decode cX12_token 208 = .ok (.aload_n 0, 1) := by decide +kernel
theorem dX12_token_209 : decode cX12_token 209 = .ok (.dup, 1) := by decide +kernel
theorem dX12_token_210 : decode cX12_token 210 = .ok (.getfield 127, 3) := by decide +kernel
theorem dX12_token_213 : decode cX12_token 213 = .ok (.iconst 1, 1) := by decide +kernel
theorem dX12_token_214 : decode cX12_token 214 = .ok (.iadd, 1) := by decide +kernel
theorem dX12_token_215 : decode cX12_token 215 = .ok (.putfield 127, 3) := by decide +kernel
theorem dX12_token_218 : decode cX12_token 218 = .ok (.iinc 2 1, 3) := by decide +kernel
theorem dX12_token_221 : decode cX12_token 221 = .ok (.goto (-58), 3) := by decide +kernel
theorem dX12_token_224 : decode cX12_token 224 = .ok (.aload_n 0, 1) := by decide +kernel
theorem dX12_token_225 : decode cX12_token 225 = .ok (.iload_n 2, 1) := by decide +kernel
theorem dX12_token_226 : decode cX12_token 226 = .ok (.iconst 2, 1) := by decide +kernel
theorem dX12_token_227 : decode cX12_token 227 = .ok (.if_icmp .le 7, 3) := by decide +kernel
theorem dX12_token_230 : decode cX12_token 230 = .ok (.iconst 1, 1) := by decide +kernel
theorem dX12_token_231 : decode cX12_token 231 = .ok (.goto 4, 3) := by decide +kernel
theorem dX12_token_234 : decode cX12_token 234 = .ok (.iconst 3, 1) := by decide +kernel
theorem dX12_token_235 : decode cX12_token 235 = .ok (.putfield 144, 3) := by decide +kernel
theorem dX12_token_238 : decode cX12_token 238 = .ok (.goto 28, 3) := by decide +kernel
theorem dX12_token_241 : decode cX12_token 241 = .ok (.aload_n 0, 1) := by decide +kernel
theorem dX12_token_242 : decode cX12_token 242 = .ok (.dup, 1) := by decide +kernel
theorem dX12_token_243 : decode cX12_token 243 = .ok (.getfield 127, 3) := by decide +kernel
theorem dX12_token_246 : decode cX12_token 246 = .ok (.iconst 1, 1) := by decide +kernel
theorem dX12_token_247 : decode cX12_token 247 = .ok (.iadd, 1) := by decide +kernel
theorem dX12_token_248 : decode cX12_token 248 = .ok (.putfield 127, 3) := by decide +kernel
theorem dX12_token_251 : decode cX12_token 251 = .ok (.aload_n 0, 1) := by decide +kernel
theorem dX12_token_252 : decode cX12_token 252 = .ok (.iload_n 1, 1) := by decide +kernel
theorem dX12_token_253 : decode cX12_token 253 = .ok (.bipush 59, 2) := by decide +kernel
theorem dX12_token_255 : decode cX12_token 255 = .ok (.if_icmp .ne 7, 3) := by decide +kernel
theorem dX12_token_258 : decode cX12_token 258 = .ok (.iconst 4, 1) := by decide +kernel
theorem dX12_token_259 : decode cX12_token 259 = .ok (.goto 4, 3) := by decide +kernel
theorem dX12_token_262 : decode cX12_token 262 = .ok (.iconst 1, 1) := by decide +kernel
theorem dX12_token_263 : decode cX12_token 263 = .ok (.putfield 144, 3) := by decide +kernel
theorem dX12_token_266 : decode cX12_token 266 = .ok (.return_, 1) := by decide +kernel
theorem dX12_fails_0 : decode cX12_fails 0 = .ok (.aload_n 0, 1) := by decide +kernel
theorem dX12_fails_1 : decode cX12_fails 1 = .ok (.aload_n 0, 1) := by decide +kernel
theorem dX12_fails_2 : decode cX12_fails 2 = .ok (.getfield 137, 3) := by decide +kernel
theorem dX12_fails_5 : decode cX12_fails 5 = .ok (.putfield 150, 3) := by decide +kernel
theorem dX12_fails_8 : decode cX12_fails 8 = .ok (.iconst 0, 1) := by decide +kernel
theorem dX12_fails_9 : decode cX12_fails 9 = .ok (.ireturn, 1) := by decide +kernel
theorem dX12_later_0 : decode cX12_later 0 = .ok (.aload_n 0, 1) := by decide +kernel
theorem dX12_later_1 : decode cX12_later 1 = .ok (.getfield 153, 3) := by decide +kernel
theorem dX12_later_4 : decode cX12_later 4 = .ok (.ifCond .eq 27, 3) := by decide +kernel
theorem dX12_later_7 : decode cX12_later 7 = .ok (.iload_n 2, 1) := by decide +kernel
theorem dX12_later_8 : decode cX12_later 8 = .ok (.aload_n 0, 1) := by decide +kernel
theorem dX12_later_9 : decode cX12_later 9 = .ok (.getfield 156, 3) := by decide +kernel
theorem dX12_later_12 : decode cX12_later 12 = .ok (.if_icmp .lt 19, 3) := by decide +kernel
theorem dX12_later_15 : decode cX12_later 15 = .ok (.iload_n 2, 1) := by decide +kernel
theorem dX12_later_16 : decode cX12_later 16 = .ok (.aload_n 0, 1) := by decide +kernel
theorem dX12_later_17 : decode cX12_later 17 = .ok (.getfield 156, 3) := by decide +kernel
theorem dX12_later_20 : decode cX12_later 20 = .ok (.if_icmp .ne 21, 3) := by decide +kernel
theorem dX12_later_23 : decode cX12_later 23 = .ok (.iload_n 1, 1) := by decide +kernel
theorem dX12_later_24 : decode cX12_later 24 = .ok (.aload_n 0, 1) := by decide +kernel
theorem dX12_later_25 : decode cX12_later 25 = .ok (.getfield 153, 3) := by decide +kernel
theorem dX12_later_28 : decode cX12_later 28 = .ok (.if_icmp .ge 13, 3) := by decide +kernel
theorem dX12_later_31 : decode cX12_later 31 = .ok (.aload_n 0, 1) := by decide +kernel
theorem dX12_later_32 : decode cX12_later 32 = .ok (.iload_n 1, 1) := by decide +kernel
theorem dX12_later_33 : decode cX12_later 33 = .ok (.putfield 153, 3) := by decide +kernel
theorem dX12_later_36 : decode cX12_later 36 = .ok (.aload_n 0, 1) := by decide +kernel
theorem dX12_later_37 : decode cX12_later 37 = .ok (.iload_n 2, 1) := by decide +kernel
theorem dX12_later_38 : decode cX12_later 38 = .ok (.putfield 156, 3) := by decide +kernel
theorem dX12_later_41 : decode cX12_later 41 = .ok (.return_, 1) := by decide +kernel
theorem dX12_take_0 : decode cX12_take 0 = .ok (.aload_n 0, 1) := by decide +kernel
theorem dX12_take_1 : decode cX12_take 1 = .ok (.getfield 144, 3) := by decide +kernel
theorem dX12_take_4 : decode cX12_take 4 = .ok (.iconst 3, 1) := by decide +kernel
theorem dX12_take_5 : decode cX12_take 5 = .ok (.if_icmp .eq 8, 3) := by decide +kernel
theorem dX12_take_8 : decode cX12_take 8 = .ok (.aload_n 0, 1) := by decide +kernel
theorem dX12_take_9 : decode cX12_take 9 = .ok (.invokevirtual 159, 3) := by decide +kernel
theorem dX12_take_12 : decode cX12_take 12 = .ok (.ireturn, 1) := by decide +kernel
theorem dX12_take_13 : decode cX12_take 13 = .ok (.aload_n 0, 1) := by decide +kernel
theorem dX12_take_14 : decode cX12_take 14 = .ok (.getfield 41, 3) := by decide +kernel
theorem dX12_take_17 : decode cX12_take 17 = .ok (.iload_n 1, 1) := by decide +kernel
theorem dX12_take_18 : decode cX12_take 18 = .ok (.aload_n 0, 1) := by decide +kernel
theorem dX12_take_19 : decode cX12_take 19 = .ok (.getfield 147, 3) := by decide +kernel
theorem dX12_take_22 : decode cX12_take 22 = .ok (.iastore, 1) := by decide +kernel
theorem dX12_take_23 : decode cX12_take 23 = .ok (.aload_n 0, 1) := by decide +kernel
theorem dX12_take_24 : decode cX12_take 24 = .ok (.getfield 147, 3) := by decide +kernel
theorem dX12_take_27 : decode cX12_take 27 = .ok (.iload_n 2, 1) := by decide +kernel
theorem dX12_take_28 : decode cX12_take 28 = .ok (.iload_n 3, 1) := by decide +kernel
theorem dX12_take_29 : decode cX12_take 29 = .ok (.invokestatic 119, 3) := by decide +kernel
theorem dX12_take_32 : decode cX12_take 32 = .ok (.ifCond .ne 17, 3) := by decide +kernel
theorem dX12_take_35 : decode cX12_take 35 = .ok (.aload_n 0, 1) := by decide +kernel
theorem dX12_take_36 : decode cX12_take 36 = .ok (.iconst 2, 1) := by decide +kernel
theorem dX12_take_37 : decode cX12_take 37 = .ok (.aload_n 0, 1) := by decide +kernel
theorem dX12_take_38 : decode cX12_take 38 = .ok (.getfield 137, 3) := by decide +kernel
theorem dX12_take_41 : decode cX12_take 41 = .ok (.invokevirtual 163, 3) := by decide +kernel
theorem dX12_take_44 : decode cX12_take 44 = .ok (.aload_n 0, 1) := by decide +kernel
theorem dX12_take_45 : decode cX12_take 45 = .ok (.iconst 0, 1) := by decide +kernel
theorem dX12_take_46 : decode cX12_take 46 = .ok (.putfield 167, 3) := by decide +kernel
theorem dX12_take_49 : decode cX12_take 49 = .ok (.aload_n 0, 1) := by decide +kernel
theorem dX12_take_50 : decode cX12_take 50 = .ok (.invokevirtual 171, 3) := by decide +kernel
theorem dX12_take_53 : decode cX12_take 53 = .ok (.iconst 1, 1) := by decide +kernel
theorem dX12_take_54 : decode cX12_take 54 = .ok (.ireturn, 1) := by decide +kernel
theorem dX12_takeCell_0 : decode cX12_takeCell 0 = .ok (.aload_n 0, 1) := by decide +kernel
theorem dX12_takeCell_1 : decode cX12_takeCell 1 = .ok (.iload_n 1, 1) := by decide +kernel
theorem dX12_takeCell_2 : decode cX12_takeCell 2 = .ok (.iconst 0, 1) := by decide +kernel
theorem dX12_takeCell_3 : decode cX12_takeCell 3 = .ok (.bipush 7, 2) := by decide +kernel
theorem dX12_takeCell_5 : decode cX12_takeCell 5 = .ok (.invokevirtual 174, 3) := by decide +kernel
theorem dX12_takeCell_8 : decode cX12_takeCell 8 = .ok (.ifCond .eq 16, 3) := by decide +kernel
theorem dX12_takeCell_11 : decode cX12_takeCell 11 = .ok (.aload_n 0, 1) := by decide +kernel
theorem dX12_takeCell_12 : decode cX12_takeCell 12 = .ok (.iload_n 1, 1) := by decide +kernel
theorem dX12_takeCell_13 : decode cX12_takeCell 13 = .ok (.iconst 1, 1) := by decide +kernel
theorem dX12_takeCell_14 : decode cX12_takeCell 14 = .ok (.iadd, 1) := by decide +kernel
theorem dX12_takeCell_15 : decode cX12_takeCell 15 = .ok (.iconst 0, 1) := by decide +kernel
theorem dX12_takeCell_16 : decode cX12_takeCell 16 = .ok (.bipush 7, 2) := by decide +kernel
theorem dX12_takeCell_18 : decode cX12_takeCell 18 = .ok (.invokevirtual 174, 3) := by decide +kernel
theorem dX12_takeCell_21 : decode cX12_takeCell 21 = .ok (.ifCond .ne 5, 3) := by decide +kernel
theorem dX12_takeCell_24 : decode cX12_takeCell 24 = .ok (.iconst 0, 1) := by decide +kernel
theorem dX12_takeCell_25 : decode cX12_takeCell 25 = .ok (.ireturn, 1) := by decide +kernel
theorem dX12_takeCell_26 : decode cX12_takeCell 26 = .ok (.aload_n 0, 1) := by decide +kernel
theorem dX12_takeCell_27 : decode cX12_takeCell 27 = .ok (.aload_n 0, 1) := by decide +kernel
theorem dX12_takeCell_28 : decode cX12_takeCell 28 = .ok (.getfield 177, 3) := by decide +kernel
theorem dX12_takeCell_31 : decode cX12_takeCell 31 = .ok (.aload_n 0, 1) := by decide +kernel
theorem dX12_takeCell_32 : decode cX12_takeCell 32 = .ok (.getfield 41, 3) := by decide +kernel
theorem dX12_takeCell_35 : decode cX12_takeCell 35 = .ok (.iload_n 1, 1) := by decide +kernel
theorem dX12_takeCell_36 : decode cX12_takeCell 36 = .ok (.iaload, 1) := by decide +kernel
theorem dX12_takeCell_37 : decode cX12_takeCell 37 = .ok (.invokestatic 180, 3) := by decide +kernel
theorem dX12_takeCell_40 : decode cX12_takeCell 40 = .ok (.putfield 177, 3) := by decide +kernel
theorem dX12_takeCell_43 : decode cX12_takeCell 43 = .ok (.aload_n 0, 1) := by decide +kernel
theorem dX12_takeCell_44 : decode cX12_takeCell 44 = .ok (.aload_n 0, 1) := by decide +kernel
theorem dX12_takeCell_45 : decode cX12_takeCell 45 = .ok (.getfield 184, 3) := by decide +kernel
theorem dX12_takeCell_48 : decode cX12_takeCell 48 = .ok (.aload_n 0, 1) := by decide +kernel
theorem dX12_takeCell_49 : decode cX12_takeCell 49 = .ok (.getfield 41, 3) := by decide +kernel
theorem dX12_takeCell_52 : decode cX12_takeCell 52 = .ok (.iload_n 1, 1) := by decide +kernel
theorem dX12_takeCell_53 : decode cX12_takeCell 53 = .ok (.iconst 1, 1) := by decide +kernel
theorem dX12_takeCell_54 : decode cX12_takeCell 54 = .ok (.iadd, 1) := by decide +kernel
theorem dX12_takeCell_55 : decode cX12_takeCell 55 = .ok (.iaload, 1) := by decide +kernel
theorem dX12_takeCell_56 : decode cX12_takeCell 56 = .ok (.invokestatic 180, 3) := by decide +kernel
theorem dX12_takeCell_59 : decode cX12_takeCell 59 = .ok (.putfield 184, 3) := by decide +kernel
theorem dX12_takeCell_62 : decode cX12_takeCell 62 = .ok (.iconst 1, 1) := by decide +kernel
theorem dX12_takeCell_63 : decode cX12_takeCell 63 = .ok (.ireturn, 1) := by decide +kernel
theorem dX12_full_0 : decode cX12_full 0 = .ok (.aload_n 0, 1) := by decide +kernel
theorem dX12_full_1 : decode cX12_full 1 = .ok (.getfield 38, 3) := by decide +kernel
theorem dX12_full_4 : decode cX12_full 4 = .ok (.iload_n 1, 1) := by decide +kernel
theorem dX12_full_5 : decode cX12_full 5 = .ok (.iaload, 1) := by decide +kernel
theorem dX12_full_6 : decode cX12_full 6 = .ok (.iload_n 2, 1) := by decide +kernel
theorem dX12_full_7 : decode cX12_full 7 = .ok (.if_icmp .ne 9, 3) := by decide +kernel
theorem dX12_full_10 : decode cX12_full 10 = .ok (.aload_n 0, 1) := by decide +kernel
theorem dX12_full_11 : decode cX12_full 11 = .ok (.iconst 3, 1) := by decide +kernel
theorem dX12_full_12 : decode cX12_full 12 = .ok (.iload_n 3, 1) := by decide +kernel
theorem dX12_full_13 : decode cX12_full 13 = .ok (.invokevirtual 163, 3) := by decide +kernel
theorem dX12_full_16 : decode cX12_full 16 = .ok (.return_, 1) := by decide +kernel
theorem dX12_tuneBy_0 : decode cX12_tuneBy 0 = .ok (.lload_n 0, 1) := by decide +kernel
theorem dX12_tuneBy_1 : decode cX12_tuneBy 1 = .ok (.ldc2_w 187, 3) := by decide +kernel
theorem dX12_tuneBy_4 : decode cX12_tuneBy 4 = .ok (.lcmp, 1) := by decide +kernel
theorem dX12_tuneBy_5 : decode cX12_tuneBy 5 = .ok (.ifCond .ne 7, 3) := by decide +kernel
theorem dX12_tuneBy_8 : decode cX12_tuneBy 8 = .ok (.iconst 0, 1) := by decide +kernel
theorem dX12_tuneBy_9 : decode cX12_tuneBy 9 = .ok (.goto 40, 3) := by decide +kernel
theorem dX12_tuneBy_12 : decode cX12_tuneBy 12 = .ok (.lload_n 0, 1) := by decide +kernel
theorem dX12_tuneBy_13 : decode cX12_tuneBy 13 = .ok (.ldc2_w 189, 3) := by decide +kernel
theorem dX12_tuneBy_16 : decode cX12_tuneBy 16 = .ok (.lcmp, 1) := by decide +kernel
theorem dX12_tuneBy_17 : decode cX12_tuneBy 17 = .ok (.ifCond .ne 7, 3) := by decide +kernel
theorem dX12_tuneBy_20 : decode cX12_tuneBy 20 = .ok (.iconst 1, 1) := by decide +kernel
theorem dX12_tuneBy_21 : decode cX12_tuneBy 21 = .ok (.goto 28, 3) := by decide +kernel
theorem dX12_tuneBy_24 : decode cX12_tuneBy 24 = .ok (.lload_n 0, 1) := by decide +kernel
theorem dX12_tuneBy_25 : decode cX12_tuneBy 25 = .ok (.ldc2_w 191, 3) := by decide +kernel
theorem dX12_tuneBy_28 : decode cX12_tuneBy 28 = .ok (.lcmp, 1) := by decide +kernel
theorem dX12_tuneBy_29 : decode cX12_tuneBy 29 = .ok (.ifCond .ne 7, 3) := by decide +kernel
theorem dX12_tuneBy_32 : decode cX12_tuneBy 32 = .ok (.iconst 2, 1) := by decide +kernel
theorem dX12_tuneBy_33 : decode cX12_tuneBy 33 = .ok (.goto 16, 3) := by decide +kernel
theorem dX12_tuneBy_36 : decode cX12_tuneBy 36 = .ok (.lload_n 0, 1) := by decide +kernel
theorem dX12_tuneBy_37 : decode cX12_tuneBy 37 = .ok (.ldc2_w 193, 3) := by decide +kernel
theorem dX12_tuneBy_40 : decode cX12_tuneBy 40 = .ok (.lcmp, 1) := by decide +kernel
theorem dX12_tuneBy_41 : decode cX12_tuneBy 41 = .ok (.ifCond .ne 7, 3) := by decide +kernel
theorem dX12_tuneBy_44 : decode cX12_tuneBy 44 = .ok (.iconst 3, 1) := by decide +kernel
theorem dX12_tuneBy_45 : decode cX12_tuneBy 45 = .ok (.goto 4, 3) := by decide +kernel
theorem dX12_tuneBy_48 : decode cX12_tuneBy 48 = .ok (.iconst (-1), 1) := by decide +kernel
theorem dX12_tuneBy_49 : decode cX12_tuneBy 49 = .ok (.ireturn, 1) := by decide +kernel
theorem dX12_kindBy_0 : decode cX12_kindBy 0 = .ok (.lload_n 0, 1) := by decide +kernel
theorem dX12_kindBy_1 : decode cX12_kindBy 1 = .ok (.ldc2_w 195, 3) := by decide +kernel
theorem dX12_kindBy_4 : decode cX12_kindBy 4 = .ok (.lcmp, 1) := by decide +kernel
theorem dX12_kindBy_5 : decode cX12_kindBy 5 = .ok (.ifCond .ne 7, 3) := by decide +kernel
theorem dX12_kindBy_8 : decode cX12_kindBy 8 = .ok (.iconst 0, 1) := by decide +kernel
theorem dX12_kindBy_9 : decode cX12_kindBy 9 = .ok (.goto 40, 3) := by decide +kernel
theorem dX12_kindBy_12 : decode cX12_kindBy 12 = .ok (.lload_n 0, 1) := by decide +kernel
theorem dX12_kindBy_13 : decode cX12_kindBy 13 = .ok (.ldc2_w 197, 3) := by decide +kernel
theorem dX12_kindBy_16 : decode cX12_kindBy 16 = .ok (.lcmp, 1) := by decide +kernel
theorem dX12_kindBy_17 : decode cX12_kindBy 17 = .ok (.ifCond .ne 7, 3) := by decide +kernel
theorem dX12_kindBy_20 : decode cX12_kindBy 20 = .ok (.iconst 1, 1) := by decide +kernel
theorem dX12_kindBy_21 : decode cX12_kindBy 21 = .ok (.goto 28, 3) := by decide +kernel
theorem dX12_kindBy_24 : decode cX12_kindBy 24 = .ok (.lload_n 0, 1) := by decide +kernel
theorem dX12_kindBy_25 : decode cX12_kindBy 25 = .ok (.ldc2_w 199, 3) := by decide +kernel
theorem dX12_kindBy_28 : decode cX12_kindBy 28 = .ok (.lcmp, 1) := by decide +kernel
theorem dX12_kindBy_29 : decode cX12_kindBy 29 = .ok (.ifCond .ne 7, 3) := by decide +kernel
theorem dX12_kindBy_32 : decode cX12_kindBy 32 = .ok (.iconst 2, 1) := by decide +kernel
theorem dX12_kindBy_33 : decode cX12_kindBy 33 = .ok (.goto 16, 3) := by decide +kernel
theorem dX12_kindBy_36 : decode cX12_kindBy 36 = .ok (.lload_n 0, 1) := by decide +kernel
theorem dX12_kindBy_37 : decode cX12_kindBy 37 = .ok (.ldc2_w 201, 3) := by decide +kernel
theorem dX12_kindBy_40 : decode cX12_kindBy 40 = .ok (.lcmp, 1) := by decide +kernel
theorem dX12_kindBy_41 : decode cX12_kindBy 41 = .ok (.ifCond .ne 7, 3) := by decide +kernel
theorem dX12_kindBy_44 : decode cX12_kindBy 44 = .ok (.iconst 3, 1) := by decide +kernel
theorem dX12_kindBy_45 : decode cX12_kindBy 45 = .ok (.goto 4, 3) := by decide +kernel
theorem dX12_kindBy_48 : decode cX12_kindBy 48 = .ok (.iconst (-1), 1) := by decide +kernel
theorem dX12_kindBy_49 : decode cX12_kindBy 49 = .ok (.ireturn, 1) := by decide +kernel
theorem dX12_commandBy_0 : decode cX12_commandBy 0 = .ok (.lload_n 0, 1) := by decide +kernel
theorem dX12_commandBy_1 : decode cX12_commandBy 1 = .ok (.ldc2_w 203, 3) := by decide +kernel
theorem dX12_commandBy_4 : decode cX12_commandBy 4 = .ok (.lcmp, 1) := by decide +kernel
theorem dX12_commandBy_5 : decode cX12_commandBy 5 = .ok (.ifCond .ne 7, 3) := by decide +kernel
theorem dX12_commandBy_8 : decode cX12_commandBy 8 = .ok (.iconst 0, 1) := by decide +kernel
theorem dX12_commandBy_9 : decode cX12_commandBy 9 = .ok (.goto 40, 3) := by decide +kernel
theorem dX12_commandBy_12 : decode cX12_commandBy 12 = .ok (.lload_n 0, 1) := by decide +kernel
theorem dX12_commandBy_13 : decode cX12_commandBy 13 = .ok (.ldc2_w 205, 3) := by decide +kernel
theorem dX12_commandBy_16 : decode cX12_commandBy 16 = .ok (.lcmp, 1) := by decide +kernel
theorem dX12_commandBy_17 : decode cX12_commandBy 17 = .ok (.ifCond .ne 7, 3) := by decide +kernel
theorem dX12_commandBy_20 : decode cX12_commandBy 20 = .ok (.iconst 1, 1) := by decide +kernel
theorem dX12_commandBy_21 : decode cX12_commandBy 21 = .ok (.goto 28, 3) := by decide +kernel
theorem dX12_commandBy_24 : decode cX12_commandBy 24 = .ok (.lload_n 0, 1) := by decide +kernel
theorem dX12_commandBy_25 : decode cX12_commandBy 25 = .ok (.ldc2_w 207, 3) := by decide +kernel
theorem dX12_commandBy_28 : decode cX12_commandBy 28 = .ok (.lcmp, 1) := by decide +kernel
theorem dX12_commandBy_29 : decode cX12_commandBy 29 = .ok (.ifCond .ne 7, 3) := by decide +kernel
theorem dX12_commandBy_32 : decode cX12_commandBy 32 = .ok (.iconst 2, 1) := by decide +kernel
theorem dX12_commandBy_33 : decode cX12_commandBy 33 = .ok (.goto 16, 3) := by decide +kernel
theorem dX12_commandBy_36 : decode cX12_commandBy 36 = .ok (.lload_n 0, 1) := by decide +kernel
theorem dX12_commandBy_37 : decode cX12_commandBy 37 = .ok (.ldc2_w 209, 3) := by decide +kernel
theorem dX12_commandBy_40 : decode cX12_commandBy 40 = .ok (.lcmp, 1) := by decide +kernel
theorem dX12_commandBy_41 : decode cX12_commandBy 41 = .ok (.ifCond .ne 7, 3) := by decide +kernel
theorem dX12_commandBy_44 : decode cX12_commandBy 44 = .ok (.iconst 3, 1) := by decide +kernel
theorem dX12_commandBy_45 : decode cX12_commandBy 45 = .ok (.goto 4, 3) := by decide +kernel
theorem dX12_commandBy_48 : decode cX12_commandBy 48 = .ok (.iconst (-1), 1) := by decide +kernel
theorem dX12_commandBy_49 : decode cX12_commandBy 49 = .ok (.ireturn, 1) := by decide +kernel
theorem dX12_oneLine_0 : decode cX12_oneLine 0 = .ok (.aload_n 0, 1) := by decide +kernel
theorem dX12_oneLine_1 : decode cX12_oneLine 1 = .ok (.iconst 0, 1) := by decide +kernel
theorem dX12_oneLine_2 : decode cX12_oneLine 2 = .ok (.invokevirtual 211, 3) := by decide +kernel
theorem dX12_oneLine_5 : decode cX12_oneLine 5 = .ok (.ifCond .ne 5, 3) := by decide +kernel
theorem dX12_oneLine_8 : decode cX12_oneLine 8 = .ok (.iconst 0, 1) := by decide +kernel
theorem dX12_oneLine_9 : decode cX12_oneLine 9 = .ok (.ireturn, 1) := by decide +kernel
theorem dX12_oneLine_10 : decode cX12_oneLine 10 = .ok (.aload_n 0, 1) := by decide +kernel
theorem dX12_oneLine_11 : decode cX12_oneLine 11 = .ok (.getfield 38, 3) := by decide +kernel
theorem dX12_oneLine_14 : decode cX12_oneLine 14 = .ok (.iload_n 1, 1) := by decide +kernel
theorem dX12_oneLine_15 : decode cX12_oneLine 15 = .ok (.iaload, 1) := by decide +kernel
theorem dX12_oneLine_16 : decode cX12_oneLine 16 = .ok (.istore 4, 2) := by decide +kernel
theorem dX12_oneLine_18 : decode cX12_oneLine 18 = .ok (.iload 4, 2) := by decide +kernel
theorem dX12_oneLine_20 : decode cX12_oneLine 20 = .ok (.bipush 6, 2) := by decide +kernel
theorem dX12_oneLine_22 : decode cX12_oneLine 22 = .ok (.if_icmp .ge 59, 3) := by decide +kernel
theorem dX12_oneLine_25 : decode cX12_oneLine 25 = .ok (.aload_n 0, 1) := by decide +kernel
theorem dX12_oneLine_26 : decode cX12_oneLine 26 = .ok (.getfield 38, 3) := by decide +kernel
theorem dX12_oneLine_29 : decode cX12_oneLine 29 = .ok (.iload_n 2, 1) := by decide +kernel
theorem dX12_oneLine_30 : decode cX12_oneLine 30 = .ok (.iload 4, 2) := by decide +kernel
theorem dX12_oneLine_32 : decode cX12_oneLine 32 = .ok (.iadd, 1) := by decide +kernel
theorem dX12_oneLine_33 : decode cX12_oneLine 33 = .ok (.iload_n 3, 1) := by decide +kernel
theorem dX12_oneLine_34 : decode cX12_oneLine 34 = .ok (.iastore, 1) := by decide +kernel
theorem dX12_oneLine_35 : decode cX12_oneLine 35 = .ok (.aload_n 0, 1) := by decide +kernel
theorem dX12_oneLine_36 : decode cX12_oneLine 36 = .ok (.getfield 38, 3) := by decide +kernel
theorem dX12_oneLine_39 : decode cX12_oneLine 39 = .ok (.iload_n 2, 1) := by decide +kernel
theorem dX12_oneLine_40 : decode cX12_oneLine 40 = .ok (.bipush 6, 2) := by decide +kernel
theorem dX12_oneLine_42 : decode cX12_oneLine 42 = .ok (.iadd, 1) := by decide +kernel
theorem dX12_oneLine_43 : decode cX12_oneLine 43 = .ok (.iload 4, 2) := by decide +kernel
theorem dX12_oneLine_45 : decode cX12_oneLine 45 = .ok (.iadd, 1) := by decide +kernel
theorem dX12_oneLine_46 : decode cX12_oneLine 46 = .ok (.aload_n 0, 1) := by decide +kernel
theorem dX12_oneLine_47 : decode cX12_oneLine 47 = .ok (.getfield 41, 3) := by decide +kernel
theorem dX12_oneLine_50 : decode cX12_oneLine 50 = .ok (.iconst 0, 1) := by decide +kernel
theorem dX12_oneLine_51 : decode cX12_oneLine 51 = .ok (.iaload, 1) := by decide +kernel
theorem dX12_oneLine_52 : decode cX12_oneLine 52 = .ok (.iastore, 1) := by decide +kernel
theorem dX12_oneLine_53 : decode cX12_oneLine 53 = .ok (.aload_n 0, 1) := by decide +kernel
theorem dX12_oneLine_54 : decode cX12_oneLine 54 = .ok (.getfield 38, 3) := by decide +kernel
theorem dX12_oneLine_57 : decode cX12_oneLine 57 = .ok (.iload_n 2, 1) := by decide +kernel
theorem dX12_oneLine_58 : decode cX12_oneLine 58 = .ok (.bipush 12, 2) := by decide +kernel
theorem dX12_oneLine_60 : decode cX12_oneLine 60 = .ok (.iadd, 1) := by decide +kernel
theorem dX12_oneLine_61 : decode cX12_oneLine 61 = .ok (.iload 4, 2) := by decide +kernel
theorem dX12_oneLine_63 : decode cX12_oneLine 63 = .ok (.iadd, 1) := by decide +kernel
theorem dX12_oneLine_64 : decode cX12_oneLine 64 = .ok (.aload_n 0, 1) := by decide +kernel
theorem dX12_oneLine_65 : decode cX12_oneLine 65 = .ok (.getfield 41, 3) := by decide +kernel
theorem dX12_oneLine_68 : decode cX12_oneLine 68 = .ok (.iconst 1, 1) := by decide +kernel
theorem dX12_oneLine_69 : decode cX12_oneLine 69 = .ok (.iaload, 1) := by decide +kernel
theorem dX12_oneLine_70 : decode cX12_oneLine 70 = .ok (.iastore, 1) := by decide +kernel
theorem dX12_oneLine_71 : decode cX12_oneLine 71 = .ok (.aload_n 0, 1) := by decide +kernel
theorem dX12_oneLine_72 : decode cX12_oneLine 72 = .ok (.getfield 38, 3) := by decide +kernel
theorem dX12_oneLine_75 : decode cX12_oneLine 75 = .ok (.iload_n 1, 1) := by decide +kernel
theorem dX12_oneLine_76 : decode cX12_oneLine 76 = .ok (.dup2, 1) := by decide +kernel
theorem dX12_oneLine_77 : decode cX12_oneLine 77 = .ok (.iaload, 1) := by decide +kernel
theorem dX12_oneLine_78 : decode cX12_oneLine 78 = .ok (.iconst 1, 1) := by decide +kernel
theorem dX12_oneLine_79 : decode cX12_oneLine 79 = .ok (.iadd, 1) := by decide +kernel
theorem dX12_oneLine_80 : decode cX12_oneLine 80 = .ok (.iastore, 1) := by decide +kernel
theorem dX12_oneLine_81 : decode cX12_oneLine 81 = .ok (.iconst 1, 1) := by decide +kernel
theorem dX12_oneLine_82 : decode cX12_oneLine 82 = .ok (.ireturn, 1) := by decide +kernel
theorem dX12_valueLine_0 : decode cX12_valueLine 0 = .ok (.aload_n 0, 1) := by decide +kernel
theorem dX12_valueLine_1 : decode cX12_valueLine 1 = .ok (.getfield 144, 3) := by decide +kernel
theorem dX12_valueLine_4 : decode cX12_valueLine 4 = .ok (.iconst 2, 1) := by decide +kernel
theorem dX12_valueLine_5 : decode cX12_valueLine 5 = .ok (.if_icmp .ne 13, 3) := by decide +kernel
theorem dX12_valueLine_8 : decode cX12_valueLine 8 = .ok (.aload_n 0, 1) := by decide +kernel
theorem dX12_valueLine_9 : decode cX12_valueLine 9 = .ok (.getfield 140, 3) := by decide +kernel
theorem dX12_valueLine_12 : decode cX12_valueLine 12 = .ok (.invokestatic 215, 3) := by decide +kernel
theorem dX12_valueLine_15 : decode cX12_valueLine 15 = .ok (.goto 4, 3) := by decide +kernel
theorem dX12_valueLine_18 : decode cX12_valueLine 18 = .ok (.iconst (-1), 1) := by decide +kernel
theorem dX12_valueLine_19 : decode cX12_valueLine 19 = .ok (.istore_n 1, 1) := by decide +kernel
theorem dX12_valueLine_20 : decode cX12_valueLine 20 = .ok (.iload_n 1, 1) := by decide +kernel
theorem dX12_valueLine_21 : decode cX12_valueLine 21 = .ok (.iconst (-1), 1) := by decide +kernel
theorem dX12_valueLine_22 : decode cX12_valueLine 22 = .ok (.if_icmp .ne 8, 3) := by decide +kernel
theorem dX12_valueLine_25 : decode cX12_valueLine 25 = .ok (.aload_n 0, 1) := by decide +kernel
theorem dX12_valueLine_26 : decode cX12_valueLine 26 = .ok (.invokevirtual 159, 3) := by decide +kernel
theorem dX12_valueLine_29 : decode cX12_valueLine 29 = .ok (.ireturn, 1) := by decide +kernel
theorem dX12_valueLine_30 : decode cX12_valueLine 30 = .ok (.aload_n 0, 1) := by decide +kernel
theorem dX12_valueLine_31 : decode cX12_valueLine 31 = .ok (.invokevirtual 171, 3) := by decide +kernel
theorem dX12_valueLine_34 : decode cX12_valueLine 34 = .ok (.aload_n 0, 1) := by decide +kernel
theorem dX12_valueLine_35 : decode cX12_valueLine 35 = .ok (.iconst 0, 1) := by decide +kernel
theorem dX12_valueLine_36 : decode cX12_valueLine 36 = .ok (.iconst 0, 1) := by decide +kernel
theorem dX12_valueLine_37 : decode cX12_valueLine 37 = .ok (.bipush 9, 2) := by decide +kernel
theorem dX12_valueLine_39 : decode cX12_valueLine 39 = .ok (.invokevirtual 174, 3) := by decide +kernel
theorem dX12_valueLine_42 : decode cX12_valueLine 42 = .ok (.ifCond .ne 5, 3) := by decide +kernel
theorem dX12_valueLine_45 : decode cX12_valueLine 45 = .ok (.iconst 0, 1) := by decide +kernel
theorem dX12_valueLine_46 : decode cX12_valueLine 46 = .ok (.ireturn, 1) := by decide +kernel
theorem dX12_valueLine_47 : decode cX12_valueLine 47 = .ok (.aload_n 0, 1) := by decide +kernel
theorem dX12_valueLine_48 : decode cX12_valueLine 48 = .ok (.getfield 38, 3) := by decide +kernel
theorem dX12_valueLine_51 : decode cX12_valueLine 51 = .ok (.iconst 5, 1) := by decide +kernel
theorem dX12_valueLine_52 : decode cX12_valueLine 52 = .ok (.iload_n 1, 1) := by decide +kernel
theorem dX12_valueLine_53 : decode cX12_valueLine 53 = .ok (.iadd, 1) := by decide +kernel
theorem dX12_valueLine_54 : decode cX12_valueLine 54 = .ok (.aload_n 0, 1) := by decide +kernel
theorem dX12_valueLine_55 : decode cX12_valueLine 55 = .ok (.getfield 41, 3) := by decide +kernel
theorem dX12_valueLine_58 : decode cX12_valueLine 58 = .ok (.iconst 0, 1) := by decide +kernel
theorem dX12_valueLine_59 : decode cX12_valueLine 59 = .ok (.iaload, 1) := by decide +kernel
theorem dX12_valueLine_60 : decode cX12_valueLine 60 = .ok (.iastore, 1) := by decide +kernel
theorem dX12_valueLine_61 : decode cX12_valueLine 61 = .ok (.iconst 1, 1) := by decide +kernel
theorem dX12_valueLine_62 : decode cX12_valueLine 62 = .ok (.ireturn, 1) := by decide +kernel
theorem dX12_sizeLine_0 : decode cX12_sizeLine 0 = .ok (.aload_n 0, 1) := by decide +kernel
theorem dX12_sizeLine_1 : decode cX12_sizeLine 1 = .ok (.iconst 0, 1) := by decide +kernel
theorem dX12_sizeLine_2 : decode cX12_sizeLine 2 = .ok (.iconst 2, 1) := by decide +kernel
theorem dX12_sizeLine_3 : decode cX12_sizeLine 3 = .ok (.bipush 8, 2) := by decide +kernel
theorem dX12_sizeLine_5 : decode cX12_sizeLine 5 = .ok (.invokevirtual 174, 3) := by decide +kernel
theorem dX12_sizeLine_8 : decode cX12_sizeLine 8 = .ok (.ifCond .eq 14, 3) := by decide +kernel
theorem dX12_sizeLine_11 : decode cX12_sizeLine 11 = .ok (.aload_n 0, 1) := by decide +kernel
theorem dX12_sizeLine_12 : decode cX12_sizeLine 12 = .ok (.iconst 1, 1) := by decide +kernel
theorem dX12_sizeLine_13 : decode cX12_sizeLine 13 = .ok (.iconst 2, 1) := by decide +kernel
theorem dX12_sizeLine_14 : decode cX12_sizeLine 14 = .ok (.bipush 8, 2) := by decide +kernel
theorem dX12_sizeLine_16 : decode cX12_sizeLine 16 = .ok (.invokevirtual 174, 3) := by decide +kernel
theorem dX12_sizeLine_19 : decode cX12_sizeLine 19 = .ok (.ifCond .ne 5, 3) := by decide +kernel
theorem dX12_sizeLine_22 : decode cX12_sizeLine 22 = .ok (.iconst 0, 1) := by decide +kernel
theorem dX12_sizeLine_23 : decode cX12_sizeLine 23 = .ok (.ireturn, 1) := by decide +kernel
theorem dX12_sizeLine_24 : decode cX12_sizeLine 24 = .ok (.aload_n 0, 1) := by decide +kernel
theorem dX12_sizeLine_25 : decode cX12_sizeLine 25 = .ok (.getfield 38, 3) := by decide +kernel
theorem dX12_sizeLine_28 : decode cX12_sizeLine 28 = .ok (.iconst 0, 1) := by decide +kernel
theorem dX12_sizeLine_29 : decode cX12_sizeLine 29 = .ok (.aload_n 0, 1) := by decide +kernel
theorem dX12_sizeLine_30 : decode cX12_sizeLine 30 = .ok (.getfield 41, 3) := by decide +kernel
theorem dX12_sizeLine_33 : decode cX12_sizeLine 33 = .ok (.iconst 0, 1) := by decide +kernel
theorem dX12_sizeLine_34 : decode cX12_sizeLine 34 = .ok (.iaload, 1) := by decide +kernel
theorem dX12_sizeLine_35 : decode cX12_sizeLine 35 = .ok (.iastore, 1) := by decide +kernel
theorem dX12_sizeLine_36 : decode cX12_sizeLine 36 = .ok (.aload_n 0, 1) := by decide +kernel
theorem dX12_sizeLine_37 : decode cX12_sizeLine 37 = .ok (.getfield 38, 3) := by decide +kernel
theorem dX12_sizeLine_40 : decode cX12_sizeLine 40 = .ok (.iconst 1, 1) := by decide +kernel
theorem dX12_sizeLine_41 : decode cX12_sizeLine 41 = .ok (.aload_n 0, 1) := by decide +kernel
theorem dX12_sizeLine_42 : decode cX12_sizeLine 42 = .ok (.getfield 41, 3) := by decide +kernel
theorem dX12_sizeLine_45 : decode cX12_sizeLine 45 = .ok (.iconst 1, 1) := by decide +kernel
theorem dX12_sizeLine_46 : decode cX12_sizeLine 46 = .ok (.iaload, 1) := by decide +kernel
theorem dX12_sizeLine_47 : decode cX12_sizeLine 47 = .ok (.iastore, 1) := by decide +kernel
theorem dX12_sizeLine_48 : decode cX12_sizeLine 48 = .ok (.iconst 1, 1) := by decide +kernel
theorem dX12_sizeLine_49 : decode cX12_sizeLine 49 = .ok (.ireturn, 1) := by decide +kernel
theorem dX12_wallLine_0 : decode cX12_wallLine 0 = .ok (.aload_n 0, 1) := by decide +kernel
theorem dX12_wallLine_1 : decode cX12_wallLine 1 = .ok (.iconst 0, 1) := by decide +kernel
theorem dX12_wallLine_2 : decode cX12_wallLine 2 = .ok (.invokevirtual 211, 3) := by decide +kernel
theorem dX12_wallLine_5 : decode cX12_wallLine 5 = .ok (.ifCond .ne 5, 3) := by decide +kernel
theorem dX12_wallLine_8 : decode cX12_wallLine 8 = .ok (.iconst 0, 1) := by decide +kernel
theorem dX12_wallLine_9 : decode cX12_wallLine 9 = .ok (.ireturn, 1) := by decide +kernel
theorem dX12_wallLine_10 : decode cX12_wallLine 10 = .ok (.aload_n 0, 1) := by decide +kernel
theorem dX12_wallLine_11 : decode cX12_wallLine 11 = .ok (.getfield 167, 3) := by decide +kernel
theorem dX12_wallLine_14 : decode cX12_wallLine 14 = .ok (.ifCond .eq 28, 3) := by decide +kernel
theorem dX12_wallLine_17 : decode cX12_wallLine 17 = .ok (.aload_n 0, 1) := by decide +kernel
theorem dX12_wallLine_18 : decode cX12_wallLine 18 = .ok (.getfield 38, 3) := by decide +kernel
theorem dX12_wallLine_21 : decode cX12_wallLine 21 = .ok (.bipush 45, 2) := by decide +kernel
theorem dX12_wallLine_23 : decode cX12_wallLine 23 = .ok (.aload_n 0, 1) := by decide +kernel
theorem dX12_wallLine_24 : decode cX12_wallLine 24 = .ok (.getfield 41, 3) := by decide +kernel
theorem dX12_wallLine_27 : decode cX12_wallLine 27 = .ok (.iconst 1, 1) := by decide +kernel
theorem dX12_wallLine_28 : decode cX12_wallLine 28 = .ok (.iaload, 1) := by decide +kernel
theorem dX12_wallLine_29 : decode cX12_wallLine 29 = .ok (.iadd, 1) := by decide +kernel
theorem dX12_wallLine_30 : decode cX12_wallLine 30 = .ok (.dup2, 1) := by decide +kernel
theorem dX12_wallLine_31 : decode cX12_wallLine 31 = .ok (.iaload, 1) := by decide +kernel
theorem dX12_wallLine_32 : decode cX12_wallLine 32 = .ok (.iconst 1, 1) := by decide +kernel
theorem dX12_wallLine_33 : decode cX12_wallLine 33 = .ok (.aload_n 0, 1) := by decide +kernel
theorem dX12_wallLine_34 : decode cX12_wallLine 34 = .ok (.getfield 41, 3) := by decide +kernel
theorem dX12_wallLine_37 : decode cX12_wallLine 37 = .ok (.iconst 0, 1) := by decide +kernel
theorem dX12_wallLine_38 : decode cX12_wallLine 38 = .ok (.iaload, 1) := by decide +kernel
theorem dX12_wallLine_39 : decode cX12_wallLine 39 = .ok (.ishl, 1) := by decide +kernel
theorem dX12_wallLine_40 : decode cX12_wallLine 40 = .ok (.ior, 1) := by decide +kernel
theorem dX12_wallLine_41 : decode cX12_wallLine 41 = .ok (.iastore, 1) := by decide +kernel
theorem dX12_wallLine_42 : decode cX12_wallLine 42 = .ok (.iconst 1, 1) := by decide +kernel
theorem dX12_wallLine_43 : decode cX12_wallLine 43 = .ok (.ireturn, 1) := by decide +kernel
theorem dX12_windLine_0 : decode cX12_windLine 0 = .ok (.aload_n 0, 1) := by decide +kernel
theorem dX12_windLine_1 : decode cX12_windLine 1 = .ok (.iconst 0, 1) := by decide +kernel
theorem dX12_windLine_2 : decode cX12_windLine 2 = .ok (.iconst 0, 1) := by decide +kernel
theorem dX12_windLine_3 : decode cX12_windLine 3 = .ok (.iconst 4, 1) := by decide +kernel
theorem dX12_windLine_4 : decode cX12_windLine 4 = .ok (.invokevirtual 174, 3) := by decide +kernel
theorem dX12_windLine_7 : decode cX12_windLine 7 = .ok (.ifCond .ne 5, 3) := by decide +kernel
theorem dX12_windLine_10 : decode cX12_windLine 10 = .ok (.iconst 0, 1) := by decide +kernel
theorem dX12_windLine_11 : decode cX12_windLine 11 = .ok (.ireturn, 1) := by decide +kernel
theorem dX12_windLine_12 : decode cX12_windLine 12 = .ok (.aload_n 0, 1) := by decide +kernel
theorem dX12_windLine_13 : decode cX12_windLine 13 = .ok (.getfield 38, 3) := by decide +kernel
theorem dX12_windLine_16 : decode cX12_windLine 16 = .ok (.iconst 2, 1) := by decide +kernel
theorem dX12_windLine_17 : decode cX12_windLine 17 = .ok (.aload_n 0, 1) := by decide +kernel
theorem dX12_windLine_18 : decode cX12_windLine 18 = .ok (.getfield 41, 3) := by decide +kernel
theorem dX12_windLine_21 : decode cX12_windLine 21 = .ok (.iconst 0, 1) := by decide +kernel
theorem dX12_windLine_22 : decode cX12_windLine 22 = .ok (.iaload, 1) := by decide +kernel
theorem dX12_windLine_23 : decode cX12_windLine 23 = .ok (.iastore, 1) := by decide +kernel
theorem dX12_windLine_24 : decode cX12_windLine 24 = .ok (.iconst 1, 1) := by decide +kernel
theorem dX12_windLine_25 : decode cX12_windLine 25 = .ok (.ireturn, 1) := by decide +kernel
theorem dX12_cityLine_0 : decode cX12_cityLine 0 = .ok (.lload_n 1, 1) := by decide +kernel
theorem dX12_cityLine_1 : decode cX12_cityLine 1 = .ok (.invokestatic 219, 3) := by decide +kernel
theorem dX12_cityLine_4 : decode cX12_cityLine 4 = .ok (.istore 4, 2) := by decide +kernel
theorem dX12_cityLine_6 : decode cX12_cityLine 6 = .ok (.lload_n 1, 1) := by decide +kernel
theorem dX12_cityLine_7 : decode cX12_cityLine 7 = .ok (.invokestatic 222, 3) := by decide +kernel
theorem dX12_cityLine_10 : decode cX12_cityLine 10 = .ok (.istore 5, 2) := by decide +kernel
theorem dX12_cityLine_12 : decode cX12_cityLine 12 = .ok (.iload 4, 2) := by decide +kernel
theorem dX12_cityLine_14 : decode cX12_cityLine 14 = .ok (.iconst (-1), 1) := by decide +kernel
theorem dX12_cityLine_15 : decode cX12_cityLine 15 = .ok (.if_icmp .ne 46, 3) := by decide +kernel
theorem dX12_cityLine_18 : decode cX12_cityLine 18 = .ok (.iload 5, 2) := by decide +kernel
theorem dX12_cityLine_20 : decode cX12_cityLine 20 = .ok (.iconst (-1), 1) := by decide +kernel
theorem dX12_cityLine_21 : decode cX12_cityLine 21 = .ok (.if_icmp .ne 40, 3) := by decide +kernel
theorem dX12_cityLine_24 : decode cX12_cityLine 24 = .ok (.lload_n 1, 1) := by decide +kernel
theorem dX12_cityLine_25 : decode cX12_cityLine 25 = .ok (.ldc2_w 225, 3) := by decide +kernel
theorem dX12_cityLine_28 : decode cX12_cityLine 28 = .ok (.lcmp, 1) := by decide +kernel
theorem dX12_cityLine_29 : decode cX12_cityLine 29 = .ok (.ifCond .eq 32, 3) := by decide +kernel
theorem dX12_cityLine_32 : decode cX12_cityLine 32 = .ok (.lload_n 1, 1) := by decide +kernel
theorem dX12_cityLine_33 : decode cX12_cityLine 33 = .ok (.ldc2_w 227, 3) := by decide +kernel
theorem dX12_cityLine_36 : decode cX12_cityLine 36 = .ok (.lcmp, 1) := by decide +kernel
theorem dX12_cityLine_37 : decode cX12_cityLine 37 = .ok (.ifCond .eq 24, 3) := by decide +kernel
theorem dX12_cityLine_40 : decode cX12_cityLine 40 = .ok (.lload_n 1, 1) := by decide +kernel
theorem dX12_cityLine_41 : decode cX12_cityLine 41 = .ok (.ldc2_w 229, 3) := by decide +kernel
theorem dX12_cityLine_44 : decode cX12_cityLine 44 = .ok (.lcmp, 1) := by decide +kernel
theorem dX12_cityLine_45 : decode cX12_cityLine 45 = .ok (.ifCond .eq 16, 3) := by decide +kernel
theorem dX12_cityLine_48 : decode cX12_cityLine 48 = .ok (.lload_n 1, 1) := by decide +kernel
theorem dX12_cityLine_49 : decode cX12_cityLine 49 = .ok (.ldc2_w 231, 3) := by decide +kernel
theorem dX12_cityLine_52 : decode cX12_cityLine 52 = .ok (.lcmp, 1) := by decide +kernel
theorem dX12_cityLine_53 : decode cX12_cityLine 53 = .ok (.ifCond .eq 8, 3) := by decide +kernel
theorem dX12_cityLine_56 : decode cX12_cityLine 56 = .ok (.aload_n 0, 1) := by decide +kernel
theorem dX12_cityLine_57 : decode cX12_cityLine 57 = .ok (.invokevirtual 159, 3) := by decide +kernel
theorem dX12_cityLine_60 : decode cX12_cityLine 60 = .ok (.ireturn, 1) := by decide +kernel
theorem dX12_cityLine_61 : decode cX12_cityLine 61 = .ok (.iload 4, 2) := by decide +kernel
theorem dX12_cityLine_63 : decode cX12_cityLine 63 = .ok (.iconst (-1), 1) := by decide +kernel
theorem dX12_cityLine_64 : decode cX12_cityLine 64 = .ok (.if_icmp .eq 11, 3) := by decide +kernel
theorem dX12_cityLine_67 : decode cX12_cityLine 67 = .ok (.aload_n 0, 1) := by decide +kernel
theorem dX12_cityLine_68 : decode cX12_cityLine 68 = .ok (.iconst 3, 1) := by decide +kernel
theorem dX12_cityLine_69 : decode cX12_cityLine 69 = .ok (.bipush 6, 2) := by decide +kernel
theorem dX12_cityLine_71 : decode cX12_cityLine 71 = .ok (.iload_n 3, 1) := by decide +kernel
theorem dX12_cityLine_72 : decode cX12_cityLine 72 = .ok (.invokevirtual 233, 3) := by decide +kernel
theorem dX12_cityLine_75 : decode cX12_cityLine 75 = .ok (.iload 5, 2) := by decide +kernel
theorem dX12_cityLine_77 : decode cX12_cityLine 77 = .ok (.iconst (-1), 1) := by decide +kernel
theorem dX12_cityLine_78 : decode cX12_cityLine 78 = .ok (.if_icmp .eq 11, 3) := by decide +kernel
theorem dX12_cityLine_81 : decode cX12_cityLine 81 = .ok (.aload_n 0, 1) := by decide +kernel
theorem dX12_cityLine_82 : decode cX12_cityLine 82 = .ok (.iconst 4, 1) := by decide +kernel
theorem dX12_cityLine_83 : decode cX12_cityLine 83 = .ok (.bipush 6, 2) := by decide +kernel
theorem dX12_cityLine_85 : decode cX12_cityLine 85 = .ok (.iload_n 3, 1) := by decide +kernel
theorem dX12_cityLine_86 : decode cX12_cityLine 86 = .ok (.invokevirtual 233, 3) := by decide +kernel
theorem dX12_cityLine_89 : decode cX12_cityLine 89 = .ok (.aload_n 0, 1) := by decide +kernel
theorem dX12_cityLine_90 : decode cX12_cityLine 90 = .ok (.invokevirtual 171, 3) := by decide +kernel
theorem dX12_cityLine_93 : decode cX12_cityLine 93 = .ok (.iload 4, 2) := by decide +kernel
theorem dX12_cityLine_95 : decode cX12_cityLine 95 = .ok (.iconst (-1), 1) := by decide +kernel
theorem dX12_cityLine_96 : decode cX12_cityLine 96 = .ok (.if_icmp .ne 9, 3) := by decide +kernel
theorem dX12_cityLine_99 : decode cX12_cityLine 99 = .ok (.iload 5, 2) := by decide +kernel
theorem dX12_cityLine_101 : decode cX12_cityLine 101 = .ok (.iconst (-1), 1) := by decide +kernel
theorem dX12_cityLine_102 : decode cX12_cityLine 102 = .ok (.if_icmp .eq 31, 3) := by decide +kernel
theorem dX12_cityLine_105 : decode cX12_cityLine 105 = .ok (.iload 4, 2) := by decide +kernel
theorem dX12_cityLine_107 : decode cX12_cityLine 107 = .ok (.iconst (-1), 1) := by decide +kernel
theorem dX12_cityLine_108 : decode cX12_cityLine 108 = .ok (.if_icmp .eq 15, 3) := by decide +kernel
theorem dX12_cityLine_111 : decode cX12_cityLine 111 = .ok (.aload_n 0, 1) := by decide +kernel
theorem dX12_cityLine_112 : decode cX12_cityLine 112 = .ok (.iconst 3, 1) := by decide +kernel
theorem dX12_cityLine_113 : decode cX12_cityLine 113 = .ok (.bipush 9, 2) := by decide +kernel
theorem dX12_cityLine_115 : decode cX12_cityLine 115 = .ok (.iload 4, 2) := by decide +kernel
theorem dX12_cityLine_117 : decode cX12_cityLine 117 = .ok (.invokevirtual 237, 3) := by decide +kernel
theorem dX12_cityLine_120 : decode cX12_cityLine 120 = .ok (.goto 12, 3) := by decide +kernel
theorem dX12_cityLine_123 : decode cX12_cityLine 123 = .ok (.aload_n 0, 1) := by decide +kernel
theorem dX12_cityLine_124 : decode cX12_cityLine 124 = .ok (.iconst 4, 1) := by decide +kernel
theorem dX12_cityLine_125 : decode cX12_cityLine 125 = .ok (.bipush 27, 2) := by decide +kernel
theorem dX12_cityLine_127 : decode cX12_cityLine 127 = .ok (.iload 5, 2) := by decide +kernel
theorem dX12_cityLine_129 : decode cX12_cityLine 129 = .ok (.invokevirtual 237, 3) := by decide +kernel
theorem dX12_cityLine_132 : decode cX12_cityLine 132 = .ok (.ireturn, 1) := by decide +kernel
theorem dX12_cityLine_133 : decode cX12_cityLine 133 = .ok (.lload_n 1, 1) := by decide +kernel
theorem dX12_cityLine_134 : decode cX12_cityLine 134 = .ok (.ldc2_w 225, 3) := by decide +kernel
theorem dX12_cityLine_137 : decode cX12_cityLine 137 = .ok (.lcmp, 1) := by decide +kernel
theorem dX12_cityLine_138 : decode cX12_cityLine 138 = .ok (.ifCond .ne 10, 3) := by decide +kernel
theorem dX12_cityLine_141 : decode cX12_cityLine 141 = .ok (.aload_n 0, 1) := by decide +kernel
theorem dX12_cityLine_142 : decode cX12_cityLine 142 = .ok (.invokevirtual 240, 3) := by decide +kernel
theorem dX12_cityLine_145 : decode cX12_cityLine 145 = .ok (.goto 37, 3) := by decide +kernel
theorem dX12_cityLine_148 : decode cX12_cityLine 148 = .ok (.lload_n 1, 1) := by decide +kernel
theorem dX12_cityLine_149 : decode cX12_cityLine 149 = .ok (.ldc2_w 227, 3) := by decide +kernel
theorem dX12_cityLine_152 : decode cX12_cityLine 152 = .ok (.lcmp, 1) := by decide +kernel
theorem dX12_cityLine_153 : decode cX12_cityLine 153 = .ok (.ifCond .ne 10, 3) := by decide +kernel
theorem dX12_cityLine_156 : decode cX12_cityLine 156 = .ok (.aload_n 0, 1) := by decide +kernel
theorem dX12_cityLine_157 : decode cX12_cityLine 157 = .ok (.invokevirtual 243, 3) := by decide +kernel
theorem dX12_cityLine_160 : decode cX12_cityLine 160 = .ok (.goto 22, 3) := by decide +kernel
theorem dX12_cityLine_163 : decode cX12_cityLine 163 = .ok (.lload_n 1, 1) := by decide +kernel
theorem dX12_cityLine_164 : decode cX12_cityLine 164 = .ok (.ldc2_w 229, 3) := by decide +kernel
theorem dX12_cityLine_167 : decode cX12_cityLine 167 = .ok (.lcmp, 1) := by decide +kernel
theorem dX12_cityLine_168 : decode cX12_cityLine 168 = .ok (.ifCond .ne 10, 3) := by decide +kernel
theorem dX12_cityLine_171 : decode cX12_cityLine 171 = .ok (.aload_n 0, 1) := by decide +kernel
theorem dX12_cityLine_172 : decode cX12_cityLine 172 = .ok (.invokevirtual 246, 3) := by decide +kernel
theorem dX12_cityLine_175 : decode cX12_cityLine 175 = .ok (.goto 7, 3) := by decide +kernel
theorem dX12_cityLine_178 : decode cX12_cityLine 178 = .ok (.aload_n 0, 1) := by decide +kernel
theorem dX12_cityLine_179 : decode cX12_cityLine 179 = .ok (.invokevirtual 249, 3) := by decide +kernel
theorem dX12_cityLine_182 : decode cX12_cityLine 182 = .ok (.ireturn, 1) := by decide +kernel
theorem dX12_keep_0 : decode cX12_keep 0 = .ok (.aload_n 0, 1) := by decide +kernel
theorem dX12_keep_1 : decode cX12_keep 1 = .ok (.getfield 38, 3) := by decide +kernel
theorem dX12_keep_4 : decode cX12_keep 4 = .ok (.iload_n 1, 1) := by decide +kernel
theorem dX12_keep_5 : decode cX12_keep 5 = .ok (.iaload, 1) := by decide +kernel
theorem dX12_keep_6 : decode cX12_keep 6 = .ok (.istore 4, 2) := by decide +kernel
theorem dX12_keep_8 : decode cX12_keep 8 = .ok (.iload 4, 2) := by decide +kernel
theorem dX12_keep_10 : decode cX12_keep 10 = .ok (.iload_n 3, 1) := by decide +kernel
theorem dX12_keep_11 : decode cX12_keep 11 = .ok (.if_icmp .ne 4, 3) := by decide +kernel
theorem dX12_keep_14 : decode cX12_keep 14 = .ok (.return_, 1) := by decide +kernel
theorem dX12_keep_15 : decode cX12_keep 15 = .ok (.iconst 0, 1) := by decide +kernel
theorem dX12_keep_16 : decode cX12_keep 16 = .ok (.istore 5, 2) := by decide +kernel
theorem dX12_keep_18 : decode cX12_keep 18 = .ok (.iload 5, 2) := by decide +kernel
theorem dX12_keep_20 : decode cX12_keep 20 = .ok (.iconst 3, 1) := by decide +kernel
theorem dX12_keep_21 : decode cX12_keep 21 = .ok (.if_icmp .ge 30, 3) := by decide +kernel
theorem dX12_keep_24 : decode cX12_keep 24 = .ok (.aload_n 0, 1) := by decide +kernel
theorem dX12_keep_25 : decode cX12_keep 25 = .ok (.getfield 38, 3) := by decide +kernel
theorem dX12_keep_28 : decode cX12_keep 28 = .ok (.iload_n 2, 1) := by decide +kernel
theorem dX12_keep_29 : decode cX12_keep 29 = .ok (.iconst 3, 1) := by decide +kernel
theorem dX12_keep_30 : decode cX12_keep 30 = .ok (.iload 4, 2) := by decide +kernel
theorem dX12_keep_32 : decode cX12_keep 32 = .ok (.imul, 1) := by decide +kernel
theorem dX12_keep_33 : decode cX12_keep 33 = .ok (.iadd, 1) := by decide +kernel
theorem dX12_keep_34 : decode cX12_keep 34 = .ok (.iload 5, 2) := by decide +kernel
theorem dX12_keep_36 : decode cX12_keep 36 = .ok (.iadd, 1) := by decide +kernel
theorem dX12_keep_37 : decode cX12_keep 37 = .ok (.aload_n 0, 1) := by decide +kernel
theorem dX12_keep_38 : decode cX12_keep 38 = .ok (.getfield 41, 3) := by decide +kernel
theorem dX12_keep_41 : decode cX12_keep 41 = .ok (.iload 5, 2) := by decide +kernel
theorem dX12_keep_43 : decode cX12_keep 43 = .ok (.iaload, 1) := by decide +kernel
theorem dX12_keep_44 : decode cX12_keep 44 = .ok (.iastore, 1) := by decide +kernel
theorem dX12_keep_45 : decode cX12_keep 45 = .ok (.iinc 5 1, 3) := by decide +kernel
theorem dX12_keep_48 : decode cX12_keep 48 = .ok (.goto (-30), 3) := by decide +kernel
theorem dX12_keep_51 : decode cX12_keep 51 = .ok (.aload_n 0, 1) := by decide +kernel
theorem dX12_keep_52 : decode cX12_keep 52 = .ok (.getfield 38, 3) := by decide +kernel
theorem dX12_keep_55 : decode cX12_keep 55 = .ok (.iload_n 1, 1) := by decide +kernel
theorem dX12_keep_56 : decode cX12_keep 56 = .ok (.dup2, 1) := by decide +kernel
theorem dX12_keep_57 : decode cX12_keep 57 = .ok (.iaload, 1) := by decide +kernel
theorem dX12_keep_58 : decode cX12_keep 58 = .ok (.iconst 1, 1) := by decide +kernel
theorem dX12_keep_59 : decode cX12_keep 59 = .ok (.iadd, 1) := by decide +kernel
theorem dX12_keep_60 : decode cX12_keep 60 = .ok (.iastore, 1) := by decide +kernel
theorem dX12_keep_61 : decode cX12_keep 61 = .ok (.return_, 1) := by decide +kernel
theorem dX12_deedBy_0 : decode cX12_deedBy 0 = .ok (.lload_n 0, 1) := by decide +kernel
theorem dX12_deedBy_1 : decode cX12_deedBy 1 = .ok (.ldc2_w 252, 3) := by decide +kernel
theorem dX12_deedBy_4 : decode cX12_deedBy 4 = .ok (.lcmp, 1) := by decide +kernel
theorem dX12_deedBy_5 : decode cX12_deedBy 5 = .ok (.ifCond .ne 7, 3) := by decide +kernel
theorem dX12_deedBy_8 : decode cX12_deedBy 8 = .ok (.iconst 4, 1) := by decide +kernel
theorem dX12_deedBy_9 : decode cX12_deedBy 9 = .ok (.goto 32, 3) := by decide +kernel
theorem dX12_deedBy_12 : decode cX12_deedBy 12 = .ok (.lload_n 0, 1) := by decide +kernel
theorem dX12_deedBy_13 : decode cX12_deedBy 13 = .ok (.ldc2_w 254, 3) := by decide +kernel
theorem dX12_deedBy_16 : decode cX12_deedBy 16 = .ok (.lcmp, 1) := by decide +kernel
theorem dX12_deedBy_17 : decode cX12_deedBy 17 = .ok (.ifCond .ne 7, 3) := by decide +kernel
theorem dX12_deedBy_20 : decode cX12_deedBy 20 = .ok (.iconst 5, 1) := by decide +kernel
theorem dX12_deedBy_21 : decode cX12_deedBy 21 = .ok (.goto 20, 3) := by decide +kernel
theorem dX12_deedBy_24 : decode cX12_deedBy 24 = .ok (.lload_n 0, 1) := by decide +kernel
theorem dX12_deedBy_25 : decode cX12_deedBy 25 = .ok (.ldc2_w 256, 3) := by decide +kernel
theorem dX12_deedBy_28 : decode cX12_deedBy 28 = .ok (.lcmp, 1) := by decide +kernel
theorem dX12_deedBy_29 : decode cX12_deedBy 29 = .ok (.ifCond .ne 8, 3) := by decide +kernel
theorem dX12_deedBy_32 : decode cX12_deedBy 32 = .ok (.bipush 6, 2) := by decide +kernel
theorem dX12_deedBy_34 : decode cX12_deedBy 34 = .ok (.goto 7, 3) := by decide +kernel
theorem dX12_deedBy_37 : decode cX12_deedBy 37 = .ok (.lload_n 0, 1) := by decide +kernel
theorem dX12_deedBy_38 : decode cX12_deedBy 38 = .ok (.invokestatic 215, 3) := by decide +kernel
theorem dX12_deedBy_41 : decode cX12_deedBy 41 = .ok (.ireturn, 1) := by decide +kernel
theorem dX12_nightLine_0 : decode cX12_nightLine 0 = .ok (.lload_n 1, 1) := by decide +kernel
theorem dX12_nightLine_1 : decode cX12_nightLine 1 = .ok (.invokestatic 258, 3) := by decide +kernel
theorem dX12_nightLine_4 : decode cX12_nightLine 4 = .ok (.istore 4, 2) := by decide +kernel
theorem dX12_nightLine_6 : decode cX12_nightLine 6 = .ok (.iload 4, 2) := by decide +kernel
theorem dX12_nightLine_8 : decode cX12_nightLine 8 = .ok (.iconst (-1), 1) := by decide +kernel
theorem dX12_nightLine_9 : decode cX12_nightLine 9 = .ok (.if_icmp .ne 8, 3) := by decide +kernel
theorem dX12_nightLine_12 : decode cX12_nightLine 12 = .ok (.aload_n 0, 1) := by decide +kernel
theorem dX12_nightLine_13 : decode cX12_nightLine 13 = .ok (.invokevirtual 159, 3) := by decide +kernel
theorem dX12_nightLine_16 : decode cX12_nightLine 16 = .ok (.ireturn, 1) := by decide +kernel
theorem dX12_nightLine_17 : decode cX12_nightLine 17 = .ok (.aload_n 0, 1) := by decide +kernel
theorem dX12_nightLine_18 : decode cX12_nightLine 18 = .ok (.iconst 0, 1) := by decide +kernel
theorem dX12_nightLine_19 : decode cX12_nightLine 19 = .ok (.bipush 40, 2) := by decide +kernel
theorem dX12_nightLine_21 : decode cX12_nightLine 21 = .ok (.iload_n 3, 1) := by decide +kernel
theorem dX12_nightLine_22 : decode cX12_nightLine 22 = .ok (.invokevirtual 233, 3) := by decide +kernel
theorem dX12_nightLine_25 : decode cX12_nightLine 25 = .ok (.aload_n 0, 1) := by decide +kernel
theorem dX12_nightLine_26 : decode cX12_nightLine 26 = .ok (.invokevirtual 171, 3) := by decide +kernel
theorem dX12_nightLine_29 : decode cX12_nightLine 29 = .ok (.aload_n 0, 1) := by decide +kernel
theorem dX12_nightLine_30 : decode cX12_nightLine 30 = .ok (.getfield 41, 3) := by decide +kernel
theorem dX12_nightLine_33 : decode cX12_nightLine 33 = .ok (.iconst 1, 1) := by decide +kernel
theorem dX12_nightLine_34 : decode cX12_nightLine 34 = .ok (.iconst (-1), 1) := by decide +kernel
theorem dX12_nightLine_35 : decode cX12_nightLine 35 = .ok (.iastore, 1) := by decide +kernel
theorem dX12_nightLine_36 : decode cX12_nightLine 36 = .ok (.aload_n 0, 1) := by decide +kernel
theorem dX12_nightLine_37 : decode cX12_nightLine 37 = .ok (.getfield 41, 3) := by decide +kernel
theorem dX12_nightLine_40 : decode cX12_nightLine 40 = .ok (.iconst 2, 1) := by decide +kernel
theorem dX12_nightLine_41 : decode cX12_nightLine 41 = .ok (.iconst (-1), 1) := by decide +kernel
theorem dX12_nightLine_42 : decode cX12_nightLine 42 = .ok (.iastore, 1) := by decide +kernel
theorem dX12_nightLine_43 : decode cX12_nightLine 43 = .ok (.iload 4, 2) := by decide +kernel
theorem dX12_nightLine_45 : decode cX12_nightLine 45 = .ok (.bipush 6, 2) := by decide +kernel
theorem dX12_nightLine_47 : decode cX12_nightLine 47 = .ok (.if_icmp .eq 13, 3) := by decide +kernel
theorem dX12_nightLine_50 : decode cX12_nightLine 50 = .ok (.aload_n 0, 1) := by decide +kernel
theorem dX12_nightLine_51 : decode cX12_nightLine 51 = .ok (.iconst 1, 1) := by decide +kernel
theorem dX12_nightLine_52 : decode cX12_nightLine 52 = .ok (.iconst 0, 1) := by decide +kernel
theorem dX12_nightLine_53 : decode cX12_nightLine 53 = .ok (.iconst 5, 1) := by decide +kernel
theorem dX12_nightLine_54 : decode cX12_nightLine 54 = .ok (.invokevirtual 174, 3) := by decide +kernel
theorem dX12_nightLine_57 : decode cX12_nightLine 57 = .ok (.ifCond .eq 23, 3) := by decide +kernel
theorem dX12_nightLine_60 : decode cX12_nightLine 60 = .ok (.iload 4, 2) := by decide +kernel
theorem dX12_nightLine_62 : decode cX12_nightLine 62 = .ok (.iconst 3, 1) := by decide +kernel
theorem dX12_nightLine_63 : decode cX12_nightLine 63 = .ok (.iconst 5, 1) := by decide +kernel
theorem dX12_nightLine_64 : decode cX12_nightLine 64 = .ok (.invokestatic 119, 3) := by decide +kernel
theorem dX12_nightLine_67 : decode cX12_nightLine 67 = .ok (.ifCond .eq 15, 3) := by decide +kernel
theorem dX12_nightLine_70 : decode cX12_nightLine 70 = .ok (.aload_n 0, 1) := by decide +kernel
theorem dX12_nightLine_71 : decode cX12_nightLine 71 = .ok (.iconst 2, 1) := by decide +kernel
theorem dX12_nightLine_72 : decode cX12_nightLine 72 = .ok (.iconst 0, 1) := by decide +kernel
theorem dX12_nightLine_73 : decode cX12_nightLine 73 = .ok (.iconst 3, 1) := by decide +kernel
theorem dX12_nightLine_74 : decode cX12_nightLine 74 = .ok (.invokevirtual 174, 3) := by decide +kernel
theorem dX12_nightLine_77 : decode cX12_nightLine 77 = .ok (.ifCond .ne 5, 3) := by decide +kernel
theorem dX12_nightLine_80 : decode cX12_nightLine 80 = .ok (.iconst 0, 1) := by decide +kernel
theorem dX12_nightLine_81 : decode cX12_nightLine 81 = .ok (.ireturn, 1) := by decide +kernel
theorem dX12_nightLine_82 : decode cX12_nightLine 82 = .ok (.aload_n 0, 1) := by decide +kernel
theorem dX12_nightLine_83 : decode cX12_nightLine 83 = .ok (.getfield 41, 3) := by decide +kernel
theorem dX12_nightLine_86 : decode cX12_nightLine 86 = .ok (.iconst 0, 1) := by decide +kernel
theorem dX12_nightLine_87 : decode cX12_nightLine 87 = .ok (.iload 4, 2) := by decide +kernel
theorem dX12_nightLine_89 : decode cX12_nightLine 89 = .ok (.iastore, 1) := by decide +kernel
theorem dX12_nightLine_90 : decode cX12_nightLine 90 = .ok (.aload_n 0, 1) := by decide +kernel
theorem dX12_nightLine_91 : decode cX12_nightLine 91 = .ok (.iconst 0, 1) := by decide +kernel
theorem dX12_nightLine_92 : decode cX12_nightLine 92 = .ok (.iconst 1, 1) := by decide +kernel
theorem dX12_nightLine_93 : decode cX12_nightLine 93 = .ok (.bipush 40, 2) := by decide +kernel
theorem dX12_nightLine_95 : decode cX12_nightLine 95 = .ok (.invokevirtual 261, 3) := by decide +kernel
theorem dX12_nightLine_98 : decode cX12_nightLine 98 = .ok (.iconst 1, 1) := by decide +kernel
theorem dX12_nightLine_99 : decode cX12_nightLine 99 = .ok (.ireturn, 1) := by decide +kernel
theorem dX12_trialLine_0 : decode cX12_trialLine 0 = .ok (.lload_n 1, 1) := by decide +kernel
theorem dX12_trialLine_1 : decode cX12_trialLine 1 = .ok (.ldc2_w 264, 3) := by decide +kernel
theorem dX12_trialLine_4 : decode cX12_trialLine 4 = .ok (.lcmp, 1) := by decide +kernel
theorem dX12_trialLine_5 : decode cX12_trialLine 5 = .ok (.ifCond .eq 32, 3) := by decide +kernel
theorem dX12_trialLine_8 : decode cX12_trialLine 8 = .ok (.lload_n 1, 1) := by decide +kernel
theorem dX12_trialLine_9 : decode cX12_trialLine 9 = .ok (.ldc2_w 266, 3) := by decide +kernel
theorem dX12_trialLine_12 : decode cX12_trialLine 12 = .ok (.lcmp, 1) := by decide +kernel
theorem dX12_trialLine_13 : decode cX12_trialLine 13 = .ok (.ifCond .eq 24, 3) := by decide +kernel
theorem dX12_trialLine_16 : decode cX12_trialLine 16 = .ok (.lload_n 1, 1) := by decide +kernel
theorem dX12_trialLine_17 : decode cX12_trialLine 17 = .ok (.ldc2_w 268, 3) := by decide +kernel
theorem dX12_trialLine_20 : decode cX12_trialLine 20 = .ok (.lcmp, 1) := by decide +kernel
theorem dX12_trialLine_21 : decode cX12_trialLine 21 = .ok (.ifCond .eq 16, 3) := by decide +kernel
theorem dX12_trialLine_24 : decode cX12_trialLine 24 = .ok (.lload_n 1, 1) := by decide +kernel
theorem dX12_trialLine_25 : decode cX12_trialLine 25 = .ok (.ldc2_w 270, 3) := by decide +kernel
theorem dX12_trialLine_28 : decode cX12_trialLine 28 = .ok (.lcmp, 1) := by decide +kernel
theorem dX12_trialLine_29 : decode cX12_trialLine 29 = .ok (.ifCond .eq 8, 3) := by decide +kernel
theorem dX12_trialLine_32 : decode cX12_trialLine 32 = .ok (.aload_n 0, 1) := by decide +kernel
theorem dX12_trialLine_33 : decode cX12_trialLine 33 = .ok (.invokevirtual 159, 3) := by decide +kernel
theorem dX12_trialLine_36 : decode cX12_trialLine 36 = .ok (.ireturn, 1) := by decide +kernel
theorem dX12_trialLine_37 : decode cX12_trialLine 37 = .ok (.lload_n 1, 1) := by decide +kernel
theorem dX12_trialLine_38 : decode cX12_trialLine 38 = .ok (.ldc2_w 264, 3) := by decide +kernel
theorem dX12_trialLine_41 : decode cX12_trialLine 41 = .ok (.lcmp, 1) := by decide +kernel
theorem dX12_trialLine_42 : decode cX12_trialLine 42 = .ok (.ifCond .eq 11, 3) := by decide +kernel
theorem dX12_trialLine_45 : decode cX12_trialLine 45 = .ok (.lload_n 1, 1) := by decide +kernel
theorem dX12_trialLine_46 : decode cX12_trialLine 46 = .ok (.ldc2_w 266, 3) := by decide +kernel
theorem dX12_trialLine_49 : decode cX12_trialLine 49 = .ok (.lcmp, 1) := by decide +kernel
theorem dX12_trialLine_50 : decode cX12_trialLine 50 = .ok (.ifCond .ne 7, 3) := by decide +kernel
theorem dX12_trialLine_53 : decode cX12_trialLine 53 = .ok (.iconst 1, 1) := by decide +kernel
theorem dX12_trialLine_54 : decode cX12_trialLine 54 = .ok (.goto 4, 3) := by decide +kernel
theorem dX12_trialLine_57 : decode cX12_trialLine 57 = .ok (.iconst 0, 1) := by decide +kernel
theorem dX12_trialLine_58 : decode cX12_trialLine 58 = .ok (.istore 4, 2) := by decide +kernel
theorem dX12_trialLine_60 : decode cX12_trialLine 60 = .ok (.iload 4, 2) := by decide +kernel
theorem dX12_trialLine_62 : decode cX12_trialLine 62 = .ok (.ifCond .eq 11, 3) := by decide +kernel
theorem dX12_trialLine_65 : decode cX12_trialLine 65 = .ok (.aload_n 0, 1) := by decide +kernel
theorem dX12_trialLine_66 : decode cX12_trialLine 66 = .ok (.iconst 2, 1) := by decide +kernel
theorem dX12_trialLine_67 : decode cX12_trialLine 67 = .ok (.bipush 12, 2) := by decide +kernel
theorem dX12_trialLine_69 : decode cX12_trialLine 69 = .ok (.iload_n 3, 1) := by decide +kernel
theorem dX12_trialLine_70 : decode cX12_trialLine 70 = .ok (.invokevirtual 233, 3) := by decide +kernel
theorem dX12_trialLine_73 : decode cX12_trialLine 73 = .ok (.aload_n 0, 1) := by decide +kernel
theorem dX12_trialLine_74 : decode cX12_trialLine 74 = .ok (.invokevirtual 171, 3) := by decide +kernel
theorem dX12_trialLine_77 : decode cX12_trialLine 77 = .ok (.iload 4, 2) := by decide +kernel
theorem dX12_trialLine_79 : decode cX12_trialLine 79 = .ok (.ifCond .ne 54, 3) := by decide +kernel
theorem dX12_trialLine_82 : decode cX12_trialLine 82 = .ok (.aload_n 0, 1) := by decide +kernel
theorem dX12_trialLine_83 : decode cX12_trialLine 83 = .ok (.iconst 0, 1) := by decide +kernel
theorem dX12_trialLine_84 : decode cX12_trialLine 84 = .ok (.lload_n 1, 1) := by decide +kernel
theorem dX12_trialLine_85 : decode cX12_trialLine 85 = .ok (.ldc2_w 268, 3) := by decide +kernel
theorem dX12_trialLine_88 : decode cX12_trialLine 88 = .ok (.lcmp, 1) := by decide +kernel
theorem dX12_trialLine_89 : decode cX12_trialLine 89 = .ok (.ifCond .ne 7, 3) := by decide +kernel
theorem dX12_trialLine_92 : decode cX12_trialLine 92 = .ok (.iconst 1, 1) := by decide +kernel
theorem dX12_trialLine_93 : decode cX12_trialLine 93 = .ok (.goto 4, 3) := by decide +kernel
theorem dX12_trialLine_96 : decode cX12_trialLine 96 = .ok (.iconst 0, 1) := by decide +kernel
theorem dX12_trialLine_97 : decode cX12_trialLine 97 = .ok (.bipush 8, 2) := by decide +kernel
theorem dX12_trialLine_99 : decode cX12_trialLine 99 = .ok (.invokevirtual 174, 3) := by decide +kernel
theorem dX12_trialLine_102 : decode cX12_trialLine 102 = .ok (.ifCond .ne 5, 3) := by decide +kernel
theorem dX12_trialLine_105 : decode cX12_trialLine 105 = .ok (.iconst 0, 1) := by decide +kernel
theorem dX12_trialLine_106 : decode cX12_trialLine 106 = .ok (.ireturn, 1) := by decide +kernel
theorem dX12_trialLine_107 : decode cX12_trialLine 107 = .ok (.aload_n 0, 1) := by decide +kernel
theorem dX12_trialLine_108 : decode cX12_trialLine 108 = .ok (.getfield 38, 3) := by decide +kernel
theorem dX12_trialLine_111 : decode cX12_trialLine 111 = .ok (.lload_n 1, 1) := by decide +kernel
theorem dX12_trialLine_112 : decode cX12_trialLine 112 = .ok (.ldc2_w 268, 3) := by decide +kernel
theorem dX12_trialLine_115 : decode cX12_trialLine 115 = .ok (.lcmp, 1) := by decide +kernel
theorem dX12_trialLine_116 : decode cX12_trialLine 116 = .ok (.ifCond .ne 7, 3) := by decide +kernel
theorem dX12_trialLine_119 : decode cX12_trialLine 119 = .ok (.iconst 0, 1) := by decide +kernel
theorem dX12_trialLine_120 : decode cX12_trialLine 120 = .ok (.goto 4, 3) := by decide +kernel
theorem dX12_trialLine_123 : decode cX12_trialLine 123 = .ok (.iconst 1, 1) := by decide +kernel
theorem dX12_trialLine_124 : decode cX12_trialLine 124 = .ok (.aload_n 0, 1) := by decide +kernel
theorem dX12_trialLine_125 : decode cX12_trialLine 125 = .ok (.getfield 41, 3) := by decide +kernel
theorem dX12_trialLine_128 : decode cX12_trialLine 128 = .ok (.iconst 0, 1) := by decide +kernel
theorem dX12_trialLine_129 : decode cX12_trialLine 129 = .ok (.iaload, 1) := by decide +kernel
theorem dX12_trialLine_130 : decode cX12_trialLine 130 = .ok (.iastore, 1) := by decide +kernel
theorem dX12_trialLine_131 : decode cX12_trialLine 131 = .ok (.iconst 1, 1) := by decide +kernel
theorem dX12_trialLine_132 : decode cX12_trialLine 132 = .ok (.ireturn, 1) := by decide +kernel
theorem dX12_trialLine_133 : decode cX12_trialLine 133 = .ok (.aload_n 0, 1) := by decide +kernel
theorem dX12_trialLine_134 : decode cX12_trialLine 134 = .ok (.iconst 1, 1) := by decide +kernel
theorem dX12_trialLine_135 : decode cX12_trialLine 135 = .ok (.iconst 0, 1) := by decide +kernel
theorem dX12_trialLine_136 : decode cX12_trialLine 136 = .ok (.bipush 7, 2) := by decide +kernel
theorem dX12_trialLine_138 : decode cX12_trialLine 138 = .ok (.invokevirtual 174, 3) := by decide +kernel
theorem dX12_trialLine_141 : decode cX12_trialLine 141 = .ok (.ifCond .eq 14, 3) := by decide +kernel
theorem dX12_trialLine_144 : decode cX12_trialLine 144 = .ok (.aload_n 0, 1) := by decide +kernel
theorem dX12_trialLine_145 : decode cX12_trialLine 145 = .ok (.iconst 2, 1) := by decide +kernel
theorem dX12_trialLine_146 : decode cX12_trialLine 146 = .ok (.iconst 0, 1) := by decide +kernel
theorem dX12_trialLine_147 : decode cX12_trialLine 147 = .ok (.bipush 7, 2) := by decide +kernel
theorem dX12_trialLine_149 : decode cX12_trialLine 149 = .ok (.invokevirtual 174, 3) := by decide +kernel
theorem dX12_trialLine_152 : decode cX12_trialLine 152 = .ok (.ifCond .ne 5, 3) := by decide +kernel
theorem dX12_trialLine_155 : decode cX12_trialLine 155 = .ok (.iconst 0, 1) := by decide +kernel
theorem dX12_trialLine_156 : decode cX12_trialLine 156 = .ok (.ireturn, 1) := by decide +kernel
theorem dX12_trialLine_157 : decode cX12_trialLine 157 = .ok (.aload_n 0, 1) := by decide +kernel
theorem dX12_trialLine_158 : decode cX12_trialLine 158 = .ok (.aload_n 0, 1) := by decide +kernel
theorem dX12_trialLine_159 : decode cX12_trialLine 159 = .ok (.getfield 272, 3) := by decide +kernel
theorem dX12_trialLine_162 : decode cX12_trialLine 162 = .ok (.aload_n 0, 1) := by decide +kernel
theorem dX12_trialLine_163 : decode cX12_trialLine 163 = .ok (.getfield 41, 3) := by decide +kernel
theorem dX12_trialLine_166 : decode cX12_trialLine 166 = .ok (.iconst 1, 1) := by decide +kernel
theorem dX12_trialLine_167 : decode cX12_trialLine 167 = .ok (.iaload, 1) := by decide +kernel
theorem dX12_trialLine_168 : decode cX12_trialLine 168 = .ok (.aload_n 0, 1) := by decide +kernel
theorem dX12_trialLine_169 : decode cX12_trialLine 169 = .ok (.getfield 41, 3) := by decide +kernel
theorem dX12_trialLine_172 : decode cX12_trialLine 172 = .ok (.iconst 2, 1) := by decide +kernel
theorem dX12_trialLine_173 : decode cX12_trialLine 173 = .ok (.iaload, 1) := by decide +kernel
theorem dX12_trialLine_174 : decode cX12_trialLine 174 = .ok (.invokestatic 180, 3) := by decide +kernel
theorem dX12_trialLine_177 : decode cX12_trialLine 177 = .ok (.invokestatic 180, 3) := by decide +kernel
theorem dX12_trialLine_180 : decode cX12_trialLine 180 = .ok (.putfield 272, 3) := by decide +kernel
theorem dX12_trialLine_183 : decode cX12_trialLine 183 = .ok (.aload_n 0, 1) := by decide +kernel
theorem dX12_trialLine_184 : decode cX12_trialLine 184 = .ok (.getfield 41, 3) := by decide +kernel
theorem dX12_trialLine_187 : decode cX12_trialLine 187 = .ok (.iconst 0, 1) := by decide +kernel
theorem dX12_trialLine_188 : decode cX12_trialLine 188 = .ok (.lload_n 1, 1) := by decide +kernel
theorem dX12_trialLine_189 : decode cX12_trialLine 189 = .ok (.ldc2_w 264, 3) := by decide +kernel
theorem dX12_trialLine_192 : decode cX12_trialLine 192 = .ok (.lcmp, 1) := by decide +kernel
theorem dX12_trialLine_193 : decode cX12_trialLine 193 = .ok (.ifCond .ne 7, 3) := by decide +kernel
theorem dX12_trialLine_196 : decode cX12_trialLine 196 = .ok (.iconst 1, 1) := by decide +kernel
theorem dX12_trialLine_197 : decode cX12_trialLine 197 = .ok (.goto 4, 3) := by decide +kernel
theorem dX12_trialLine_200 : decode cX12_trialLine 200 = .ok (.iconst 0, 1) := by decide +kernel
theorem dX12_trialLine_201 : decode cX12_trialLine 201 = .ok (.iastore, 1) := by decide +kernel
theorem dX12_trialLine_202 : decode cX12_trialLine 202 = .ok (.aload_n 0, 1) := by decide +kernel
theorem dX12_trialLine_203 : decode cX12_trialLine 203 = .ok (.iconst 2, 1) := by decide +kernel
theorem dX12_trialLine_204 : decode cX12_trialLine 204 = .ok (.iconst 3, 1) := by decide +kernel
theorem dX12_trialLine_205 : decode cX12_trialLine 205 = .ok (.bipush 12, 2) := by decide +kernel
theorem dX12_trialLine_207 : decode cX12_trialLine 207 = .ok (.invokevirtual 261, 3) := by decide +kernel
theorem dX12_trialLine_210 : decode cX12_trialLine 210 = .ok (.iconst 1, 1) := by decide +kernel
theorem dX12_trialLine_211 : decode cX12_trialLine 211 = .ok (.ireturn, 1) := by decide +kernel
theorem dX12_sightLine_0 : decode cX12_sightLine 0 = .ok (.lload_n 1, 1) := by decide +kernel
theorem dX12_sightLine_1 : decode cX12_sightLine 1 = .ok (.ldc2_w 275, 3) := by decide +kernel
theorem dX12_sightLine_4 : decode cX12_sightLine 4 = .ok (.lcmp, 1) := by decide +kernel
theorem dX12_sightLine_5 : decode cX12_sightLine 5 = .ok (.ifCond .eq 16, 3) := by decide +kernel
theorem dX12_sightLine_8 : decode cX12_sightLine 8 = .ok (.lload_n 1, 1) := by decide +kernel
theorem dX12_sightLine_9 : decode cX12_sightLine 9 = .ok (.ldc2_w 277, 3) := by decide +kernel
theorem dX12_sightLine_12 : decode cX12_sightLine 12 = .ok (.lcmp, 1) := by decide +kernel
theorem dX12_sightLine_13 : decode cX12_sightLine 13 = .ok (.ifCond .eq 8, 3) := by decide +kernel
theorem dX12_sightLine_16 : decode cX12_sightLine 16 = .ok (.aload_n 0, 1) := by decide +kernel
theorem dX12_sightLine_17 : decode cX12_sightLine 17 = .ok (.invokevirtual 159, 3) := by decide +kernel
theorem dX12_sightLine_20 : decode cX12_sightLine 20 = .ok (.ireturn, 1) := by decide +kernel
theorem dX12_sightLine_21 : decode cX12_sightLine 21 = .ok (.aload_n 0, 1) := by decide +kernel
theorem dX12_sightLine_22 : decode cX12_sightLine 22 = .ok (.iconst 0, 1) := by decide +kernel
theorem dX12_sightLine_23 : decode cX12_sightLine 23 = .ok (.bipush 10, 2) := by decide +kernel
theorem dX12_sightLine_25 : decode cX12_sightLine 25 = .ok (.iload_n 3, 1) := by decide +kernel
theorem dX12_sightLine_26 : decode cX12_sightLine 26 = .ok (.invokevirtual 233, 3) := by decide +kernel
theorem dX12_sightLine_29 : decode cX12_sightLine 29 = .ok (.aload_n 0, 1) := by decide +kernel
theorem dX12_sightLine_30 : decode cX12_sightLine 30 = .ok (.invokevirtual 171, 3) := by decide +kernel
theorem dX12_sightLine_33 : decode cX12_sightLine 33 = .ok (.aload_n 0, 1) := by decide +kernel
theorem dX12_sightLine_34 : decode cX12_sightLine 34 = .ok (.iconst 1, 1) := by decide +kernel
theorem dX12_sightLine_35 : decode cX12_sightLine 35 = .ok (.iconst 0, 1) := by decide +kernel
theorem dX12_sightLine_36 : decode cX12_sightLine 36 = .ok (.bipush 7, 2) := by decide +kernel
theorem dX12_sightLine_38 : decode cX12_sightLine 38 = .ok (.invokevirtual 174, 3) := by decide +kernel
theorem dX12_sightLine_41 : decode cX12_sightLine 41 = .ok (.ifCond .eq 14, 3) := by decide +kernel
theorem dX12_sightLine_44 : decode cX12_sightLine 44 = .ok (.aload_n 0, 1) := by decide +kernel
theorem dX12_sightLine_45 : decode cX12_sightLine 45 = .ok (.iconst 2, 1) := by decide +kernel
theorem dX12_sightLine_46 : decode cX12_sightLine 46 = .ok (.iconst 0, 1) := by decide +kernel
theorem dX12_sightLine_47 : decode cX12_sightLine 47 = .ok (.bipush 7, 2) := by decide +kernel
theorem dX12_sightLine_49 : decode cX12_sightLine 49 = .ok (.invokevirtual 174, 3) := by decide +kernel
theorem dX12_sightLine_52 : decode cX12_sightLine 52 = .ok (.ifCond .ne 5, 3) := by decide +kernel
theorem dX12_sightLine_55 : decode cX12_sightLine 55 = .ok (.iconst 0, 1) := by decide +kernel
theorem dX12_sightLine_56 : decode cX12_sightLine 56 = .ok (.ireturn, 1) := by decide +kernel
theorem dX12_sightLine_57 : decode cX12_sightLine 57 = .ok (.aload_n 0, 1) := by decide +kernel
theorem dX12_sightLine_58 : decode cX12_sightLine 58 = .ok (.getfield 41, 3) := by decide +kernel
theorem dX12_sightLine_61 : decode cX12_sightLine 61 = .ok (.iconst 0, 1) := by decide +kernel
theorem dX12_sightLine_62 : decode cX12_sightLine 62 = .ok (.lload_n 1, 1) := by decide +kernel
theorem dX12_sightLine_63 : decode cX12_sightLine 63 = .ok (.ldc2_w 275, 3) := by decide +kernel
theorem dX12_sightLine_66 : decode cX12_sightLine 66 = .ok (.lcmp, 1) := by decide +kernel
theorem dX12_sightLine_67 : decode cX12_sightLine 67 = .ok (.ifCond .ne 7, 3) := by decide +kernel
theorem dX12_sightLine_70 : decode cX12_sightLine 70 = .ok (.iconst 1, 1) := by decide +kernel
theorem dX12_sightLine_71 : decode cX12_sightLine 71 = .ok (.goto 4, 3) := by decide +kernel
theorem dX12_sightLine_74 : decode cX12_sightLine 74 = .ok (.iconst 0, 1) := by decide +kernel
theorem dX12_sightLine_75 : decode cX12_sightLine 75 = .ok (.iastore, 1) := by decide +kernel
theorem dX12_sightLine_76 : decode cX12_sightLine 76 = .ok (.aload_n 0, 1) := by decide +kernel
theorem dX12_sightLine_77 : decode cX12_sightLine 77 = .ok (.iconst 0, 1) := by decide +kernel
theorem dX12_sightLine_78 : decode cX12_sightLine 78 = .ok (.iconst 1, 1) := by decide +kernel
theorem dX12_sightLine_79 : decode cX12_sightLine 79 = .ok (.bipush 10, 2) := by decide +kernel
theorem dX12_sightLine_81 : decode cX12_sightLine 81 = .ok (.invokevirtual 261, 3) := by decide +kernel
theorem dX12_sightLine_84 : decode cX12_sightLine 84 = .ok (.iconst 1, 1) := by decide +kernel
theorem dX12_sightLine_85 : decode cX12_sightLine 85 = .ok (.ireturn, 1) := by decide +kernel
theorem dX12_lineOf_0 : decode cX12_lineOf 0 = .ok (.iload_n 1, 1) := by decide +kernel
theorem dX12_lineOf_1 : decode cX12_lineOf 1 = .ok (.tableswitch 51 0 2 #[27, 35, 43], 27) := by decide +kernel
theorem dX12_lineOf_28 : decode cX12_lineOf 28 = .ok (.aload_n 0, 1) := by decide +kernel
theorem dX12_lineOf_29 : decode cX12_lineOf 29 = .ok (.lload_n 2, 1) := by decide +kernel
theorem dX12_lineOf_30 : decode cX12_lineOf 30 = .ok (.iload 4, 2) := by decide +kernel
theorem dX12_lineOf_32 : decode cX12_lineOf 32 = .ok (.invokevirtual 279, 3) := by decide +kernel
theorem dX12_lineOf_35 : decode cX12_lineOf 35 = .ok (.ireturn, 1) := by decide +kernel
theorem dX12_lineOf_36 : decode cX12_lineOf 36 = .ok (.aload_n 0, 1) := by decide +kernel
theorem dX12_lineOf_37 : decode cX12_lineOf 37 = .ok (.lload_n 2, 1) := by decide +kernel
theorem dX12_lineOf_38 : decode cX12_lineOf 38 = .ok (.iload 4, 2) := by decide +kernel
theorem dX12_lineOf_40 : decode cX12_lineOf 40 = .ok (.invokevirtual 283, 3) := by decide +kernel
theorem dX12_lineOf_43 : decode cX12_lineOf 43 = .ok (.ireturn, 1) := by decide +kernel
theorem dX12_lineOf_44 : decode cX12_lineOf 44 = .ok (.aload_n 0, 1) := by decide +kernel
theorem dX12_lineOf_45 : decode cX12_lineOf 45 = .ok (.lload_n 2, 1) := by decide +kernel
theorem dX12_lineOf_46 : decode cX12_lineOf 46 = .ok (.iload 4, 2) := by decide +kernel
theorem dX12_lineOf_48 : decode cX12_lineOf 48 = .ok (.invokevirtual 286, 3) := by decide +kernel
theorem dX12_lineOf_51 : decode cX12_lineOf 51 = .ok (.ireturn, 1) := by decide +kernel
theorem dX12_lineOf_52 : decode cX12_lineOf 52 = .ok (.aload_n 0, 1) := by decide +kernel
theorem dX12_lineOf_53 : decode cX12_lineOf 53 = .ok (.lload_n 2, 1) := by decide +kernel
theorem dX12_lineOf_54 : decode cX12_lineOf 54 = .ok (.iload 4, 2) := by decide +kernel
theorem dX12_lineOf_56 : decode cX12_lineOf 56 = .ok (.invokevirtual 289, 3) := by decide +kernel
theorem dX12_lineOf_59 : decode cX12_lineOf 59 = .ok (.ireturn, 1) := by decide +kernel
theorem dX12_lines_0 : decode cX12_lines 0 = .ok (.iconst 1, 1) := by decide +kernel
theorem dX12_lines_1 : decode cX12_lines 1 = .ok (.istore_n 2, 1) := by decide +kernel
theorem dX12_lines_2 : decode cX12_lines 2 = .ok (.iload_n 2, 1) := by decide +kernel
theorem dX12_lines_3 : decode cX12_lines 3 = .ok (.ifCond .eq 71, 3) := by decide +kernel
theorem dX12_lines_6 : decode cX12_lines 6 = .ok (.aload_n 0, 1) := by decide +kernel
theorem dX12_lines_7 : decode cX12_lines 7 = .ok (.getfield 144, 3) := by decide +kernel
theorem dX12_lines_10 : decode cX12_lines 10 = .ok (.ifCond .eq 64, 3) := by decide +kernel
theorem dX12_lines_13 : decode cX12_lines 13 = .ok (.aload_n 0, 1) := by decide +kernel
theorem dX12_lines_14 : decode cX12_lines 14 = .ok (.getfield 137, 3) := by decide +kernel
theorem dX12_lines_17 : decode cX12_lines 17 = .ok (.istore_n 3, 1) := by decide +kernel
theorem dX12_lines_18 : decode cX12_lines 18 = .ok (.aload_n 0, 1) := by decide +kernel
theorem dX12_lines_19 : decode cX12_lines 19 = .ok (.iconst 1, 1) := by decide +kernel
theorem dX12_lines_20 : decode cX12_lines 20 = .ok (.putfield 167, 3) := by decide +kernel
theorem dX12_lines_23 : decode cX12_lines 23 = .ok (.aload_n 0, 1) := by decide +kernel
theorem dX12_lines_24 : decode cX12_lines 24 = .ok (.iload_n 1, 1) := by decide +kernel
theorem dX12_lines_25 : decode cX12_lines 25 = .ok (.aload_n 0, 1) := by decide +kernel
theorem dX12_lines_26 : decode cX12_lines 26 = .ok (.getfield 144, 3) := by decide +kernel
theorem dX12_lines_29 : decode cX12_lines 29 = .ok (.iconst 2, 1) := by decide +kernel
theorem dX12_lines_30 : decode cX12_lines 30 = .ok (.if_icmp .ne 10, 3) := by decide +kernel
theorem dX12_lines_33 : decode cX12_lines 33 = .ok (.aload_n 0, 1) := by decide +kernel
theorem dX12_lines_34 : decode cX12_lines 34 = .ok (.getfield 140, 3) := by decide +kernel
theorem dX12_lines_37 : decode cX12_lines 37 = .ok (.goto 4, 3) := by decide +kernel
theorem dX12_lines_40 : decode cX12_lines 40 = .ok (.lconst 0, 1) := by decide +kernel
theorem dX12_lines_41 : decode cX12_lines 41 = .ok (.iload_n 3, 1) := by decide +kernel
theorem dX12_lines_42 : decode cX12_lines 42 = .ok (.invokevirtual 292, 3) := by decide +kernel
theorem dX12_lines_45 : decode cX12_lines 45 = .ok (.istore_n 2, 1) := by decide +kernel
theorem dX12_lines_46 : decode cX12_lines 46 = .ok (.iload_n 2, 1) := by decide +kernel
theorem dX12_lines_47 : decode cX12_lines 47 = .ok (.ifCond .eq 16, 3) := by decide +kernel
theorem dX12_lines_50 : decode cX12_lines 50 = .ok (.aload_n 0, 1) := by decide +kernel
theorem dX12_lines_51 : decode cX12_lines 51 = .ok (.getfield 144, 3) := by decide +kernel
theorem dX12_lines_54 : decode cX12_lines 54 = .ok (.iconst 4, 1) := by decide +kernel
theorem dX12_lines_55 : decode cX12_lines 55 = .ok (.if_icmp .eq 8, 3) := by decide +kernel
theorem dX12_lines_58 : decode cX12_lines 58 = .ok (.aload_n 0, 1) := by decide +kernel
theorem dX12_lines_59 : decode cX12_lines 59 = .ok (.invokevirtual 159, 3) := by decide +kernel
theorem dX12_lines_62 : decode cX12_lines 62 = .ok (.istore_n 2, 1) := by decide +kernel
theorem dX12_lines_63 : decode cX12_lines 63 = .ok (.iload_n 2, 1) := by decide +kernel
theorem dX12_lines_64 : decode cX12_lines 64 = .ok (.ifCond .eq 7, 3) := by decide +kernel
theorem dX12_lines_67 : decode cX12_lines 67 = .ok (.aload_n 0, 1) := by decide +kernel
theorem dX12_lines_68 : decode cX12_lines 68 = .ok (.invokevirtual 171, 3) := by decide +kernel
theorem dX12_lines_71 : decode cX12_lines 71 = .ok (.goto (-69), 3) := by decide +kernel
theorem dX12_lines_74 : decode cX12_lines 74 = .ok (.iload_n 2, 1) := by decide +kernel
theorem dX12_lines_75 : decode cX12_lines 75 = .ok (.ireturn, 1) := by decide +kernel
theorem dX12_blank_0 : decode cX12_blank 0 = .ok (.iconst 0, 1) := by decide +kernel
theorem dX12_blank_1 : decode cX12_blank 1 = .ok (.istore_n 2, 1) := by decide +kernel
theorem dX12_blank_2 : decode cX12_blank 2 = .ok (.iload_n 2, 1) := by decide +kernel
theorem dX12_blank_3 : decode cX12_blank 3 = .ok (.bipush 121, 2) := by decide +kernel
theorem dX12_blank_5 : decode cX12_blank 5 = .ok (.if_icmp .ge 16, 3) := by decide +kernel
theorem dX12_blank_8 : decode cX12_blank 8 = .ok (.aload_n 0, 1) := by decide +kernel
theorem dX12_blank_9 : decode cX12_blank 9 = .ok (.getfield 38, 3) := by decide +kernel
theorem dX12_blank_12 : decode cX12_blank 12 = .ok (.iload_n 2, 1) := by decide +kernel
theorem dX12_blank_13 : decode cX12_blank 13 = .ok (.iconst 0, 1) := by decide +kernel
theorem dX12_blank_14 : decode cX12_blank 14 = .ok (.iastore, 1) := by decide +kernel
theorem dX12_blank_15 : decode cX12_blank 15 = .ok (.iinc 2 1, 3) := by decide +kernel
theorem dX12_blank_18 : decode cX12_blank 18 = .ok (.goto (-16), 3) := by decide +kernel
theorem dX12_blank_21 : decode cX12_blank 21 = .ok (.iload_n 1, 1) := by decide +kernel
theorem dX12_blank_22 : decode cX12_blank 22 = .ok (.ifCond .ne 48, 3) := by decide +kernel
theorem dX12_blank_25 : decode cX12_blank 25 = .ok (.aload_n 0, 1) := by decide +kernel
theorem dX12_blank_26 : decode cX12_blank 26 = .ok (.getfield 38, 3) := by decide +kernel
theorem dX12_blank_29 : decode cX12_blank 29 = .ok (.iconst 0, 1) := by decide +kernel
theorem dX12_blank_30 : decode cX12_blank 30 = .ok (.bipush 6, 2) := by decide +kernel
theorem dX12_blank_32 : decode cX12_blank 32 = .ok (.iastore, 1) := by decide +kernel
theorem dX12_blank_33 : decode cX12_blank 33 = .ok (.aload_n 0, 1) := by decide +kernel
theorem dX12_blank_34 : decode cX12_blank 34 = .ok (.getfield 38, 3) := by decide +kernel
theorem dX12_blank_37 : decode cX12_blank 37 = .ok (.iconst 1, 1) := by decide +kernel
theorem dX12_blank_38 : decode cX12_blank 38 = .ok (.bipush 6, 2) := by decide +kernel
theorem dX12_blank_40 : decode cX12_blank 40 = .ok (.iastore, 1) := by decide +kernel
theorem dX12_blank_41 : decode cX12_blank 41 = .ok (.aload_n 0, 1) := by decide +kernel
theorem dX12_blank_42 : decode cX12_blank 42 = .ok (.getfield 38, 3) := by decide +kernel
theorem dX12_blank_45 : decode cX12_blank 45 = .ok (.iconst 2, 1) := by decide +kernel
theorem dX12_blank_46 : decode cX12_blank 46 = .ok (.iconst 4, 1) := by decide +kernel
theorem dX12_blank_47 : decode cX12_blank 47 = .ok (.iastore, 1) := by decide +kernel
theorem dX12_blank_48 : decode cX12_blank 48 = .ok (.iconst 0, 1) := by decide +kernel
theorem dX12_blank_49 : decode cX12_blank 49 = .ok (.istore_n 2, 1) := by decide +kernel
theorem dX12_blank_50 : decode cX12_blank 50 = .ok (.iload_n 2, 1) := by decide +kernel
theorem dX12_blank_51 : decode cX12_blank 51 = .ok (.iconst 4, 1) := by decide +kernel
theorem dX12_blank_52 : decode cX12_blank 52 = .ok (.if_icmp .ge 18, 3) := by decide +kernel
theorem dX12_blank_55 : decode cX12_blank 55 = .ok (.aload_n 0, 1) := by decide +kernel
theorem dX12_blank_56 : decode cX12_blank 56 = .ok (.getfield 38, 3) := by decide +kernel
theorem dX12_blank_59 : decode cX12_blank 59 = .ok (.iconst 5, 1) := by decide +kernel
theorem dX12_blank_60 : decode cX12_blank 60 = .ok (.iload_n 2, 1) := by decide +kernel
theorem dX12_blank_61 : decode cX12_blank 61 = .ok (.iadd, 1) := by decide +kernel
theorem dX12_blank_62 : decode cX12_blank 62 = .ok (.iconst 3, 1) := by decide +kernel
theorem dX12_blank_63 : decode cX12_blank 63 = .ok (.iastore, 1) := by decide +kernel
theorem dX12_blank_64 : decode cX12_blank 64 = .ok (.iinc 2 1, 3) := by decide +kernel
theorem dX12_blank_67 : decode cX12_blank 67 = .ok (.goto (-17), 3) := by decide +kernel
theorem dX12_blank_70 : decode cX12_blank 70 = .ok (.iload_n 1, 1) := by decide +kernel
theorem dX12_blank_71 : decode cX12_blank 71 = .ok (.iconst 2, 1) := by decide +kernel
theorem dX12_blank_72 : decode cX12_blank 72 = .ok (.if_icmp .ne 17, 3) := by decide +kernel
theorem dX12_blank_75 : decode cX12_blank 75 = .ok (.aload_n 0, 1) := by decide +kernel
theorem dX12_blank_76 : decode cX12_blank 76 = .ok (.getfield 38, 3) := by decide +kernel
theorem dX12_blank_79 : decode cX12_blank 79 = .ok (.iconst 0, 1) := by decide +kernel
theorem dX12_blank_80 : decode cX12_blank 80 = .ok (.iconst 4, 1) := by decide +kernel
theorem dX12_blank_81 : decode cX12_blank 81 = .ok (.iastore, 1) := by decide +kernel
theorem dX12_blank_82 : decode cX12_blank 82 = .ok (.aload_n 0, 1) := by decide +kernel
theorem dX12_blank_83 : decode cX12_blank 83 = .ok (.getfield 38, 3) := by decide +kernel
theorem dX12_blank_86 : decode cX12_blank 86 = .ok (.iconst 1, 1) := by decide +kernel
theorem dX12_blank_87 : decode cX12_blank 87 = .ok (.iconst (-1), 1) := by decide +kernel
theorem dX12_blank_88 : decode cX12_blank 88 = .ok (.iastore, 1) := by decide +kernel
theorem dX12_blank_89 : decode cX12_blank 89 = .ok (.return_, 1) := by decide +kernel
theorem dX12_isWalled_0 : decode cX12_isWalled 0 = .ok (.iconst 0, 1) := by decide +kernel
theorem dX12_isWalled_1 : decode cX12_isWalled 1 = .ok (.istore_n 1, 1) := by decide +kernel
theorem dX12_isWalled_2 : decode cX12_isWalled 2 = .ok (.iload_n 1, 1) := by decide +kernel
theorem dX12_isWalled_3 : decode cX12_isWalled 3 = .ok (.bipush 6, 2) := by decide +kernel
theorem dX12_isWalled_5 : decode cX12_isWalled 5 = .ok (.if_icmp .ge 95, 3) := by decide +kernel
theorem dX12_isWalled_8 : decode cX12_isWalled 8 = .ok (.iload_n 1, 1) := by decide +kernel
theorem dX12_isWalled_9 : decode cX12_isWalled 9 = .ok (.aload_n 0, 1) := by decide +kernel
theorem dX12_isWalled_10 : decode cX12_isWalled 10 = .ok (.getfield 38, 3) := by decide +kernel
theorem dX12_isWalled_13 : decode cX12_isWalled 13 = .ok (.iconst 3, 1) := by decide +kernel
theorem dX12_isWalled_14 : decode cX12_isWalled 14 = .ok (.iaload, 1) := by decide +kernel
theorem dX12_isWalled_15 : decode cX12_isWalled 15 = .ok (.if_icmp .ge 35, 3) := by decide +kernel
theorem dX12_isWalled_18 : decode cX12_isWalled 18 = .ok (.aload_n 0, 1) := by decide +kernel
theorem dX12_isWalled_19 : decode cX12_isWalled 19 = .ok (.getfield 38, 3) := by decide +kernel
theorem dX12_isWalled_22 : decode cX12_isWalled 22 = .ok (.bipush 45, 2) := by decide +kernel
theorem dX12_isWalled_24 : decode cX12_isWalled 24 = .ok (.aload_n 0, 1) := by decide +kernel
theorem dX12_isWalled_25 : decode cX12_isWalled 25 = .ok (.getfield 38, 3) := by decide +kernel
theorem dX12_isWalled_28 : decode cX12_isWalled 28 = .ok (.bipush 21, 2) := by decide +kernel
theorem dX12_isWalled_30 : decode cX12_isWalled 30 = .ok (.iload_n 1, 1) := by decide +kernel
theorem dX12_isWalled_31 : decode cX12_isWalled 31 = .ok (.iadd, 1) := by decide +kernel
theorem dX12_isWalled_32 : decode cX12_isWalled 32 = .ok (.iaload, 1) := by decide +kernel
theorem dX12_isWalled_33 : decode cX12_isWalled 33 = .ok (.iadd, 1) := by decide +kernel
theorem dX12_isWalled_34 : decode cX12_isWalled 34 = .ok (.iaload, 1) := by decide +kernel
theorem dX12_isWalled_35 : decode cX12_isWalled 35 = .ok (.aload_n 0, 1) := by decide +kernel
theorem dX12_isWalled_36 : decode cX12_isWalled 36 = .ok (.getfield 38, 3) := by decide +kernel
theorem dX12_isWalled_39 : decode cX12_isWalled 39 = .ok (.bipush 15, 2) := by decide +kernel
theorem dX12_isWalled_41 : decode cX12_isWalled 41 = .ok (.iload_n 1, 1) := by decide +kernel
theorem dX12_isWalled_42 : decode cX12_isWalled 42 = .ok (.iadd, 1) := by decide +kernel
theorem dX12_isWalled_43 : decode cX12_isWalled 43 = .ok (.iaload, 1) := by decide +kernel
theorem dX12_isWalled_44 : decode cX12_isWalled 44 = .ok (.invokestatic 111, 3) := by decide +kernel
theorem dX12_isWalled_47 : decode cX12_isWalled 47 = .ok (.ifCond .ne 45, 3) := by decide +kernel
theorem dX12_isWalled_50 : decode cX12_isWalled 50 = .ok (.iload_n 1, 1) := by decide +kernel
theorem dX12_isWalled_51 : decode cX12_isWalled 51 = .ok (.aload_n 0, 1) := by decide +kernel
theorem dX12_isWalled_52 : decode cX12_isWalled 52 = .ok (.getfield 38, 3) := by decide +kernel
theorem dX12_isWalled_55 : decode cX12_isWalled 55 = .ok (.iconst 4, 1) := by decide +kernel
theorem dX12_isWalled_56 : decode cX12_isWalled 56 = .ok (.iaload, 1) := by decide +kernel
theorem dX12_isWalled_57 : decode cX12_isWalled 57 = .ok (.if_icmp .ge 37, 3) := by decide +kernel
theorem dX12_isWalled_60 : decode cX12_isWalled 60 = .ok (.aload_n 0, 1) := by decide +kernel
theorem dX12_isWalled_61 : decode cX12_isWalled 61 = .ok (.getfield 38, 3) := by decide +kernel
theorem dX12_isWalled_64 : decode cX12_isWalled 64 = .ok (.bipush 45, 2) := by decide +kernel
theorem dX12_isWalled_66 : decode cX12_isWalled 66 = .ok (.aload_n 0, 1) := by decide +kernel
theorem dX12_isWalled_67 : decode cX12_isWalled 67 = .ok (.getfield 38, 3) := by decide +kernel
theorem dX12_isWalled_70 : decode cX12_isWalled 70 = .ok (.bipush 39, 2) := by decide +kernel
theorem dX12_isWalled_72 : decode cX12_isWalled 72 = .ok (.iload_n 1, 1) := by decide +kernel
theorem dX12_isWalled_73 : decode cX12_isWalled 73 = .ok (.iadd, 1) := by decide +kernel
theorem dX12_isWalled_74 : decode cX12_isWalled 74 = .ok (.iaload, 1) := by decide +kernel
theorem dX12_isWalled_75 : decode cX12_isWalled 75 = .ok (.iadd, 1) := by decide +kernel
theorem dX12_isWalled_76 : decode cX12_isWalled 76 = .ok (.iaload, 1) := by decide +kernel
theorem dX12_isWalled_77 : decode cX12_isWalled 77 = .ok (.aload_n 0, 1) := by decide +kernel
theorem dX12_isWalled_78 : decode cX12_isWalled 78 = .ok (.getfield 38, 3) := by decide +kernel
theorem dX12_isWalled_81 : decode cX12_isWalled 81 = .ok (.bipush 33, 2) := by decide +kernel
theorem dX12_isWalled_83 : decode cX12_isWalled 83 = .ok (.iload_n 1, 1) := by decide +kernel
theorem dX12_isWalled_84 : decode cX12_isWalled 84 = .ok (.iadd, 1) := by decide +kernel
theorem dX12_isWalled_85 : decode cX12_isWalled 85 = .ok (.iaload, 1) := by decide +kernel
theorem dX12_isWalled_86 : decode cX12_isWalled 86 = .ok (.invokestatic 111, 3) := by decide +kernel
theorem dX12_isWalled_89 : decode cX12_isWalled 89 = .ok (.ifCond .eq 5, 3) := by decide +kernel
theorem dX12_isWalled_92 : decode cX12_isWalled 92 = .ok (.iconst 1, 1) := by decide +kernel
theorem dX12_isWalled_93 : decode cX12_isWalled 93 = .ok (.ireturn, 1) := by decide +kernel
theorem dX12_isWalled_94 : decode cX12_isWalled 94 = .ok (.iinc 1 1, 3) := by decide +kernel
theorem dX12_isWalled_97 : decode cX12_isWalled 97 = .ok (.goto (-95), 3) := by decide +kernel
theorem dX12_isWalled_100 : decode cX12_isWalled 100 = .ok (.iconst 0, 1) := by decide +kernel
theorem dX12_isWalled_101 : decode cX12_isWalled 101 = .ok (.ireturn, 1) := by decide +kernel
theorem dX12_atEnd_0 : decode cX12_atEnd 0 = .ok (.iload_n 1, 1) := by decide +kernel
theorem dX12_atEnd_1 : decode cX12_atEnd 1 = .ok (.ifCond .ne 29, 3) := by decide +kernel
theorem dX12_atEnd_4 : decode cX12_atEnd 4 = .ok (.aload_n 0, 1) := by decide +kernel
theorem dX12_atEnd_5 : decode cX12_atEnd 5 = .ok (.getfield 177, 3) := by decide +kernel
theorem dX12_atEnd_8 : decode cX12_atEnd 8 = .ok (.aload_n 0, 1) := by decide +kernel
theorem dX12_atEnd_9 : decode cX12_atEnd 9 = .ok (.getfield 38, 3) := by decide +kernel
theorem dX12_atEnd_12 : decode cX12_atEnd 12 = .ok (.iconst 0, 1) := by decide +kernel
theorem dX12_atEnd_13 : decode cX12_atEnd 13 = .ok (.iaload, 1) := by decide +kernel
theorem dX12_atEnd_14 : decode cX12_atEnd 14 = .ok (.if_icmp .ge 34, 3) := by decide +kernel
theorem dX12_atEnd_17 : decode cX12_atEnd 17 = .ok (.aload_n 0, 1) := by decide +kernel
theorem dX12_atEnd_18 : decode cX12_atEnd 18 = .ok (.getfield 184, 3) := by decide +kernel
theorem dX12_atEnd_21 : decode cX12_atEnd 21 = .ok (.aload_n 0, 1) := by decide +kernel
theorem dX12_atEnd_22 : decode cX12_atEnd 22 = .ok (.getfield 38, 3) := by decide +kernel
theorem dX12_atEnd_25 : decode cX12_atEnd 25 = .ok (.iconst 1, 1) := by decide +kernel
theorem dX12_atEnd_26 : decode cX12_atEnd 26 = .ok (.iaload, 1) := by decide +kernel
theorem dX12_atEnd_27 : decode cX12_atEnd 27 = .ok (.if_icmp .ge 21, 3) := by decide +kernel
theorem dX12_atEnd_30 : decode cX12_atEnd 30 = .ok (.iload_n 1, 1) := by decide +kernel
theorem dX12_atEnd_31 : decode cX12_atEnd 31 = .ok (.iconst 2, 1) := by decide +kernel
theorem dX12_atEnd_32 : decode cX12_atEnd 32 = .ok (.if_icmp .ne 28, 3) := by decide +kernel
theorem dX12_atEnd_35 : decode cX12_atEnd 35 = .ok (.aload_n 0, 1) := by decide +kernel
theorem dX12_atEnd_36 : decode cX12_atEnd 36 = .ok (.getfield 272, 3) := by decide +kernel
theorem dX12_atEnd_39 : decode cX12_atEnd 39 = .ok (.aload_n 0, 1) := by decide +kernel
theorem dX12_atEnd_40 : decode cX12_atEnd 40 = .ok (.getfield 38, 3) := by decide +kernel
theorem dX12_atEnd_43 : decode cX12_atEnd 43 = .ok (.iconst 0, 1) := by decide +kernel
theorem dX12_atEnd_44 : decode cX12_atEnd 44 = .ok (.iaload, 1) := by decide +kernel
theorem dX12_atEnd_45 : decode cX12_atEnd 45 = .ok (.if_icmp .lt 15, 3) := by decide +kernel
theorem dX12_atEnd_48 : decode cX12_atEnd 48 = .ok (.aload_n 0, 1) := by decide +kernel
theorem dX12_atEnd_49 : decode cX12_atEnd 49 = .ok (.iconst 4, 1) := by decide +kernel
theorem dX12_atEnd_50 : decode cX12_atEnd 50 = .ok (.aload_n 0, 1) := by decide +kernel
theorem dX12_atEnd_51 : decode cX12_atEnd 51 = .ok (.getfield 137, 3) := by decide +kernel
theorem dX12_atEnd_54 : decode cX12_atEnd 54 = .ok (.invokevirtual 163, 3) := by decide +kernel
theorem dX12_atEnd_57 : decode cX12_atEnd 57 = .ok (.goto 23, 3) := by decide +kernel
theorem dX12_atEnd_60 : decode cX12_atEnd 60 = .ok (.iload_n 1, 1) := by decide +kernel
theorem dX12_atEnd_61 : decode cX12_atEnd 61 = .ok (.ifCond .ne 19, 3) := by decide +kernel
theorem dX12_atEnd_64 : decode cX12_atEnd 64 = .ok (.aload_n 0, 1) := by decide +kernel
theorem dX12_atEnd_65 : decode cX12_atEnd 65 = .ok (.invokevirtual 296, 3) := by decide +kernel
theorem dX12_atEnd_68 : decode cX12_atEnd 68 = .ok (.ifCond .eq 12, 3) := by decide +kernel
theorem dX12_atEnd_71 : decode cX12_atEnd 71 = .ok (.aload_n 0, 1) := by decide +kernel
theorem dX12_atEnd_72 : decode cX12_atEnd 72 = .ok (.iconst 5, 1) := by decide +kernel
theorem dX12_atEnd_73 : decode cX12_atEnd 73 = .ok (.aload_n 0, 1) := by decide +kernel
theorem dX12_atEnd_74 : decode cX12_atEnd 74 = .ok (.getfield 137, 3) := by decide +kernel
theorem dX12_atEnd_77 : decode cX12_atEnd 77 = .ok (.invokevirtual 163, 3) := by decide +kernel
theorem dX12_atEnd_80 : decode cX12_atEnd 80 = .ok (.return_, 1) := by decide +kernel
theorem dX12_readText_0 : decode cX12_readText 0 = .ok (.aload_n 0, 1) := by decide +kernel
theorem dX12_readText_1 : decode cX12_readText 1 = .ok (.iload_n 1, 1) := by decide +kernel
theorem dX12_readText_2 : decode cX12_readText 2 = .ok (.invokevirtual 299, 3) := by decide +kernel
theorem dX12_readText_5 : decode cX12_readText 5 = .ok (.aload_n 0, 1) := by decide +kernel
theorem dX12_readText_6 : decode cX12_readText 6 = .ok (.iconst (-1), 1) := by decide +kernel
theorem dX12_readText_7 : decode cX12_readText 7 = .ok (.putfield 177, 3) := by decide +kernel
theorem dX12_readText_10 : decode cX12_readText 10 = .ok (.aload_n 0, 1) := by decide +kernel
theorem dX12_readText_11 : decode cX12_readText 11 = .ok (.iconst (-1), 1) := by decide +kernel
theorem dX12_readText_12 : decode cX12_readText 12 = .ok (.putfield 184, 3) := by decide +kernel
theorem dX12_readText_15 : decode cX12_readText 15 = .ok (.aload_n 0, 1) := by decide +kernel
theorem dX12_readText_16 : decode cX12_readText 16 = .ok (.iconst (-1), 1) := by decide +kernel
theorem dX12_readText_17 : decode cX12_readText 17 = .ok (.putfield 272, 3) := by decide +kernel
theorem dX12_readText_20 : decode cX12_readText 20 = .ok (.aload_n 0, 1) := by decide +kernel
theorem dX12_readText_21 : decode cX12_readText 21 = .ok (.iconst 0, 1) := by decide +kernel
theorem dX12_readText_22 : decode cX12_readText 22 = .ok (.putfield 127, 3) := by decide +kernel
theorem dX12_readText_25 : decode cX12_readText 25 = .ok (.aload_n 0, 1) := by decide +kernel
theorem dX12_readText_26 : decode cX12_readText 26 = .ok (.iconst 0, 1) := by decide +kernel
theorem dX12_readText_27 : decode cX12_readText 27 = .ok (.putfield 153, 3) := by decide +kernel
theorem dX12_readText_30 : decode cX12_readText 30 = .ok (.aload_n 0, 1) := by decide +kernel
theorem dX12_readText_31 : decode cX12_readText 31 = .ok (.invokevirtual 171, 3) := by decide +kernel
theorem dX12_readText_34 : decode cX12_readText 34 = .ok (.aload_n 0, 1) := by decide +kernel
theorem dX12_readText_35 : decode cX12_readText 35 = .ok (.iload_n 1, 1) := by decide +kernel
theorem dX12_readText_36 : decode cX12_readText 36 = .ok (.invokevirtual 302, 3) := by decide +kernel
theorem dX12_readText_39 : decode cX12_readText 39 = .ok (.istore_n 2, 1) := by decide +kernel
theorem dX12_readText_40 : decode cX12_readText 40 = .ok (.iload_n 2, 1) := by decide +kernel
theorem dX12_readText_41 : decode cX12_readText 41 = .ok (.ifCond .eq 15, 3) := by decide +kernel
theorem dX12_readText_44 : decode cX12_readText 44 = .ok (.aload_n 0, 1) := by decide +kernel
theorem dX12_readText_45 : decode cX12_readText 45 = .ok (.getfield 153, 3) := by decide +kernel
theorem dX12_readText_48 : decode cX12_readText 48 = .ok (.ifCond .ne 8, 3) := by decide +kernel
theorem dX12_readText_51 : decode cX12_readText 51 = .ok (.aload_n 0, 1) := by decide +kernel
theorem dX12_readText_52 : decode cX12_readText 52 = .ok (.iload_n 1, 1) := by decide +kernel
theorem dX12_readText_53 : decode cX12_readText 53 = .ok (.invokevirtual 305, 3) := by decide +kernel
theorem dX12_readText_56 : decode cX12_readText 56 = .ok (.aload_n 0, 1) := by decide +kernel
theorem dX12_readText_57 : decode cX12_readText 57 = .ok (.getfield 17, 3) := by decide +kernel
theorem dX12_readText_60 : decode cX12_readText 60 = .ok (.iconst 0, 1) := by decide +kernel
theorem dX12_readText_61 : decode cX12_readText 61 = .ok (.iload_n 2, 1) := by decide +kernel
theorem dX12_readText_62 : decode cX12_readText 62 = .ok (.ifCond .eq 10, 3) := by decide +kernel
theorem dX12_readText_65 : decode cX12_readText 65 = .ok (.aload_n 0, 1) := by decide +kernel
theorem dX12_readText_66 : decode cX12_readText 66 = .ok (.getfield 153, 3) := by decide +kernel
theorem dX12_readText_69 : decode cX12_readText 69 = .ok (.goto 4, 3) := by decide +kernel
theorem dX12_readText_72 : decode cX12_readText 72 = .ok (.iconst 1, 1) := by decide +kernel
theorem dX12_readText_73 : decode cX12_readText 73 = .ok (.iastore, 1) := by decide +kernel
theorem dX12_readText_74 : decode cX12_readText 74 = .ok (.aload_n 0, 1) := by decide +kernel
theorem dX12_readText_75 : decode cX12_readText 75 = .ok (.getfield 20, 3) := by decide +kernel
theorem dX12_readText_78 : decode cX12_readText 78 = .ok (.iconst 0, 1) := by decide +kernel
theorem dX12_readText_79 : decode cX12_readText 79 = .ok (.iload_n 2, 1) := by decide +kernel
theorem dX12_readText_80 : decode cX12_readText 80 = .ok (.ifCond .ne 10, 3) := by decide +kernel
theorem dX12_readText_83 : decode cX12_readText 83 = .ok (.aload_n 0, 1) := by decide +kernel
theorem dX12_readText_84 : decode cX12_readText 84 = .ok (.getfield 150, 3) := by decide +kernel
theorem dX12_readText_87 : decode cX12_readText 87 = .ok (.goto 18, 3) := by decide +kernel
theorem dX12_readText_90 : decode cX12_readText 90 = .ok (.aload_n 0, 1) := by decide +kernel
theorem dX12_readText_91 : decode cX12_readText 91 = .ok (.getfield 153, 3) := by decide +kernel
theorem dX12_readText_94 : decode cX12_readText 94 = .ok (.ifCond .le 10, 3) := by decide +kernel
theorem dX12_readText_97 : decode cX12_readText 97 = .ok (.aload_n 0, 1) := by decide +kernel
theorem dX12_readText_98 : decode cX12_readText 98 = .ok (.getfield 156, 3) := by decide +kernel
theorem dX12_readText_101 : decode cX12_readText 101 = .ok (.goto 4, 3) := by decide +kernel
theorem dX12_readText_104 : decode cX12_readText 104 = .ok (.iconst (-1), 1) := by decide +kernel
theorem dX12_readText_105 : decode cX12_readText 105 = .ok (.iastore, 1) := by decide +kernel
theorem dX12_readText_106 : decode cX12_readText 106 = .ok (.aload_n 0, 1) := by decide +kernel
theorem dX12_readText_107 : decode cX12_readText 107 = .ok (.getfield 17, 3) := by decide +kernel
theorem dX12_readText_110 : decode cX12_readText 110 = .ok (.iconst 0, 1) := by decide +kernel
theorem dX12_readText_111 : decode cX12_readText 111 = .ok (.iaload, 1) := by decide +kernel
theorem dX12_readText_112 : decode cX12_readText 112 = .ok (.ifCond .ne 7, 3) := by decide +kernel
theorem dX12_readText_115 : decode cX12_readText 115 = .ok (.iconst 1, 1) := by decide +kernel
theorem dX12_readText_116 : decode cX12_readText 116 = .ok (.goto 4, 3) := by decide +kernel
theorem dX12_readText_119 : decode cX12_readText 119 = .ok (.iconst 0, 1) := by decide +kernel
theorem dX12_readText_120 : decode cX12_readText 120 = .ok (.ireturn, 1) := by decide +kernel
theorem dX12_store_0 : decode cX12_store 0 = .ok (.iconst 0, 1) := by decide +kernel
theorem dX12_store_1 : decode cX12_store 1 = .ok (.istore 4, 2) := by decide +kernel
theorem dX12_store_3 : decode cX12_store 3 = .ok (.iload 4, 2) := by decide +kernel
theorem dX12_store_5 : decode cX12_store 5 = .ok (.iload_n 2, 1) := by decide +kernel
theorem dX12_store_6 : decode cX12_store 6 = .ok (.if_icmp .ge 24, 3) := by decide +kernel
theorem dX12_store_9 : decode cX12_store 9 = .ok (.aload_n 1, 1) := by decide +kernel
theorem dX12_store_10 : decode cX12_store 10 = .ok (.iload_n 2, 1) := by decide +kernel
theorem dX12_store_11 : decode cX12_store 11 = .ok (.iload_n 3, 1) := by decide +kernel
theorem dX12_store_12 : decode cX12_store 12 = .ok (.imul, 1) := by decide +kernel
theorem dX12_store_13 : decode cX12_store 13 = .ok (.iload 4, 2) := by decide +kernel
theorem dX12_store_15 : decode cX12_store 15 = .ok (.iadd, 1) := by decide +kernel
theorem dX12_store_16 : decode cX12_store 16 = .ok (.aload_n 0, 1) := by decide +kernel
theorem dX12_store_17 : decode cX12_store 17 = .ok (.getfield 38, 3) := by decide +kernel
theorem dX12_store_20 : decode cX12_store 20 = .ok (.iload 4, 2) := by decide +kernel
theorem dX12_store_22 : decode cX12_store 22 = .ok (.iaload, 1) := by decide +kernel
theorem dX12_store_23 : decode cX12_store 23 = .ok (.iastore, 1) := by decide +kernel
theorem dX12_store_24 : decode cX12_store 24 = .ok (.iinc 4 1, 3) := by decide +kernel
theorem dX12_store_27 : decode cX12_store 27 = .ok (.goto (-24), 3) := by decide +kernel
theorem dX12_store_30 : decode cX12_store 30 = .ok (.return_, 1) := by decide +kernel
theorem dX12_storeAll_0 : decode cX12_storeAll 0 = .ok (.iload_n 1, 1) := by decide +kernel
theorem dX12_storeAll_1 : decode cX12_storeAll 1 = .ok (.tableswitch 63 0 2 #[27, 39, 51], 27) := by decide +kernel
theorem dX12_storeAll_28 : decode cX12_storeAll 28 = .ok (.aload_n 0, 1) := by decide +kernel
theorem dX12_storeAll_29 : decode cX12_storeAll 29 = .ok (.aload_n 0, 1) := by decide +kernel
theorem dX12_storeAll_30 : decode cX12_storeAll 30 = .ok (.getfield 26, 3) := by decide +kernel
theorem dX12_storeAll_33 : decode cX12_storeAll 33 = .ok (.bipush 53, 2) := by decide +kernel
theorem dX12_storeAll_35 : decode cX12_storeAll 35 = .ok (.iload_n 2, 1) := by decide +kernel
theorem dX12_storeAll_36 : decode cX12_storeAll 36 = .ok (.invokevirtual 308, 3) := by decide +kernel
theorem dX12_storeAll_39 : decode cX12_storeAll 39 = .ok (.return_, 1) := by decide +kernel
theorem dX12_storeAll_40 : decode cX12_storeAll 40 = .ok (.aload_n 0, 1) := by decide +kernel
theorem dX12_storeAll_41 : decode cX12_storeAll 41 = .ok (.aload_n 0, 1) := by decide +kernel
theorem dX12_storeAll_42 : decode cX12_storeAll 42 = .ok (.getfield 29, 3) := by decide +kernel
theorem dX12_storeAll_45 : decode cX12_storeAll 45 = .ok (.bipush 121, 2) := by decide +kernel
theorem dX12_storeAll_47 : decode cX12_storeAll 47 = .ok (.iload_n 2, 1) := by decide +kernel
theorem dX12_storeAll_48 : decode cX12_storeAll 48 = .ok (.invokevirtual 308, 3) := by decide +kernel
theorem dX12_storeAll_51 : decode cX12_storeAll 51 = .ok (.return_, 1) := by decide +kernel
theorem dX12_storeAll_52 : decode cX12_storeAll 52 = .ok (.aload_n 0, 1) := by decide +kernel
theorem dX12_storeAll_53 : decode cX12_storeAll 53 = .ok (.aload_n 0, 1) := by decide +kernel
theorem dX12_storeAll_54 : decode cX12_storeAll 54 = .ok (.getfield 32, 3) := by decide +kernel
theorem dX12_storeAll_57 : decode cX12_storeAll 57 = .ok (.bipush 39, 2) := by decide +kernel
theorem dX12_storeAll_59 : decode cX12_storeAll 59 = .ok (.iload_n 2, 1) := by decide +kernel
theorem dX12_storeAll_60 : decode cX12_storeAll 60 = .ok (.invokevirtual 308, 3) := by decide +kernel
theorem dX12_storeAll_63 : decode cX12_storeAll 63 = .ok (.return_, 1) := by decide +kernel
theorem dX12_storeAll_64 : decode cX12_storeAll 64 = .ok (.aload_n 0, 1) := by decide +kernel
theorem dX12_storeAll_65 : decode cX12_storeAll 65 = .ok (.aload_n 0, 1) := by decide +kernel
theorem dX12_storeAll_66 : decode cX12_storeAll 66 = .ok (.getfield 35, 3) := by decide +kernel
theorem dX12_storeAll_69 : decode cX12_storeAll 69 = .ok (.bipush 31, 2) := by decide +kernel
theorem dX12_storeAll_71 : decode cX12_storeAll 71 = .ok (.iload_n 2, 1) := by decide +kernel
theorem dX12_storeAll_72 : decode cX12_storeAll 72 = .ok (.invokevirtual 308, 3) := by decide +kernel
theorem dX12_storeAll_75 : decode cX12_storeAll 75 = .ok (.return_, 1) := by decide +kernel
theorem dX12_text_0 : decode cX12_text 0 = .ok (.aload_n 0, 1) := by decide +kernel
theorem dX12_text_1 : decode cX12_text 1 = .ok (.iconst 0, 1) := by decide +kernel
theorem dX12_text_2 : decode cX12_text 2 = .ok (.putfield 107, 3) := by decide +kernel
theorem dX12_text_5 : decode cX12_text 5 = .ok (.aload_n 0, 1) := by decide +kernel
theorem dX12_text_6 : decode cX12_text 6 = .ok (.aload_n 0, 1) := by decide +kernel
theorem dX12_text_7 : decode cX12_text 7 = .ok (.getfield 13, 3) := by decide +kernel
theorem dX12_text_10 : decode cX12_text 10 = .ok (.iconst 0, 1) := by decide +kernel
theorem dX12_text_11 : decode cX12_text 11 = .ok (.iaload, 1) := by decide +kernel
theorem dX12_text_12 : decode cX12_text 12 = .ok (.putfield 130, 3) := by decide +kernel
theorem dX12_text_15 : decode cX12_text 15 = .ok (.aload_n 0, 1) := by decide +kernel
theorem dX12_text_16 : decode cX12_text 16 = .ok (.getfield 13, 3) := by decide +kernel
theorem dX12_text_19 : decode cX12_text 19 = .ok (.iconst 0, 1) := by decide +kernel
theorem dX12_text_20 : decode cX12_text 20 = .ok (.iconst 0, 1) := by decide +kernel
theorem dX12_text_21 : decode cX12_text 21 = .ok (.iastore, 1) := by decide +kernel
theorem dX12_text_22 : decode cX12_text 22 = .ok (.aload_n 0, 1) := by decide +kernel
theorem dX12_text_23 : decode cX12_text 23 = .ok (.getfield 17, 3) := by decide +kernel
theorem dX12_text_26 : decode cX12_text 26 = .ok (.iconst 0, 1) := by decide +kernel
theorem dX12_text_27 : decode cX12_text 27 = .ok (.iconst 0, 1) := by decide +kernel
theorem dX12_text_28 : decode cX12_text 28 = .ok (.iastore, 1) := by decide +kernel
theorem dX12_text_29 : decode cX12_text 29 = .ok (.aload_n 0, 1) := by decide +kernel
theorem dX12_text_30 : decode cX12_text 30 = .ok (.getfield 20, 3) := by decide +kernel
theorem dX12_text_33 : decode cX12_text 33 = .ok (.iconst 0, 1) := by decide +kernel
theorem dX12_text_34 : decode cX12_text 34 = .ok (.iconst (-1), 1) := by decide +kernel
theorem dX12_text_35 : decode cX12_text 35 = .ok (.iastore, 1) := by decide +kernel
theorem dX12_text_36 : decode cX12_text 36 = .ok (.iload_n 1, 1) := by decide +kernel
theorem dX12_text_37 : decode cX12_text 37 = .ok (.iconst 0, 1) := by decide +kernel
theorem dX12_text_38 : decode cX12_text 38 = .ok (.iconst 3, 1) := by decide +kernel
theorem dX12_text_39 : decode cX12_text 39 = .ok (.invokestatic 119, 3) := by decide +kernel
theorem dX12_text_42 : decode cX12_text 42 = .ok (.ifCond .eq 30, 3) := by decide +kernel
theorem dX12_text_45 : decode cX12_text 45 = .ok (.iload_n 2, 1) := by decide +kernel
theorem dX12_text_46 : decode cX12_text 46 = .ok (.iconst (-1), 1) := by decide +kernel
theorem dX12_text_47 : decode cX12_text 47 = .ok (.if_icmp .ne 16, 3) := by decide +kernel
theorem dX12_text_50 : decode cX12_text 50 = .ok (.aload_n 0, 1) := by decide +kernel
theorem dX12_text_51 : decode cX12_text 51 = .ok (.getfield 23, 3) := by decide +kernel
theorem dX12_text_54 : decode cX12_text 54 = .ok (.iload_n 1, 1) := by decide +kernel
theorem dX12_text_55 : decode cX12_text 55 = .ok (.iaload, 1) := by decide +kernel
theorem dX12_text_56 : decode cX12_text 56 = .ok (.iconst 2, 1) := by decide +kernel
theorem dX12_text_57 : decode cX12_text 57 = .ok (.if_icmp .ne 18, 3) := by decide +kernel
theorem dX12_text_60 : decode cX12_text 60 = .ok (.goto 12, 3) := by decide +kernel
theorem dX12_text_63 : decode cX12_text 63 = .ok (.aload_n 0, 1) := by decide +kernel
theorem dX12_text_64 : decode cX12_text 64 = .ok (.iload_n 1, 1) := by decide +kernel
theorem dX12_text_65 : decode cX12_text 65 = .ok (.iload_n 2, 1) := by decide +kernel
theorem dX12_text_66 : decode cX12_text 66 = .ok (.invokevirtual 312, 3) := by decide +kernel
theorem dX12_text_69 : decode cX12_text 69 = .ok (.ifCond .ne 6, 3) := by decide +kernel
theorem dX12_text_72 : decode cX12_text 72 = .ok (.bipush (-2), 2) := by decide +kernel
theorem dX12_text_74 : decode cX12_text 74 = .ok (.ireturn, 1) := by decide +kernel
theorem dX12_text_75 : decode cX12_text 75 = .ok (.aload_n 0, 1) := by decide +kernel
theorem dX12_text_76 : decode cX12_text 76 = .ok (.iload_n 1, 1) := by decide +kernel
theorem dX12_text_77 : decode cX12_text 77 = .ok (.invokevirtual 315, 3) := by decide +kernel
theorem dX12_text_80 : decode cX12_text 80 = .ok (.ifCond .ne 5, 3) := by decide +kernel
theorem dX12_text_83 : decode cX12_text 83 = .ok (.iconst (-1), 1) := by decide +kernel
theorem dX12_text_84 : decode cX12_text 84 = .ok (.ireturn, 1) := by decide +kernel
theorem dX12_text_85 : decode cX12_text 85 = .ok (.iload_n 2, 1) := by decide +kernel
theorem dX12_text_86 : decode cX12_text 86 = .ok (.iconst (-1), 1) := by decide +kernel
theorem dX12_text_87 : decode cX12_text 87 = .ok (.if_icmp .ne 12, 3) := by decide +kernel
theorem dX12_text_90 : decode cX12_text 90 = .ok (.aload_n 0, 1) := by decide +kernel
theorem dX12_text_91 : decode cX12_text 91 = .ok (.getfield 23, 3) := by decide +kernel
theorem dX12_text_94 : decode cX12_text 94 = .ok (.iload_n 1, 1) := by decide +kernel
theorem dX12_text_95 : decode cX12_text 95 = .ok (.iaload, 1) := by decide +kernel
theorem dX12_text_96 : decode cX12_text 96 = .ok (.goto 4, 3) := by decide +kernel
theorem dX12_text_99 : decode cX12_text 99 = .ok (.iload_n 2, 1) := by decide +kernel
theorem dX12_text_100 : decode cX12_text 100 = .ok (.istore_n 3, 1) := by decide +kernel
theorem dX12_text_101 : decode cX12_text 101 = .ok (.aload_n 0, 1) := by decide +kernel
theorem dX12_text_102 : decode cX12_text 102 = .ok (.getfield 23, 3) := by decide +kernel
theorem dX12_text_105 : decode cX12_text 105 = .ok (.iload_n 1, 1) := by decide +kernel
theorem dX12_text_106 : decode cX12_text 106 = .ok (.dup2, 1) := by decide +kernel
theorem dX12_text_107 : decode cX12_text 107 = .ok (.iaload, 1) := by decide +kernel
theorem dX12_text_108 : decode cX12_text 108 = .ok (.iload_n 2, 1) := by decide +kernel
theorem dX12_text_109 : decode cX12_text 109 = .ok (.iconst (-1), 1) := by decide +kernel
theorem dX12_text_110 : decode cX12_text 110 = .ok (.if_icmp .ne 7, 3) := by decide +kernel
theorem dX12_text_113 : decode cX12_text 113 = .ok (.iconst 1, 1) := by decide +kernel
theorem dX12_text_114 : decode cX12_text 114 = .ok (.goto 4, 3) := by decide +kernel
theorem dX12_text_117 : decode cX12_text 117 = .ok (.iconst 0, 1) := by decide +kernel
theorem dX12_text_118 : decode cX12_text 118 = .ok (.iadd, 1) := by decide +kernel
theorem dX12_text_119 : decode cX12_text 119 = .ok (.iastore, 1) := by decide +kernel
theorem dX12_text_120 : decode cX12_text 120 = .ok (.aload_n 0, 1) := by decide +kernel
theorem dX12_text_121 : decode cX12_text 121 = .ok (.iload_n 1, 1) := by decide +kernel
theorem dX12_text_122 : decode cX12_text 122 = .ok (.iload_n 3, 1) := by decide +kernel
theorem dX12_text_123 : decode cX12_text 123 = .ok (.invokevirtual 318, 3) := by decide +kernel
theorem dX12_text_126 : decode cX12_text 126 = .ok (.iload_n 3, 1) := by decide +kernel
theorem dX12_text_127 : decode cX12_text 127 = .ok (.ireturn, 1) := by decide +kernel
theorem dX12_fault_0 : decode cX12_fault 0 = .ok (.aload_n 0, 1) := by decide +kernel
theorem dX12_fault_1 : decode cX12_fault 1 = .ok (.iconst 0, 1) := by decide +kernel
theorem dX12_fault_2 : decode cX12_fault 2 = .ok (.putfield 107, 3) := by decide +kernel
theorem dX12_fault_5 : decode cX12_fault 5 = .ok (.iload_n 1, 1) := by decide +kernel
theorem dX12_fault_6 : decode cX12_fault 6 = .ok (.ifCond .ne 12, 3) := by decide +kernel
theorem dX12_fault_9 : decode cX12_fault 9 = .ok (.aload_n 0, 1) := by decide +kernel
theorem dX12_fault_10 : decode cX12_fault 10 = .ok (.getfield 17, 3) := by decide +kernel
theorem dX12_fault_13 : decode cX12_fault 13 = .ok (.iconst 0, 1) := by decide +kernel
theorem dX12_fault_14 : decode cX12_fault 14 = .ok (.iaload, 1) := by decide +kernel
theorem dX12_fault_15 : decode cX12_fault 15 = .ok (.goto 18, 3) := by decide +kernel
theorem dX12_fault_18 : decode cX12_fault 18 = .ok (.iload_n 1, 1) := by decide +kernel
theorem dX12_fault_19 : decode cX12_fault 19 = .ok (.iconst 1, 1) := by decide +kernel
theorem dX12_fault_20 : decode cX12_fault 20 = .ok (.if_icmp .ne 12, 3) := by decide +kernel
theorem dX12_fault_23 : decode cX12_fault 23 = .ok (.aload_n 0, 1) := by decide +kernel
theorem dX12_fault_24 : decode cX12_fault 24 = .ok (.getfield 20, 3) := by decide +kernel
theorem dX12_fault_27 : decode cX12_fault 27 = .ok (.iconst 0, 1) := by decide +kernel
theorem dX12_fault_28 : decode cX12_fault 28 = .ok (.iaload, 1) := by decide +kernel
theorem dX12_fault_29 : decode cX12_fault 29 = .ok (.goto 4, 3) := by decide +kernel
theorem dX12_fault_32 : decode cX12_fault 32 = .ok (.iconst (-1), 1) := by decide +kernel
theorem dX12_fault_33 : decode cX12_fault 33 = .ok (.ireturn, 1) := by decide +kernel
theorem dX12_of_0 : decode cX12_of 0 = .ok (.aload_n 0, 1) := by decide +kernel
theorem dX12_of_1 : decode cX12_of 1 = .ok (.getfield 26, 3) := by decide +kernel
theorem dX12_of_4 : decode cX12_of 4 = .ok (.bipush 53, 2) := by decide +kernel
theorem dX12_of_6 : decode cX12_of 6 = .ok (.aload_n 0, 1) := by decide +kernel
theorem dX12_of_7 : decode cX12_of 7 = .ok (.getfield 321, 3) := by decide +kernel
theorem dX12_of_10 : decode cX12_of 10 = .ok (.imul, 1) := by decide +kernel
theorem dX12_of_11 : decode cX12_of 11 = .ok (.iload_n 1, 1) := by decide +kernel
theorem dX12_of_12 : decode cX12_of 12 = .ok (.iadd, 1) := by decide +kernel
theorem dX12_of_13 : decode cX12_of 13 = .ok (.iaload, 1) := by decide +kernel
theorem dX12_of_14 : decode cX12_of 14 = .ok (.ireturn, 1) := by decide +kernel
theorem dX12_hand_0 : decode cX12_hand 0 = .ok (.aload_n 0, 1) := by decide +kernel
theorem dX12_hand_1 : decode cX12_hand 1 = .ok (.iconst 0, 1) := by decide +kernel
theorem dX12_hand_2 : decode cX12_hand 2 = .ok (.iload_n 1, 1) := by decide +kernel
theorem dX12_hand_3 : decode cX12_hand 3 = .ok (.invokevirtual 312, 3) := by decide +kernel
theorem dX12_hand_6 : decode cX12_hand 6 = .ok (.ifCond .ne 5, 3) := by decide +kernel
theorem dX12_hand_9 : decode cX12_hand 9 = .ok (.iconst 0, 1) := by decide +kernel
theorem dX12_hand_10 : decode cX12_hand 10 = .ok (.ireturn, 1) := by decide +kernel
theorem dX12_hand_11 : decode cX12_hand 11 = .ok (.aload_n 0, 1) := by decide +kernel
theorem dX12_hand_12 : decode cX12_hand 12 = .ok (.iload_n 1, 1) := by decide +kernel
theorem dX12_hand_13 : decode cX12_hand 13 = .ok (.putfield 321, 3) := by decide +kernel
theorem dX12_hand_16 : decode cX12_hand 16 = .ok (.aload_n 0, 1) := by decide +kernel
theorem dX12_hand_17 : decode cX12_hand 17 = .ok (.aload_n 0, 1) := by decide +kernel
theorem dX12_hand_18 : decode cX12_hand 18 = .ok (.iconst 0, 1) := by decide +kernel
theorem dX12_hand_19 : decode cX12_hand 19 = .ok (.invokevirtual 324, 3) := by decide +kernel
theorem dX12_hand_22 : decode cX12_hand 22 = .ok (.putfield 328, 3) := by decide +kernel
theorem dX12_hand_25 : decode cX12_hand 25 = .ok (.aload_n 0, 1) := by decide +kernel
theorem dX12_hand_26 : decode cX12_hand 26 = .ok (.aload_n 0, 1) := by decide +kernel
theorem dX12_hand_27 : decode cX12_hand 27 = .ok (.getfield 328, 3) := by decide +kernel
theorem dX12_hand_30 : decode cX12_hand 30 = .ok (.aload_n 0, 1) := by decide +kernel
theorem dX12_hand_31 : decode cX12_hand 31 = .ok (.iconst 1, 1) := by decide +kernel
theorem dX12_hand_32 : decode cX12_hand 32 = .ok (.invokevirtual 324, 3) := by decide +kernel
theorem dX12_hand_35 : decode cX12_hand 35 = .ok (.imul, 1) := by decide +kernel
theorem dX12_hand_36 : decode cX12_hand 36 = .ok (.putfield 331, 3) := by decide +kernel
theorem dX12_hand_39 : decode cX12_hand 39 = .ok (.aload_n 0, 1) := by decide +kernel
theorem dX12_hand_40 : decode cX12_hand 40 = .ok (.aload_n 0, 1) := by decide +kernel
theorem dX12_hand_41 : decode cX12_hand 41 = .ok (.iconst 3, 1) := by decide +kernel
theorem dX12_hand_42 : decode cX12_hand 42 = .ok (.invokevirtual 324, 3) := by decide +kernel
theorem dX12_hand_45 : decode cX12_hand 45 = .ok (.putfield 334, 3) := by decide +kernel
theorem dX12_hand_48 : decode cX12_hand 48 = .ok (.aload_n 0, 1) := by decide +kernel
theorem dX12_hand_49 : decode cX12_hand 49 = .ok (.aload_n 0, 1) := by decide +kernel
theorem dX12_hand_50 : decode cX12_hand 50 = .ok (.iconst 4, 1) := by decide +kernel
theorem dX12_hand_51 : decode cX12_hand 51 = .ok (.invokevirtual 324, 3) := by decide +kernel
theorem dX12_hand_54 : decode cX12_hand 54 = .ok (.putfield 337, 3) := by decide +kernel
theorem dX12_hand_57 : decode cX12_hand 57 = .ok (.iconst 1, 1) := by decide +kernel
theorem dX12_hand_58 : decode cX12_hand 58 = .ok (.ireturn, 1) := by decide +kernel
theorem dX12_isCell_0 : decode cX12_isCell 0 = .ok (.iload_n 1, 1) := by decide +kernel
theorem dX12_isCell_1 : decode cX12_isCell 1 = .ok (.iconst 0, 1) := by decide +kernel
theorem dX12_isCell_2 : decode cX12_isCell 2 = .ok (.aload_n 0, 1) := by decide +kernel
theorem dX12_isCell_3 : decode cX12_isCell 3 = .ok (.getfield 331, 3) := by decide +kernel
theorem dX12_isCell_6 : decode cX12_isCell 6 = .ok (.iconst 1, 1) := by decide +kernel
theorem dX12_isCell_7 : decode cX12_isCell 7 = .ok (.isub, 1) := by decide +kernel
theorem dX12_isCell_8 : decode cX12_isCell 8 = .ok (.invokestatic 119, 3) := by decide +kernel
theorem dX12_isCell_11 : decode cX12_isCell 11 = .ok (.ireturn, 1) := by decide +kernel
theorem dX12_isWall_0 : decode cX12_isWall 0 = .ok (.aload_n 0, 1) := by decide +kernel
theorem dX12_isWall_1 : decode cX12_isWall 1 = .ok (.bipush 45, 2) := by decide +kernel
theorem dX12_isWall_3 : decode cX12_isWall 3 = .ok (.iload_n 1, 1) := by decide +kernel
theorem dX12_isWall_4 : decode cX12_isWall 4 = .ok (.aload_n 0, 1) := by decide +kernel
theorem dX12_isWall_5 : decode cX12_isWall 5 = .ok (.getfield 328, 3) := by decide +kernel
theorem dX12_isWall_8 : decode cX12_isWall 8 = .ok (.idiv, 1) := by decide +kernel
theorem dX12_isWall_9 : decode cX12_isWall 9 = .ok (.iadd, 1) := by decide +kernel
theorem dX12_isWall_10 : decode cX12_isWall 10 = .ok (.invokevirtual 324, 3) := by decide +kernel
theorem dX12_isWall_13 : decode cX12_isWall 13 = .ok (.iload_n 1, 1) := by decide +kernel
theorem dX12_isWall_14 : decode cX12_isWall 14 = .ok (.aload_n 0, 1) := by decide +kernel
theorem dX12_isWall_15 : decode cX12_isWall 15 = .ok (.getfield 328, 3) := by decide +kernel
theorem dX12_isWall_18 : decode cX12_isWall 18 = .ok (.irem, 1) := by decide +kernel
theorem dX12_isWall_19 : decode cX12_isWall 19 = .ok (.invokestatic 111, 3) := by decide +kernel
theorem dX12_isWall_22 : decode cX12_isWall 22 = .ok (.ireturn, 1) := by decide +kernel
theorem dX12_isPlayer_0 : decode cX12_isPlayer 0 = .ok (.iload_n 1, 1) := by decide +kernel
theorem dX12_isPlayer_1 : decode cX12_isPlayer 1 = .ok (.iconst 0, 1) := by decide +kernel
theorem dX12_isPlayer_2 : decode cX12_isPlayer 2 = .ok (.aload_n 0, 1) := by decide +kernel
theorem dX12_isPlayer_3 : decode cX12_isPlayer 3 = .ok (.getfield 334, 3) := by decide +kernel
theorem dX12_isPlayer_6 : decode cX12_isPlayer 6 = .ok (.iconst 1, 1) := by decide +kernel
theorem dX12_isPlayer_7 : decode cX12_isPlayer 7 = .ok (.isub, 1) := by decide +kernel
theorem dX12_isPlayer_8 : decode cX12_isPlayer 8 = .ok (.invokestatic 119, 3) := by decide +kernel
theorem dX12_isPlayer_11 : decode cX12_isPlayer 11 = .ok (.ireturn, 1) := by decide +kernel
theorem dX12_isPerson_0 : decode cX12_isPerson 0 = .ok (.iload_n 1, 1) := by decide +kernel
theorem dX12_isPerson_1 : decode cX12_isPerson 1 = .ok (.iconst 0, 1) := by decide +kernel
theorem dX12_isPerson_2 : decode cX12_isPerson 2 = .ok (.aload_n 0, 1) := by decide +kernel
theorem dX12_isPerson_3 : decode cX12_isPerson 3 = .ok (.getfield 337, 3) := by decide +kernel
theorem dX12_isPerson_6 : decode cX12_isPerson 6 = .ok (.iconst 1, 1) := by decide +kernel
theorem dX12_isPerson_7 : decode cX12_isPerson 7 = .ok (.isub, 1) := by decide +kernel
theorem dX12_isPerson_8 : decode cX12_isPerson 8 = .ok (.invokestatic 119, 3) := by decide +kernel
theorem dX12_isPerson_11 : decode cX12_isPerson 11 = .ok (.ireturn, 1) := by decide +kernel
theorem dX12_cellOf_0 : decode cX12_cellOf 0 = .ok (.aload_n 0, 1) := by decide +kernel
theorem dX12_cellOf_1 : decode cX12_cellOf 1 = .ok (.getfield 328, 3) := by decide +kernel
theorem dX12_cellOf_4 : decode cX12_cellOf 4 = .ok (.aload_n 0, 1) := by decide +kernel
theorem dX12_cellOf_5 : decode cX12_cellOf 5 = .ok (.iload_n 1, 1) := by decide +kernel
theorem dX12_cellOf_6 : decode cX12_cellOf 6 = .ok (.bipush 12, 2) := by decide +kernel
theorem dX12_cellOf_8 : decode cX12_cellOf 8 = .ok (.iadd, 1) := by decide +kernel
theorem dX12_cellOf_9 : decode cX12_cellOf 9 = .ok (.iload_n 2, 1) := by decide +kernel
theorem dX12_cellOf_10 : decode cX12_cellOf 10 = .ok (.iadd, 1) := by decide +kernel
theorem dX12_cellOf_11 : decode cX12_cellOf 11 = .ok (.invokevirtual 324, 3) := by decide +kernel
theorem dX12_cellOf_14 : decode cX12_cellOf 14 = .ok (.imul, 1) := by decide +kernel
theorem dX12_cellOf_15 : decode cX12_cellOf 15 = .ok (.aload_n 0, 1) := by decide +kernel
theorem dX12_cellOf_16 : decode cX12_cellOf 16 = .ok (.iload_n 1, 1) := by decide +kernel
theorem dX12_cellOf_17 : decode cX12_cellOf 17 = .ok (.bipush 6, 2) := by decide +kernel
theorem dX12_cellOf_19 : decode cX12_cellOf 19 = .ok (.iadd, 1) := by decide +kernel
theorem dX12_cellOf_20 : decode cX12_cellOf 20 = .ok (.iload_n 2, 1) := by decide +kernel
theorem dX12_cellOf_21 : decode cX12_cellOf 21 = .ok (.iadd, 1) := by decide +kernel
theorem dX12_cellOf_22 : decode cX12_cellOf 22 = .ok (.invokevirtual 324, 3) := by decide +kernel
theorem dX12_cellOf_25 : decode cX12_cellOf 25 = .ok (.iadd, 1) := by decide +kernel
theorem dX12_cellOf_26 : decode cX12_cellOf 26 = .ok (.ireturn, 1) := by decide +kernel
theorem dX12_next_0 : decode cX12_next 0 = .ok (.iload_n 2, 1) := by decide +kernel
theorem dX12_next_1 : decode cX12_next 1 = .ok (.tableswitch 114 0 3 #[31, 50, 73, 97], 31) := by decide +kernel
theorem dX12_next_32 : decode cX12_next 32 = .ok (.iload_n 1, 1) := by decide +kernel
theorem dX12_next_33 : decode cX12_next 33 = .ok (.aload_n 0, 1) := by decide +kernel
theorem dX12_next_34 : decode cX12_next 34 = .ok (.getfield 328, 3) := by decide +kernel
theorem dX12_next_37 : decode cX12_next 37 = .ok (.if_icmp .ge 7, 3) := by decide +kernel
theorem dX12_next_40 : decode cX12_next 40 = .ok (.iconst (-1), 1) := by decide +kernel
theorem dX12_next_41 : decode cX12_next 41 = .ok (.goto 9, 3) := by decide +kernel
theorem dX12_next_44 : decode cX12_next 44 = .ok (.iload_n 1, 1) := by decide +kernel
theorem dX12_next_45 : decode cX12_next 45 = .ok (.aload_n 0, 1) := by decide +kernel
theorem dX12_next_46 : decode cX12_next 46 = .ok (.getfield 328, 3) := by decide +kernel
theorem dX12_next_49 : decode cX12_next 49 = .ok (.isub, 1) := by decide +kernel
theorem dX12_next_50 : decode cX12_next 50 = .ok (.ireturn, 1) := by decide +kernel
theorem dX12_next_51 : decode cX12_next 51 = .ok (.iload_n 1, 1) := by decide +kernel
theorem dX12_next_52 : decode cX12_next 52 = .ok (.aload_n 0, 1) := by decide +kernel
theorem dX12_next_53 : decode cX12_next 53 = .ok (.getfield 328, 3) := by decide +kernel
theorem dX12_next_56 : decode cX12_next 56 = .ok (.irem, 1) := by decide +kernel
theorem dX12_next_57 : decode cX12_next 57 = .ok (.iconst 1, 1) := by decide +kernel
theorem dX12_next_58 : decode cX12_next 58 = .ok (.iadd, 1) := by decide +kernel
theorem dX12_next_59 : decode cX12_next 59 = .ok (.aload_n 0, 1) := by decide +kernel
theorem dX12_next_60 : decode cX12_next 60 = .ok (.getfield 328, 3) := by decide +kernel
theorem dX12_next_63 : decode cX12_next 63 = .ok (.if_icmp .ne 7, 3) := by decide +kernel
theorem dX12_next_66 : decode cX12_next 66 = .ok (.iconst (-1), 1) := by decide +kernel
theorem dX12_next_67 : decode cX12_next 67 = .ok (.goto 6, 3) := by decide +kernel
theorem dX12_next_70 : decode cX12_next 70 = .ok (.iload_n 1, 1) := by decide +kernel
theorem dX12_next_71 : decode cX12_next 71 = .ok (.iconst 1, 1) := by decide +kernel
theorem dX12_next_72 : decode cX12_next 72 = .ok (.iadd, 1) := by decide +kernel
theorem dX12_next_73 : decode cX12_next 73 = .ok (.ireturn, 1) := by decide +kernel
theorem dX12_next_74 : decode cX12_next 74 = .ok (.iload_n 1, 1) := by decide +kernel
theorem dX12_next_75 : decode cX12_next 75 = .ok (.aload_n 0, 1) := by decide +kernel
theorem dX12_next_76 : decode cX12_next 76 = .ok (.getfield 328, 3) := by decide +kernel
theorem dX12_next_79 : decode cX12_next 79 = .ok (.iadd, 1) := by decide +kernel
theorem dX12_next_80 : decode cX12_next 80 = .ok (.aload_n 0, 1) := by decide +kernel
theorem dX12_next_81 : decode cX12_next 81 = .ok (.getfield 331, 3) := by decide +kernel
theorem dX12_next_84 : decode cX12_next 84 = .ok (.if_icmp .lt 7, 3) := by decide +kernel
theorem dX12_next_87 : decode cX12_next 87 = .ok (.iconst (-1), 1) := by decide +kernel
theorem dX12_next_88 : decode cX12_next 88 = .ok (.goto 9, 3) := by decide +kernel
theorem dX12_next_91 : decode cX12_next 91 = .ok (.iload_n 1, 1) := by decide +kernel
theorem dX12_next_92 : decode cX12_next 92 = .ok (.aload_n 0, 1) := by decide +kernel
theorem dX12_next_93 : decode cX12_next 93 = .ok (.getfield 328, 3) := by decide +kernel
theorem dX12_next_96 : decode cX12_next 96 = .ok (.iadd, 1) := by decide +kernel
theorem dX12_next_97 : decode cX12_next 97 = .ok (.ireturn, 1) := by decide +kernel
theorem dX12_next_98 : decode cX12_next 98 = .ok (.iload_n 1, 1) := by decide +kernel
theorem dX12_next_99 : decode cX12_next 99 = .ok (.aload_n 0, 1) := by decide +kernel
theorem dX12_next_100 : decode cX12_next 100 = .ok (.getfield 328, 3) := by decide +kernel
theorem dX12_next_103 : decode cX12_next 103 = .ok (.irem, 1) := by decide +kernel
theorem dX12_next_104 : decode cX12_next 104 = .ok (.ifCond .ne 7, 3) := by decide +kernel
theorem dX12_next_107 : decode cX12_next 107 = .ok (.iconst (-1), 1) := by decide +kernel
theorem dX12_next_108 : decode cX12_next 108 = .ok (.goto 6, 3) := by decide +kernel
theorem dX12_next_111 : decode cX12_next 111 = .ok (.iload_n 1, 1) := by decide +kernel
theorem dX12_next_112 : decode cX12_next 112 = .ok (.iconst 1, 1) := by decide +kernel
theorem dX12_next_113 : decode cX12_next 113 = .ok (.isub, 1) := by decide +kernel
theorem dX12_next_114 : decode cX12_next 114 = .ok (.ireturn, 1) := by decide +kernel
theorem dX12_next_115 : decode cX12_next 115 = .ok (.iload_n 1, 1) := by decide +kernel
theorem dX12_next_116 : decode cX12_next 116 = .ok (.ireturn, 1) := by decide +kernel
theorem dX12_free_0 : decode cX12_free 0 = .ok (.aload_n 0, 1) := by decide +kernel
theorem dX12_free_1 : decode cX12_free 1 = .ok (.iload_n 1, 1) := by decide +kernel
theorem dX12_free_2 : decode cX12_free 2 = .ok (.iload_n 2, 1) := by decide +kernel
theorem dX12_free_3 : decode cX12_free 3 = .ok (.invokevirtual 340, 3) := by decide +kernel
theorem dX12_free_6 : decode cX12_free 6 = .ok (.istore_n 3, 1) := by decide +kernel
theorem dX12_free_7 : decode cX12_free 7 = .ok (.iload_n 3, 1) := by decide +kernel
theorem dX12_free_8 : decode cX12_free 8 = .ok (.iconst (-1), 1) := by decide +kernel
theorem dX12_free_9 : decode cX12_free 9 = .ok (.if_icmp .eq 11, 3) := by decide +kernel
theorem dX12_free_12 : decode cX12_free 12 = .ok (.aload_n 0, 1) := by decide +kernel
theorem dX12_free_13 : decode cX12_free 13 = .ok (.iload_n 3, 1) := by decide +kernel
theorem dX12_free_14 : decode cX12_free 14 = .ok (.invokevirtual 343, 3) := by decide +kernel
theorem dX12_free_17 : decode cX12_free 17 = .ok (.ifCond .eq 7, 3) := by decide +kernel
theorem dX12_free_20 : decode cX12_free 20 = .ok (.iconst (-1), 1) := by decide +kernel
theorem dX12_free_21 : decode cX12_free 21 = .ok (.goto 4, 3) := by decide +kernel
theorem dX12_free_24 : decode cX12_free 24 = .ok (.iload_n 3, 1) := by decide +kernel
theorem dX12_free_25 : decode cX12_free 25 = .ok (.ireturn, 1) := by decide +kernel
theorem dX12_city_0 : decode cX12_city 0 = .ok (.aload_n 0, 1) := by decide +kernel
theorem dX12_city_1 : decode cX12_city 1 = .ok (.iconst 0, 1) := by decide +kernel
theorem dX12_city_2 : decode cX12_city 2 = .ok (.putfield 107, 3) := by decide +kernel
theorem dX12_city_5 : decode cX12_city 5 = .ok (.aload_n 0, 1) := by decide +kernel
theorem dX12_city_6 : decode cX12_city 6 = .ok (.iload_n 1, 1) := by decide +kernel
theorem dX12_city_7 : decode cX12_city 7 = .ok (.invokevirtual 346, 3) := by decide +kernel
theorem dX12_city_10 : decode cX12_city 10 = .ok (.ifCond .ne 5, 3) := by decide +kernel
theorem dX12_city_13 : decode cX12_city 13 = .ok (.iconst (-1), 1) := by decide +kernel
theorem dX12_city_14 : decode cX12_city 14 = .ok (.ireturn, 1) := by decide +kernel
theorem dX12_city_15 : decode cX12_city 15 = .ok (.iload_n 2, 1) := by decide +kernel
theorem dX12_city_16 : decode cX12_city 16 = .ok (.bipush 10, 2) := by decide +kernel
theorem dX12_city_18 : decode cX12_city 18 = .ok (.irem, 1) := by decide +kernel
theorem dX12_city_19 : decode cX12_city 19 = .ok (.istore_n 3, 1) := by decide +kernel
theorem dX12_city_20 : decode cX12_city 20 = .ok (.iload_n 2, 1) := by decide +kernel
theorem dX12_city_21 : decode cX12_city 21 = .ok (.bipush 10, 2) := by decide +kernel
theorem dX12_city_23 : decode cX12_city 23 = .ok (.idiv, 1) := by decide +kernel
theorem dX12_city_24 : decode cX12_city 24 = .ok (.tableswitch 141 1 5 #[36, 59, 80, 100, 121], 36) := by decide +kernel
theorem dX12_city_60 : decode cX12_city 60 = .ok (.iload_n 2, 1) := by decide +kernel
theorem dX12_city_61 : decode cX12_city 61 = .ok (.bipush 10, 2) := by decide +kernel
theorem dX12_city_63 : decode cX12_city 63 = .ok (.bipush 13, 2) := by decide +kernel
theorem dX12_city_65 : decode cX12_city 65 = .ok (.invokestatic 119, 3) := by decide +kernel
theorem dX12_city_68 : decode cX12_city 68 = .ok (.ifCond .eq 13, 3) := by decide +kernel
theorem dX12_city_71 : decode cX12_city 71 = .ok (.aload_n 0, 1) := by decide +kernel
theorem dX12_city_72 : decode cX12_city 72 = .ok (.iconst 5, 1) := by decide +kernel
theorem dX12_city_73 : decode cX12_city 73 = .ok (.iload_n 3, 1) := by decide +kernel
theorem dX12_city_74 : decode cX12_city 74 = .ok (.iadd, 1) := by decide +kernel
theorem dX12_city_75 : decode cX12_city 75 = .ok (.invokevirtual 324, 3) := by decide +kernel
theorem dX12_city_78 : decode cX12_city 78 = .ok (.goto 4, 3) := by decide +kernel
theorem dX12_city_81 : decode cX12_city 81 = .ok (.iconst (-1), 1) := by decide +kernel
theorem dX12_city_82 : decode cX12_city 82 = .ok (.ireturn, 1) := by decide +kernel
theorem dX12_city_83 : decode cX12_city 83 = .ok (.aload_n 0, 1) := by decide +kernel
theorem dX12_city_84 : decode cX12_city 84 = .ok (.iload_n 3, 1) := by decide +kernel
theorem dX12_city_85 : decode cX12_city 85 = .ok (.invokevirtual 349, 3) := by decide +kernel
theorem dX12_city_88 : decode cX12_city 88 = .ok (.ifCond .eq 14, 3) := by decide +kernel
theorem dX12_city_91 : decode cX12_city 91 = .ok (.aload_n 0, 1) := by decide +kernel
theorem dX12_city_92 : decode cX12_city 92 = .ok (.bipush 9, 2) := by decide +kernel
theorem dX12_city_94 : decode cX12_city 94 = .ok (.iload_n 3, 1) := by decide +kernel
theorem dX12_city_95 : decode cX12_city 95 = .ok (.iadd, 1) := by decide +kernel
theorem dX12_city_96 : decode cX12_city 96 = .ok (.invokevirtual 324, 3) := by decide +kernel
theorem dX12_city_99 : decode cX12_city 99 = .ok (.goto 4, 3) := by decide +kernel
theorem dX12_city_102 : decode cX12_city 102 = .ok (.iconst (-1), 1) := by decide +kernel
theorem dX12_city_103 : decode cX12_city 103 = .ok (.ireturn, 1) := by decide +kernel
theorem dX12_city_104 : decode cX12_city 104 = .ok (.aload_n 0, 1) := by decide +kernel
theorem dX12_city_105 : decode cX12_city 105 = .ok (.iload_n 3, 1) := by decide +kernel
theorem dX12_city_106 : decode cX12_city 106 = .ok (.invokevirtual 349, 3) := by decide +kernel
theorem dX12_city_109 : decode cX12_city 109 = .ok (.ifCond .eq 13, 3) := by decide +kernel
theorem dX12_city_112 : decode cX12_city 112 = .ok (.aload_n 0, 1) := by decide +kernel
theorem dX12_city_113 : decode cX12_city 113 = .ok (.bipush 9, 2) := by decide +kernel
theorem dX12_city_115 : decode cX12_city 115 = .ok (.iload_n 3, 1) := by decide +kernel
theorem dX12_city_116 : decode cX12_city 116 = .ok (.invokevirtual 352, 3) := by decide +kernel
theorem dX12_city_119 : decode cX12_city 119 = .ok (.goto 4, 3) := by decide +kernel
theorem dX12_city_122 : decode cX12_city 122 = .ok (.iconst (-1), 1) := by decide +kernel
theorem dX12_city_123 : decode cX12_city 123 = .ok (.ireturn, 1) := by decide +kernel
theorem dX12_city_124 : decode cX12_city 124 = .ok (.aload_n 0, 1) := by decide +kernel
theorem dX12_city_125 : decode cX12_city 125 = .ok (.iload_n 3, 1) := by decide +kernel
theorem dX12_city_126 : decode cX12_city 126 = .ok (.invokevirtual 355, 3) := by decide +kernel
theorem dX12_city_129 : decode cX12_city 129 = .ok (.ifCond .eq 14, 3) := by decide +kernel
theorem dX12_city_132 : decode cX12_city 132 = .ok (.aload_n 0, 1) := by decide +kernel
theorem dX12_city_133 : decode cX12_city 133 = .ok (.bipush 27, 2) := by decide +kernel
theorem dX12_city_135 : decode cX12_city 135 = .ok (.iload_n 3, 1) := by decide +kernel
theorem dX12_city_136 : decode cX12_city 136 = .ok (.iadd, 1) := by decide +kernel
theorem dX12_city_137 : decode cX12_city 137 = .ok (.invokevirtual 324, 3) := by decide +kernel
theorem dX12_city_140 : decode cX12_city 140 = .ok (.goto 4, 3) := by decide +kernel
theorem dX12_city_143 : decode cX12_city 143 = .ok (.iconst (-1), 1) := by decide +kernel
theorem dX12_city_144 : decode cX12_city 144 = .ok (.ireturn, 1) := by decide +kernel
theorem dX12_city_145 : decode cX12_city 145 = .ok (.aload_n 0, 1) := by decide +kernel
theorem dX12_city_146 : decode cX12_city 146 = .ok (.iload_n 3, 1) := by decide +kernel
theorem dX12_city_147 : decode cX12_city 147 = .ok (.invokevirtual 355, 3) := by decide +kernel
theorem dX12_city_150 : decode cX12_city 150 = .ok (.ifCond .eq 13, 3) := by decide +kernel
theorem dX12_city_153 : decode cX12_city 153 = .ok (.aload_n 0, 1) := by decide +kernel
theorem dX12_city_154 : decode cX12_city 154 = .ok (.bipush 27, 2) := by decide +kernel
theorem dX12_city_156 : decode cX12_city 156 = .ok (.iload_n 3, 1) := by decide +kernel
theorem dX12_city_157 : decode cX12_city 157 = .ok (.invokevirtual 352, 3) := by decide +kernel
theorem dX12_city_160 : decode cX12_city 160 = .ok (.goto 4, 3) := by decide +kernel
theorem dX12_city_163 : decode cX12_city 163 = .ok (.iconst (-1), 1) := by decide +kernel
theorem dX12_city_164 : decode cX12_city 164 = .ok (.ireturn, 1) := by decide +kernel
theorem dX12_city_165 : decode cX12_city 165 = .ok (.iload_n 2, 1) := by decide +kernel
theorem dX12_city_166 : decode cX12_city 166 = .ok (.bipush 100, 2) := by decide +kernel
theorem dX12_city_168 : decode cX12_city 168 = .ok (.bipush 99, 2) := by decide +kernel
theorem dX12_city_170 : decode cX12_city 170 = .ok (.aload_n 0, 1) := by decide +kernel
theorem dX12_city_171 : decode cX12_city 171 = .ok (.getfield 331, 3) := by decide +kernel
theorem dX12_city_174 : decode cX12_city 174 = .ok (.iadd, 1) := by decide +kernel
theorem dX12_city_175 : decode cX12_city 175 = .ok (.invokestatic 119, 3) := by decide +kernel
theorem dX12_city_178 : decode cX12_city 178 = .ok (.ifCond .eq 22, 3) := by decide +kernel
theorem dX12_city_181 : decode cX12_city 181 = .ok (.aload_n 0, 1) := by decide +kernel
theorem dX12_city_182 : decode cX12_city 182 = .ok (.iload_n 2, 1) := by decide +kernel
theorem dX12_city_183 : decode cX12_city 183 = .ok (.bipush 100, 2) := by decide +kernel
theorem dX12_city_185 : decode cX12_city 185 = .ok (.isub, 1) := by decide +kernel
theorem dX12_city_186 : decode cX12_city 186 = .ok (.invokevirtual 343, 3) := by decide +kernel
theorem dX12_city_189 : decode cX12_city 189 = .ok (.ifCond .eq 7, 3) := by decide +kernel
theorem dX12_city_192 : decode cX12_city 192 = .ok (.iconst 1, 1) := by decide +kernel
theorem dX12_city_193 : decode cX12_city 193 = .ok (.goto 25, 3) := by decide +kernel
theorem dX12_city_196 : decode cX12_city 196 = .ok (.iconst 0, 1) := by decide +kernel
theorem dX12_city_197 : decode cX12_city 197 = .ok (.goto 21, 3) := by decide +kernel
theorem dX12_city_200 : decode cX12_city 200 = .ok (.iload_n 2, 1) := by decide +kernel
theorem dX12_city_201 : decode cX12_city 201 = .ok (.iconst 0, 1) := by decide +kernel
theorem dX12_city_202 : decode cX12_city 202 = .ok (.iconst 4, 1) := by decide +kernel
theorem dX12_city_203 : decode cX12_city 203 = .ok (.invokestatic 119, 3) := by decide +kernel
theorem dX12_city_206 : decode cX12_city 206 = .ok (.ifCond .eq 11, 3) := by decide +kernel
theorem dX12_city_209 : decode cX12_city 209 = .ok (.aload_n 0, 1) := by decide +kernel
theorem dX12_city_210 : decode cX12_city 210 = .ok (.iload_n 2, 1) := by decide +kernel
theorem dX12_city_211 : decode cX12_city 211 = .ok (.invokevirtual 324, 3) := by decide +kernel
theorem dX12_city_214 : decode cX12_city 214 = .ok (.goto 4, 3) := by decide +kernel
theorem dX12_city_217 : decode cX12_city 217 = .ok (.iconst (-1), 1) := by decide +kernel
theorem dX12_city_218 : decode cX12_city 218 = .ok (.ireturn, 1) := by decide +kernel
theorem dX12_deeds_0 : decode cX12_deeds 0 = .ok (.aload_n 0, 1) := by decide +kernel
theorem dX12_deeds_1 : decode cX12_deeds 1 = .ok (.getfield 29, 3) := by decide +kernel
theorem dX12_deeds_4 : decode cX12_deeds 4 = .ok (.bipush 121, 2) := by decide +kernel
theorem dX12_deeds_6 : decode cX12_deeds 6 = .ok (.aload_n 0, 1) := by decide +kernel
theorem dX12_deeds_7 : decode cX12_deeds 7 = .ok (.getfield 358, 3) := by decide +kernel
theorem dX12_deeds_10 : decode cX12_deeds 10 = .ok (.imul, 1) := by decide +kernel
theorem dX12_deeds_11 : decode cX12_deeds 11 = .ok (.iaload, 1) := by decide +kernel
theorem dX12_deeds_12 : decode cX12_deeds 12 = .ok (.ireturn, 1) := by decide +kernel
theorem dX12_deedOf_0 : decode cX12_deedOf 0 = .ok (.aload_n 0, 1) := by decide +kernel
theorem dX12_deedOf_1 : decode cX12_deedOf 1 = .ok (.getfield 29, 3) := by decide +kernel
theorem dX12_deedOf_4 : decode cX12_deedOf 4 = .ok (.bipush 121, 2) := by decide +kernel
theorem dX12_deedOf_6 : decode cX12_deedOf 6 = .ok (.aload_n 0, 1) := by decide +kernel
theorem dX12_deedOf_7 : decode cX12_deedOf 7 = .ok (.getfield 358, 3) := by decide +kernel
theorem dX12_deedOf_10 : decode cX12_deedOf 10 = .ok (.imul, 1) := by decide +kernel
theorem dX12_deedOf_11 : decode cX12_deedOf 11 = .ok (.iconst 1, 1) := by decide +kernel
theorem dX12_deedOf_12 : decode cX12_deedOf 12 = .ok (.iadd, 1) := by decide +kernel
theorem dX12_deedOf_13 : decode cX12_deedOf 13 = .ok (.iconst 3, 1) := by decide +kernel
theorem dX12_deedOf_14 : decode cX12_deedOf 14 = .ok (.iload_n 1, 1) := by decide +kernel
theorem dX12_deedOf_15 : decode cX12_deedOf 15 = .ok (.imul, 1) := by decide +kernel
theorem dX12_deedOf_16 : decode cX12_deedOf 16 = .ok (.iadd, 1) := by decide +kernel
theorem dX12_deedOf_17 : decode cX12_deedOf 17 = .ok (.iload_n 2, 1) := by decide +kernel
theorem dX12_deedOf_18 : decode cX12_deedOf 18 = .ok (.iadd, 1) := by decide +kernel
theorem dX12_deedOf_19 : decode cX12_deedOf 19 = .ok (.iaload, 1) := by decide +kernel
theorem dX12_deedOf_20 : decode cX12_deedOf 20 = .ok (.ireturn, 1) := by decide +kernel
theorem dX12_hasNight_0 : decode cX12_hasNight 0 = .ok (.aload_n 0, 1) := by decide +kernel
theorem dX12_hasNight_1 : decode cX12_hasNight 1 = .ok (.iload_n 1, 1) := by decide +kernel
theorem dX12_hasNight_2 : decode cX12_hasNight 2 = .ok (.putfield 358, 3) := by decide +kernel
theorem dX12_hasNight_5 : decode cX12_hasNight 5 = .ok (.aload_n 0, 1) := by decide +kernel
theorem dX12_hasNight_6 : decode cX12_hasNight 6 = .ok (.iconst 1, 1) := by decide +kernel
theorem dX12_hasNight_7 : decode cX12_hasNight 7 = .ok (.iload_n 1, 1) := by decide +kernel
theorem dX12_hasNight_8 : decode cX12_hasNight 8 = .ok (.invokevirtual 312, 3) := by decide +kernel
theorem dX12_hasNight_11 : decode cX12_hasNight 11 = .ok (.ireturn, 1) := by decide +kernel
theorem dX12_deed_0 : decode cX12_deed 0 = .ok (.aload_n 0, 1) := by decide +kernel
theorem dX12_deed_1 : decode cX12_deed 1 = .ok (.iconst 0, 1) := by decide +kernel
theorem dX12_deed_2 : decode cX12_deed 2 = .ok (.putfield 107, 3) := by decide +kernel
theorem dX12_deed_5 : decode cX12_deed 5 = .ok (.aload_n 0, 1) := by decide +kernel
theorem dX12_deed_6 : decode cX12_deed 6 = .ok (.iload_n 1, 1) := by decide +kernel
theorem dX12_deed_7 : decode cX12_deed 7 = .ok (.invokevirtual 361, 3) := by decide +kernel
theorem dX12_deed_10 : decode cX12_deed 10 = .ok (.ifCond .ne 6, 3) := by decide +kernel
theorem dX12_deed_13 : decode cX12_deed 13 = .ok (.bipush (-2), 2) := by decide +kernel
theorem dX12_deed_15 : decode cX12_deed 15 = .ok (.ireturn, 1) := by decide +kernel
theorem dX12_deed_16 : decode cX12_deed 16 = .ok (.iload_n 2, 1) := by decide +kernel
theorem dX12_deed_17 : decode cX12_deed 17 = .ok (.iconst (-1), 1) := by decide +kernel
theorem dX12_deed_18 : decode cX12_deed 18 = .ok (.if_icmp .ne 17, 3) := by decide +kernel
theorem dX12_deed_21 : decode cX12_deed 21 = .ok (.iload_n 3, 1) := by decide +kernel
theorem dX12_deed_22 : decode cX12_deed 22 = .ok (.ifCond .ne 10, 3) := by decide +kernel
theorem dX12_deed_25 : decode cX12_deed 25 = .ok (.aload_n 0, 1) := by decide +kernel
theorem dX12_deed_26 : decode cX12_deed 26 = .ok (.invokevirtual 364, 3) := by decide +kernel
theorem dX12_deed_29 : decode cX12_deed 29 = .ok (.goto 5, 3) := by decide +kernel
theorem dX12_deed_32 : decode cX12_deed 32 = .ok (.bipush (-2), 2) := by decide +kernel
theorem dX12_deed_34 : decode cX12_deed 34 = .ok (.ireturn, 1) := by decide +kernel
theorem dX12_deed_35 : decode cX12_deed 35 = .ok (.iload_n 2, 1) := by decide +kernel
theorem dX12_deed_36 : decode cX12_deed 36 = .ok (.iconst 0, 1) := by decide +kernel
theorem dX12_deed_37 : decode cX12_deed 37 = .ok (.aload_n 0, 1) := by decide +kernel
theorem dX12_deed_38 : decode cX12_deed 38 = .ok (.invokevirtual 364, 3) := by decide +kernel
theorem dX12_deed_41 : decode cX12_deed 41 = .ok (.iconst 1, 1) := by decide +kernel
theorem dX12_deed_42 : decode cX12_deed 42 = .ok (.isub, 1) := by decide +kernel
theorem dX12_deed_43 : decode cX12_deed 43 = .ok (.invokestatic 119, 3) := by decide +kernel
theorem dX12_deed_46 : decode cX12_deed 46 = .ok (.ifCond .eq 21, 3) := by decide +kernel
theorem dX12_deed_49 : decode cX12_deed 49 = .ok (.iload_n 3, 1) := by decide +kernel
theorem dX12_deed_50 : decode cX12_deed 50 = .ok (.iconst 0, 1) := by decide +kernel
theorem dX12_deed_51 : decode cX12_deed 51 = .ok (.iconst 2, 1) := by decide +kernel
theorem dX12_deed_52 : decode cX12_deed 52 = .ok (.invokestatic 119, 3) := by decide +kernel
theorem dX12_deed_55 : decode cX12_deed 55 = .ok (.ifCond .eq 12, 3) := by decide +kernel
theorem dX12_deed_58 : decode cX12_deed 58 = .ok (.aload_n 0, 1) := by decide +kernel
theorem dX12_deed_59 : decode cX12_deed 59 = .ok (.iload_n 2, 1) := by decide +kernel
theorem dX12_deed_60 : decode cX12_deed 60 = .ok (.iload_n 3, 1) := by decide +kernel
theorem dX12_deed_61 : decode cX12_deed 61 = .ok (.invokevirtual 367, 3) := by decide +kernel
theorem dX12_deed_64 : decode cX12_deed 64 = .ok (.goto 5, 3) := by decide +kernel
theorem dX12_deed_67 : decode cX12_deed 67 = .ok (.bipush (-2), 2) := by decide +kernel
theorem dX12_deed_69 : decode cX12_deed 69 = .ok (.ireturn, 1) := by decide +kernel
theorem dX12_stepCost_0 : decode cX12_stepCost 0 = .ok (.iconst 1, 1) := by decide +kernel
theorem dX12_stepCost_1 : decode cX12_stepCost 1 = .ok (.aload_n 0, 1) := by decide +kernel
theorem dX12_stepCost_2 : decode cX12_stepCost 2 = .ok (.iload_n 1, 1) := by decide +kernel
theorem dX12_stepCost_3 : decode cX12_stepCost 3 = .ok (.invokevirtual 343, 3) := by decide +kernel
theorem dX12_stepCost_6 : decode cX12_stepCost 6 = .ok (.ifCond .eq 7, 3) := by decide +kernel
theorem dX12_stepCost_9 : decode cX12_stepCost 9 = .ok (.iconst 2, 1) := by decide +kernel
theorem dX12_stepCost_10 : decode cX12_stepCost 10 = .ok (.goto 4, 3) := by decide +kernel
theorem dX12_stepCost_13 : decode cX12_stepCost 13 = .ok (.iconst 0, 1) := by decide +kernel
theorem dX12_stepCost_14 : decode cX12_stepCost 14 = .ok (.iadd, 1) := by decide +kernel
theorem dX12_stepCost_15 : decode cX12_stepCost 15 = .ok (.aload_n 0, 1) := by decide +kernel
theorem dX12_stepCost_16 : decode cX12_stepCost 16 = .ok (.iconst 2, 1) := by decide +kernel
theorem dX12_stepCost_17 : decode cX12_stepCost 17 = .ok (.invokevirtual 324, 3) := by decide +kernel
theorem dX12_stepCost_20 : decode cX12_stepCost 20 = .ok (.iconst 4, 1) := by decide +kernel
theorem dX12_stepCost_21 : decode cX12_stepCost 21 = .ok (.if_icmp .ge 20, 3) := by decide +kernel
theorem dX12_stepCost_24 : decode cX12_stepCost 24 = .ok (.aload_n 0, 1) := by decide +kernel
theorem dX12_stepCost_25 : decode cX12_stepCost 25 = .ok (.iconst 2, 1) := by decide +kernel
theorem dX12_stepCost_26 : decode cX12_stepCost 26 = .ok (.invokevirtual 324, 3) := by decide +kernel
theorem dX12_stepCost_29 : decode cX12_stepCost 29 = .ok (.iconst 2, 1) := by decide +kernel
theorem dX12_stepCost_30 : decode cX12_stepCost 30 = .ok (.iadd, 1) := by decide +kernel
theorem dX12_stepCost_31 : decode cX12_stepCost 31 = .ok (.iconst 4, 1) := by decide +kernel
theorem dX12_stepCost_32 : decode cX12_stepCost 32 = .ok (.irem, 1) := by decide +kernel
theorem dX12_stepCost_33 : decode cX12_stepCost 33 = .ok (.iload_n 2, 1) := by decide +kernel
theorem dX12_stepCost_34 : decode cX12_stepCost 34 = .ok (.if_icmp .ne 7, 3) := by decide +kernel
theorem dX12_stepCost_37 : decode cX12_stepCost 37 = .ok (.iconst 1, 1) := by decide +kernel
theorem dX12_stepCost_38 : decode cX12_stepCost 38 = .ok (.goto 4, 3) := by decide +kernel
theorem dX12_stepCost_41 : decode cX12_stepCost 41 = .ok (.iconst 0, 1) := by decide +kernel
theorem dX12_stepCost_42 : decode cX12_stepCost 42 = .ok (.iadd, 1) := by decide +kernel
theorem dX12_stepCost_43 : decode cX12_stepCost 43 = .ok (.ireturn, 1) := by decide +kernel
theorem dX12_findCost_0 : decode cX12_findCost 0 = .ok (.iconst 0, 1) := by decide +kernel
theorem dX12_findCost_1 : decode cX12_findCost 1 = .ok (.istore_n 2, 1) := by decide +kernel
theorem dX12_findCost_2 : decode cX12_findCost 2 = .ok (.iload_n 2, 1) := by decide +kernel
theorem dX12_findCost_3 : decode cX12_findCost 3 = .ok (.aload_n 0, 1) := by decide +kernel
theorem dX12_findCost_4 : decode cX12_findCost 4 = .ok (.getfield 331, 3) := by decide +kernel
theorem dX12_findCost_7 : decode cX12_findCost 7 = .ok (.if_icmp .ge 27, 3) := by decide +kernel
theorem dX12_findCost_10 : decode cX12_findCost 10 = .ok (.aload_n 0, 1) := by decide +kernel
theorem dX12_findCost_11 : decode cX12_findCost 11 = .ok (.getfield 44, 3) := by decide +kernel
theorem dX12_findCost_14 : decode cX12_findCost 14 = .ok (.iload_n 2, 1) := by decide +kernel
theorem dX12_findCost_15 : decode cX12_findCost 15 = .ok (.iload_n 2, 1) := by decide +kernel
theorem dX12_findCost_16 : decode cX12_findCost 16 = .ok (.iload_n 1, 1) := by decide +kernel
theorem dX12_findCost_17 : decode cX12_findCost 17 = .ok (.if_icmp .ne 7, 3) := by decide +kernel
theorem dX12_findCost_20 : decode cX12_findCost 20 = .ok (.iconst 0, 1) := by decide +kernel
theorem dX12_findCost_21 : decode cX12_findCost 21 = .ok (.goto 6, 3) := by decide +kernel
theorem dX12_findCost_24 : decode cX12_findCost 24 = .ok (.ldc_w 370, 3) := by decide +kernel
theorem dX12_findCost_27 : decode cX12_findCost 27 = .ok (.iastore, 1) := by decide +kernel
theorem dX12_findCost_28 : decode cX12_findCost 28 = .ok (.iinc 2 1, 3) := by decide +kernel
theorem dX12_findCost_31 : decode cX12_findCost 31 = .ok (.goto (-29), 3) := by decide +kernel
theorem dX12_findCost_34 : decode cX12_findCost 34 = .ok (.iconst 1, 1) := by decide +kernel
theorem dX12_findCost_35 : decode cX12_findCost 35 = .ok (.istore_n 2, 1) := by decide +kernel
theorem dX12_findCost_36 : decode cX12_findCost 36 = .ok (.iload_n 2, 1) := by decide +kernel
theorem dX12_findCost_37 : decode cX12_findCost 37 = .ok (.ifCond .eq 106, 3) := by decide +kernel
theorem dX12_findCost_40 : decode cX12_findCost 40 = .ok (.iconst 0, 1) := by decide +kernel
theorem dX12_findCost_41 : decode cX12_findCost 41 = .ok (.istore_n 2, 1) := by decide +kernel
theorem dX12_findCost_42 : decode cX12_findCost 42 = .ok (.iconst 0, 1) := by decide +kernel
theorem dX12_findCost_43 : decode cX12_findCost 43 = .ok (.istore_n 3, 1) := by decide +kernel
theorem dX12_findCost_44 : decode cX12_findCost 44 = .ok (.iload_n 3, 1) := by decide +kernel
theorem dX12_findCost_45 : decode cX12_findCost 45 = .ok (.aload_n 0, 1) := by decide +kernel
theorem dX12_findCost_46 : decode cX12_findCost 46 = .ok (.getfield 331, 3) := by decide +kernel
theorem dX12_findCost_49 : decode cX12_findCost 49 = .ok (.if_icmp .ge 91, 3) := by decide +kernel
theorem dX12_findCost_52 : decode cX12_findCost 52 = .ok (.iconst 0, 1) := by decide +kernel
theorem dX12_findCost_53 : decode cX12_findCost 53 = .ok (.istore 4, 2) := by decide +kernel
theorem dX12_findCost_55 : decode cX12_findCost 55 = .ok (.iload 4, 2) := by decide +kernel
theorem dX12_findCost_57 : decode cX12_findCost 57 = .ok (.iconst 4, 1) := by decide +kernel
theorem dX12_findCost_58 : decode cX12_findCost 58 = .ok (.if_icmp .ge 76, 3) := by decide +kernel
theorem dX12_findCost_61 : decode cX12_findCost 61 = .ok (.aload_n 0, 1) := by decide +kernel
theorem dX12_findCost_62 : decode cX12_findCost 62 = .ok (.iload_n 3, 1) := by decide +kernel
theorem dX12_findCost_63 : decode cX12_findCost 63 = .ok (.iload 4, 2) := by decide +kernel
theorem dX12_findCost_65 : decode cX12_findCost 65 = .ok (.invokevirtual 340, 3) := by decide +kernel
theorem dX12_findCost_68 : decode cX12_findCost 68 = .ok (.istore 5, 2) := by decide +kernel
theorem dX12_findCost_70 : decode cX12_findCost 70 = .ok (.iload 5, 2) := by decide +kernel
theorem dX12_findCost_72 : decode cX12_findCost 72 = .ok (.iconst (-1), 1) := by decide +kernel
theorem dX12_findCost_73 : decode cX12_findCost 73 = .ok (.if_icmp .ne 9, 3) := by decide +kernel
theorem dX12_findCost_76 : decode cX12_findCost 76 = .ok (.ldc_w 370, 3) := by decide +kernel
theorem dX12_findCost_79 : decode cX12_findCost 79 = .ok (.goto 18, 3) := by decide +kernel
theorem dX12_findCost_82 : decode cX12_findCost 82 = .ok (.aload_n 0, 1) := by decide +kernel
theorem dX12_findCost_83 : decode cX12_findCost 83 = .ok (.getfield 44, 3) := by decide +kernel
theorem dX12_findCost_86 : decode cX12_findCost 86 = .ok (.iload_n 3, 1) := by decide +kernel
theorem dX12_findCost_87 : decode cX12_findCost 87 = .ok (.iaload, 1) := by decide +kernel
theorem dX12_findCost_88 : decode cX12_findCost 88 = .ok (.aload_n 0, 1) := by decide +kernel
theorem dX12_findCost_89 : decode cX12_findCost 89 = .ok (.iload 5, 2) := by decide +kernel
theorem dX12_findCost_91 : decode cX12_findCost 91 = .ok (.iload 4, 2) := by decide +kernel
theorem dX12_findCost_93 : decode cX12_findCost 93 = .ok (.invokevirtual 371, 3) := by decide +kernel
theorem dX12_findCost_96 : decode cX12_findCost 96 = .ok (.iadd, 1) := by decide +kernel
theorem dX12_findCost_97 : decode cX12_findCost 97 = .ok (.istore 6, 2) := by decide +kernel
theorem dX12_findCost_99 : decode cX12_findCost 99 = .ok (.iload 5, 2) := by decide +kernel
theorem dX12_findCost_101 : decode cX12_findCost 101 = .ok (.iconst (-1), 1) := by decide +kernel
theorem dX12_findCost_102 : decode cX12_findCost 102 = .ok (.if_icmp .eq 26, 3) := by decide +kernel
theorem dX12_findCost_105 : decode cX12_findCost 105 = .ok (.iload 6, 2) := by decide +kernel
theorem dX12_findCost_107 : decode cX12_findCost 107 = .ok (.aload_n 0, 1) := by decide +kernel
theorem dX12_findCost_108 : decode cX12_findCost 108 = .ok (.getfield 44, 3) := by decide +kernel
theorem dX12_findCost_111 : decode cX12_findCost 111 = .ok (.iload 5, 2) := by decide +kernel
theorem dX12_findCost_113 : decode cX12_findCost 113 = .ok (.iaload, 1) := by decide +kernel
theorem dX12_findCost_114 : decode cX12_findCost 114 = .ok (.if_icmp .ge 14, 3) := by decide +kernel
theorem dX12_findCost_117 : decode cX12_findCost 117 = .ok (.aload_n 0, 1) := by decide +kernel
theorem dX12_findCost_118 : decode cX12_findCost 118 = .ok (.getfield 44, 3) := by decide +kernel
theorem dX12_findCost_121 : decode cX12_findCost 121 = .ok (.iload 5, 2) := by decide +kernel
theorem dX12_findCost_123 : decode cX12_findCost 123 = .ok (.iload 6, 2) := by decide +kernel
theorem dX12_findCost_125 : decode cX12_findCost 125 = .ok (.iastore, 1) := by decide +kernel
theorem dX12_findCost_126 : decode cX12_findCost 126 = .ok (.iconst 1, 1) := by decide +kernel
theorem dX12_findCost_127 : decode cX12_findCost 127 = .ok (.istore_n 2, 1) := by decide +kernel
theorem dX12_findCost_128 : decode cX12_findCost 128 = .ok (.iinc 4 1, 3) := by decide +kernel
theorem dX12_findCost_131 : decode cX12_findCost 131 = .ok (.goto (-76), 3) := by decide +kernel
theorem dX12_findCost_134 : decode cX12_findCost 134 = .ok (.iinc 3 1, 3) := by decide +kernel
theorem dX12_findCost_137 : decode cX12_findCost 137 = .ok (.goto (-93), 3) := by decide +kernel
theorem dX12_findCost_140 : decode cX12_findCost 140 = .ok (.goto (-104), 3) := by decide +kernel
theorem dX12_findCost_143 : decode cX12_findCost 143 = .ok (.return_, 1) := by decide +kernel
theorem dX12_range_0 : decode cX12_range 0 = .ok (.iload_n 0, 1) := by decide +kernel
theorem dX12_range_1 : decode cX12_range 1 = .ok (.ifCond .ne 7, 3) := by decide +kernel
theorem dX12_range_4 : decode cX12_range 4 = .ok (.iconst 3, 1) := by decide +kernel
theorem dX12_range_5 : decode cX12_range 5 = .ok (.goto 24, 3) := by decide +kernel
theorem dX12_range_8 : decode cX12_range 8 = .ok (.iload_n 0, 1) := by decide +kernel
theorem dX12_range_9 : decode cX12_range 9 = .ok (.iconst 1, 1) := by decide +kernel
theorem dX12_range_10 : decode cX12_range 10 = .ok (.if_icmp .ne 7, 3) := by decide +kernel
theorem dX12_range_13 : decode cX12_range 13 = .ok (.iconst 4, 1) := by decide +kernel
theorem dX12_range_14 : decode cX12_range 14 = .ok (.goto 15, 3) := by decide +kernel
theorem dX12_range_17 : decode cX12_range 17 = .ok (.iload_n 0, 1) := by decide +kernel
theorem dX12_range_18 : decode cX12_range 18 = .ok (.iconst 2, 1) := by decide +kernel
theorem dX12_range_19 : decode cX12_range 19 = .ok (.if_icmp .ne 8, 3) := by decide +kernel
theorem dX12_range_22 : decode cX12_range 22 = .ok (.bipush 6, 2) := by decide +kernel
theorem dX12_range_24 : decode cX12_range 24 = .ok (.goto 5, 3) := by decide +kernel
theorem dX12_range_27 : decode cX12_range 27 = .ok (.bipush 9, 2) := by decide +kernel
theorem dX12_range_29 : decode cX12_range 29 = .ok (.ireturn, 1) := by decide +kernel
theorem dX12_begin_0 : decode cX12_begin 0 = .ok (.iconst 0, 1) := by decide +kernel
theorem dX12_begin_1 : decode cX12_begin 1 = .ok (.istore_n 1, 1) := by decide +kernel
theorem dX12_begin_2 : decode cX12_begin 2 = .ok (.iload_n 1, 1) := by decide +kernel
theorem dX12_begin_3 : decode cX12_begin 3 = .ok (.bipush 6, 2) := by decide +kernel
theorem dX12_begin_5 : decode cX12_begin 5 = .ok (.if_icmp .ge 73, 3) := by decide +kernel
theorem dX12_begin_8 : decode cX12_begin 8 = .ok (.aload_n 0, 1) := by decide +kernel
theorem dX12_begin_9 : decode cX12_begin 9 = .ok (.getfield 47, 3) := by decide +kernel
theorem dX12_begin_12 : decode cX12_begin 12 = .ok (.iload_n 1, 1) := by decide +kernel
theorem dX12_begin_13 : decode cX12_begin 13 = .ok (.iload_n 1, 1) := by decide +kernel
theorem dX12_begin_14 : decode cX12_begin 14 = .ok (.aload_n 0, 1) := by decide +kernel
theorem dX12_begin_15 : decode cX12_begin 15 = .ok (.getfield 337, 3) := by decide +kernel
theorem dX12_begin_18 : decode cX12_begin 18 = .ok (.if_icmp .ge 13, 3) := by decide +kernel
theorem dX12_begin_21 : decode cX12_begin 21 = .ok (.aload_n 0, 1) := by decide +kernel
theorem dX12_begin_22 : decode cX12_begin 22 = .ok (.bipush 27, 2) := by decide +kernel
theorem dX12_begin_24 : decode cX12_begin 24 = .ok (.iload_n 1, 1) := by decide +kernel
theorem dX12_begin_25 : decode cX12_begin 25 = .ok (.invokevirtual 352, 3) := by decide +kernel
theorem dX12_begin_28 : decode cX12_begin 28 = .ok (.goto 4, 3) := by decide +kernel
theorem dX12_begin_31 : decode cX12_begin 31 = .ok (.iconst 0, 1) := by decide +kernel
theorem dX12_begin_32 : decode cX12_begin 32 = .ok (.iastore, 1) := by decide +kernel
theorem dX12_begin_33 : decode cX12_begin 33 = .ok (.aload_n 0, 1) := by decide +kernel
theorem dX12_begin_34 : decode cX12_begin 34 = .ok (.getfield 56, 3) := by decide +kernel
theorem dX12_begin_37 : decode cX12_begin 37 = .ok (.iload_n 1, 1) := by decide +kernel
theorem dX12_begin_38 : decode cX12_begin 38 = .ok (.iload_n 1, 1) := by decide +kernel
theorem dX12_begin_39 : decode cX12_begin 39 = .ok (.aload_n 0, 1) := by decide +kernel
theorem dX12_begin_40 : decode cX12_begin 40 = .ok (.getfield 334, 3) := by decide +kernel
theorem dX12_begin_43 : decode cX12_begin 43 = .ok (.if_icmp .ge 13, 3) := by decide +kernel
theorem dX12_begin_46 : decode cX12_begin 46 = .ok (.aload_n 0, 1) := by decide +kernel
theorem dX12_begin_47 : decode cX12_begin 47 = .ok (.bipush 9, 2) := by decide +kernel
theorem dX12_begin_49 : decode cX12_begin 49 = .ok (.iload_n 1, 1) := by decide +kernel
theorem dX12_begin_50 : decode cX12_begin 50 = .ok (.invokevirtual 352, 3) := by decide +kernel
theorem dX12_begin_53 : decode cX12_begin 53 = .ok (.goto 4, 3) := by decide +kernel
theorem dX12_begin_56 : decode cX12_begin 56 = .ok (.iconst 0, 1) := by decide +kernel
theorem dX12_begin_57 : decode cX12_begin 57 = .ok (.iastore, 1) := by decide +kernel
theorem dX12_begin_58 : decode cX12_begin 58 = .ok (.aload_n 0, 1) := by decide +kernel
theorem dX12_begin_59 : decode cX12_begin 59 = .ok (.getfield 50, 3) := by decide +kernel
theorem dX12_begin_62 : decode cX12_begin 62 = .ok (.iload_n 1, 1) := by decide +kernel
theorem dX12_begin_63 : decode cX12_begin 63 = .ok (.iconst (-1), 1) := by decide +kernel
theorem dX12_begin_64 : decode cX12_begin 64 = .ok (.iastore, 1) := by decide +kernel
theorem dX12_begin_65 : decode cX12_begin 65 = .ok (.aload_n 0, 1) := by decide +kernel
theorem dX12_begin_66 : decode cX12_begin 66 = .ok (.getfield 53, 3) := by decide +kernel
theorem dX12_begin_69 : decode cX12_begin 69 = .ok (.iload_n 1, 1) := by decide +kernel
theorem dX12_begin_70 : decode cX12_begin 70 = .ok (.iconst 0, 1) := by decide +kernel
theorem dX12_begin_71 : decode cX12_begin 71 = .ok (.iastore, 1) := by decide +kernel
theorem dX12_begin_72 : decode cX12_begin 72 = .ok (.iinc 1 1, 3) := by decide +kernel
theorem dX12_begin_75 : decode cX12_begin 75 = .ok (.goto (-73), 3) := by decide +kernel
theorem dX12_begin_78 : decode cX12_begin 78 = .ok (.aload_n 0, 1) := by decide +kernel
theorem dX12_begin_79 : decode cX12_begin 79 = .ok (.iconst 0, 1) := by decide +kernel
theorem dX12_begin_80 : decode cX12_begin 80 = .ok (.putfield 374, 3) := by decide +kernel
theorem dX12_begin_83 : decode cX12_begin 83 = .ok (.aload_n 0, 1) := by decide +kernel
theorem dX12_begin_84 : decode cX12_begin 84 = .ok (.iconst 0, 1) := by decide +kernel
theorem dX12_begin_85 : decode cX12_begin 85 = .ok (.putfield 377, 3) := by decide +kernel
theorem dX12_begin_88 : decode cX12_begin 88 = .ok (.aload_n 0, 1) := by decide +kernel
theorem dX12_begin_89 : decode cX12_begin 89 = .ok (.iconst 0, 1) := by decide +kernel
theorem dX12_begin_90 : decode cX12_begin 90 = .ok (.putfield 380, 3) := by decide +kernel
theorem dX12_begin_93 : decode cX12_begin 93 = .ok (.return_, 1) := by decide +kernel
theorem dX12_marches_0 : decode cX12_marches 0 = .ok (.aload_n 0, 1) := by decide +kernel
theorem dX12_marches_1 : decode cX12_marches 1 = .ok (.aload_n 0, 1) := by decide +kernel
theorem dX12_marches_2 : decode cX12_marches 2 = .ok (.getfield 47, 3) := by decide +kernel
theorem dX12_marches_5 : decode cX12_marches 5 = .ok (.iload_n 1, 1) := by decide +kernel
theorem dX12_marches_6 : decode cX12_marches 6 = .ok (.iaload, 1) := by decide +kernel
theorem dX12_marches_7 : decode cX12_marches 7 = .ok (.iload_n 2, 1) := by decide +kernel
theorem dX12_marches_8 : decode cX12_marches 8 = .ok (.invokevirtual 383, 3) := by decide +kernel
theorem dX12_marches_11 : decode cX12_marches 11 = .ok (.istore_n 3, 1) := by decide +kernel
theorem dX12_marches_12 : decode cX12_marches 12 = .ok (.aload_n 0, 1) := by decide +kernel
theorem dX12_marches_13 : decode cX12_marches 13 = .ok (.getfield 47, 3) := by decide +kernel
theorem dX12_marches_16 : decode cX12_marches 16 = .ok (.iload_n 1, 1) := by decide +kernel
theorem dX12_marches_17 : decode cX12_marches 17 = .ok (.aload_n 0, 1) := by decide +kernel
theorem dX12_marches_18 : decode cX12_marches 18 = .ok (.getfield 374, 3) := by decide +kernel
theorem dX12_marches_21 : decode cX12_marches 21 = .ok (.iload_n 1, 1) := by decide +kernel
theorem dX12_marches_22 : decode cX12_marches 22 = .ok (.invokestatic 111, 3) := by decide +kernel
theorem dX12_marches_25 : decode cX12_marches 25 = .ok (.ifCond .ne 8, 3) := by decide +kernel
theorem dX12_marches_28 : decode cX12_marches 28 = .ok (.iload_n 3, 1) := by decide +kernel
theorem dX12_marches_29 : decode cX12_marches 29 = .ok (.iconst (-1), 1) := by decide +kernel
theorem dX12_marches_30 : decode cX12_marches 30 = .ok (.if_icmp .ne 12, 3) := by decide +kernel
theorem dX12_marches_33 : decode cX12_marches 33 = .ok (.aload_n 0, 1) := by decide +kernel
theorem dX12_marches_34 : decode cX12_marches 34 = .ok (.getfield 47, 3) := by decide +kernel
theorem dX12_marches_37 : decode cX12_marches 37 = .ok (.iload_n 1, 1) := by decide +kernel
theorem dX12_marches_38 : decode cX12_marches 38 = .ok (.iaload, 1) := by decide +kernel
theorem dX12_marches_39 : decode cX12_marches 39 = .ok (.goto 4, 3) := by decide +kernel
theorem dX12_marches_42 : decode cX12_marches 42 = .ok (.iload_n 3, 1) := by decide +kernel
theorem dX12_marches_43 : decode cX12_marches 43 = .ok (.iastore, 1) := by decide +kernel
theorem dX12_marches_44 : decode cX12_marches 44 = .ok (.return_, 1) := by decide +kernel
theorem dX12_obeys_0 : decode cX12_obeys 0 = .ok (.aload_n 0, 1) := by decide +kernel
theorem dX12_obeys_1 : decode cX12_obeys 1 = .ok (.dup, 1) := by decide +kernel
theorem dX12_obeys_2 : decode cX12_obeys 2 = .ok (.getfield 380, 3) := by decide +kernel
theorem dX12_obeys_5 : decode cX12_obeys 5 = .ok (.iconst 1, 1) := by decide +kernel
theorem dX12_obeys_6 : decode cX12_obeys 6 = .ok (.iadd, 1) := by decide +kernel
theorem dX12_obeys_7 : decode cX12_obeys 7 = .ok (.putfield 380, 3) := by decide +kernel
theorem dX12_obeys_10 : decode cX12_obeys 10 = .ok (.iload_n 2, 1) := by decide +kernel
theorem dX12_obeys_11 : decode cX12_obeys 11 = .ok (.tableswitch 82 0 2 #[25, 38, 53], 25) := by decide +kernel
theorem dX12_obeys_36 : decode cX12_obeys 36 = .ok (.aload_n 0, 1) := by decide +kernel
theorem dX12_obeys_37 : decode cX12_obeys 37 = .ok (.dup, 1) := by decide +kernel
theorem dX12_obeys_38 : decode cX12_obeys 38 = .ok (.getfield 374, 3) := by decide +kernel
theorem dX12_obeys_41 : decode cX12_obeys 41 = .ok (.iconst 1, 1) := by decide +kernel
theorem dX12_obeys_42 : decode cX12_obeys 42 = .ok (.iload_n 1, 1) := by decide +kernel
theorem dX12_obeys_43 : decode cX12_obeys 43 = .ok (.ishl, 1) := by decide +kernel
theorem dX12_obeys_44 : decode cX12_obeys 44 = .ok (.ior, 1) := by decide +kernel
theorem dX12_obeys_45 : decode cX12_obeys 45 = .ok (.putfield 374, 3) := by decide +kernel
theorem dX12_obeys_48 : decode cX12_obeys 48 = .ok (.return_, 1) := by decide +kernel
theorem dX12_obeys_49 : decode cX12_obeys 49 = .ok (.aload_n 0, 1) := by decide +kernel
theorem dX12_obeys_50 : decode cX12_obeys 50 = .ok (.dup, 1) := by decide +kernel
theorem dX12_obeys_51 : decode cX12_obeys 51 = .ok (.getfield 374, 3) := by decide +kernel
theorem dX12_obeys_54 : decode cX12_obeys 54 = .ok (.iconst 1, 1) := by decide +kernel
theorem dX12_obeys_55 : decode cX12_obeys 55 = .ok (.iload_n 1, 1) := by decide +kernel
theorem dX12_obeys_56 : decode cX12_obeys 56 = .ok (.ishl, 1) := by decide +kernel
theorem dX12_obeys_57 : decode cX12_obeys 57 = .ok (.iconst (-1), 1) := by decide +kernel
theorem dX12_obeys_58 : decode cX12_obeys 58 = .ok (.ixor, 1) := by decide +kernel
theorem dX12_obeys_59 : decode cX12_obeys 59 = .ok (.iand, 1) := by decide +kernel
theorem dX12_obeys_60 : decode cX12_obeys 60 = .ok (.putfield 374, 3) := by decide +kernel
theorem dX12_obeys_63 : decode cX12_obeys 63 = .ok (.return_, 1) := by decide +kernel
theorem dX12_obeys_64 : decode cX12_obeys 64 = .ok (.aload_n 0, 1) := by decide +kernel
theorem dX12_obeys_65 : decode cX12_obeys 65 = .ok (.dup, 1) := by decide +kernel
theorem dX12_obeys_66 : decode cX12_obeys 66 = .ok (.getfield 377, 3) := by decide +kernel
theorem dX12_obeys_69 : decode cX12_obeys 69 = .ok (.aload_n 0, 1) := by decide +kernel
theorem dX12_obeys_70 : decode cX12_obeys 70 = .ok (.bipush 27, 2) := by decide +kernel
theorem dX12_obeys_72 : decode cX12_obeys 72 = .ok (.iload_n 1, 1) := by decide +kernel
theorem dX12_obeys_73 : decode cX12_obeys 73 = .ok (.iadd, 1) := by decide +kernel
theorem dX12_obeys_74 : decode cX12_obeys 74 = .ok (.invokevirtual 324, 3) := by decide +kernel
theorem dX12_obeys_77 : decode cX12_obeys 77 = .ok (.iconst 1, 1) := by decide +kernel
theorem dX12_obeys_78 : decode cX12_obeys 78 = .ok (.if_icmp .ne 9, 3) := by decide +kernel
theorem dX12_obeys_81 : decode cX12_obeys 81 = .ok (.iconst 1, 1) := by decide +kernel
theorem dX12_obeys_82 : decode cX12_obeys 82 = .ok (.iload_n 1, 1) := by decide +kernel
theorem dX12_obeys_83 : decode cX12_obeys 83 = .ok (.ishl, 1) := by decide +kernel
theorem dX12_obeys_84 : decode cX12_obeys 84 = .ok (.goto 4, 3) := by decide +kernel
theorem dX12_obeys_87 : decode cX12_obeys 87 = .ok (.iconst 0, 1) := by decide +kernel
theorem dX12_obeys_88 : decode cX12_obeys 88 = .ok (.ior, 1) := by decide +kernel
theorem dX12_obeys_89 : decode cX12_obeys 89 = .ok (.putfield 377, 3) := by decide +kernel
theorem dX12_obeys_92 : decode cX12_obeys 92 = .ok (.return_, 1) := by decide +kernel
theorem dX12_obeys_93 : decode cX12_obeys 93 = .ok (.aload_n 0, 1) := by decide +kernel
theorem dX12_obeys_94 : decode cX12_obeys 94 = .ok (.iload_n 1, 1) := by decide +kernel
theorem dX12_obeys_95 : decode cX12_obeys 95 = .ok (.iload_n 3, 1) := by decide +kernel
theorem dX12_obeys_96 : decode cX12_obeys 96 = .ok (.invokevirtual 386, 3) := by decide +kernel
theorem dX12_obeys_99 : decode cX12_obeys 99 = .ok (.return_, 1) := by decide +kernel
theorem dX12_isPlayed_0 : decode cX12_isPlayed 0 = .ok (.aload_n 0, 1) := by decide +kernel
theorem dX12_isPlayed_1 : decode cX12_isPlayed 1 = .ok (.iload_n 1, 1) := by decide +kernel
theorem dX12_isPlayed_2 : decode cX12_isPlayed 2 = .ok (.invokevirtual 349, 3) := by decide +kernel
theorem dX12_isPlayed_5 : decode cX12_isPlayed 5 = .ok (.ifCond .ne 5, 3) := by decide +kernel
theorem dX12_isPlayed_8 : decode cX12_isPlayed 8 = .ok (.iconst 0, 1) := by decide +kernel
theorem dX12_isPlayed_9 : decode cX12_isPlayed 9 = .ok (.ireturn, 1) := by decide +kernel
theorem dX12_isPlayed_10 : decode cX12_isPlayed 10 = .ok (.aload_n 0, 1) := by decide +kernel
theorem dX12_isPlayed_11 : decode cX12_isPlayed 11 = .ok (.aload_n 0, 1) := by decide +kernel
theorem dX12_isPlayed_12 : decode cX12_isPlayed 12 = .ok (.getfield 56, 3) := by decide +kernel
theorem dX12_isPlayed_15 : decode cX12_isPlayed 15 = .ok (.iload_n 1, 1) := by decide +kernel
theorem dX12_isPlayed_16 : decode cX12_isPlayed 16 = .ok (.iaload, 1) := by decide +kernel
theorem dX12_isPlayed_17 : decode cX12_isPlayed 17 = .ok (.invokevirtual 389, 3) := by decide +kernel
theorem dX12_isPlayed_20 : decode cX12_isPlayed 20 = .ok (.iconst 0, 1) := by decide +kernel
theorem dX12_isPlayed_21 : decode cX12_isPlayed 21 = .ok (.istore 4, 2) := by decide +kernel
theorem dX12_isPlayed_23 : decode cX12_isPlayed 23 = .ok (.iload 4, 2) := by decide +kernel
theorem dX12_isPlayed_25 : decode cX12_isPlayed 25 = .ok (.aload_n 0, 1) := by decide +kernel
theorem dX12_isPlayed_26 : decode cX12_isPlayed 26 = .ok (.getfield 337, 3) := by decide +kernel
theorem dX12_isPlayed_29 : decode cX12_isPlayed 29 = .ok (.if_icmp .ge 115, 3) := by decide +kernel
theorem dX12_isPlayed_32 : decode cX12_isPlayed 32 = .ok (.aload_n 0, 1) := by decide +kernel
theorem dX12_isPlayed_33 : decode cX12_isPlayed 33 = .ok (.bipush 27, 2) := by decide +kernel
theorem dX12_isPlayed_35 : decode cX12_isPlayed 35 = .ok (.iload 4, 2) := by decide +kernel
theorem dX12_isPlayed_37 : decode cX12_isPlayed 37 = .ok (.iadd, 1) := by decide +kernel
theorem dX12_isPlayed_38 : decode cX12_isPlayed 38 = .ok (.invokevirtual 324, 3) := by decide +kernel
theorem dX12_isPlayed_41 : decode cX12_isPlayed 41 = .ok (.iconst 3, 1) := by decide +kernel
theorem dX12_isPlayed_42 : decode cX12_isPlayed 42 = .ok (.if_icmp .eq 96, 3) := by decide +kernel
theorem dX12_isPlayed_45 : decode cX12_isPlayed 45 = .ok (.aload_n 0, 1) := by decide +kernel
theorem dX12_isPlayed_46 : decode cX12_isPlayed 46 = .ok (.getfield 44, 3) := by decide +kernel
theorem dX12_isPlayed_49 : decode cX12_isPlayed 49 = .ok (.aload_n 0, 1) := by decide +kernel
theorem dX12_isPlayed_50 : decode cX12_isPlayed 50 = .ok (.getfield 47, 3) := by decide +kernel
theorem dX12_isPlayed_53 : decode cX12_isPlayed 53 = .ok (.iload 4, 2) := by decide +kernel
theorem dX12_isPlayed_55 : decode cX12_isPlayed 55 = .ok (.iaload, 1) := by decide +kernel
theorem dX12_isPlayed_56 : decode cX12_isPlayed 56 = .ok (.iaload, 1) := by decide +kernel
theorem dX12_isPlayed_57 : decode cX12_isPlayed 57 = .ok (.aload_n 0, 1) := by decide +kernel
theorem dX12_isPlayed_58 : decode cX12_isPlayed 58 = .ok (.bipush 9, 2) := by decide +kernel
theorem dX12_isPlayed_60 : decode cX12_isPlayed 60 = .ok (.iload_n 1, 1) := by decide +kernel
theorem dX12_isPlayed_61 : decode cX12_isPlayed 61 = .ok (.iadd, 1) := by decide +kernel
theorem dX12_isPlayed_62 : decode cX12_isPlayed 62 = .ok (.invokevirtual 324, 3) := by decide +kernel
theorem dX12_isPlayed_65 : decode cX12_isPlayed 65 = .ok (.invokestatic 392, 3) := by decide +kernel
theorem dX12_isPlayed_68 : decode cX12_isPlayed 68 = .ok (.if_icmp .gt 70, 3) := by decide +kernel
theorem dX12_isPlayed_71 : decode cX12_isPlayed 71 = .ok (.aload_n 0, 1) := by decide +kernel
theorem dX12_isPlayed_72 : decode cX12_isPlayed 72 = .ok (.getfield 50, 3) := by decide +kernel
theorem dX12_isPlayed_75 : decode cX12_isPlayed 75 = .ok (.iload 4, 2) := by decide +kernel
theorem dX12_isPlayed_77 : decode cX12_isPlayed 77 = .ok (.iaload, 1) := by decide +kernel
theorem dX12_isPlayed_78 : decode cX12_isPlayed 78 = .ok (.iload_n 2, 1) := by decide +kernel
theorem dX12_isPlayed_79 : decode cX12_isPlayed 79 = .ok (.if_icmp .eq 24, 3) := by decide +kernel
theorem dX12_isPlayed_82 : decode cX12_isPlayed 82 = .ok (.aload_n 0, 1) := by decide +kernel
theorem dX12_isPlayed_83 : decode cX12_isPlayed 83 = .ok (.bipush 27, 2) := by decide +kernel
theorem dX12_isPlayed_85 : decode cX12_isPlayed 85 = .ok (.iload 4, 2) := by decide +kernel
theorem dX12_isPlayed_87 : decode cX12_isPlayed 87 = .ok (.iadd, 1) := by decide +kernel
theorem dX12_isPlayed_88 : decode cX12_isPlayed 88 = .ok (.invokevirtual 324, 3) := by decide +kernel
theorem dX12_isPlayed_91 : decode cX12_isPlayed 91 = .ok (.iconst 2, 1) := by decide +kernel
theorem dX12_isPlayed_92 : decode cX12_isPlayed 92 = .ok (.if_icmp .ne 7, 3) := by decide +kernel
theorem dX12_isPlayed_95 : decode cX12_isPlayed 95 = .ok (.iload_n 2, 1) := by decide +kernel
theorem dX12_isPlayed_96 : decode cX12_isPlayed 96 = .ok (.ifCond .eq 7, 3) := by decide +kernel
theorem dX12_isPlayed_99 : decode cX12_isPlayed 99 = .ok (.iconst 1, 1) := by decide +kernel
theorem dX12_isPlayed_100 : decode cX12_isPlayed 100 = .ok (.goto 4, 3) := by decide +kernel
theorem dX12_isPlayed_103 : decode cX12_isPlayed 103 = .ok (.iconst 0, 1) := by decide +kernel
theorem dX12_isPlayed_104 : decode cX12_isPlayed 104 = .ok (.istore 5, 2) := by decide +kernel
theorem dX12_isPlayed_106 : decode cX12_isPlayed 106 = .ok (.aload_n 0, 1) := by decide +kernel
theorem dX12_isPlayed_107 : decode cX12_isPlayed 107 = .ok (.getfield 50, 3) := by decide +kernel
theorem dX12_isPlayed_110 : decode cX12_isPlayed 110 = .ok (.iload 4, 2) := by decide +kernel
theorem dX12_isPlayed_112 : decode cX12_isPlayed 112 = .ok (.iload_n 2, 1) := by decide +kernel
theorem dX12_isPlayed_113 : decode cX12_isPlayed 113 = .ok (.iastore, 1) := by decide +kernel
theorem dX12_isPlayed_114 : decode cX12_isPlayed 114 = .ok (.aload_n 0, 1) := by decide +kernel
theorem dX12_isPlayed_115 : decode cX12_isPlayed 115 = .ok (.getfield 53, 3) := by decide +kernel
theorem dX12_isPlayed_118 : decode cX12_isPlayed 118 = .ok (.iload 4, 2) := by decide +kernel
theorem dX12_isPlayed_120 : decode cX12_isPlayed 120 = .ok (.dup2, 1) := by decide +kernel
theorem dX12_isPlayed_121 : decode cX12_isPlayed 121 = .ok (.iaload, 1) := by decide +kernel
theorem dX12_isPlayed_122 : decode cX12_isPlayed 122 = .ok (.iconst 1, 1) := by decide +kernel
theorem dX12_isPlayed_123 : decode cX12_isPlayed 123 = .ok (.iadd, 1) := by decide +kernel
theorem dX12_isPlayed_124 : decode cX12_isPlayed 124 = .ok (.iastore, 1) := by decide +kernel
theorem dX12_isPlayed_125 : decode cX12_isPlayed 125 = .ok (.iload 5, 2) := by decide +kernel
theorem dX12_isPlayed_127 : decode cX12_isPlayed 127 = .ok (.ifCond .eq 11, 3) := by decide +kernel
theorem dX12_isPlayed_130 : decode cX12_isPlayed 130 = .ok (.aload_n 0, 1) := by decide +kernel
theorem dX12_isPlayed_131 : decode cX12_isPlayed 131 = .ok (.iload 4, 2) := by decide +kernel
theorem dX12_isPlayed_133 : decode cX12_isPlayed 133 = .ok (.iload_n 2, 1) := by decide +kernel
theorem dX12_isPlayed_134 : decode cX12_isPlayed 134 = .ok (.iload_n 3, 1) := by decide +kernel
theorem dX12_isPlayed_135 : decode cX12_isPlayed 135 = .ok (.invokevirtual 395, 3) := by decide +kernel
theorem dX12_isPlayed_138 : decode cX12_isPlayed 138 = .ok (.iinc 4 1, 3) := by decide +kernel
theorem dX12_isPlayed_141 : decode cX12_isPlayed 141 = .ok (.goto (-118), 3) := by decide +kernel
theorem dX12_isPlayed_144 : decode cX12_isPlayed 144 = .ok (.iconst 1, 1) := by decide +kernel
theorem dX12_isPlayed_145 : decode cX12_isPlayed 145 = .ok (.ireturn, 1) := by decide +kernel
theorem dX12_walks_0 : decode cX12_walks 0 = .ok (.aload_n 0, 1) := by decide +kernel
theorem dX12_walks_1 : decode cX12_walks 1 = .ok (.iload_n 1, 1) := by decide +kernel
theorem dX12_walks_2 : decode cX12_walks 2 = .ok (.invokevirtual 355, 3) := by decide +kernel
theorem dX12_walks_5 : decode cX12_walks 5 = .ok (.ifCond .eq 29, 3) := by decide +kernel
theorem dX12_walks_8 : decode cX12_walks 8 = .ok (.aload_n 0, 1) := by decide +kernel
theorem dX12_walks_9 : decode cX12_walks 9 = .ok (.getfield 374, 3) := by decide +kernel
theorem dX12_walks_12 : decode cX12_walks 12 = .ok (.iload_n 1, 1) := by decide +kernel
theorem dX12_walks_13 : decode cX12_walks 13 = .ok (.invokestatic 111, 3) := by decide +kernel
theorem dX12_walks_16 : decode cX12_walks 16 = .ok (.ifCond .ne 18, 3) := by decide +kernel
theorem dX12_walks_19 : decode cX12_walks 19 = .ok (.aload_n 0, 1) := by decide +kernel
theorem dX12_walks_20 : decode cX12_walks 20 = .ok (.aload_n 0, 1) := by decide +kernel
theorem dX12_walks_21 : decode cX12_walks 21 = .ok (.getfield 47, 3) := by decide +kernel
theorem dX12_walks_24 : decode cX12_walks 24 = .ok (.iload_n 1, 1) := by decide +kernel
theorem dX12_walks_25 : decode cX12_walks 25 = .ok (.iaload, 1) := by decide +kernel
theorem dX12_walks_26 : decode cX12_walks 26 = .ok (.iload_n 2, 1) := by decide +kernel
theorem dX12_walks_27 : decode cX12_walks 27 = .ok (.invokevirtual 383, 3) := by decide +kernel
theorem dX12_walks_30 : decode cX12_walks 30 = .ok (.iconst (-1), 1) := by decide +kernel
theorem dX12_walks_31 : decode cX12_walks 31 = .ok (.if_icmp .ne 5, 3) := by decide +kernel
theorem dX12_walks_34 : decode cX12_walks 34 = .ok (.iconst 0, 1) := by decide +kernel
theorem dX12_walks_35 : decode cX12_walks 35 = .ok (.ireturn, 1) := by decide +kernel
theorem dX12_walks_36 : decode cX12_walks 36 = .ok (.aload_n 0, 1) := by decide +kernel
theorem dX12_walks_37 : decode cX12_walks 37 = .ok (.getfield 47, 3) := by decide +kernel
theorem dX12_walks_40 : decode cX12_walks 40 = .ok (.iload_n 1, 1) := by decide +kernel
theorem dX12_walks_41 : decode cX12_walks 41 = .ok (.aload_n 0, 1) := by decide +kernel
theorem dX12_walks_42 : decode cX12_walks 42 = .ok (.aload_n 0, 1) := by decide +kernel
theorem dX12_walks_43 : decode cX12_walks 43 = .ok (.getfield 47, 3) := by decide +kernel
theorem dX12_walks_46 : decode cX12_walks 46 = .ok (.iload_n 1, 1) := by decide +kernel
theorem dX12_walks_47 : decode cX12_walks 47 = .ok (.iaload, 1) := by decide +kernel
theorem dX12_walks_48 : decode cX12_walks 48 = .ok (.iload_n 2, 1) := by decide +kernel
theorem dX12_walks_49 : decode cX12_walks 49 = .ok (.invokevirtual 383, 3) := by decide +kernel
theorem dX12_walks_52 : decode cX12_walks 52 = .ok (.iastore, 1) := by decide +kernel
theorem dX12_walks_53 : decode cX12_walks 53 = .ok (.iconst 1, 1) := by decide +kernel
theorem dX12_walks_54 : decode cX12_walks 54 = .ok (.ireturn, 1) := by decide +kernel
theorem dX12_goes_0 : decode cX12_goes 0 = .ok (.aload_n 0, 1) := by decide +kernel
theorem dX12_goes_1 : decode cX12_goes 1 = .ok (.iload_n 1, 1) := by decide +kernel
theorem dX12_goes_2 : decode cX12_goes 2 = .ok (.invokevirtual 349, 3) := by decide +kernel
theorem dX12_goes_5 : decode cX12_goes 5 = .ok (.ifCond .eq 18, 3) := by decide +kernel
theorem dX12_goes_8 : decode cX12_goes 8 = .ok (.aload_n 0, 1) := by decide +kernel
theorem dX12_goes_9 : decode cX12_goes 9 = .ok (.aload_n 0, 1) := by decide +kernel
theorem dX12_goes_10 : decode cX12_goes 10 = .ok (.getfield 56, 3) := by decide +kernel
theorem dX12_goes_13 : decode cX12_goes 13 = .ok (.iload_n 1, 1) := by decide +kernel
theorem dX12_goes_14 : decode cX12_goes 14 = .ok (.iaload, 1) := by decide +kernel
theorem dX12_goes_15 : decode cX12_goes 15 = .ok (.iload_n 2, 1) := by decide +kernel
theorem dX12_goes_16 : decode cX12_goes 16 = .ok (.invokevirtual 383, 3) := by decide +kernel
theorem dX12_goes_19 : decode cX12_goes 19 = .ok (.iconst (-1), 1) := by decide +kernel
theorem dX12_goes_20 : decode cX12_goes 20 = .ok (.if_icmp .ne 5, 3) := by decide +kernel
theorem dX12_goes_23 : decode cX12_goes 23 = .ok (.iconst 0, 1) := by decide +kernel
theorem dX12_goes_24 : decode cX12_goes 24 = .ok (.ireturn, 1) := by decide +kernel
theorem dX12_goes_25 : decode cX12_goes 25 = .ok (.aload_n 0, 1) := by decide +kernel
theorem dX12_goes_26 : decode cX12_goes 26 = .ok (.getfield 56, 3) := by decide +kernel
theorem dX12_goes_29 : decode cX12_goes 29 = .ok (.iload_n 1, 1) := by decide +kernel
theorem dX12_goes_30 : decode cX12_goes 30 = .ok (.aload_n 0, 1) := by decide +kernel
theorem dX12_goes_31 : decode cX12_goes 31 = .ok (.aload_n 0, 1) := by decide +kernel
theorem dX12_goes_32 : decode cX12_goes 32 = .ok (.getfield 56, 3) := by decide +kernel
theorem dX12_goes_35 : decode cX12_goes 35 = .ok (.iload_n 1, 1) := by decide +kernel
theorem dX12_goes_36 : decode cX12_goes 36 = .ok (.iaload, 1) := by decide +kernel
theorem dX12_goes_37 : decode cX12_goes 37 = .ok (.iload_n 2, 1) := by decide +kernel
theorem dX12_goes_38 : decode cX12_goes 38 = .ok (.invokevirtual 383, 3) := by decide +kernel
theorem dX12_goes_41 : decode cX12_goes 41 = .ok (.iastore, 1) := by decide +kernel
theorem dX12_goes_42 : decode cX12_goes 42 = .ok (.iconst 1, 1) := by decide +kernel
theorem dX12_goes_43 : decode cX12_goes 43 = .ok (.ireturn, 1) := by decide +kernel
theorem dX12_rests_0 : decode cX12_rests 0 = .ok (.iconst 0, 1) := by decide +kernel
theorem dX12_rests_1 : decode cX12_rests 1 = .ok (.istore_n 1, 1) := by decide +kernel
theorem dX12_rests_2 : decode cX12_rests 2 = .ok (.iload_n 1, 1) := by decide +kernel
theorem dX12_rests_3 : decode cX12_rests 3 = .ok (.bipush 6, 2) := by decide +kernel
theorem dX12_rests_5 : decode cX12_rests 5 = .ok (.if_icmp .ge 16, 3) := by decide +kernel
theorem dX12_rests_8 : decode cX12_rests 8 = .ok (.aload_n 0, 1) := by decide +kernel
theorem dX12_rests_9 : decode cX12_rests 9 = .ok (.getfield 50, 3) := by decide +kernel
theorem dX12_rests_12 : decode cX12_rests 12 = .ok (.iload_n 1, 1) := by decide +kernel
theorem dX12_rests_13 : decode cX12_rests 13 = .ok (.iconst (-1), 1) := by decide +kernel
theorem dX12_rests_14 : decode cX12_rests 14 = .ok (.iastore, 1) := by decide +kernel
theorem dX12_rests_15 : decode cX12_rests 15 = .ok (.iinc 1 1, 3) := by decide +kernel
theorem dX12_rests_18 : decode cX12_rests 18 = .ok (.goto (-16), 3) := by decide +kernel
theorem dX12_rests_21 : decode cX12_rests 21 = .ok (.iconst 1, 1) := by decide +kernel
theorem dX12_rests_22 : decode cX12_rests 22 = .ok (.ireturn, 1) := by decide +kernel
theorem dX12_does_0 : decode cX12_does 0 = .ok (.iload_n 1, 1) := by decide +kernel
theorem dX12_does_1 : decode cX12_does 1 = .ok (.iconst 3, 1) := by decide +kernel
theorem dX12_does_2 : decode cX12_does 2 = .ok (.if_icmp .gt 13, 3) := by decide +kernel
theorem dX12_does_5 : decode cX12_does 5 = .ok (.aload_n 0, 1) := by decide +kernel
theorem dX12_does_6 : decode cX12_does 6 = .ok (.iload_n 2, 1) := by decide +kernel
theorem dX12_does_7 : decode cX12_does 7 = .ok (.iload_n 1, 1) := by decide +kernel
theorem dX12_does_8 : decode cX12_does 8 = .ok (.iload_n 3, 1) := by decide +kernel
theorem dX12_does_9 : decode cX12_does 9 = .ok (.invokevirtual 398, 3) := by decide +kernel
theorem dX12_does_12 : decode cX12_does 12 = .ok (.goto 35, 3) := by decide +kernel
theorem dX12_does_15 : decode cX12_does 15 = .ok (.iload_n 1, 1) := by decide +kernel
theorem dX12_does_16 : decode cX12_does 16 = .ok (.iconst 4, 1) := by decide +kernel
theorem dX12_does_17 : decode cX12_does 17 = .ok (.if_icmp .ne 12, 3) := by decide +kernel
theorem dX12_does_20 : decode cX12_does 20 = .ok (.aload_n 0, 1) := by decide +kernel
theorem dX12_does_21 : decode cX12_does 21 = .ok (.iload_n 2, 1) := by decide +kernel
theorem dX12_does_22 : decode cX12_does 22 = .ok (.iload_n 3, 1) := by decide +kernel
theorem dX12_does_23 : decode cX12_does 23 = .ok (.invokevirtual 401, 3) := by decide +kernel
theorem dX12_does_26 : decode cX12_does 26 = .ok (.goto 21, 3) := by decide +kernel
theorem dX12_does_29 : decode cX12_does 29 = .ok (.iload_n 1, 1) := by decide +kernel
theorem dX12_does_30 : decode cX12_does 30 = .ok (.iconst 5, 1) := by decide +kernel
theorem dX12_does_31 : decode cX12_does 31 = .ok (.if_icmp .ne 12, 3) := by decide +kernel
theorem dX12_does_34 : decode cX12_does 34 = .ok (.aload_n 0, 1) := by decide +kernel
theorem dX12_does_35 : decode cX12_does 35 = .ok (.iload_n 2, 1) := by decide +kernel
theorem dX12_does_36 : decode cX12_does 36 = .ok (.iload_n 3, 1) := by decide +kernel
theorem dX12_does_37 : decode cX12_does 37 = .ok (.invokevirtual 404, 3) := by decide +kernel
theorem dX12_does_40 : decode cX12_does 40 = .ok (.goto 7, 3) := by decide +kernel
theorem dX12_does_43 : decode cX12_does 43 = .ok (.aload_n 0, 1) := by decide +kernel
theorem dX12_does_44 : decode cX12_does 44 = .ok (.invokevirtual 407, 3) := by decide +kernel
theorem dX12_does_47 : decode cX12_does 47 = .ok (.ireturn, 1) := by decide +kernel
theorem dX12_play_0 : decode cX12_play 0 = .ok (.aload_n 0, 1) := by decide +kernel
theorem dX12_play_1 : decode cX12_play 1 = .ok (.invokevirtual 410, 3) := by decide +kernel
theorem dX12_play_4 : decode cX12_play 4 = .ok (.iconst 0, 1) := by decide +kernel
theorem dX12_play_5 : decode cX12_play 5 = .ok (.istore_n 2, 1) := by decide +kernel
theorem dX12_play_6 : decode cX12_play 6 = .ok (.iload_n 2, 1) := by decide +kernel
theorem dX12_play_7 : decode cX12_play 7 = .ok (.iload_n 1, 1) := by decide +kernel
theorem dX12_play_8 : decode cX12_play 8 = .ok (.if_icmp .ge 34, 3) := by decide +kernel
theorem dX12_play_11 : decode cX12_play 11 = .ok (.aload_n 0, 1) := by decide +kernel
theorem dX12_play_12 : decode cX12_play 12 = .ok (.aload_n 0, 1) := by decide +kernel
theorem dX12_play_13 : decode cX12_play 13 = .ok (.iload_n 2, 1) := by decide +kernel
theorem dX12_play_14 : decode cX12_play 14 = .ok (.iconst 0, 1) := by decide +kernel
theorem dX12_play_15 : decode cX12_play 15 = .ok (.invokevirtual 367, 3) := by decide +kernel
theorem dX12_play_18 : decode cX12_play 18 = .ok (.aload_n 0, 1) := by decide +kernel
theorem dX12_play_19 : decode cX12_play 19 = .ok (.iload_n 2, 1) := by decide +kernel
theorem dX12_play_20 : decode cX12_play 20 = .ok (.iconst 1, 1) := by decide +kernel
theorem dX12_play_21 : decode cX12_play 21 = .ok (.invokevirtual 367, 3) := by decide +kernel
theorem dX12_play_24 : decode cX12_play 24 = .ok (.aload_n 0, 1) := by decide +kernel
theorem dX12_play_25 : decode cX12_play 25 = .ok (.iload_n 2, 1) := by decide +kernel
theorem dX12_play_26 : decode cX12_play 26 = .ok (.iconst 2, 1) := by decide +kernel
theorem dX12_play_27 : decode cX12_play 27 = .ok (.invokevirtual 367, 3) := by decide +kernel
theorem dX12_play_30 : decode cX12_play 30 = .ok (.invokevirtual 413, 3) := by decide +kernel
theorem dX12_play_33 : decode cX12_play 33 = .ok (.ifCond .eq 9, 3) := by decide +kernel
theorem dX12_play_36 : decode cX12_play 36 = .ok (.iinc 2 1, 3) := by decide +kernel
theorem dX12_play_39 : decode cX12_play 39 = .ok (.goto (-33), 3) := by decide +kernel
theorem dX12_play_42 : decode cX12_play 42 = .ok (.iload_n 2, 1) := by decide +kernel
theorem dX12_play_43 : decode cX12_play 43 = .ok (.ireturn, 1) := by decide +kernel
theorem dX12_layAll_0 : decode cX12_layAll 0 = .ok (.aload_n 0, 1) := by decide +kernel
theorem dX12_layAll_1 : decode cX12_layAll 1 = .ok (.iload_n 2, 1) := by decide +kernel
theorem dX12_layAll_2 : decode cX12_layAll 2 = .ok (.invokevirtual 361, 3) := by decide +kernel
theorem dX12_layAll_5 : decode cX12_layAll 5 = .ok (.ifCond .eq 15, 3) := by decide +kernel
theorem dX12_layAll_8 : decode cX12_layAll 8 = .ok (.aload_n 0, 1) := by decide +kernel
theorem dX12_layAll_9 : decode cX12_layAll 9 = .ok (.iload_n 1, 1) := by decide +kernel
theorem dX12_layAll_10 : decode cX12_layAll 10 = .ok (.invokevirtual 346, 3) := by decide +kernel
theorem dX12_layAll_13 : decode cX12_layAll 13 = .ok (.ifCond .eq 7, 3) := by decide +kernel
theorem dX12_layAll_16 : decode cX12_layAll 16 = .ok (.iconst 1, 1) := by decide +kernel
theorem dX12_layAll_17 : decode cX12_layAll 17 = .ok (.goto 4, 3) := by decide +kernel
theorem dX12_layAll_20 : decode cX12_layAll 20 = .ok (.iconst 0, 1) := by decide +kernel
theorem dX12_layAll_21 : decode cX12_layAll 21 = .ok (.ireturn, 1) := by decide +kernel
theorem dX12_stop_0 : decode cX12_stop 0 = .ok (.aload_n 0, 1) := by decide +kernel
theorem dX12_stop_1 : decode cX12_stop 1 = .ok (.iconst 0, 1) := by decide +kernel
theorem dX12_stop_2 : decode cX12_stop 2 = .ok (.putfield 107, 3) := by decide +kernel
theorem dX12_stop_5 : decode cX12_stop 5 = .ok (.aload_n 0, 1) := by decide +kernel
theorem dX12_stop_6 : decode cX12_stop 6 = .ok (.iload_n 1, 1) := by decide +kernel
theorem dX12_stop_7 : decode cX12_stop 7 = .ok (.iload_n 2, 1) := by decide +kernel
theorem dX12_stop_8 : decode cX12_stop 8 = .ok (.invokevirtual 416, 3) := by decide +kernel
theorem dX12_stop_11 : decode cX12_stop 11 = .ok (.ifCond .eq 14, 3) := by decide +kernel
theorem dX12_stop_14 : decode cX12_stop 14 = .ok (.aload_n 0, 1) := by decide +kernel
theorem dX12_stop_15 : decode cX12_stop 15 = .ok (.aload_n 0, 1) := by decide +kernel
theorem dX12_stop_16 : decode cX12_stop 16 = .ok (.invokevirtual 364, 3) := by decide +kernel
theorem dX12_stop_19 : decode cX12_stop 19 = .ok (.invokevirtual 419, 3) := by decide +kernel
theorem dX12_stop_22 : decode cX12_stop 22 = .ok (.goto 4, 3) := by decide +kernel
theorem dX12_stop_25 : decode cX12_stop 25 = .ok (.iconst (-1), 1) := by decide +kernel
theorem dX12_stop_26 : decode cX12_stop 26 = .ok (.ireturn, 1) := by decide +kernel
theorem dX12_ofState_0 : decode cX12_ofState 0 = .ok (.iload_n 1, 1) := by decide +kernel
theorem dX12_ofState_1 : decode cX12_ofState 1 = .ok (.bipush 10, 2) := by decide +kernel
theorem dX12_ofState_3 : decode cX12_ofState 3 = .ok (.irem, 1) := by decide +kernel
theorem dX12_ofState_4 : decode cX12_ofState 4 = .ok (.istore_n 2, 1) := by decide +kernel
theorem dX12_ofState_5 : decode cX12_ofState 5 = .ok (.iload_n 1, 1) := by decide +kernel
theorem dX12_ofState_6 : decode cX12_ofState 6 = .ok (.bipush 10, 2) := by decide +kernel
theorem dX12_ofState_8 : decode cX12_ofState 8 = .ok (.idiv, 1) := by decide +kernel
theorem dX12_ofState_9 : decode cX12_ofState 9 = .ok (.tableswitch 153 0 4 #[35, 73, 93, 113, 133], 35) := by decide +kernel
theorem dX12_ofState_44 : decode cX12_ofState 44 = .ok (.iload_n 1, 1) := by decide +kernel
theorem dX12_ofState_45 : decode cX12_ofState 45 = .ok (.ifCond .ne 10, 3) := by decide +kernel
theorem dX12_ofState_48 : decode cX12_ofState 48 = .ok (.aload_n 0, 1) := by decide +kernel
theorem dX12_ofState_49 : decode cX12_ofState 49 = .ok (.getfield 374, 3) := by decide +kernel
theorem dX12_ofState_52 : decode cX12_ofState 52 = .ok (.goto 29, 3) := by decide +kernel
theorem dX12_ofState_55 : decode cX12_ofState 55 = .ok (.iload_n 1, 1) := by decide +kernel
theorem dX12_ofState_56 : decode cX12_ofState 56 = .ok (.iconst 1, 1) := by decide +kernel
theorem dX12_ofState_57 : decode cX12_ofState 57 = .ok (.if_icmp .ne 10, 3) := by decide +kernel
theorem dX12_ofState_60 : decode cX12_ofState 60 = .ok (.aload_n 0, 1) := by decide +kernel
theorem dX12_ofState_61 : decode cX12_ofState 61 = .ok (.getfield 377, 3) := by decide +kernel
theorem dX12_ofState_64 : decode cX12_ofState 64 = .ok (.goto 17, 3) := by decide +kernel
theorem dX12_ofState_67 : decode cX12_ofState 67 = .ok (.iload_n 1, 1) := by decide +kernel
theorem dX12_ofState_68 : decode cX12_ofState 68 = .ok (.iconst 2, 1) := by decide +kernel
theorem dX12_ofState_69 : decode cX12_ofState 69 = .ok (.if_icmp .ne 10, 3) := by decide +kernel
theorem dX12_ofState_72 : decode cX12_ofState 72 = .ok (.aload_n 0, 1) := by decide +kernel
theorem dX12_ofState_73 : decode cX12_ofState 73 = .ok (.getfield 380, 3) := by decide +kernel
theorem dX12_ofState_76 : decode cX12_ofState 76 = .ok (.goto 5, 3) := by decide +kernel
theorem dX12_ofState_79 : decode cX12_ofState 79 = .ok (.bipush (-2), 2) := by decide +kernel
theorem dX12_ofState_81 : decode cX12_ofState 81 = .ok (.ireturn, 1) := by decide +kernel
theorem dX12_ofState_82 : decode cX12_ofState 82 = .ok (.aload_n 0, 1) := by decide +kernel
theorem dX12_ofState_83 : decode cX12_ofState 83 = .ok (.iload_n 2, 1) := by decide +kernel
theorem dX12_ofState_84 : decode cX12_ofState 84 = .ok (.invokevirtual 355, 3) := by decide +kernel
theorem dX12_ofState_87 : decode cX12_ofState 87 = .ok (.ifCond .eq 12, 3) := by decide +kernel
theorem dX12_ofState_90 : decode cX12_ofState 90 = .ok (.aload_n 0, 1) := by decide +kernel
theorem dX12_ofState_91 : decode cX12_ofState 91 = .ok (.getfield 47, 3) := by decide +kernel
theorem dX12_ofState_94 : decode cX12_ofState 94 = .ok (.iload_n 2, 1) := by decide +kernel
theorem dX12_ofState_95 : decode cX12_ofState 95 = .ok (.iaload, 1) := by decide +kernel
theorem dX12_ofState_96 : decode cX12_ofState 96 = .ok (.goto 5, 3) := by decide +kernel
theorem dX12_ofState_99 : decode cX12_ofState 99 = .ok (.bipush (-2), 2) := by decide +kernel
theorem dX12_ofState_101 : decode cX12_ofState 101 = .ok (.ireturn, 1) := by decide +kernel
theorem dX12_ofState_102 : decode cX12_ofState 102 = .ok (.aload_n 0, 1) := by decide +kernel
theorem dX12_ofState_103 : decode cX12_ofState 103 = .ok (.iload_n 2, 1) := by decide +kernel
theorem dX12_ofState_104 : decode cX12_ofState 104 = .ok (.invokevirtual 355, 3) := by decide +kernel
theorem dX12_ofState_107 : decode cX12_ofState 107 = .ok (.ifCond .eq 12, 3) := by decide +kernel
theorem dX12_ofState_110 : decode cX12_ofState 110 = .ok (.aload_n 0, 1) := by decide +kernel
theorem dX12_ofState_111 : decode cX12_ofState 111 = .ok (.getfield 50, 3) := by decide +kernel
theorem dX12_ofState_114 : decode cX12_ofState 114 = .ok (.iload_n 2, 1) := by decide +kernel
theorem dX12_ofState_115 : decode cX12_ofState 115 = .ok (.iaload, 1) := by decide +kernel
theorem dX12_ofState_116 : decode cX12_ofState 116 = .ok (.goto 5, 3) := by decide +kernel
theorem dX12_ofState_119 : decode cX12_ofState 119 = .ok (.bipush (-2), 2) := by decide +kernel
theorem dX12_ofState_121 : decode cX12_ofState 121 = .ok (.ireturn, 1) := by decide +kernel
theorem dX12_ofState_122 : decode cX12_ofState 122 = .ok (.aload_n 0, 1) := by decide +kernel
theorem dX12_ofState_123 : decode cX12_ofState 123 = .ok (.iload_n 2, 1) := by decide +kernel
theorem dX12_ofState_124 : decode cX12_ofState 124 = .ok (.invokevirtual 355, 3) := by decide +kernel
theorem dX12_ofState_127 : decode cX12_ofState 127 = .ok (.ifCond .eq 12, 3) := by decide +kernel
theorem dX12_ofState_130 : decode cX12_ofState 130 = .ok (.aload_n 0, 1) := by decide +kernel
theorem dX12_ofState_131 : decode cX12_ofState 131 = .ok (.getfield 53, 3) := by decide +kernel
theorem dX12_ofState_134 : decode cX12_ofState 134 = .ok (.iload_n 2, 1) := by decide +kernel
theorem dX12_ofState_135 : decode cX12_ofState 135 = .ok (.iaload, 1) := by decide +kernel
theorem dX12_ofState_136 : decode cX12_ofState 136 = .ok (.goto 5, 3) := by decide +kernel
theorem dX12_ofState_139 : decode cX12_ofState 139 = .ok (.bipush (-2), 2) := by decide +kernel
theorem dX12_ofState_141 : decode cX12_ofState 141 = .ok (.ireturn, 1) := by decide +kernel
theorem dX12_ofState_142 : decode cX12_ofState 142 = .ok (.aload_n 0, 1) := by decide +kernel
theorem dX12_ofState_143 : decode cX12_ofState 143 = .ok (.iload_n 2, 1) := by decide +kernel
theorem dX12_ofState_144 : decode cX12_ofState 144 = .ok (.invokevirtual 349, 3) := by decide +kernel
theorem dX12_ofState_147 : decode cX12_ofState 147 = .ok (.ifCond .eq 12, 3) := by decide +kernel
theorem dX12_ofState_150 : decode cX12_ofState 150 = .ok (.aload_n 0, 1) := by decide +kernel
theorem dX12_ofState_151 : decode cX12_ofState 151 = .ok (.getfield 56, 3) := by decide +kernel
theorem dX12_ofState_154 : decode cX12_ofState 154 = .ok (.iload_n 2, 1) := by decide +kernel
theorem dX12_ofState_155 : decode cX12_ofState 155 = .ok (.iaload, 1) := by decide +kernel
theorem dX12_ofState_156 : decode cX12_ofState 156 = .ok (.goto 5, 3) := by decide +kernel
theorem dX12_ofState_159 : decode cX12_ofState 159 = .ok (.bipush (-2), 2) := by decide +kernel
theorem dX12_ofState_161 : decode cX12_ofState 161 = .ok (.ireturn, 1) := by decide +kernel
theorem dX12_ofState_162 : decode cX12_ofState 162 = .ok (.bipush (-2), 2) := by decide +kernel
theorem dX12_ofState_164 : decode cX12_ofState 164 = .ok (.ireturn, 1) := by decide +kernel
theorem dX12_state_0 : decode cX12_state 0 = .ok (.aload_n 0, 1) := by decide +kernel
theorem dX12_state_1 : decode cX12_state 1 = .ok (.iconst 0, 1) := by decide +kernel
theorem dX12_state_2 : decode cX12_state 2 = .ok (.putfield 107, 3) := by decide +kernel
theorem dX12_state_5 : decode cX12_state 5 = .ok (.aload_n 0, 1) := by decide +kernel
theorem dX12_state_6 : decode cX12_state 6 = .ok (.iload_n 1, 1) := by decide +kernel
theorem dX12_state_7 : decode cX12_state 7 = .ok (.iload_n 2, 1) := by decide +kernel
theorem dX12_state_8 : decode cX12_state 8 = .ok (.invokevirtual 416, 3) := by decide +kernel
theorem dX12_state_11 : decode cX12_state 11 = .ok (.ifCond .eq 33, 3) := by decide +kernel
theorem dX12_state_14 : decode cX12_state 14 = .ok (.iload_n 3, 1) := by decide +kernel
theorem dX12_state_15 : decode cX12_state 15 = .ok (.iconst 0, 1) := by decide +kernel
theorem dX12_state_16 : decode cX12_state 16 = .ok (.aload_n 0, 1) := by decide +kernel
theorem dX12_state_17 : decode cX12_state 17 = .ok (.invokevirtual 364, 3) := by decide +kernel
theorem dX12_state_20 : decode cX12_state 20 = .ok (.invokestatic 119, 3) := by decide +kernel
theorem dX12_state_23 : decode cX12_state 23 = .ok (.ifCond .eq 21, 3) := by decide +kernel
theorem dX12_state_26 : decode cX12_state 26 = .ok (.aload_n 0, 1) := by decide +kernel
theorem dX12_state_27 : decode cX12_state 27 = .ok (.iload_n 3, 1) := by decide +kernel
theorem dX12_state_28 : decode cX12_state 28 = .ok (.invokevirtual 419, 3) := by decide +kernel
theorem dX12_state_31 : decode cX12_state 31 = .ok (.iload_n 3, 1) := by decide +kernel
theorem dX12_state_32 : decode cX12_state 32 = .ok (.if_icmp .ne 12, 3) := by decide +kernel
theorem dX12_state_35 : decode cX12_state 35 = .ok (.aload_n 0, 1) := by decide +kernel
theorem dX12_state_36 : decode cX12_state 36 = .ok (.iload 4, 2) := by decide +kernel
theorem dX12_state_38 : decode cX12_state 38 = .ok (.invokevirtual 422, 3) := by decide +kernel
theorem dX12_state_41 : decode cX12_state 41 = .ok (.goto 5, 3) := by decide +kernel
theorem dX12_state_44 : decode cX12_state 44 = .ok (.bipush (-2), 2) := by decide +kernel
theorem dX12_state_46 : decode cX12_state 46 = .ok (.ireturn, 1) := by decide +kernel
theorem dX12_hears_0 : decode cX12_hears 0 = .ok (.aload_n 0, 1) := by decide +kernel
theorem dX12_hears_1 : decode cX12_hears 1 = .ok (.iconst 0, 1) := by decide +kernel
theorem dX12_hears_2 : decode cX12_hears 2 = .ok (.putfield 107, 3) := by decide +kernel
theorem dX12_hears_5 : decode cX12_hears 5 = .ok (.aload_n 0, 1) := by decide +kernel
theorem dX12_hears_6 : decode cX12_hears 6 = .ok (.iload_n 1, 1) := by decide +kernel
theorem dX12_hears_7 : decode cX12_hears 7 = .ok (.invokevirtual 346, 3) := by decide +kernel
theorem dX12_hears_10 : decode cX12_hears 10 = .ok (.ifCond .eq 19, 3) := by decide +kernel
theorem dX12_hears_13 : decode cX12_hears 13 = .ok (.aload_n 0, 1) := by decide +kernel
theorem dX12_hears_14 : decode cX12_hears 14 = .ok (.iload_n 2, 1) := by decide +kernel
theorem dX12_hears_15 : decode cX12_hears 15 = .ok (.invokevirtual 349, 3) := by decide +kernel
theorem dX12_hears_18 : decode cX12_hears 18 = .ok (.ifCond .eq 11, 3) := by decide +kernel
theorem dX12_hears_21 : decode cX12_hears 21 = .ok (.aload_n 0, 1) := by decide +kernel
theorem dX12_hears_22 : decode cX12_hears 22 = .ok (.iload_n 3, 1) := by decide +kernel
theorem dX12_hears_23 : decode cX12_hears 23 = .ok (.invokevirtual 425, 3) := by decide +kernel
theorem dX12_hears_26 : decode cX12_hears 26 = .ok (.ifCond .ne 5, 3) := by decide +kernel
theorem dX12_hears_29 : decode cX12_hears 29 = .ok (.iconst (-1), 1) := by decide +kernel
theorem dX12_hears_30 : decode cX12_hears 30 = .ok (.ireturn, 1) := by decide +kernel
theorem dX12_hears_31 : decode cX12_hears 31 = .ok (.aload_n 0, 1) := by decide +kernel
theorem dX12_hears_32 : decode cX12_hears 32 = .ok (.aload_n 0, 1) := by decide +kernel
theorem dX12_hears_33 : decode cX12_hears 33 = .ok (.bipush 9, 2) := by decide +kernel
theorem dX12_hears_35 : decode cX12_hears 35 = .ok (.iload_n 2, 1) := by decide +kernel
theorem dX12_hears_36 : decode cX12_hears 36 = .ok (.invokevirtual 352, 3) := by decide +kernel
theorem dX12_hears_39 : decode cX12_hears 39 = .ok (.invokevirtual 389, 3) := by decide +kernel
theorem dX12_hears_42 : decode cX12_hears 42 = .ok (.aload_n 0, 1) := by decide +kernel
theorem dX12_hears_43 : decode cX12_hears 43 = .ok (.getfield 44, 3) := by decide +kernel
theorem dX12_hears_46 : decode cX12_hears 46 = .ok (.iload_n 3, 1) := by decide +kernel
theorem dX12_hears_47 : decode cX12_hears 47 = .ok (.iaload, 1) := by decide +kernel
theorem dX12_hears_48 : decode cX12_hears 48 = .ok (.ireturn, 1) := by decide +kernel
theorem dX12_heardFrom_0 : decode cX12_heardFrom 0 = .ok (.aload_n 0, 1) := by decide +kernel
theorem dX12_heardFrom_1 : decode cX12_heardFrom 1 = .ok (.iload_n 1, 1) := by decide +kernel
theorem dX12_heardFrom_2 : decode cX12_heardFrom 2 = .ok (.invokevirtual 389, 3) := by decide +kernel
theorem dX12_heardFrom_5 : decode cX12_heardFrom 5 = .ok (.lconst 0, 1) := by decide +kernel
theorem dX12_heardFrom_6 : decode cX12_heardFrom 6 = .ok (.lstore_n 3, 1) := by decide +kernel
theorem dX12_heardFrom_7 : decode cX12_heardFrom 7 = .ok (.iconst 0, 1) := by decide +kernel
theorem dX12_heardFrom_8 : decode cX12_heardFrom 8 = .ok (.istore 5, 2) := by decide +kernel
theorem dX12_heardFrom_10 : decode cX12_heardFrom 10 = .ok (.iload 5, 2) := by decide +kernel
theorem dX12_heardFrom_12 : decode cX12_heardFrom 12 = .ok (.aload_n 0, 1) := by decide +kernel
theorem dX12_heardFrom_13 : decode cX12_heardFrom 13 = .ok (.getfield 331, 3) := by decide +kernel
theorem dX12_heardFrom_16 : decode cX12_heardFrom 16 = .ok (.if_icmp .ge 34, 3) := by decide +kernel
theorem dX12_heardFrom_19 : decode cX12_heardFrom 19 = .ok (.lload_n 3, 1) := by decide +kernel
theorem dX12_heardFrom_20 : decode cX12_heardFrom 20 = .ok (.aload_n 0, 1) := by decide +kernel
theorem dX12_heardFrom_21 : decode cX12_heardFrom 21 = .ok (.getfield 44, 3) := by decide +kernel
theorem dX12_heardFrom_24 : decode cX12_heardFrom 24 = .ok (.iload 5, 2) := by decide +kernel
theorem dX12_heardFrom_26 : decode cX12_heardFrom 26 = .ok (.iaload, 1) := by decide +kernel
theorem dX12_heardFrom_27 : decode cX12_heardFrom 27 = .ok (.iload_n 2, 1) := by decide +kernel
theorem dX12_heardFrom_28 : decode cX12_heardFrom 28 = .ok (.invokestatic 392, 3) := by decide +kernel
theorem dX12_heardFrom_31 : decode cX12_heardFrom 31 = .ok (.if_icmp .gt 10, 3) := by decide +kernel
theorem dX12_heardFrom_34 : decode cX12_heardFrom 34 = .ok (.lconst 1, 1) := by decide +kernel
theorem dX12_heardFrom_35 : decode cX12_heardFrom 35 = .ok (.iload 5, 2) := by decide +kernel
theorem dX12_heardFrom_37 : decode cX12_heardFrom 37 = .ok (.lshl, 1) := by decide +kernel
theorem dX12_heardFrom_38 : decode cX12_heardFrom 38 = .ok (.goto 4, 3) := by decide +kernel
theorem dX12_heardFrom_41 : decode cX12_heardFrom 41 = .ok (.lconst 0, 1) := by decide +kernel
theorem dX12_heardFrom_42 : decode cX12_heardFrom 42 = .ok (.lor, 1) := by decide +kernel
theorem dX12_heardFrom_43 : decode cX12_heardFrom 43 = .ok (.lstore_n 3, 1) := by decide +kernel
theorem dX12_heardFrom_44 : decode cX12_heardFrom 44 = .ok (.iinc 5 1, 3) := by decide +kernel
theorem dX12_heardFrom_47 : decode cX12_heardFrom 47 = .ok (.goto (-37), 3) := by decide +kernel
theorem dX12_heardFrom_50 : decode cX12_heardFrom 50 = .ok (.lload_n 3, 1) := by decide +kernel
theorem dX12_heardFrom_51 : decode cX12_heardFrom 51 = .ok (.lreturn, 1) := by decide +kernel
theorem dX12_isIn_0 : decode cX12_isIn 0 = .ok (.lload_n 0, 1) := by decide +kernel
theorem dX12_isIn_1 : decode cX12_isIn 1 = .ok (.iload_n 2, 1) := by decide +kernel
theorem dX12_isIn_2 : decode cX12_isIn 2 = .ok (.lshr, 1) := by decide +kernel
theorem dX12_isIn_3 : decode cX12_isIn 3 = .ok (.lconst 1, 1) := by decide +kernel
theorem dX12_isIn_4 : decode cX12_isIn 4 = .ok (.land, 1) := by decide +kernel
theorem dX12_isIn_5 : decode cX12_isIn 5 = .ok (.lconst 1, 1) := by decide +kernel
theorem dX12_isIn_6 : decode cX12_isIn 6 = .ok (.lcmp, 1) := by decide +kernel
theorem dX12_isIn_7 : decode cX12_isIn 7 = .ok (.ifCond .ne 7, 3) := by decide +kernel
theorem dX12_isIn_10 : decode cX12_isIn 10 = .ok (.iconst 1, 1) := by decide +kernel
theorem dX12_isIn_11 : decode cX12_isIn 11 = .ok (.goto 4, 3) := by decide +kernel
theorem dX12_isIn_14 : decode cX12_isIn 14 = .ok (.iconst 0, 1) := by decide +kernel
theorem dX12_isIn_15 : decode cX12_isIn 15 = .ok (.ireturn, 1) := by decide +kernel
theorem dX12_size_0 : decode cX12_size 0 = .ok (.iconst 0, 1) := by decide +kernel
theorem dX12_size_1 : decode cX12_size 1 = .ok (.istore_n 2, 1) := by decide +kernel
theorem dX12_size_2 : decode cX12_size 2 = .ok (.lload_n 0, 1) := by decide +kernel
theorem dX12_size_3 : decode cX12_size 3 = .ok (.lstore_n 3, 1) := by decide +kernel
theorem dX12_size_4 : decode cX12_size 4 = .ok (.lload_n 3, 1) := by decide +kernel
theorem dX12_size_5 : decode cX12_size 5 = .ok (.lconst 0, 1) := by decide +kernel
theorem dX12_size_6 : decode cX12_size 6 = .ok (.lcmp, 1) := by decide +kernel
theorem dX12_size_7 : decode cX12_size 7 = .ok (.ifCond .eq 15, 3) := by decide +kernel
theorem dX12_size_10 : decode cX12_size 10 = .ok (.lload_n 3, 1) := by decide +kernel
theorem dX12_size_11 : decode cX12_size 11 = .ok (.lload_n 3, 1) := by decide +kernel
theorem dX12_size_12 : decode cX12_size 12 = .ok (.lconst 1, 1) := by decide +kernel
theorem dX12_size_13 : decode cX12_size 13 = .ok (.lsub, 1) := by decide +kernel
theorem dX12_size_14 : decode cX12_size 14 = .ok (.land, 1) := by decide +kernel
theorem dX12_size_15 : decode cX12_size 15 = .ok (.lstore_n 3, 1) := by decide +kernel
theorem dX12_size_16 : decode cX12_size 16 = .ok (.iinc 2 1, 3) := by decide +kernel
theorem dX12_size_19 : decode cX12_size 19 = .ok (.goto (-15), 3) := by decide +kernel
theorem dX12_size_22 : decode cX12_size 22 = .ok (.iload_n 2, 1) := by decide +kernel
theorem dX12_size_23 : decode cX12_size 23 = .ok (.ireturn, 1) := by decide +kernel
theorem dX12_open_0 : decode cX12_open 0 = .ok (.lconst 0, 1) := by decide +kernel
theorem dX12_open_1 : decode cX12_open 1 = .ok (.lstore_n 1, 1) := by decide +kernel
theorem dX12_open_2 : decode cX12_open 2 = .ok (.iconst 0, 1) := by decide +kernel
theorem dX12_open_3 : decode cX12_open 3 = .ok (.istore_n 3, 1) := by decide +kernel
theorem dX12_open_4 : decode cX12_open 4 = .ok (.iload_n 3, 1) := by decide +kernel
theorem dX12_open_5 : decode cX12_open 5 = .ok (.aload_n 0, 1) := by decide +kernel
theorem dX12_open_6 : decode cX12_open 6 = .ok (.getfield 331, 3) := by decide +kernel
theorem dX12_open_9 : decode cX12_open 9 = .ok (.if_icmp .ge 27, 3) := by decide +kernel
theorem dX12_open_12 : decode cX12_open 12 = .ok (.lload_n 1, 1) := by decide +kernel
theorem dX12_open_13 : decode cX12_open 13 = .ok (.aload_n 0, 1) := by decide +kernel
theorem dX12_open_14 : decode cX12_open 14 = .ok (.iload_n 3, 1) := by decide +kernel
theorem dX12_open_15 : decode cX12_open 15 = .ok (.invokevirtual 343, 3) := by decide +kernel
theorem dX12_open_18 : decode cX12_open 18 = .ok (.ifCond .eq 7, 3) := by decide +kernel
theorem dX12_open_21 : decode cX12_open 21 = .ok (.lconst 0, 1) := by decide +kernel
theorem dX12_open_22 : decode cX12_open 22 = .ok (.goto 6, 3) := by decide +kernel
theorem dX12_open_25 : decode cX12_open 25 = .ok (.lconst 1, 1) := by decide +kernel
theorem dX12_open_26 : decode cX12_open 26 = .ok (.iload_n 3, 1) := by decide +kernel
theorem dX12_open_27 : decode cX12_open 27 = .ok (.lshl, 1) := by decide +kernel
theorem dX12_open_28 : decode cX12_open 28 = .ok (.lor, 1) := by decide +kernel
theorem dX12_open_29 : decode cX12_open 29 = .ok (.lstore_n 1, 1) := by decide +kernel
theorem dX12_open_30 : decode cX12_open 30 = .ok (.iinc 3 1, 3) := by decide +kernel
theorem dX12_open_33 : decode cX12_open 33 = .ok (.goto (-29), 3) := by decide +kernel
theorem dX12_open_36 : decode cX12_open 36 = .ok (.lload_n 1, 1) := by decide +kernel
theorem dX12_open_37 : decode cX12_open 37 = .ok (.lreturn, 1) := by decide +kernel
theorem dX12_findHeard_0 : decode cX12_findHeard 0 = .ok (.iconst 0, 1) := by decide +kernel
theorem dX12_findHeard_1 : decode cX12_findHeard 1 = .ok (.istore_n 1, 1) := by decide +kernel
theorem dX12_findHeard_2 : decode cX12_findHeard 2 = .ok (.iload_n 1, 1) := by decide +kernel
theorem dX12_findHeard_3 : decode cX12_findHeard 3 = .ok (.aload_n 0, 1) := by decide +kernel
theorem dX12_findHeard_4 : decode cX12_findHeard 4 = .ok (.getfield 334, 3) := by decide +kernel
theorem dX12_findHeard_7 : decode cX12_findHeard 7 = .ok (.if_icmp .ge 34, 3) := by decide +kernel
theorem dX12_findHeard_10 : decode cX12_findHeard 10 = .ok (.aload_n 0, 1) := by decide +kernel
theorem dX12_findHeard_11 : decode cX12_findHeard 11 = .ok (.getfield 59, 3) := by decide +kernel
theorem dX12_findHeard_14 : decode cX12_findHeard 14 = .ok (.iload_n 1, 1) := by decide +kernel
theorem dX12_findHeard_15 : decode cX12_findHeard 15 = .ok (.aload_n 0, 1) := by decide +kernel
theorem dX12_findHeard_16 : decode cX12_findHeard 16 = .ok (.aload_n 0, 1) := by decide +kernel
theorem dX12_findHeard_17 : decode cX12_findHeard 17 = .ok (.bipush 9, 2) := by decide +kernel
theorem dX12_findHeard_19 : decode cX12_findHeard 19 = .ok (.iload_n 1, 1) := by decide +kernel
theorem dX12_findHeard_20 : decode cX12_findHeard 20 = .ok (.invokevirtual 352, 3) := by decide +kernel
theorem dX12_findHeard_23 : decode cX12_findHeard 23 = .ok (.aload_n 0, 1) := by decide +kernel
