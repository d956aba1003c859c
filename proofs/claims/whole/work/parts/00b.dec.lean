/-! decode rows, printed by program of the program's bytes -/
theorem dX5_goOn_115 : decode cX5_goOn 115 = .ok (.getfield 55, 3) := by decide +kernel
theorem dX5_goOn_118 : decode cX5_goOn 118 = .ok (.invokevirtual 210, 3) := by decide +kernel
theorem dX5_goOn_121 : decode cX5_goOn 121 = .ok (.invokestatic 221, 3) := by decide +kernel
theorem dX5_goOn_124 : decode cX5_goOn 124 = .ok (.ifCond .eq 45, 3) := by decide +kernel
theorem dX5_goOn_127 : decode cX5_goOn 127 = .ok (.aload_n 0, 1) := by decide +kernel
theorem dX5_goOn_128 : decode cX5_goOn 128 = .ok (.dup, 1) := by decide +kernel
theorem dX5_goOn_129 : decode cX5_goOn 129 = .ok (.getfield 55, 3) := by decide +kernel
theorem dX5_goOn_132 : decode cX5_goOn 132 = .ok (.iconst 1, 1) := by decide +kernel
theorem dX5_goOn_133 : decode cX5_goOn 133 = .ok (.iadd, 1) := by decide +kernel
theorem dX5_goOn_134 : decode cX5_goOn 134 = .ok (.putfield 55, 3) := by decide +kernel
theorem dX5_goOn_137 : decode cX5_goOn 137 = .ok (.goto (-35), 3) := by decide +kernel
theorem dX5_goOn_140 : decode cX5_goOn 140 = .ok (.iload_n 1, 1) := by decide +kernel
theorem dX5_goOn_141 : decode cX5_goOn 141 = .ok (.invokestatic 224, 3) := by decide +kernel
theorem dX5_goOn_144 : decode cX5_goOn 144 = .ok (.ifCond .eq 10, 3) := by decide +kernel
theorem dX5_goOn_147 : decode cX5_goOn 147 = .ok (.aload_n 0, 1) := by decide +kernel
theorem dX5_goOn_148 : decode cX5_goOn 148 = .ok (.invokevirtual 227, 3) := by decide +kernel
theorem dX5_goOn_151 : decode cX5_goOn 151 = .ok (.goto 18, 3) := by decide +kernel
theorem dX5_goOn_154 : decode cX5_goOn 154 = .ok (.aload_n 0, 1) := by decide +kernel
theorem dX5_goOn_155 : decode cX5_goOn 155 = .ok (.iload_n 1, 1) := by decide +kernel
theorem dX5_goOn_156 : decode cX5_goOn 156 = .ok (.bipush 59, 2) := by decide +kernel
theorem dX5_goOn_158 : decode cX5_goOn 158 = .ok (.if_icmp .ne 7, 3) := by decide +kernel
theorem dX5_goOn_161 : decode cX5_goOn 161 = .ok (.iconst 3, 1) := by decide +kernel
theorem dX5_goOn_162 : decode cX5_goOn 162 = .ok (.goto 4, 3) := by decide +kernel
theorem dX5_goOn_165 : decode cX5_goOn 165 = .ok (.iconst 4, 1) := by decide +kernel
theorem dX5_goOn_166 : decode cX5_goOn 166 = .ok (.putfield 74, 3) := by decide +kernel
theorem dX5_goOn_169 : decode cX5_goOn 169 = .ok (.return_, 1) := by decide +kernel
theorem dX5_readDigits_0 : decode cX5_readDigits 0 = .ok (.aload_n 0, 1) := by decide +kernel
theorem dX5_readDigits_1 : decode cX5_readDigits 1 = .ok (.aload_n 0, 1) := by decide +kernel
theorem dX5_readDigits_2 : decode cX5_readDigits 2 = .ok (.aload_n 0, 1) := by decide +kernel
theorem dX5_readDigits_3 : decode cX5_readDigits 3 = .ok (.getfield 96, 3) := by decide +kernel
theorem dX5_readDigits_6 : decode cX5_readDigits 6 = .ok (.invokevirtual 210, 3) := by decide +kernel
theorem dX5_readDigits_9 : decode cX5_readDigits 9 = .ok (.bipush 48, 2) := by decide +kernel
theorem dX5_readDigits_11 : decode cX5_readDigits 11 = .ok (.isub, 1) := by decide +kernel
theorem dX5_readDigits_12 : decode cX5_readDigits 12 = .ok (.putfield 214, 3) := by decide +kernel
theorem dX5_readDigits_15 : decode cX5_readDigits 15 = .ok (.aload_n 0, 1) := by decide +kernel
theorem dX5_readDigits_16 : decode cX5_readDigits 16 = .ok (.getfield 55, 3) := by decide +kernel
theorem dX5_readDigits_19 : decode cX5_readDigits 19 = .ok (.aload_n 0, 1) := by decide +kernel
theorem dX5_readDigits_20 : decode cX5_readDigits 20 = .ok (.getfield 45, 3) := by decide +kernel
theorem dX5_readDigits_23 : decode cX5_readDigits 23 = .ok (.if_icmp .ge 53, 3) := by decide +kernel
theorem dX5_readDigits_26 : decode cX5_readDigits 26 = .ok (.aload_n 0, 1) := by decide +kernel
theorem dX5_readDigits_27 : decode cX5_readDigits 27 = .ok (.aload_n 0, 1) := by decide +kernel
theorem dX5_readDigits_28 : decode cX5_readDigits 28 = .ok (.getfield 55, 3) := by decide +kernel
theorem dX5_readDigits_31 : decode cX5_readDigits 31 = .ok (.invokevirtual 210, 3) := by decide +kernel
theorem dX5_readDigits_34 : decode cX5_readDigits 34 = .ok (.invokestatic 224, 3) := by decide +kernel
theorem dX5_readDigits_37 : decode cX5_readDigits 37 = .ok (.ifCond .eq 39, 3) := by decide +kernel
theorem dX5_readDigits_40 : decode cX5_readDigits 40 = .ok (.aload_n 0, 1) := by decide +kernel
theorem dX5_readDigits_41 : decode cX5_readDigits 41 = .ok (.bipush 10, 2) := by decide +kernel
theorem dX5_readDigits_43 : decode cX5_readDigits 43 = .ok (.aload_n 0, 1) := by decide +kernel
theorem dX5_readDigits_44 : decode cX5_readDigits 44 = .ok (.getfield 214, 3) := by decide +kernel
theorem dX5_readDigits_47 : decode cX5_readDigits 47 = .ok (.imul, 1) := by decide +kernel
theorem dX5_readDigits_48 : decode cX5_readDigits 48 = .ok (.aload_n 0, 1) := by decide +kernel
theorem dX5_readDigits_49 : decode cX5_readDigits 49 = .ok (.aload_n 0, 1) := by decide +kernel
theorem dX5_readDigits_50 : decode cX5_readDigits 50 = .ok (.getfield 55, 3) := by decide +kernel
theorem dX5_readDigits_53 : decode cX5_readDigits 53 = .ok (.invokevirtual 210, 3) := by decide +kernel
theorem dX5_readDigits_56 : decode cX5_readDigits 56 = .ok (.iadd, 1) := by decide +kernel
theorem dX5_readDigits_57 : decode cX5_readDigits 57 = .ok (.bipush 48, 2) := by decide +kernel
theorem dX5_readDigits_59 : decode cX5_readDigits 59 = .ok (.isub, 1) := by decide +kernel
theorem dX5_readDigits_60 : decode cX5_readDigits 60 = .ok (.putfield 214, 3) := by decide +kernel
theorem dX5_readDigits_63 : decode cX5_readDigits 63 = .ok (.aload_n 0, 1) := by decide +kernel
theorem dX5_readDigits_64 : decode cX5_readDigits 64 = .ok (.dup, 1) := by decide +kernel
theorem dX5_readDigits_65 : decode cX5_readDigits 65 = .ok (.getfield 55, 3) := by decide +kernel
theorem dX5_readDigits_68 : decode cX5_readDigits 68 = .ok (.iconst 1, 1) := by decide +kernel
theorem dX5_readDigits_69 : decode cX5_readDigits 69 = .ok (.iadd, 1) := by decide +kernel
theorem dX5_readDigits_70 : decode cX5_readDigits 70 = .ok (.putfield 55, 3) := by decide +kernel
theorem dX5_readDigits_73 : decode cX5_readDigits 73 = .ok (.goto (-58), 3) := by decide +kernel
theorem dX5_readDigits_76 : decode cX5_readDigits 76 = .ok (.aload_n 0, 1) := by decide +kernel
theorem dX5_readDigits_77 : decode cX5_readDigits 77 = .ok (.aload_n 0, 1) := by decide +kernel
theorem dX5_readDigits_78 : decode cX5_readDigits 78 = .ok (.getfield 55, 3) := by decide +kernel
theorem dX5_readDigits_81 : decode cX5_readDigits 81 = .ok (.aload_n 0, 1) := by decide +kernel
theorem dX5_readDigits_82 : decode cX5_readDigits 82 = .ok (.getfield 96, 3) := by decide +kernel
theorem dX5_readDigits_85 : decode cX5_readDigits 85 = .ok (.isub, 1) := by decide +kernel
theorem dX5_readDigits_86 : decode cX5_readDigits 86 = .ok (.iconst 2, 1) := by decide +kernel
theorem dX5_readDigits_87 : decode cX5_readDigits 87 = .ok (.if_icmp .gt 7, 3) := by decide +kernel
theorem dX5_readDigits_90 : decode cX5_readDigits 90 = .ok (.iconst 2, 1) := by decide +kernel
theorem dX5_readDigits_91 : decode cX5_readDigits 91 = .ok (.goto 4, 3) := by decide +kernel
theorem dX5_readDigits_94 : decode cX5_readDigits 94 = .ok (.iconst 4, 1) := by decide +kernel
theorem dX5_readDigits_95 : decode cX5_readDigits 95 = .ok (.putfield 74, 3) := by decide +kernel
theorem dX5_readDigits_98 : decode cX5_readDigits 98 = .ok (.return_, 1) := by decide +kernel
theorem dX5_byteAt_0 : decode cX5_byteAt 0 = .ok (.iload_n 1, 1) := by decide +kernel
theorem dX5_byteAt_1 : decode cX5_byteAt 1 = .ok (.ifCond .lt 23, 3) := by decide +kernel
theorem dX5_byteAt_4 : decode cX5_byteAt 4 = .ok (.iload_n 1, 1) := by decide +kernel
theorem dX5_byteAt_5 : decode cX5_byteAt 5 = .ok (.sipush 600, 3) := by decide +kernel
theorem dX5_byteAt_8 : decode cX5_byteAt 8 = .ok (.if_icmp .ge 16, 3) := by decide +kernel
theorem dX5_byteAt_11 : decode cX5_byteAt 11 = .ok (.aload_n 0, 1) := by decide +kernel
theorem dX5_byteAt_12 : decode cX5_byteAt 12 = .ok (.getfield 9, 3) := by decide +kernel
theorem dX5_byteAt_15 : decode cX5_byteAt 15 = .ok (.iload_n 1, 1) := by decide +kernel
theorem dX5_byteAt_16 : decode cX5_byteAt 16 = .ok (.baload, 1) := by decide +kernel
theorem dX5_byteAt_17 : decode cX5_byteAt 17 = .ok (.sipush 255, 3) := by decide +kernel
theorem dX5_byteAt_20 : decode cX5_byteAt 20 = .ok (.iand, 1) := by decide +kernel
theorem dX5_byteAt_21 : decode cX5_byteAt 21 = .ok (.goto 4, 3) := by decide +kernel
theorem dX5_byteAt_24 : decode cX5_byteAt 24 = .ok (.iconst 0, 1) := by decide +kernel
theorem dX5_byteAt_25 : decode cX5_byteAt 25 = .ok (.ireturn, 1) := by decide +kernel
theorem dX5_isBlank_0 : decode cX5_isBlank 0 = .ok (.iload_n 0, 1) := by decide +kernel
theorem dX5_isBlank_1 : decode cX5_isBlank 1 = .ok (.bipush 10, 2) := by decide +kernel
theorem dX5_isBlank_3 : decode cX5_isBlank 3 = .ok (.if_icmp .eq 9, 3) := by decide +kernel
theorem dX5_isBlank_6 : decode cX5_isBlank 6 = .ok (.iload_n 0, 1) := by decide +kernel
theorem dX5_isBlank_7 : decode cX5_isBlank 7 = .ok (.bipush 32, 2) := by decide +kernel
theorem dX5_isBlank_9 : decode cX5_isBlank 9 = .ok (.if_icmp .ne 7, 3) := by decide +kernel
theorem dX5_isBlank_12 : decode cX5_isBlank 12 = .ok (.iconst 1, 1) := by decide +kernel
theorem dX5_isBlank_13 : decode cX5_isBlank 13 = .ok (.goto 4, 3) := by decide +kernel
theorem dX5_isBlank_16 : decode cX5_isBlank 16 = .ok (.iconst 0, 1) := by decide +kernel
theorem dX5_isBlank_17 : decode cX5_isBlank 17 = .ok (.ireturn, 1) := by decide +kernel
theorem dX5_isLetter_0 : decode cX5_isLetter 0 = .ok (.iload_n 0, 1) := by decide +kernel
theorem dX5_isLetter_1 : decode cX5_isLetter 1 = .ok (.bipush 97, 2) := by decide +kernel
theorem dX5_isLetter_3 : decode cX5_isLetter 3 = .ok (.if_icmp .lt 13, 3) := by decide +kernel
theorem dX5_isLetter_6 : decode cX5_isLetter 6 = .ok (.iload_n 0, 1) := by decide +kernel
theorem dX5_isLetter_7 : decode cX5_isLetter 7 = .ok (.bipush 122, 2) := by decide +kernel
theorem dX5_isLetter_9 : decode cX5_isLetter 9 = .ok (.if_icmp .gt 7, 3) := by decide +kernel
theorem dX5_isLetter_12 : decode cX5_isLetter 12 = .ok (.iconst 1, 1) := by decide +kernel
theorem dX5_isLetter_13 : decode cX5_isLetter 13 = .ok (.goto 4, 3) := by decide +kernel
theorem dX5_isLetter_16 : decode cX5_isLetter 16 = .ok (.iconst 0, 1) := by decide +kernel
theorem dX5_isLetter_17 : decode cX5_isLetter 17 = .ok (.ireturn, 1) := by decide +kernel
theorem dX5_isDigit_0 : decode cX5_isDigit 0 = .ok (.iload_n 0, 1) := by decide +kernel
theorem dX5_isDigit_1 : decode cX5_isDigit 1 = .ok (.bipush 48, 2) := by decide +kernel
theorem dX5_isDigit_3 : decode cX5_isDigit 3 = .ok (.if_icmp .lt 13, 3) := by decide +kernel
theorem dX5_isDigit_6 : decode cX5_isDigit 6 = .ok (.iload_n 0, 1) := by decide +kernel
theorem dX5_isDigit_7 : decode cX5_isDigit 7 = .ok (.bipush 57, 2) := by decide +kernel
theorem dX5_isDigit_9 : decode cX5_isDigit 9 = .ok (.if_icmp .gt 7, 3) := by decide +kernel
theorem dX5_isDigit_12 : decode cX5_isDigit 12 = .ok (.iconst 1, 1) := by decide +kernel
theorem dX5_isDigit_13 : decode cX5_isDigit 13 = .ok (.goto 4, 3) := by decide +kernel
theorem dX5_isDigit_16 : decode cX5_isDigit 16 = .ok (.iconst 0, 1) := by decide +kernel
theorem dX5_isDigit_17 : decode cX5_isDigit 17 = .ok (.ireturn, 1) := by decide +kernel
theorem dX6_init_0 : decode cX6_init 0 = .ok (.aload_n 0, 1) := by decide +kernel
theorem dX6_init_1 : decode cX6_init 1 = .ok (.invokespecial 3, 3) := by decide +kernel
theorem dX6_init_4 : decode cX6_init 4 = .ok (.aload_n 0, 1) := by decide +kernel
theorem dX6_init_5 : decode cX6_init 5 = .ok (.bipush 40, 2) := by decide +kernel
theorem dX6_init_7 : decode cX6_init 7 = .ok (.newarray .int, 2) := by decide +kernel
theorem dX6_init_9 : decode cX6_init 9 = .ok (.putfield 9, 3) := by decide +kernel
theorem dX6_init_12 : decode cX6_init 12 = .ok (.aload_n 0, 1) := by decide +kernel
theorem dX6_init_13 : decode cX6_init 13 = .ok (.bipush 40, 2) := by decide +kernel
theorem dX6_init_15 : decode cX6_init 15 = .ok (.newarray .int, 2) := by decide +kernel
theorem dX6_init_17 : decode cX6_init 17 = .ok (.putfield 15, 3) := by decide +kernel
theorem dX6_init_20 : decode cX6_init 20 = .ok (.aload_n 0, 1) := by decide +kernel
theorem dX6_init_21 : decode cX6_init 21 = .ok (.bipush 40, 2) := by decide +kernel
theorem dX6_init_23 : decode cX6_init 23 = .ok (.newarray .int, 2) := by decide +kernel
theorem dX6_init_25 : decode cX6_init 25 = .ok (.putfield 18, 3) := by decide +kernel
theorem dX6_init_28 : decode cX6_init 28 = .ok (.return_, 1) := by decide +kernel
theorem dX6_take_0 : decode cX6_take 0 = .ok (.aload_n 0, 1) := by decide +kernel
theorem dX6_take_1 : decode cX6_take 1 = .ok (.aload_n 1, 1) := by decide +kernel
theorem dX6_take_2 : decode cX6_take 2 = .ok (.getfield 21, 3) := by decide +kernel
theorem dX6_take_5 : decode cX6_take 5 = .ok (.putfield 21, 3) := by decide +kernel
theorem dX6_take_8 : decode cX6_take 8 = .ok (.aload_n 1, 1) := by decide +kernel
theorem dX6_take_9 : decode cX6_take 9 = .ok (.getfield 9, 3) := by decide +kernel
theorem dX6_take_12 : decode cX6_take 12 = .ok (.iconst 0, 1) := by decide +kernel
theorem dX6_take_13 : decode cX6_take 13 = .ok (.aload_n 0, 1) := by decide +kernel
theorem dX6_take_14 : decode cX6_take 14 = .ok (.getfield 9, 3) := by decide +kernel
theorem dX6_take_17 : decode cX6_take 17 = .ok (.iconst 0, 1) := by decide +kernel
theorem dX6_take_18 : decode cX6_take 18 = .ok (.bipush 40, 2) := by decide +kernel
theorem dX6_take_20 : decode cX6_take 20 = .ok (.invokestatic 25, 3) := by decide +kernel
theorem dX6_take_23 : decode cX6_take 23 = .ok (.aload_n 1, 1) := by decide +kernel
theorem dX6_take_24 : decode cX6_take 24 = .ok (.getfield 15, 3) := by decide +kernel
theorem dX6_take_27 : decode cX6_take 27 = .ok (.iconst 0, 1) := by decide +kernel
theorem dX6_take_28 : decode cX6_take 28 = .ok (.aload_n 0, 1) := by decide +kernel
theorem dX6_take_29 : decode cX6_take 29 = .ok (.getfield 15, 3) := by decide +kernel
theorem dX6_take_32 : decode cX6_take 32 = .ok (.iconst 0, 1) := by decide +kernel
theorem dX6_take_33 : decode cX6_take 33 = .ok (.bipush 40, 2) := by decide +kernel
theorem dX6_take_35 : decode cX6_take 35 = .ok (.invokestatic 25, 3) := by decide +kernel
theorem dX6_take_38 : decode cX6_take 38 = .ok (.aload_n 1, 1) := by decide +kernel
theorem dX6_take_39 : decode cX6_take 39 = .ok (.getfield 18, 3) := by decide +kernel
theorem dX6_take_42 : decode cX6_take 42 = .ok (.iconst 0, 1) := by decide +kernel
theorem dX6_take_43 : decode cX6_take 43 = .ok (.aload_n 0, 1) := by decide +kernel
theorem dX6_take_44 : decode cX6_take 44 = .ok (.getfield 18, 3) := by decide +kernel
theorem dX6_take_47 : decode cX6_take 47 = .ok (.iconst 0, 1) := by decide +kernel
theorem dX6_take_48 : decode cX6_take 48 = .ok (.bipush 40, 2) := by decide +kernel
theorem dX6_take_50 : decode cX6_take 50 = .ok (.invokestatic 25, 3) := by decide +kernel
theorem dX6_take_53 : decode cX6_take 53 = .ok (.return_, 1) := by decide +kernel
theorem dX6_add_0 : decode cX6_add 0 = .ok (.aload_n 0, 1) := by decide +kernel
theorem dX6_add_1 : decode cX6_add 1 = .ok (.getfield 21, 3) := by decide +kernel
theorem dX6_add_4 : decode cX6_add 4 = .ok (.bipush 40, 2) := by decide +kernel
theorem dX6_add_6 : decode cX6_add 6 = .ok (.if_icmp .ge 43, 3) := by decide +kernel
theorem dX6_add_9 : decode cX6_add 9 = .ok (.aload_n 0, 1) := by decide +kernel
theorem dX6_add_10 : decode cX6_add 10 = .ok (.getfield 9, 3) := by decide +kernel
theorem dX6_add_13 : decode cX6_add 13 = .ok (.aload_n 0, 1) := by decide +kernel
theorem dX6_add_14 : decode cX6_add 14 = .ok (.getfield 21, 3) := by decide +kernel
theorem dX6_add_17 : decode cX6_add 17 = .ok (.iload_n 1, 1) := by decide +kernel
theorem dX6_add_18 : decode cX6_add 18 = .ok (.iastore, 1) := by decide +kernel
theorem dX6_add_19 : decode cX6_add 19 = .ok (.aload_n 0, 1) := by decide +kernel
theorem dX6_add_20 : decode cX6_add 20 = .ok (.getfield 15, 3) := by decide +kernel
theorem dX6_add_23 : decode cX6_add 23 = .ok (.aload_n 0, 1) := by decide +kernel
theorem dX6_add_24 : decode cX6_add 24 = .ok (.getfield 21, 3) := by decide +kernel
theorem dX6_add_27 : decode cX6_add 27 = .ok (.iload_n 2, 1) := by decide +kernel
theorem dX6_add_28 : decode cX6_add 28 = .ok (.iastore, 1) := by decide +kernel
theorem dX6_add_29 : decode cX6_add 29 = .ok (.aload_n 0, 1) := by decide +kernel
theorem dX6_add_30 : decode cX6_add 30 = .ok (.getfield 18, 3) := by decide +kernel
theorem dX6_add_33 : decode cX6_add 33 = .ok (.aload_n 0, 1) := by decide +kernel
theorem dX6_add_34 : decode cX6_add 34 = .ok (.getfield 21, 3) := by decide +kernel
theorem dX6_add_37 : decode cX6_add 37 = .ok (.iload_n 3, 1) := by decide +kernel
theorem dX6_add_38 : decode cX6_add 38 = .ok (.iastore, 1) := by decide +kernel
theorem dX6_add_39 : decode cX6_add 39 = .ok (.aload_n 0, 1) := by decide +kernel
theorem dX6_add_40 : decode cX6_add 40 = .ok (.dup, 1) := by decide +kernel
theorem dX6_add_41 : decode cX6_add 41 = .ok (.getfield 21, 3) := by decide +kernel
theorem dX6_add_44 : decode cX6_add 44 = .ok (.iconst 1, 1) := by decide +kernel
theorem dX6_add_45 : decode cX6_add 45 = .ok (.iadd, 1) := by decide +kernel
theorem dX6_add_46 : decode cX6_add 46 = .ok (.putfield 21, 3) := by decide +kernel
theorem dX6_add_49 : decode cX6_add 49 = .ok (.return_, 1) := by decide +kernel
theorem dX6_spotAtRow_0 : decode cX6_spotAtRow 0 = .ok (.aload_n 0, 1) := by decide +kernel
theorem dX6_spotAtRow_1 : decode cX6_spotAtRow 1 = .ok (.getfield 15, 3) := by decide +kernel
theorem dX6_spotAtRow_4 : decode cX6_spotAtRow 4 = .ok (.iload_n 1, 1) := by decide +kernel
theorem dX6_spotAtRow_5 : decode cX6_spotAtRow 5 = .ok (.iaload, 1) := by decide +kernel
theorem dX6_spotAtRow_6 : decode cX6_spotAtRow 6 = .ok (.aload_n 0, 1) := by decide +kernel
theorem dX6_spotAtRow_7 : decode cX6_spotAtRow 7 = .ok (.getfield 18, 3) := by decide +kernel
theorem dX6_spotAtRow_10 : decode cX6_spotAtRow 10 = .ok (.iload_n 1, 1) := by decide +kernel
theorem dX6_spotAtRow_11 : decode cX6_spotAtRow 11 = .ok (.iaload, 1) := by decide +kernel
theorem dX6_spotAtRow_12 : decode cX6_spotAtRow 12 = .ok (.invokestatic 31, 3) := by decide +kernel
theorem dX6_spotAtRow_15 : decode cX6_spotAtRow 15 = .ok (.ireturn, 1) := by decide +kernel
theorem dX6_tell_0 : decode cX6_tell 0 = .ok (.iload_n 1, 1) := by decide +kernel
theorem dX6_tell_1 : decode cX6_tell 1 = .ok (.iconst (-1), 1) := by decide +kernel
theorem dX6_tell_2 : decode cX6_tell 2 = .ok (.if_icmp .ne 17, 3) := by decide +kernel
theorem dX6_tell_5 : decode cX6_tell 5 = .ok (.iload_n 2, 1) := by decide +kernel
theorem dX6_tell_6 : decode cX6_tell 6 = .ok (.ifCond .ne 10, 3) := by decide +kernel
theorem dX6_tell_9 : decode cX6_tell 9 = .ok (.aload_n 0, 1) := by decide +kernel
theorem dX6_tell_10 : decode cX6_tell 10 = .ok (.getfield 21, 3) := by decide +kernel
theorem dX6_tell_13 : decode cX6_tell 13 = .ok (.goto 5, 3) := by decide +kernel
theorem dX6_tell_16 : decode cX6_tell 16 = .ok (.bipush (-2), 2) := by decide +kernel
theorem dX6_tell_18 : decode cX6_tell 18 = .ok (.ireturn, 1) := by decide +kernel
theorem dX6_tell_19 : decode cX6_tell 19 = .ok (.iload_n 1, 1) := by decide +kernel
theorem dX6_tell_20 : decode cX6_tell 20 = .ok (.ifCond .lt 11, 3) := by decide +kernel
theorem dX6_tell_23 : decode cX6_tell 23 = .ok (.iload_n 1, 1) := by decide +kernel
theorem dX6_tell_24 : decode cX6_tell 24 = .ok (.aload_n 0, 1) := by decide +kernel
theorem dX6_tell_25 : decode cX6_tell 25 = .ok (.getfield 21, 3) := by decide +kernel
theorem dX6_tell_28 : decode cX6_tell 28 = .ok (.if_icmp .lt 6, 3) := by decide +kernel
theorem dX6_tell_31 : decode cX6_tell 31 = .ok (.bipush (-2), 2) := by decide +kernel
theorem dX6_tell_33 : decode cX6_tell 33 = .ok (.ireturn, 1) := by decide +kernel
theorem dX6_tell_34 : decode cX6_tell 34 = .ok (.iload_n 2, 1) := by decide +kernel
theorem dX6_tell_35 : decode cX6_tell 35 = .ok (.tableswitch 46 0 2 #[25, 32, 39], 25) := by decide +kernel
theorem dX6_tell_60 : decode cX6_tell 60 = .ok (.aload_n 0, 1) := by decide +kernel
theorem dX6_tell_61 : decode cX6_tell 61 = .ok (.getfield 9, 3) := by decide +kernel
theorem dX6_tell_64 : decode cX6_tell 64 = .ok (.iload_n 1, 1) := by decide +kernel
theorem dX6_tell_65 : decode cX6_tell 65 = .ok (.iaload, 1) := by decide +kernel
theorem dX6_tell_66 : decode cX6_tell 66 = .ok (.ireturn, 1) := by decide +kernel
theorem dX6_tell_67 : decode cX6_tell 67 = .ok (.aload_n 0, 1) := by decide +kernel
theorem dX6_tell_68 : decode cX6_tell 68 = .ok (.getfield 15, 3) := by decide +kernel
theorem dX6_tell_71 : decode cX6_tell 71 = .ok (.iload_n 1, 1) := by decide +kernel
theorem dX6_tell_72 : decode cX6_tell 72 = .ok (.iaload, 1) := by decide +kernel
theorem dX6_tell_73 : decode cX6_tell 73 = .ok (.ireturn, 1) := by decide +kernel
theorem dX6_tell_74 : decode cX6_tell 74 = .ok (.aload_n 0, 1) := by decide +kernel
theorem dX6_tell_75 : decode cX6_tell 75 = .ok (.getfield 18, 3) := by decide +kernel
theorem dX6_tell_78 : decode cX6_tell 78 = .ok (.iload_n 1, 1) := by decide +kernel
theorem dX6_tell_79 : decode cX6_tell 79 = .ok (.iaload, 1) := by decide +kernel
theorem dX6_tell_80 : decode cX6_tell 80 = .ok (.ireturn, 1) := by decide +kernel
theorem dX6_tell_81 : decode cX6_tell 81 = .ok (.bipush (-2), 2) := by decide +kernel
theorem dX6_tell_83 : decode cX6_tell 83 = .ok (.ireturn, 1) := by decide +kernel
theorem dX7_init_0 : decode cX7_init 0 = .ok (.aload_n 0, 1) := by decide +kernel
theorem dX7_init_1 : decode cX7_init 1 = .ok (.invokespecial 3, 3) := by decide +kernel
theorem dX7_init_4 : decode cX7_init 4 = .ok (.aload_n 0, 1) := by decide +kernel
theorem dX7_init_5 : decode cX7_init 5 = .ok (.bipush 57, 2) := by decide +kernel
theorem dX7_init_7 : decode cX7_init 7 = .ok (.newarray .long, 2) := by decide +kernel
theorem dX7_init_9 : decode cX7_init 9 = .ok (.putfield 11, 3) := by decide +kernel
theorem dX7_init_12 : decode cX7_init 12 = .ok (.return_, 1) := by decide +kernel
theorem dX7_heard_0 : decode cX7_heard 0 = .ok (.aload_n 1, 1) := by decide +kernel
theorem dX7_heard_1 : decode cX7_heard 1 = .ok (.invokevirtual 15, 3) := by decide +kernel
theorem dX7_heard_4 : decode cX7_heard 4 = .ok (.lstore 4, 2) := by decide +kernel
theorem dX7_heard_6 : decode cX7_heard 6 = .ok (.aload_n 0, 1) := by decide +kernel
theorem dX7_heard_7 : decode cX7_heard 7 = .ok (.getfield 11, 3) := by decide +kernel
theorem dX7_heard_10 : decode cX7_heard 10 = .ok (.iconst 0, 1) := by decide +kernel
theorem dX7_heard_11 : decode cX7_heard 11 = .ok (.iload_n 2, 1) := by decide +kernel
theorem dX7_heard_12 : decode cX7_heard 12 = .ok (.invokestatic 21, 3) := by decide +kernel
theorem dX7_heard_15 : decode cX7_heard 15 = .ok (.lastore, 1) := by decide +kernel
theorem dX7_heard_16 : decode cX7_heard 16 = .ok (.iconst 1, 1) := by decide +kernel
theorem dX7_heard_17 : decode cX7_heard 17 = .ok (.istore 6, 2) := by decide +kernel
theorem dX7_heard_19 : decode cX7_heard 19 = .ok (.iload 6, 2) := by decide +kernel
theorem dX7_heard_21 : decode cX7_heard 21 = .ok (.iload_n 3, 1) := by decide +kernel
theorem dX7_heard_22 : decode cX7_heard 22 = .ok (.if_icmp .gt 25, 3) := by decide +kernel
theorem dX7_heard_25 : decode cX7_heard 25 = .ok (.iload 6, 2) := by decide +kernel
theorem dX7_heard_27 : decode cX7_heard 27 = .ok (.bipush 56, 2) := by decide +kernel
theorem dX7_heard_29 : decode cX7_heard 29 = .ok (.if_icmp .gt 18, 3) := by decide +kernel
theorem dX7_heard_32 : decode cX7_heard 32 = .ok (.aload_n 0, 1) := by decide +kernel
theorem dX7_heard_33 : decode cX7_heard 33 = .ok (.aload_n 1, 1) := by decide +kernel
theorem dX7_heard_34 : decode cX7_heard 34 = .ok (.lload 4, 2) := by decide +kernel
theorem dX7_heard_36 : decode cX7_heard 36 = .ok (.iload 6, 2) := by decide +kernel
theorem dX7_heard_38 : decode cX7_heard 38 = .ok (.invokevirtual 25, 3) := by decide +kernel
theorem dX7_heard_41 : decode cX7_heard 41 = .ok (.iinc 6 1, 3) := by decide +kernel
theorem dX7_heard_44 : decode cX7_heard 44 = .ok (.goto (-25), 3) := by decide +kernel
theorem dX7_heard_47 : decode cX7_heard 47 = .ok (.aload_n 0, 1) := by decide +kernel
theorem dX7_heard_48 : decode cX7_heard 48 = .ok (.getfield 11, 3) := by decide +kernel
theorem dX7_heard_51 : decode cX7_heard 51 = .ok (.iload_n 3, 1) := by decide +kernel
theorem dX7_heard_52 : decode cX7_heard 52 = .ok (.bipush 56, 2) := by decide +kernel
theorem dX7_heard_54 : decode cX7_heard 54 = .ok (.invokestatic 29, 3) := by decide +kernel
theorem dX7_heard_57 : decode cX7_heard 57 = .ok (.laload, 1) := by decide +kernel
theorem dX7_heard_58 : decode cX7_heard 58 = .ok (.lreturn, 1) := by decide +kernel
theorem dX7_cost_0 : decode cX7_cost 0 = .ok (.aload_n 1, 1) := by decide +kernel
theorem dX7_cost_1 : decode cX7_cost 1 = .ok (.invokevirtual 15, 3) := by decide +kernel
theorem dX7_cost_4 : decode cX7_cost 4 = .ok (.lstore 4, 2) := by decide +kernel
theorem dX7_cost_6 : decode cX7_cost 6 = .ok (.aload_n 0, 1) := by decide +kernel
theorem dX7_cost_7 : decode cX7_cost 7 = .ok (.getfield 11, 3) := by decide +kernel
theorem dX7_cost_10 : decode cX7_cost 10 = .ok (.iconst 0, 1) := by decide +kernel
theorem dX7_cost_11 : decode cX7_cost 11 = .ok (.iload_n 2, 1) := by decide +kernel
theorem dX7_cost_12 : decode cX7_cost 12 = .ok (.invokestatic 21, 3) := by decide +kernel
theorem dX7_cost_15 : decode cX7_cost 15 = .ok (.lastore, 1) := by decide +kernel
theorem dX7_cost_16 : decode cX7_cost 16 = .ok (.iconst 0, 1) := by decide +kernel
theorem dX7_cost_17 : decode cX7_cost 17 = .ok (.istore 6, 2) := by decide +kernel
theorem dX7_cost_19 : decode cX7_cost 19 = .ok (.iload 6, 2) := by decide +kernel
theorem dX7_cost_21 : decode cX7_cost 21 = .ok (.bipush 56, 2) := by decide +kernel
theorem dX7_cost_23 : decode cX7_cost 23 = .ok (.if_icmp .gt 40, 3) := by decide +kernel
theorem dX7_cost_26 : decode cX7_cost 26 = .ok (.iload 6, 2) := by decide +kernel
theorem dX7_cost_28 : decode cX7_cost 28 = .ok (.ifCond .le 12, 3) := by decide +kernel
theorem dX7_cost_31 : decode cX7_cost 31 = .ok (.aload_n 0, 1) := by decide +kernel
theorem dX7_cost_32 : decode cX7_cost 32 = .ok (.aload_n 1, 1) := by decide +kernel
theorem dX7_cost_33 : decode cX7_cost 33 = .ok (.lload 4, 2) := by decide +kernel
theorem dX7_cost_35 : decode cX7_cost 35 = .ok (.iload 6, 2) := by decide +kernel
theorem dX7_cost_37 : decode cX7_cost 37 = .ok (.invokevirtual 25, 3) := by decide +kernel
theorem dX7_cost_40 : decode cX7_cost 40 = .ok (.aload_n 0, 1) := by decide +kernel
theorem dX7_cost_41 : decode cX7_cost 41 = .ok (.getfield 11, 3) := by decide +kernel
theorem dX7_cost_44 : decode cX7_cost 44 = .ok (.iload 6, 2) := by decide +kernel
theorem dX7_cost_46 : decode cX7_cost 46 = .ok (.laload, 1) := by decide +kernel
theorem dX7_cost_47 : decode cX7_cost 47 = .ok (.iload_n 3, 1) := by decide +kernel
theorem dX7_cost_48 : decode cX7_cost 48 = .ok (.invokestatic 35, 3) := by decide +kernel
theorem dX7_cost_51 : decode cX7_cost 51 = .ok (.ifCond .eq 6, 3) := by decide +kernel
theorem dX7_cost_54 : decode cX7_cost 54 = .ok (.iload 6, 2) := by decide +kernel
theorem dX7_cost_56 : decode cX7_cost 56 = .ok (.ireturn, 1) := by decide +kernel
theorem dX7_cost_57 : decode cX7_cost 57 = .ok (.iinc 6 1, 3) := by decide +kernel
theorem dX7_cost_60 : decode cX7_cost 60 = .ok (.goto (-41), 3) := by decide +kernel
theorem dX7_cost_63 : decode cX7_cost 63 = .ok (.iconst (-1), 1) := by decide +kernel
theorem dX7_cost_64 : decode cX7_cost 64 = .ok (.ireturn, 1) := by decide +kernel
theorem dX7_spread_0 : decode cX7_spread 0 = .ok (.aload_n 0, 1) := by decide +kernel
theorem dX7_spread_1 : decode cX7_spread 1 = .ok (.getfield 11, 3) := by decide +kernel
theorem dX7_spread_4 : decode cX7_spread 4 = .ok (.iload 4, 2) := by decide +kernel
theorem dX7_spread_6 : decode cX7_spread 6 = .ok (.iconst 1, 1) := by decide +kernel
theorem dX7_spread_7 : decode cX7_spread 7 = .ok (.isub, 1) := by decide +kernel
theorem dX7_spread_8 : decode cX7_spread 8 = .ok (.laload, 1) := by decide +kernel
theorem dX7_spread_9 : decode cX7_spread 9 = .ok (.lstore 5, 2) := by decide +kernel
theorem dX7_spread_11 : decode cX7_spread 11 = .ok (.iconst 0, 1) := by decide +kernel
theorem dX7_spread_12 : decode cX7_spread 12 = .ok (.istore 7, 2) := by decide +kernel
theorem dX7_spread_14 : decode cX7_spread 14 = .ok (.iload 7, 2) := by decide +kernel
theorem dX7_spread_16 : decode cX7_spread 16 = .ok (.iconst 4, 1) := by decide +kernel
theorem dX7_spread_17 : decode cX7_spread 17 = .ok (.if_icmp .ge 105, 3) := by decide +kernel
theorem dX7_spread_20 : decode cX7_spread 20 = .ok (.aload_n 1, 1) := by decide +kernel
theorem dX7_spread_21 : decode cX7_spread 21 = .ok (.getfield 39, 3) := by decide +kernel
theorem dX7_spread_24 : decode cX7_spread 24 = .ok (.iconst 4, 1) := by decide +kernel
theorem dX7_spread_25 : decode cX7_spread 25 = .ok (.if_icmp .eq 19, 3) := by decide +kernel
theorem dX7_spread_28 : decode cX7_spread 28 = .ok (.iload 7, 2) := by decide +kernel
theorem dX7_spread_30 : decode cX7_spread 30 = .ok (.aload_n 1, 1) := by decide +kernel
theorem dX7_spread_31 : decode cX7_spread 31 = .ok (.getfield 39, 3) := by decide +kernel
theorem dX7_spread_34 : decode cX7_spread 34 = .ok (.invokestatic 43, 3) := by decide +kernel
theorem dX7_spread_37 : decode cX7_spread 37 = .ok (.if_icmp .ne 7, 3) := by decide +kernel
theorem dX7_spread_40 : decode cX7_spread 40 = .ok (.iconst 1, 1) := by decide +kernel
theorem dX7_spread_41 : decode cX7_spread 41 = .ok (.goto 4, 3) := by decide +kernel
theorem dX7_spread_44 : decode cX7_spread 44 = .ok (.iconst 0, 1) := by decide +kernel
theorem dX7_spread_45 : decode cX7_spread 45 = .ok (.istore 8, 2) := by decide +kernel
theorem dX7_spread_47 : decode cX7_spread 47 = .ok (.iload 4, 2) := by decide +kernel
theorem dX7_spread_49 : decode cX7_spread 49 = .ok (.iload 8, 2) := by decide +kernel
theorem dX7_spread_51 : decode cX7_spread 51 = .ok (.ifCond .eq 7, 3) := by decide +kernel
theorem dX7_spread_54 : decode cX7_spread 54 = .ok (.iconst 2, 1) := by decide +kernel
theorem dX7_spread_55 : decode cX7_spread 55 = .ok (.goto 4, 3) := by decide +kernel
theorem dX7_spread_58 : decode cX7_spread 58 = .ok (.iconst 1, 1) := by decide +kernel
theorem dX7_spread_59 : decode cX7_spread 59 = .ok (.isub, 1) := by decide +kernel
theorem dX7_spread_60 : decode cX7_spread 60 = .ok (.istore 9, 2) := by decide +kernel
theorem dX7_spread_62 : decode cX7_spread 62 = .ok (.iload 9, 2) := by decide +kernel
theorem dX7_spread_64 : decode cX7_spread 64 = .ok (.ifCond .lt 22, 3) := by decide +kernel
theorem dX7_spread_67 : decode cX7_spread 67 = .ok (.lload 5, 2) := by decide +kernel
theorem dX7_spread_69 : decode cX7_spread 69 = .ok (.aload_n 0, 1) := by decide +kernel
theorem dX7_spread_70 : decode cX7_spread 70 = .ok (.getfield 11, 3) := by decide +kernel
theorem dX7_spread_73 : decode cX7_spread 73 = .ok (.iload 9, 2) := by decide +kernel
theorem dX7_spread_75 : decode cX7_spread 75 = .ok (.laload, 1) := by decide +kernel
theorem dX7_spread_76 : decode cX7_spread 76 = .ok (.iload 7, 2) := by decide +kernel
theorem dX7_spread_78 : decode cX7_spread 78 = .ok (.invokestatic 47, 3) := by decide +kernel
theorem dX7_spread_81 : decode cX7_spread 81 = .ok (.lload_n 2, 1) := by decide +kernel
theorem dX7_spread_82 : decode cX7_spread 82 = .ok (.land, 1) := by decide +kernel
theorem dX7_spread_83 : decode cX7_spread 83 = .ok (.lor, 1) := by decide +kernel
theorem dX7_spread_84 : decode cX7_spread 84 = .ok (.lstore 5, 2) := by decide +kernel
theorem dX7_spread_86 : decode cX7_spread 86 = .ok (.iload 9, 2) := by decide +kernel
theorem dX7_spread_88 : decode cX7_spread 88 = .ok (.iconst 2, 1) := by decide +kernel
theorem dX7_spread_89 : decode cX7_spread 89 = .ok (.if_icmp .lt 27, 3) := by decide +kernel
theorem dX7_spread_92 : decode cX7_spread 92 = .ok (.lload 5, 2) := by decide +kernel
theorem dX7_spread_94 : decode cX7_spread 94 = .ok (.aload_n 0, 1) := by decide +kernel
theorem dX7_spread_95 : decode cX7_spread 95 = .ok (.getfield 11, 3) := by decide +kernel
theorem dX7_spread_98 : decode cX7_spread 98 = .ok (.iload 9, 2) := by decide +kernel
theorem dX7_spread_100 : decode cX7_spread 100 = .ok (.iconst 2, 1) := by decide +kernel
theorem dX7_spread_101 : decode cX7_spread 101 = .ok (.isub, 1) := by decide +kernel
theorem dX7_spread_102 : decode cX7_spread 102 = .ok (.laload, 1) := by decide +kernel
theorem dX7_spread_103 : decode cX7_spread 103 = .ok (.iload 7, 2) := by decide +kernel
theorem dX7_spread_105 : decode cX7_spread 105 = .ok (.invokestatic 47, 3) := by decide +kernel
theorem dX7_spread_108 : decode cX7_spread 108 = .ok (.aload_n 1, 1) := by decide +kernel
theorem dX7_spread_109 : decode cX7_spread 109 = .ok (.getfield 51, 3) := by decide +kernel
theorem dX7_spread_112 : decode cX7_spread 112 = .ok (.land, 1) := by decide +kernel
theorem dX7_spread_113 : decode cX7_spread 113 = .ok (.lor, 1) := by decide +kernel
theorem dX7_spread_114 : decode cX7_spread 114 = .ok (.lstore 5, 2) := by decide +kernel
theorem dX7_spread_116 : decode cX7_spread 116 = .ok (.iinc 7 1, 3) := by decide +kernel
theorem dX7_spread_119 : decode cX7_spread 119 = .ok (.goto (-105), 3) := by decide +kernel
theorem dX7_spread_122 : decode cX7_spread 122 = .ok (.aload_n 0, 1) := by decide +kernel
theorem dX7_spread_123 : decode cX7_spread 123 = .ok (.getfield 11, 3) := by decide +kernel
theorem dX7_spread_126 : decode cX7_spread 126 = .ok (.iload 4, 2) := by decide +kernel
theorem dX7_spread_128 : decode cX7_spread 128 = .ok (.lload 5, 2) := by decide +kernel
theorem dX7_spread_130 : decode cX7_spread 130 = .ok (.lastore, 1) := by decide +kernel
theorem dX7_spread_131 : decode cX7_spread 131 = .ok (.return_, 1) := by decide +kernel
theorem dX8_init_0 : decode cX8_init 0 = .ok (.aload_n 0, 1) := by decide +kernel
theorem dX8_init_1 : decode cX8_init 1 = .ok (.invokespecial 3, 3) := by decide +kernel
theorem dX8_init_4 : decode cX8_init 4 = .ok (.aload_n 0, 1) := by decide +kernel
theorem dX8_init_5 : decode cX8_init 5 = .ok (.sipush 128, 3) := by decide +kernel
theorem dX8_init_8 : decode cX8_init 8 = .ok (.newarray .int, 2) := by decide +kernel
theorem dX8_init_10 : decode cX8_init 10 = .ok (.putfield 9, 3) := by decide +kernel
theorem dX8_init_13 : decode cX8_init 13 = .ok (.aload_n 0, 1) := by decide +kernel
theorem dX8_init_14 : decode cX8_init 14 = .ok (.sipush 128, 3) := by decide +kernel
theorem dX8_init_17 : decode cX8_init 17 = .ok (.newarray .int, 2) := by decide +kernel
theorem dX8_init_19 : decode cX8_init 19 = .ok (.putfield 15, 3) := by decide +kernel
theorem dX8_init_22 : decode cX8_init 22 = .ok (.aload_n 0, 1) := by decide +kernel
theorem dX8_init_23 : decode cX8_init 23 = .ok (.iconst 4, 1) := by decide +kernel
theorem dX8_init_24 : decode cX8_init 24 = .ok (.newarray .long, 2) := by decide +kernel
theorem dX8_init_26 : decode cX8_init 26 = .ok (.putfield 18, 3) := by decide +kernel
theorem dX8_init_29 : decode cX8_init 29 = .ok (.aload_n 0, 1) := by decide +kernel
theorem dX8_init_30 : decode cX8_init 30 = .ok (.bipush 7, 2) := by decide +kernel
theorem dX8_init_32 : decode cX8_init 32 = .ok (.newarray .int, 2) := by decide +kernel
theorem dX8_init_34 : decode cX8_init 34 = .ok (.putfield 22, 3) := by decide +kernel
theorem dX8_init_37 : decode cX8_init 37 = .ok (.aload_n 0, 1) := by decide +kernel
theorem dX8_init_38 : decode cX8_init 38 = .ok (.bipush 49, 2) := by decide +kernel
theorem dX8_init_40 : decode cX8_init 40 = .ok (.newarray .int, 2) := by decide +kernel
theorem dX8_init_42 : decode cX8_init 42 = .ok (.putfield 25, 3) := by decide +kernel
theorem dX8_init_45 : decode cX8_init 45 = .ok (.aload_n 0, 1) := by decide +kernel
theorem dX8_init_46 : decode cX8_init 46 = .ok (.sipush 384, 3) := by decide +kernel
theorem dX8_init_49 : decode cX8_init 49 = .ok (.newarray .int, 2) := by decide +kernel
theorem dX8_init_51 : decode cX8_init 51 = .ok (.putfield 28, 3) := by decide +kernel
theorem dX8_init_54 : decode cX8_init 54 = .ok (.return_, 1) := by decide +kernel
theorem dX8_fewestSteps_0 : decode cX8_fewestSteps 0 = .ok (.lload_n 1, 1) := by decide +kernel
theorem dX8_fewestSteps_1 : decode cX8_fewestSteps 1 = .ok (.iload_n 3, 1) := by decide +kernel
theorem dX8_fewestSteps_2 : decode cX8_fewestSteps 2 = .ok (.invokestatic 31, 3) := by decide +kernel
theorem dX8_fewestSteps_5 : decode cX8_fewestSteps 5 = .ok (.ifCond .eq 12, 3) := by decide +kernel
theorem dX8_fewestSteps_8 : decode cX8_fewestSteps 8 = .ok (.lload_n 1, 1) := by decide +kernel
theorem dX8_fewestSteps_9 : decode cX8_fewestSteps 9 = .ok (.iload 4, 2) := by decide +kernel
theorem dX8_fewestSteps_11 : decode cX8_fewestSteps 11 = .ok (.invokestatic 31, 3) := by decide +kernel
theorem dX8_fewestSteps_14 : decode cX8_fewestSteps 14 = .ok (.ifCond .ne 5, 3) := by decide +kernel
theorem dX8_fewestSteps_17 : decode cX8_fewestSteps 17 = .ok (.iconst (-1), 1) := by decide +kernel
theorem dX8_fewestSteps_18 : decode cX8_fewestSteps 18 = .ok (.ireturn, 1) := by decide +kernel
theorem dX8_fewestSteps_19 : decode cX8_fewestSteps 19 = .ok (.iload_n 3, 1) := by decide +kernel
theorem dX8_fewestSteps_20 : decode cX8_fewestSteps 20 = .ok (.invokestatic 35, 3) := by decide +kernel
theorem dX8_fewestSteps_23 : decode cX8_fewestSteps 23 = .ok (.lstore 5, 2) := by decide +kernel
theorem dX8_fewestSteps_25 : decode cX8_fewestSteps 25 = .ok (.iconst 0, 1) := by decide +kernel
theorem dX8_fewestSteps_26 : decode cX8_fewestSteps 26 = .ok (.istore 7, 2) := by decide +kernel
theorem dX8_fewestSteps_28 : decode cX8_fewestSteps 28 = .ok (.iload 7, 2) := by decide +kernel
theorem dX8_fewestSteps_30 : decode cX8_fewestSteps 30 = .ok (.bipush 64, 2) := by decide +kernel
theorem dX8_fewestSteps_32 : decode cX8_fewestSteps 32 = .ok (.if_icmp .ge 30, 3) := by decide +kernel
theorem dX8_fewestSteps_35 : decode cX8_fewestSteps 35 = .ok (.lload 5, 2) := by decide +kernel
theorem dX8_fewestSteps_37 : decode cX8_fewestSteps 37 = .ok (.iload 4, 2) := by decide +kernel
theorem dX8_fewestSteps_39 : decode cX8_fewestSteps 39 = .ok (.invokestatic 31, 3) := by decide +kernel
theorem dX8_fewestSteps_42 : decode cX8_fewestSteps 42 = .ok (.ifCond .eq 6, 3) := by decide +kernel
theorem dX8_fewestSteps_45 : decode cX8_fewestSteps 45 = .ok (.iload 7, 2) := by decide +kernel
theorem dX8_fewestSteps_47 : decode cX8_fewestSteps 47 = .ok (.ireturn, 1) := by decide +kernel
theorem dX8_fewestSteps_48 : decode cX8_fewestSteps 48 = .ok (.lload 5, 2) := by decide +kernel
theorem dX8_fewestSteps_50 : decode cX8_fewestSteps 50 = .ok (.lload_n 1, 1) := by decide +kernel
theorem dX8_fewestSteps_51 : decode cX8_fewestSteps 51 = .ok (.invokestatic 39, 3) := by decide +kernel
theorem dX8_fewestSteps_54 : decode cX8_fewestSteps 54 = .ok (.lstore 5, 2) := by decide +kernel
theorem dX8_fewestSteps_56 : decode cX8_fewestSteps 56 = .ok (.iinc 7 1, 3) := by decide +kernel
theorem dX8_fewestSteps_59 : decode cX8_fewestSteps 59 = .ok (.goto (-31), 3) := by decide +kernel
theorem dX8_fewestSteps_62 : decode cX8_fewestSteps 62 = .ok (.iconst (-1), 1) := by decide +kernel
theorem dX8_fewestSteps_63 : decode cX8_fewestSteps 63 = .ok (.ireturn, 1) := by decide +kernel
theorem dX8_allReached_0 : decode cX8_allReached 0 = .ok (.iload_n 2, 1) := by decide +kernel
theorem dX8_allReached_1 : decode cX8_allReached 1 = .ok (.invokestatic 35, 3) := by decide +kernel
theorem dX8_allReached_4 : decode cX8_allReached 4 = .ok (.lstore_n 3, 1) := by decide +kernel
theorem dX8_allReached_5 : decode cX8_allReached 5 = .ok (.iconst 0, 1) := by decide +kernel
theorem dX8_allReached_6 : decode cX8_allReached 6 = .ok (.istore 5, 2) := by decide +kernel
theorem dX8_allReached_8 : decode cX8_allReached 8 = .ok (.iload 5, 2) := by decide +kernel
theorem dX8_allReached_10 : decode cX8_allReached 10 = .ok (.bipush 64, 2) := by decide +kernel
theorem dX8_allReached_12 : decode cX8_allReached 12 = .ok (.if_icmp .ge 28, 3) := by decide +kernel
theorem dX8_allReached_15 : decode cX8_allReached 15 = .ok (.lload_n 3, 1) := by decide +kernel
theorem dX8_allReached_16 : decode cX8_allReached 16 = .ok (.lload_n 0, 1) := by decide +kernel
theorem dX8_allReached_17 : decode cX8_allReached 17 = .ok (.invokestatic 39, 3) := by decide +kernel
theorem dX8_allReached_20 : decode cX8_allReached 20 = .ok (.lstore 6, 2) := by decide +kernel
theorem dX8_allReached_22 : decode cX8_allReached 22 = .ok (.lload 6, 2) := by decide +kernel
theorem dX8_allReached_24 : decode cX8_allReached 24 = .ok (.lload_n 3, 1) := by decide +kernel
theorem dX8_allReached_25 : decode cX8_allReached 25 = .ok (.lcmp, 1) := by decide +kernel
theorem dX8_allReached_26 : decode cX8_allReached 26 = .ok (.ifCond .ne 5, 3) := by decide +kernel
theorem dX8_allReached_29 : decode cX8_allReached 29 = .ok (.lload_n 3, 1) := by decide +kernel
theorem dX8_allReached_30 : decode cX8_allReached 30 = .ok (.lreturn, 1) := by decide +kernel
theorem dX8_allReached_31 : decode cX8_allReached 31 = .ok (.lload 6, 2) := by decide +kernel
theorem dX8_allReached_33 : decode cX8_allReached 33 = .ok (.lstore_n 3, 1) := by decide +kernel
theorem dX8_allReached_34 : decode cX8_allReached 34 = .ok (.iinc 5 1, 3) := by decide +kernel
theorem dX8_allReached_37 : decode cX8_allReached 37 = .ok (.goto (-29), 3) := by decide +kernel
theorem dX8_allReached_40 : decode cX8_allReached 40 = .ok (.lload_n 3, 1) := by decide +kernel
theorem dX8_allReached_41 : decode cX8_allReached 41 = .ok (.lreturn, 1) := by decide +kernel
theorem dX8_parts_0 : decode cX8_parts 0 = .ok (.iconst 0, 1) := by decide +kernel
theorem dX8_parts_1 : decode cX8_parts 1 = .ok (.istore 4, 2) := by decide +kernel
theorem dX8_parts_3 : decode cX8_parts 3 = .ok (.iconst 0, 1) := by decide +kernel
theorem dX8_parts_4 : decode cX8_parts 4 = .ok (.istore 5, 2) := by decide +kernel
theorem dX8_parts_6 : decode cX8_parts 6 = .ok (.lload_n 1, 1) := by decide +kernel
theorem dX8_parts_7 : decode cX8_parts 7 = .ok (.lstore 6, 2) := by decide +kernel
theorem dX8_parts_9 : decode cX8_parts 9 = .ok (.iconst 0, 1) := by decide +kernel
theorem dX8_parts_10 : decode cX8_parts 10 = .ok (.istore 8, 2) := by decide +kernel
theorem dX8_parts_12 : decode cX8_parts 12 = .ok (.iload 8, 2) := by decide +kernel
theorem dX8_parts_14 : decode cX8_parts 14 = .ok (.bipush 64, 2) := by decide +kernel
theorem dX8_parts_16 : decode cX8_parts 16 = .ok (.if_icmp .ge 53, 3) := by decide +kernel
theorem dX8_parts_19 : decode cX8_parts 19 = .ok (.lload 6, 2) := by decide +kernel
theorem dX8_parts_21 : decode cX8_parts 21 = .ok (.lconst 0, 1) := by decide +kernel
theorem dX8_parts_22 : decode cX8_parts 22 = .ok (.lcmp, 1) := by decide +kernel
theorem dX8_parts_23 : decode cX8_parts 23 = .ok (.ifCond .eq 46, 3) := by decide +kernel
theorem dX8_parts_26 : decode cX8_parts 26 = .ok (.lload_n 1, 1) := by decide +kernel
theorem dX8_parts_27 : decode cX8_parts 27 = .ok (.lload 6, 2) := by decide +kernel
theorem dX8_parts_29 : decode cX8_parts 29 = .ok (.invokestatic 43, 3) := by decide +kernel
theorem dX8_parts_32 : decode cX8_parts 32 = .ok (.invokestatic 47, 3) := by decide +kernel
theorem dX8_parts_35 : decode cX8_parts 35 = .ok (.lstore 9, 2) := by decide +kernel
theorem dX8_parts_37 : decode cX8_parts 37 = .ok (.lload 6, 2) := by decide +kernel
theorem dX8_parts_39 : decode cX8_parts 39 = .ok (.lload 9, 2) := by decide +kernel
theorem dX8_parts_41 : decode cX8_parts 41 = .ok (.ldc2_w 51, 3) := by decide +kernel
theorem dX8_parts_44 : decode cX8_parts 44 = .ok (.lxor, 1) := by decide +kernel
theorem dX8_parts_45 : decode cX8_parts 45 = .ok (.land, 1) := by decide +kernel
theorem dX8_parts_46 : decode cX8_parts 46 = .ok (.lstore 6, 2) := by decide +kernel
theorem dX8_parts_48 : decode cX8_parts 48 = .ok (.iinc 4 1, 3) := by decide +kernel
theorem dX8_parts_51 : decode cX8_parts 51 = .ok (.iload 5, 2) := by decide +kernel
theorem dX8_parts_53 : decode cX8_parts 53 = .ok (.lload 9, 2) := by decide +kernel
theorem dX8_parts_55 : decode cX8_parts 55 = .ok (.invokestatic 53, 3) := by decide +kernel
theorem dX8_parts_58 : decode cX8_parts 58 = .ok (.invokestatic 58, 3) := by decide +kernel
theorem dX8_parts_61 : decode cX8_parts 61 = .ok (.istore 5, 2) := by decide +kernel
theorem dX8_parts_63 : decode cX8_parts 63 = .ok (.iinc 8 1, 3) := by decide +kernel
theorem dX8_parts_66 : decode cX8_parts 66 = .ok (.goto (-54), 3) := by decide +kernel
theorem dX8_parts_69 : decode cX8_parts 69 = .ok (.iload_n 3, 1) := by decide +kernel
theorem dX8_parts_70 : decode cX8_parts 70 = .ok (.ifCond .eq 8, 3) := by decide +kernel
theorem dX8_parts_73 : decode cX8_parts 73 = .ok (.iload 5, 2) := by decide +kernel
theorem dX8_parts_75 : decode cX8_parts 75 = .ok (.goto 5, 3) := by decide +kernel
theorem dX8_parts_78 : decode cX8_parts 78 = .ok (.iload 4, 2) := by decide +kernel
theorem dX8_parts_80 : decode cX8_parts 80 = .ok (.ireturn, 1) := by decide +kernel
theorem dX8_fewestWalls_0 : decode cX8_fewestWalls 0 = .ok (.lload_n 1, 1) := by decide +kernel
theorem dX8_fewestWalls_1 : decode cX8_fewestWalls 1 = .ok (.iload_n 3, 1) := by decide +kernel
theorem dX8_fewestWalls_2 : decode cX8_fewestWalls 2 = .ok (.invokestatic 31, 3) := by decide +kernel
theorem dX8_fewestWalls_5 : decode cX8_fewestWalls 5 = .ok (.ifCond .eq 28, 3) := by decide +kernel
theorem dX8_fewestWalls_8 : decode cX8_fewestWalls 8 = .ok (.lload_n 1, 1) := by decide +kernel
theorem dX8_fewestWalls_9 : decode cX8_fewestWalls 9 = .ok (.iload 4, 2) := by decide +kernel
theorem dX8_fewestWalls_11 : decode cX8_fewestWalls 11 = .ok (.invokestatic 31, 3) := by decide +kernel
theorem dX8_fewestWalls_14 : decode cX8_fewestWalls 14 = .ok (.ifCond .eq 19, 3) := by decide +kernel
theorem dX8_fewestWalls_17 : decode cX8_fewestWalls 17 = .ok (.iload_n 3, 1) := by decide +kernel
theorem dX8_fewestWalls_18 : decode cX8_fewestWalls 18 = .ok (.invokestatic 35, 3) := by decide +kernel
theorem dX8_fewestWalls_21 : decode cX8_fewestWalls 21 = .ok (.lload_n 1, 1) := by decide +kernel
theorem dX8_fewestWalls_22 : decode cX8_fewestWalls 22 = .ok (.invokestatic 39, 3) := by decide +kernel
theorem dX8_fewestWalls_25 : decode cX8_fewestWalls 25 = .ok (.iload 4, 2) := by decide +kernel
theorem dX8_fewestWalls_27 : decode cX8_fewestWalls 27 = .ok (.invokestatic 31, 3) := by decide +kernel
theorem dX8_fewestWalls_30 : decode cX8_fewestWalls 30 = .ok (.ifCond .eq 5, 3) := by decide +kernel
theorem dX8_fewestWalls_33 : decode cX8_fewestWalls 33 = .ok (.iconst (-1), 1) := by decide +kernel
theorem dX8_fewestWalls_34 : decode cX8_fewestWalls 34 = .ok (.ireturn, 1) := by decide +kernel
theorem dX8_fewestWalls_35 : decode cX8_fewestWalls 35 = .ok (.aload_n 0, 1) := by decide +kernel
theorem dX8_fewestWalls_36 : decode cX8_fewestWalls 36 = .ok (.getfield 18, 3) := by decide +kernel
theorem dX8_fewestWalls_39 : decode cX8_fewestWalls 39 = .ok (.lconst 0, 1) := by decide +kernel
theorem dX8_fewestWalls_40 : decode cX8_fewestWalls 40 = .ok (.invokestatic 64, 3) := by decide +kernel
theorem dX8_fewestWalls_43 : decode cX8_fewestWalls 43 = .ok (.aload_n 0, 1) := by decide +kernel
theorem dX8_fewestWalls_44 : decode cX8_fewestWalls 44 = .ok (.lconst 0, 1) := by decide +kernel
theorem dX8_fewestWalls_45 : decode cX8_fewestWalls 45 = .ok (.putfield 70, 3) := by decide +kernel
theorem dX8_fewestWalls_48 : decode cX8_fewestWalls 48 = .ok (.iconst 0, 1) := by decide +kernel
theorem dX8_fewestWalls_49 : decode cX8_fewestWalls 49 = .ok (.istore 5, 2) := by decide +kernel
theorem dX8_fewestWalls_51 : decode cX8_fewestWalls 51 = .ok (.iload 5, 2) := by decide +kernel
theorem dX8_fewestWalls_53 : decode cX8_fewestWalls 53 = .ok (.iconst 4, 1) := by decide +kernel
theorem dX8_fewestWalls_54 : decode cX8_fewestWalls 54 = .ok (.if_icmp .ge 30, 3) := by decide +kernel
theorem dX8_fewestWalls_57 : decode cX8_fewestWalls 57 = .ok (.aload_n 0, 1) := by decide +kernel
theorem dX8_fewestWalls_58 : decode cX8_fewestWalls 58 = .ok (.lload_n 1, 1) := by decide +kernel
theorem dX8_fewestWalls_59 : decode cX8_fewestWalls 59 = .ok (.iload_n 3, 1) := by decide +kernel
theorem dX8_fewestWalls_60 : decode cX8_fewestWalls 60 = .ok (.iload 4, 2) := by decide +kernel
theorem dX8_fewestWalls_62 : decode cX8_fewestWalls 62 = .ok (.invokevirtual 74, 3) := by decide +kernel
theorem dX8_fewestWalls_65 : decode cX8_fewestWalls 65 = .ok (.ifCond .ne 6, 3) := by decide +kernel
theorem dX8_fewestWalls_68 : decode cX8_fewestWalls 68 = .ok (.iload 5, 2) := by decide +kernel
theorem dX8_fewestWalls_70 : decode cX8_fewestWalls 70 = .ok (.ireturn, 1) := by decide +kernel
theorem dX8_fewestWalls_71 : decode cX8_fewestWalls 71 = .ok (.aload_n 0, 1) := by decide +kernel
theorem dX8_fewestWalls_72 : decode cX8_fewestWalls 72 = .ok (.iload_n 3, 1) := by decide +kernel
theorem dX8_fewestWalls_73 : decode cX8_fewestWalls 73 = .ok (.iload 4, 2) := by decide +kernel
theorem dX8_fewestWalls_75 : decode cX8_fewestWalls 75 = .ok (.invokevirtual 78, 3) := by decide +kernel
theorem dX8_fewestWalls_78 : decode cX8_fewestWalls 78 = .ok (.iinc 5 1, 3) := by decide +kernel
theorem dX8_fewestWalls_81 : decode cX8_fewestWalls 81 = .ok (.goto (-30), 3) := by decide +kernel
theorem dX8_fewestWalls_84 : decode cX8_fewestWalls 84 = .ok (.iconst 4, 1) := by decide +kernel
theorem dX8_fewestWalls_85 : decode cX8_fewestWalls 85 = .ok (.ireturn, 1) := by decide +kernel
theorem dX8_findWay_0 : decode cX8_findWay 0 = .ok (.aload_n 0, 1) := by decide +kernel
theorem dX8_findWay_1 : decode cX8_findWay 1 = .ok (.getfield 15, 3) := by decide +kernel
theorem dX8_findWay_4 : decode cX8_findWay 4 = .ok (.iconst (-1), 1) := by decide +kernel
theorem dX8_findWay_5 : decode cX8_findWay 5 = .ok (.invokestatic 82, 3) := by decide +kernel
theorem dX8_findWay_8 : decode cX8_findWay 8 = .ok (.aload_n 0, 1) := by decide +kernel
theorem dX8_findWay_9 : decode cX8_findWay 9 = .ok (.iconst 0, 1) := by decide +kernel
theorem dX8_findWay_10 : decode cX8_findWay 10 = .ok (.putfield 85, 3) := by decide +kernel
theorem dX8_findWay_13 : decode cX8_findWay 13 = .ok (.aload_n 0, 1) := by decide +kernel
theorem dX8_findWay_14 : decode cX8_findWay 14 = .ok (.bipush 64, 2) := by decide +kernel
theorem dX8_findWay_16 : decode cX8_findWay 16 = .ok (.iload_n 3, 1) := by decide +kernel
theorem dX8_findWay_17 : decode cX8_findWay 17 = .ok (.iadd, 1) := by decide +kernel
theorem dX8_findWay_18 : decode cX8_findWay 18 = .ok (.bipush 64, 2) := by decide +kernel
theorem dX8_findWay_20 : decode cX8_findWay 20 = .ok (.iload_n 3, 1) := by decide +kernel
theorem dX8_findWay_21 : decode cX8_findWay 21 = .ok (.iadd, 1) := by decide +kernel
theorem dX8_findWay_22 : decode cX8_findWay 22 = .ok (.invokevirtual 89, 3) := by decide +kernel
theorem dX8_findWay_25 : decode cX8_findWay 25 = .ok (.iconst 0, 1) := by decide +kernel
theorem dX8_findWay_26 : decode cX8_findWay 26 = .ok (.istore 5, 2) := by decide +kernel
theorem dX8_findWay_28 : decode cX8_findWay 28 = .ok (.iload 5, 2) := by decide +kernel
theorem dX8_findWay_30 : decode cX8_findWay 30 = .ok (.aload_n 0, 1) := by decide +kernel
theorem dX8_findWay_31 : decode cX8_findWay 31 = .ok (.getfield 85, 3) := by decide +kernel
theorem dX8_findWay_34 : decode cX8_findWay 34 = .ok (.if_icmp .ge 204, 3) := by decide +kernel
theorem dX8_findWay_37 : decode cX8_findWay 37 = .ok (.iload 5, 2) := by decide +kernel
theorem dX8_findWay_39 : decode cX8_findWay 39 = .ok (.aload_n 0, 1) := by decide +kernel
theorem dX8_findWay_40 : decode cX8_findWay 40 = .ok (.getfield 9, 3) := by decide +kernel
theorem dX8_findWay_43 : decode cX8_findWay 43 = .ok (.arraylength, 1) := by decide +kernel
theorem dX8_findWay_44 : decode cX8_findWay 44 = .ok (.if_icmp .ge 194, 3) := by decide +kernel
theorem dX8_findWay_47 : decode cX8_findWay 47 = .ok (.aload_n 0, 1) := by decide +kernel
theorem dX8_findWay_48 : decode cX8_findWay 48 = .ok (.getfield 9, 3) := by decide +kernel
theorem dX8_findWay_51 : decode cX8_findWay 51 = .ok (.iload 5, 2) := by decide +kernel
theorem dX8_findWay_53 : decode cX8_findWay 53 = .ok (.iaload, 1) := by decide +kernel
theorem dX8_findWay_54 : decode cX8_findWay 54 = .ok (.istore 6, 2) := by decide +kernel
theorem dX8_findWay_56 : decode cX8_findWay 56 = .ok (.iload 6, 2) := by decide +kernel
theorem dX8_findWay_58 : decode cX8_findWay 58 = .ok (.iload 4, 2) := by decide +kernel
theorem dX8_findWay_60 : decode cX8_findWay 60 = .ok (.if_icmp .ne 5, 3) := by decide +kernel
theorem dX8_findWay_63 : decode cX8_findWay 63 = .ok (.iconst 1, 1) := by decide +kernel
theorem dX8_findWay_64 : decode cX8_findWay 64 = .ok (.ireturn, 1) := by decide +kernel
theorem dX8_findWay_65 : decode cX8_findWay 65 = .ok (.iload 6, 2) := by decide +kernel
theorem dX8_findWay_67 : decode cX8_findWay 67 = .ok (.bipush 64, 2) := by decide +kernel
theorem dX8_findWay_69 : decode cX8_findWay 69 = .ok (.if_icmp .lt 7, 3) := by decide +kernel
theorem dX8_findWay_72 : decode cX8_findWay 72 = .ok (.iconst 1, 1) := by decide +kernel
theorem dX8_findWay_73 : decode cX8_findWay 73 = .ok (.goto 4, 3) := by decide +kernel
theorem dX8_findWay_76 : decode cX8_findWay 76 = .ok (.iconst 0, 1) := by decide +kernel
theorem dX8_findWay_77 : decode cX8_findWay 77 = .ok (.istore 7, 2) := by decide +kernel
theorem dX8_findWay_79 : decode cX8_findWay 79 = .ok (.iload 6, 2) := by decide +kernel
theorem dX8_findWay_81 : decode cX8_findWay 81 = .ok (.bipush 64, 2) := by decide +kernel
theorem dX8_findWay_83 : decode cX8_findWay 83 = .ok (.irem, 1) := by decide +kernel
theorem dX8_findWay_84 : decode cX8_findWay 84 = .ok (.istore 8, 2) := by decide +kernel
theorem dX8_findWay_86 : decode cX8_findWay 86 = .ok (.iconst 0, 1) := by decide +kernel
theorem dX8_findWay_87 : decode cX8_findWay 87 = .ok (.istore 9, 2) := by decide +kernel
theorem dX8_findWay_89 : decode cX8_findWay 89 = .ok (.iload 9, 2) := by decide +kernel
theorem dX8_findWay_91 : decode cX8_findWay 91 = .ok (.iconst 4, 1) := by decide +kernel
theorem dX8_findWay_92 : decode cX8_findWay 92 = .ok (.if_icmp .ge 99, 3) := by decide +kernel
theorem dX8_findWay_95 : decode cX8_findWay 95 = .ok (.iload 8, 2) := by decide +kernel
theorem dX8_findWay_97 : decode cX8_findWay 97 = .ok (.iload 9, 2) := by decide +kernel
theorem dX8_findWay_99 : decode cX8_findWay 99 = .ok (.lload_n 1, 1) := by decide +kernel
theorem dX8_findWay_100 : decode cX8_findWay 100 = .ok (.invokestatic 92, 3) := by decide +kernel
theorem dX8_findWay_103 : decode cX8_findWay 103 = .ok (.istore 10, 2) := by decide +kernel
theorem dX8_findWay_105 : decode cX8_findWay 105 = .ok (.iload 10, 2) := by decide +kernel
theorem dX8_findWay_107 : decode cX8_findWay 107 = .ok (.iconst (-1), 1) := by decide +kernel
theorem dX8_findWay_108 : decode cX8_findWay 108 = .ok (.if_icmp .eq 77, 3) := by decide +kernel
theorem dX8_findWay_111 : decode cX8_findWay 111 = .ok (.iload 10, 2) := by decide +kernel
theorem dX8_findWay_113 : decode cX8_findWay 113 = .ok (.iload_n 3, 1) := by decide +kernel
theorem dX8_findWay_114 : decode cX8_findWay 114 = .ok (.if_icmp .ne 6, 3) := by decide +kernel
theorem dX8_findWay_117 : decode cX8_findWay 117 = .ok (.goto 68, 3) := by decide +kernel
theorem dX8_findWay_120 : decode cX8_findWay 120 = .ok (.iload 7, 2) := by decide +kernel
theorem dX8_findWay_122 : decode cX8_findWay 122 = .ok (.ifCond .eq 29, 3) := by decide +kernel
theorem dX8_findWay_125 : decode cX8_findWay 125 = .ok (.aload_n 0, 1) := by decide +kernel
theorem dX8_findWay_126 : decode cX8_findWay 126 = .ok (.getfield 18, 3) := by decide +kernel
theorem dX8_findWay_129 : decode cX8_findWay 129 = .ok (.iload 9, 2) := by decide +kernel
theorem dX8_findWay_131 : decode cX8_findWay 131 = .ok (.laload, 1) := by decide +kernel
theorem dX8_findWay_132 : decode cX8_findWay 132 = .ok (.iload 8, 2) := by decide +kernel
theorem dX8_findWay_134 : decode cX8_findWay 134 = .ok (.invokestatic 31, 3) := by decide +kernel
theorem dX8_findWay_137 : decode cX8_findWay 137 = .ok (.ifCond .ne 14, 3) := by decide +kernel
theorem dX8_findWay_140 : decode cX8_findWay 140 = .ok (.aload_n 0, 1) := by decide +kernel
theorem dX8_findWay_141 : decode cX8_findWay 141 = .ok (.iload 10, 2) := by decide +kernel
theorem dX8_findWay_143 : decode cX8_findWay 143 = .ok (.iload 6, 2) := by decide +kernel
theorem dX8_findWay_145 : decode cX8_findWay 145 = .ok (.invokevirtual 89, 3) := by decide +kernel
theorem dX8_findWay_148 : decode cX8_findWay 148 = .ok (.goto 37, 3) := by decide +kernel
theorem dX8_findWay_151 : decode cX8_findWay 151 = .ok (.iload 7, 2) := by decide +kernel
theorem dX8_findWay_153 : decode cX8_findWay 153 = .ok (.ifCond .ne 32, 3) := by decide +kernel
theorem dX8_findWay_156 : decode cX8_findWay 156 = .ok (.aload_n 0, 1) := by decide +kernel
theorem dX8_findWay_157 : decode cX8_findWay 157 = .ok (.getfield 18, 3) := by decide +kernel
theorem dX8_findWay_160 : decode cX8_findWay 160 = .ok (.iload 9, 2) := by decide +kernel
theorem dX8_findWay_162 : decode cX8_findWay 162 = .ok (.invokestatic 96, 3) := by decide +kernel
theorem dX8_findWay_165 : decode cX8_findWay 165 = .ok (.laload, 1) := by decide +kernel
theorem dX8_findWay_166 : decode cX8_findWay 166 = .ok (.iload 10, 2) := by decide +kernel
theorem dX8_findWay_168 : decode cX8_findWay 168 = .ok (.invokestatic 31, 3) := by decide +kernel
theorem dX8_findWay_171 : decode cX8_findWay 171 = .ok (.ifCond .eq 14, 3) := by decide +kernel
theorem dX8_findWay_174 : decode cX8_findWay 174 = .ok (.aload_n 0, 1) := by decide +kernel
theorem dX8_findWay_175 : decode cX8_findWay 175 = .ok (.bipush 64, 2) := by decide +kernel
theorem dX8_findWay_177 : decode cX8_findWay 177 = .ok (.iload 10, 2) := by decide +kernel
theorem dX8_findWay_179 : decode cX8_findWay 179 = .ok (.iadd, 1) := by decide +kernel
theorem dX8_findWay_180 : decode cX8_findWay 180 = .ok (.iload 6, 2) := by decide +kernel
theorem dX8_findWay_182 : decode cX8_findWay 182 = .ok (.invokevirtual 89, 3) := by decide +kernel
theorem dX8_findWay_185 : decode cX8_findWay 185 = .ok (.iinc 9 1, 3) := by decide +kernel
theorem dX8_findWay_188 : decode cX8_findWay 188 = .ok (.goto (-99), 3) := by decide +kernel
theorem dX8_findWay_191 : decode cX8_findWay 191 = .ok (.iload 8, 2) := by decide +kernel
theorem dX8_findWay_193 : decode cX8_findWay 193 = .ok (.iload_n 3, 1) := by decide +kernel
theorem dX8_findWay_194 : decode cX8_findWay 194 = .ok (.if_icmp .eq 38, 3) := by decide +kernel
theorem dX8_findWay_197 : decode cX8_findWay 197 = .ok (.iload 7, 2) := by decide +kernel
theorem dX8_findWay_199 : decode cX8_findWay 199 = .ok (.aload_n 0, 1) := by decide +kernel
theorem dX8_findWay_200 : decode cX8_findWay 200 = .ok (.getfield 70, 3) := by decide +kernel
theorem dX8_findWay_203 : decode cX8_findWay 203 = .ok (.iload 8, 2) := by decide +kernel
theorem dX8_findWay_205 : decode cX8_findWay 205 = .ok (.invokestatic 31, 3) := by decide +kernel
theorem dX8_findWay_208 : decode cX8_findWay 208 = .ok (.if_icmp .ne 24, 3) := by decide +kernel
theorem dX8_findWay_211 : decode cX8_findWay 211 = .ok (.aload_n 0, 1) := by decide +kernel
theorem dX8_findWay_212 : decode cX8_findWay 212 = .ok (.iload 7, 2) := by decide +kernel
theorem dX8_findWay_214 : decode cX8_findWay 214 = .ok (.ifCond .eq 8, 3) := by decide +kernel
theorem dX8_findWay_217 : decode cX8_findWay 217 = .ok (.iload 8, 2) := by decide +kernel
theorem dX8_findWay_219 : decode cX8_findWay 219 = .ok (.goto 8, 3) := by decide +kernel
theorem dX8_findWay_222 : decode cX8_findWay 222 = .ok (.bipush 64, 2) := by decide +kernel
theorem dX8_findWay_224 : decode cX8_findWay 224 = .ok (.iload 8, 2) := by decide +kernel
theorem dX8_findWay_226 : decode cX8_findWay 226 = .ok (.iadd, 1) := by decide +kernel
theorem dX8_findWay_227 : decode cX8_findWay 227 = .ok (.iload 6, 2) := by decide +kernel
theorem dX8_findWay_229 : decode cX8_findWay 229 = .ok (.invokevirtual 89, 3) := by decide +kernel
theorem dX8_findWay_232 : decode cX8_findWay 232 = .ok (.iinc 5 1, 3) := by decide +kernel
theorem dX8_findWay_235 : decode cX8_findWay 235 = .ok (.goto (-207), 3) := by decide +kernel
theorem dX8_findWay_238 : decode cX8_findWay 238 = .ok (.iconst 0, 1) := by decide +kernel
theorem dX8_findWay_239 : decode cX8_findWay 239 = .ok (.ireturn, 1) := by decide +kernel
theorem dX8_comeTo_0 : decode cX8_comeTo 0 = .ok (.aload_n 0, 1) := by decide +kernel
theorem dX8_comeTo_1 : decode cX8_comeTo 1 = .ok (.getfield 15, 3) := by decide +kernel
theorem dX8_comeTo_4 : decode cX8_comeTo 4 = .ok (.iload_n 1, 1) := by decide +kernel
theorem dX8_comeTo_5 : decode cX8_comeTo 5 = .ok (.iaload, 1) := by decide +kernel
theorem dX8_comeTo_6 : decode cX8_comeTo 6 = .ok (.iconst (-1), 1) := by decide +kernel
theorem dX8_comeTo_7 : decode cX8_comeTo 7 = .ok (.if_icmp .ne 42, 3) := by decide +kernel
theorem dX8_comeTo_10 : decode cX8_comeTo 10 = .ok (.aload_n 0, 1) := by decide +kernel
theorem dX8_comeTo_11 : decode cX8_comeTo 11 = .ok (.getfield 85, 3) := by decide +kernel
theorem dX8_comeTo_14 : decode cX8_comeTo 14 = .ok (.aload_n 0, 1) := by decide +kernel
theorem dX8_comeTo_15 : decode cX8_comeTo 15 = .ok (.getfield 9, 3) := by decide +kernel
theorem dX8_comeTo_18 : decode cX8_comeTo 18 = .ok (.arraylength, 1) := by decide +kernel
theorem dX8_comeTo_19 : decode cX8_comeTo 19 = .ok (.if_icmp .ge 30, 3) := by decide +kernel
theorem dX8_comeTo_22 : decode cX8_comeTo 22 = .ok (.aload_n 0, 1) := by decide +kernel
theorem dX8_comeTo_23 : decode cX8_comeTo 23 = .ok (.getfield 15, 3) := by decide +kernel
theorem dX8_comeTo_26 : decode cX8_comeTo 26 = .ok (.iload_n 1, 1) := by decide +kernel
theorem dX8_comeTo_27 : decode cX8_comeTo 27 = .ok (.iload_n 2, 1) := by decide +kernel
theorem dX8_comeTo_28 : decode cX8_comeTo 28 = .ok (.iastore, 1) := by decide +kernel
theorem dX8_comeTo_29 : decode cX8_comeTo 29 = .ok (.aload_n 0, 1) := by decide +kernel
theorem dX8_comeTo_30 : decode cX8_comeTo 30 = .ok (.getfield 9, 3) := by decide +kernel
theorem dX8_comeTo_33 : decode cX8_comeTo 33 = .ok (.aload_n 0, 1) := by decide +kernel
theorem dX8_comeTo_34 : decode cX8_comeTo 34 = .ok (.getfield 85, 3) := by decide +kernel
theorem dX8_comeTo_37 : decode cX8_comeTo 37 = .ok (.iload_n 1, 1) := by decide +kernel
theorem dX8_comeTo_38 : decode cX8_comeTo 38 = .ok (.iastore, 1) := by decide +kernel
theorem dX8_comeTo_39 : decode cX8_comeTo 39 = .ok (.aload_n 0, 1) := by decide +kernel
theorem dX8_comeTo_40 : decode cX8_comeTo 40 = .ok (.dup, 1) := by decide +kernel
theorem dX8_comeTo_41 : decode cX8_comeTo 41 = .ok (.getfield 85, 3) := by decide +kernel
theorem dX8_comeTo_44 : decode cX8_comeTo 44 = .ok (.iconst 1, 1) := by decide +kernel
theorem dX8_comeTo_45 : decode cX8_comeTo 45 = .ok (.iadd, 1) := by decide +kernel
theorem dX8_comeTo_46 : decode cX8_comeTo 46 = .ok (.putfield 85, 3) := by decide +kernel
theorem dX8_comeTo_49 : decode cX8_comeTo 49 = .ok (.return_, 1) := by decide +kernel
theorem dX8_layWay_0 : decode cX8_layWay 0 = .ok (.iload_n 2, 1) := by decide +kernel
theorem dX8_layWay_1 : decode cX8_layWay 1 = .ok (.istore_n 3, 1) := by decide +kernel
theorem dX8_layWay_2 : decode cX8_layWay 2 = .ok (.iconst 0, 1) := by decide +kernel
theorem dX8_layWay_3 : decode cX8_layWay 3 = .ok (.istore 4, 2) := by decide +kernel
theorem dX8_layWay_5 : decode cX8_layWay 5 = .ok (.iload 4, 2) := by decide +kernel
theorem dX8_layWay_7 : decode cX8_layWay 7 = .ok (.sipush 128, 3) := by decide +kernel
theorem dX8_layWay_10 : decode cX8_layWay 10 = .ok (.if_icmp .ge 140, 3) := by decide +kernel
theorem dX8_layWay_13 : decode cX8_layWay 13 = .ok (.iload_n 3, 1) := by decide +kernel
theorem dX8_layWay_14 : decode cX8_layWay 14 = .ok (.bipush 64, 2) := by decide +kernel
theorem dX8_layWay_16 : decode cX8_layWay 16 = .ok (.iload_n 1, 1) := by decide +kernel
theorem dX8_layWay_17 : decode cX8_layWay 17 = .ok (.iadd, 1) := by decide +kernel
theorem dX8_layWay_18 : decode cX8_layWay 18 = .ok (.if_icmp .eq 132, 3) := by decide +kernel
theorem dX8_layWay_21 : decode cX8_layWay 21 = .ok (.iload_n 3, 1) := by decide +kernel
theorem dX8_layWay_22 : decode cX8_layWay 22 = .ok (.ifCond .lt 128, 3) := by decide +kernel
theorem dX8_layWay_25 : decode cX8_layWay 25 = .ok (.aload_n 0, 1) := by decide +kernel
theorem dX8_layWay_26 : decode cX8_layWay 26 = .ok (.getfield 15, 3) := by decide +kernel
theorem dX8_layWay_29 : decode cX8_layWay 29 = .ok (.iload_n 3, 1) := by decide +kernel
theorem dX8_layWay_30 : decode cX8_layWay 30 = .ok (.iaload, 1) := by decide +kernel
theorem dX8_layWay_31 : decode cX8_layWay 31 = .ok (.istore 5, 2) := by decide +kernel
theorem dX8_layWay_33 : decode cX8_layWay 33 = .ok (.iload 5, 2) := by decide +kernel
theorem dX8_layWay_35 : decode cX8_layWay 35 = .ok (.ifCond .ge 4, 3) := by decide +kernel
theorem dX8_layWay_38 : decode cX8_layWay 38 = .ok (.return_, 1) := by decide +kernel
theorem dX8_layWay_39 : decode cX8_layWay 39 = .ok (.iload_n 3, 1) := by decide +kernel
theorem dX8_layWay_40 : decode cX8_layWay 40 = .ok (.bipush 64, 2) := by decide +kernel
theorem dX8_layWay_42 : decode cX8_layWay 42 = .ok (.irem, 1) := by decide +kernel
theorem dX8_layWay_43 : decode cX8_layWay 43 = .ok (.istore 6, 2) := by decide +kernel
theorem dX8_layWay_45 : decode cX8_layWay 45 = .ok (.iload 5, 2) := by decide +kernel
theorem dX8_layWay_47 : decode cX8_layWay 47 = .ok (.bipush 64, 2) := by decide +kernel
theorem dX8_layWay_49 : decode cX8_layWay 49 = .ok (.irem, 1) := by decide +kernel
theorem dX8_layWay_50 : decode cX8_layWay 50 = .ok (.istore 7, 2) := by decide +kernel
theorem dX8_layWay_52 : decode cX8_layWay 52 = .ok (.iload_n 3, 1) := by decide +kernel
theorem dX8_layWay_53 : decode cX8_layWay 53 = .ok (.bipush 64, 2) := by decide +kernel
theorem dX8_layWay_55 : decode cX8_layWay 55 = .ok (.if_icmp .ge 7, 3) := by decide +kernel
theorem dX8_layWay_58 : decode cX8_layWay 58 = .ok (.iconst 1, 1) := by decide +kernel
theorem dX8_layWay_59 : decode cX8_layWay 59 = .ok (.goto 4, 3) := by decide +kernel
theorem dX8_layWay_62 : decode cX8_layWay 62 = .ok (.iconst 0, 1) := by decide +kernel
theorem dX8_layWay_63 : decode cX8_layWay 63 = .ok (.istore 8, 2) := by decide +kernel
theorem dX8_layWay_65 : decode cX8_layWay 65 = .ok (.iload 6, 2) := by decide +kernel
theorem dX8_layWay_67 : decode cX8_layWay 67 = .ok (.iload 7, 2) := by decide +kernel
theorem dX8_layWay_69 : decode cX8_layWay 69 = .ok (.if_icmp .ne 20, 3) := by decide +kernel
theorem dX8_layWay_72 : decode cX8_layWay 72 = .ok (.aload_n 0, 1) := by decide +kernel
theorem dX8_layWay_73 : decode cX8_layWay 73 = .ok (.dup, 1) := by decide +kernel
theorem dX8_layWay_74 : decode cX8_layWay 74 = .ok (.getfield 70, 3) := by decide +kernel
theorem dX8_layWay_77 : decode cX8_layWay 77 = .ok (.iload 6, 2) := by decide +kernel
theorem dX8_layWay_79 : decode cX8_layWay 79 = .ok (.invokestatic 35, 3) := by decide +kernel
theorem dX8_layWay_82 : decode cX8_layWay 82 = .ok (.lxor, 1) := by decide +kernel
theorem dX8_layWay_83 : decode cX8_layWay 83 = .ok (.putfield 70, 3) := by decide +kernel
theorem dX8_layWay_86 : decode cX8_layWay 86 = .ok (.goto 55, 3) := by decide +kernel
theorem dX8_layWay_89 : decode cX8_layWay 89 = .ok (.iload 8, 2) := by decide +kernel
theorem dX8_layWay_91 : decode cX8_layWay 91 = .ok (.ifCond .eq 26, 3) := by decide +kernel
theorem dX8_layWay_94 : decode cX8_layWay 94 = .ok (.aload_n 0, 1) := by decide +kernel
theorem dX8_layWay_95 : decode cX8_layWay 95 = .ok (.getfield 18, 3) := by decide +kernel
theorem dX8_layWay_98 : decode cX8_layWay 98 = .ok (.iload 7, 2) := by decide +kernel
theorem dX8_layWay_100 : decode cX8_layWay 100 = .ok (.iload 6, 2) := by decide +kernel
theorem dX8_layWay_102 : decode cX8_layWay 102 = .ok (.invokestatic 100, 3) := by decide +kernel
theorem dX8_layWay_105 : decode cX8_layWay 105 = .ok (.dup2, 1) := by decide +kernel
theorem dX8_layWay_106 : decode cX8_layWay 106 = .ok (.laload, 1) := by decide +kernel
theorem dX8_layWay_107 : decode cX8_layWay 107 = .ok (.iload 7, 2) := by decide +kernel
theorem dX8_layWay_109 : decode cX8_layWay 109 = .ok (.invokestatic 35, 3) := by decide +kernel
theorem dX8_layWay_112 : decode cX8_layWay 112 = .ok (.lor, 1) := by decide +kernel
theorem dX8_layWay_113 : decode cX8_layWay 113 = .ok (.lastore, 1) := by decide +kernel
theorem dX8_layWay_114 : decode cX8_layWay 114 = .ok (.goto 27, 3) := by decide +kernel
theorem dX8_layWay_117 : decode cX8_layWay 117 = .ok (.aload_n 0, 1) := by decide +kernel
theorem dX8_layWay_118 : decode cX8_layWay 118 = .ok (.getfield 18, 3) := by decide +kernel
theorem dX8_layWay_121 : decode cX8_layWay 121 = .ok (.iload 6, 2) := by decide +kernel
theorem dX8_layWay_123 : decode cX8_layWay 123 = .ok (.iload 7, 2) := by decide +kernel
theorem dX8_layWay_125 : decode cX8_layWay 125 = .ok (.invokestatic 100, 3) := by decide +kernel
theorem dX8_layWay_128 : decode cX8_layWay 128 = .ok (.dup2, 1) := by decide +kernel
theorem dX8_layWay_129 : decode cX8_layWay 129 = .ok (.laload, 1) := by decide +kernel
theorem dX8_layWay_130 : decode cX8_layWay 130 = .ok (.iload 6, 2) := by decide +kernel
theorem dX8_layWay_132 : decode cX8_layWay 132 = .ok (.invokestatic 35, 3) := by decide +kernel
theorem dX8_layWay_135 : decode cX8_layWay 135 = .ok (.ldc2_w 51, 3) := by decide +kernel
theorem dX8_layWay_138 : decode cX8_layWay 138 = .ok (.lxor, 1) := by decide +kernel
theorem dX8_layWay_139 : decode cX8_layWay 139 = .ok (.land, 1) := by decide +kernel
theorem dX8_layWay_140 : decode cX8_layWay 140 = .ok (.lastore, 1) := by decide +kernel
theorem dX8_layWay_141 : decode cX8_layWay 141 = .ok (.iload 5, 2) := by decide +kernel
theorem dX8_layWay_143 : decode cX8_layWay 143 = .ok (.istore_n 3, 1) := by decide +kernel
theorem dX8_layWay_144 : decode cX8_layWay 144 = .ok (.iinc 4 1, 3) := by decide +kernel
theorem dX8_layWay_147 : decode cX8_layWay 147 = .ok (.goto (-142), 3) := by decide +kernel
theorem dX8_layWay_150 : decode cX8_layWay 150 = .ok (.return_, 1) := by decide +kernel
theorem dX8_directionOf_0 : decode cX8_directionOf 0 = .ok (.iload_n 1, 1) := by decide +kernel
theorem dX8_directionOf_1 : decode cX8_directionOf 1 = .ok (.iload_n 0, 1) := by decide +kernel
theorem dX8_directionOf_2 : decode cX8_directionOf 2 = .ok (.isub, 1) := by decide +kernel
theorem dX8_directionOf_3 : decode cX8_directionOf 3 = .ok (.lookupswitch 39 #[(-8, 33), (1, 35), (8, 37)], 33) := by decide +kernel
theorem dX8_directionOf_36 : decode cX8_directionOf 36 = .ok (.iconst 0, 1) := by decide +kernel
theorem dX8_directionOf_37 : decode cX8_directionOf 37 = .ok (.ireturn, 1) := by decide +kernel
theorem dX8_directionOf_38 : decode cX8_directionOf 38 = .ok (.iconst 1, 1) := by decide +kernel
theorem dX8_directionOf_39 : decode cX8_directionOf 39 = .ok (.ireturn, 1) := by decide +kernel
theorem dX8_directionOf_40 : decode cX8_directionOf 40 = .ok (.iconst 2, 1) := by decide +kernel
theorem dX8_directionOf_41 : decode cX8_directionOf 41 = .ok (.ireturn, 1) := by decide +kernel
theorem dX8_directionOf_42 : decode cX8_directionOf 42 = .ok (.iconst 3, 1) := by decide +kernel
theorem dX8_directionOf_43 : decode cX8_directionOf 43 = .ok (.ireturn, 1) := by decide +kernel
theorem dX8_shortestVisit_0 : decode cX8_shortestVisit 0 = .ok (.aload_n 1, 1) := by decide +kernel
theorem dX8_shortestVisit_1 : decode cX8_shortestVisit 1 = .ok (.getfield 103, 3) := by decide +kernel
theorem dX8_shortestVisit_4 : decode cX8_shortestVisit 4 = .ok (.istore_n 3, 1) := by decide +kernel
theorem dX8_shortestVisit_5 : decode cX8_shortestVisit 5 = .ok (.aload_n 0, 1) := by decide +kernel
theorem dX8_shortestVisit_6 : decode cX8_shortestVisit 6 = .ok (.aload_n 1, 1) := by decide +kernel
theorem dX8_shortestVisit_7 : decode cX8_shortestVisit 7 = .ok (.iload_n 2, 1) := by decide +kernel
theorem dX8_shortestVisit_8 : decode cX8_shortestVisit 8 = .ok (.invokevirtual 108, 3) := by decide +kernel
theorem dX8_shortestVisit_11 : decode cX8_shortestVisit 11 = .ok (.ifCond .ne 5, 3) := by decide +kernel
theorem dX8_shortestVisit_14 : decode cX8_shortestVisit 14 = .ok (.iconst (-1), 1) := by decide +kernel
theorem dX8_shortestVisit_15 : decode cX8_shortestVisit 15 = .ok (.ireturn, 1) := by decide +kernel
theorem dX8_shortestVisit_16 : decode cX8_shortestVisit 16 = .ok (.iload_n 3, 1) := by decide +kernel
theorem dX8_shortestVisit_17 : decode cX8_shortestVisit 17 = .ok (.ifCond .ne 5, 3) := by decide +kernel
theorem dX8_shortestVisit_20 : decode cX8_shortestVisit 20 = .ok (.iconst 0, 1) := by decide +kernel
theorem dX8_shortestVisit_21 : decode cX8_shortestVisit 21 = .ok (.ireturn, 1) := by decide +kernel
theorem dX8_shortestVisit_22 : decode cX8_shortestVisit 22 = .ok (.iconst 1, 1) := by decide +kernel
theorem dX8_shortestVisit_23 : decode cX8_shortestVisit 23 = .ok (.istore 4, 2) := by decide +kernel
theorem dX8_shortestVisit_25 : decode cX8_shortestVisit 25 = .ok (.iload 4, 2) := by decide +kernel
theorem dX8_shortestVisit_27 : decode cX8_shortestVisit 27 = .ok (.iconst 1, 1) := by decide +kernel
theorem dX8_shortestVisit_28 : decode cX8_shortestVisit 28 = .ok (.iload_n 3, 1) := by decide +kernel
theorem dX8_shortestVisit_29 : decode cX8_shortestVisit 29 = .ok (.ishl, 1) := by decide +kernel
theorem dX8_shortestVisit_30 : decode cX8_shortestVisit 30 = .ok (.if_icmp .ge 56, 3) := by decide +kernel
theorem dX8_shortestVisit_33 : decode cX8_shortestVisit 33 = .ok (.iconst 0, 1) := by decide +kernel
theorem dX8_shortestVisit_34 : decode cX8_shortestVisit 34 = .ok (.istore 5, 2) := by decide +kernel
theorem dX8_shortestVisit_36 : decode cX8_shortestVisit 36 = .ok (.iload 5, 2) := by decide +kernel
theorem dX8_shortestVisit_38 : decode cX8_shortestVisit 38 = .ok (.iload_n 3, 1) := by decide +kernel
theorem dX8_shortestVisit_39 : decode cX8_shortestVisit 39 = .ok (.if_icmp .ge 41, 3) := by decide +kernel
theorem dX8_shortestVisit_42 : decode cX8_shortestVisit 42 = .ok (.iload 4, 2) := by decide +kernel
theorem dX8_shortestVisit_44 : decode cX8_shortestVisit 44 = .ok (.iload 5, 2) := by decide +kernel
theorem dX8_shortestVisit_46 : decode cX8_shortestVisit 46 = .ok (.ishr, 1) := by decide +kernel
theorem dX8_shortestVisit_47 : decode cX8_shortestVisit 47 = .ok (.iconst 1, 1) := by decide +kernel
theorem dX8_shortestVisit_48 : decode cX8_shortestVisit 48 = .ok (.iand, 1) := by decide +kernel
theorem dX8_shortestVisit_49 : decode cX8_shortestVisit 49 = .ok (.ifCond .eq 25, 3) := by decide +kernel
theorem dX8_shortestVisit_52 : decode cX8_shortestVisit 52 = .ok (.aload_n 0, 1) := by decide +kernel
theorem dX8_shortestVisit_53 : decode cX8_shortestVisit 53 = .ok (.getfield 28, 3) := by decide +kernel
theorem dX8_shortestVisit_56 : decode cX8_shortestVisit 56 = .ok (.iload 4, 2) := by decide +kernel
theorem dX8_shortestVisit_58 : decode cX8_shortestVisit 58 = .ok (.bipush 6, 2) := by decide +kernel
theorem dX8_shortestVisit_60 : decode cX8_shortestVisit 60 = .ok (.imul, 1) := by decide +kernel
theorem dX8_shortestVisit_61 : decode cX8_shortestVisit 61 = .ok (.iload 5, 2) := by decide +kernel
theorem dX8_shortestVisit_63 : decode cX8_shortestVisit 63 = .ok (.iadd, 1) := by decide +kernel
theorem dX8_shortestVisit_64 : decode cX8_shortestVisit 64 = .ok (.aload_n 0, 1) := by decide +kernel
theorem dX8_shortestVisit_65 : decode cX8_shortestVisit 65 = .ok (.iload 4, 2) := by decide +kernel
theorem dX8_shortestVisit_67 : decode cX8_shortestVisit 67 = .ok (.iload 5, 2) := by decide +kernel
theorem dX8_shortestVisit_69 : decode cX8_shortestVisit 69 = .ok (.iload_n 3, 1) := by decide +kernel
theorem dX8_shortestVisit_70 : decode cX8_shortestVisit 70 = .ok (.invokevirtual 112, 3) := by decide +kernel
theorem dX8_shortestVisit_73 : decode cX8_shortestVisit 73 = .ok (.iastore, 1) := by decide +kernel
theorem dX8_shortestVisit_74 : decode cX8_shortestVisit 74 = .ok (.iinc 5 1, 3) := by decide +kernel
theorem dX8_shortestVisit_77 : decode cX8_shortestVisit 77 = .ok (.goto (-41), 3) := by decide +kernel
theorem dX8_shortestVisit_80 : decode cX8_shortestVisit 80 = .ok (.iinc 4 1, 3) := by decide +kernel
theorem dX8_shortestVisit_83 : decode cX8_shortestVisit 83 = .ok (.goto (-58), 3) := by decide +kernel
theorem dX8_shortestVisit_86 : decode cX8_shortestVisit 86 = .ok (.aload_n 0, 1) := by decide +kernel
theorem dX8_shortestVisit_87 : decode cX8_shortestVisit 87 = .ok (.getfield 28, 3) := by decide +kernel
theorem dX8_shortestVisit_90 : decode cX8_shortestVisit 90 = .ok (.iconst 1, 1) := by decide +kernel
theorem dX8_shortestVisit_91 : decode cX8_shortestVisit 91 = .ok (.iload_n 3, 1) := by decide +kernel
theorem dX8_shortestVisit_92 : decode cX8_shortestVisit 92 = .ok (.ishl, 1) := by decide +kernel
theorem dX8_shortestVisit_93 : decode cX8_shortestVisit 93 = .ok (.iconst 1, 1) := by decide +kernel
theorem dX8_shortestVisit_94 : decode cX8_shortestVisit 94 = .ok (.isub, 1) := by decide +kernel
theorem dX8_shortestVisit_95 : decode cX8_shortestVisit 95 = .ok (.bipush 6, 2) := by decide +kernel
theorem dX8_shortestVisit_97 : decode cX8_shortestVisit 97 = .ok (.imul, 1) := by decide +kernel
theorem dX8_shortestVisit_98 : decode cX8_shortestVisit 98 = .ok (.iaload, 1) := by decide +kernel
theorem dX8_shortestVisit_99 : decode cX8_shortestVisit 99 = .ok (.istore 4, 2) := by decide +kernel
theorem dX8_shortestVisit_101 : decode cX8_shortestVisit 101 = .ok (.iconst 1, 1) := by decide +kernel
theorem dX8_shortestVisit_102 : decode cX8_shortestVisit 102 = .ok (.istore 5, 2) := by decide +kernel
theorem dX8_shortestVisit_104 : decode cX8_shortestVisit 104 = .ok (.iload 5, 2) := by decide +kernel
theorem dX8_shortestVisit_106 : decode cX8_shortestVisit 106 = .ok (.iload_n 3, 1) := by decide +kernel
theorem dX8_shortestVisit_107 : decode cX8_shortestVisit 107 = .ok (.if_icmp .ge 32, 3) := by decide +kernel
theorem dX8_shortestVisit_110 : decode cX8_shortestVisit 110 = .ok (.iload 4, 2) := by decide +kernel
theorem dX8_shortestVisit_112 : decode cX8_shortestVisit 112 = .ok (.aload_n 0, 1) := by decide +kernel
theorem dX8_shortestVisit_113 : decode cX8_shortestVisit 113 = .ok (.getfield 28, 3) := by decide +kernel
theorem dX8_shortestVisit_116 : decode cX8_shortestVisit 116 = .ok (.iconst 1, 1) := by decide +kernel
theorem dX8_shortestVisit_117 : decode cX8_shortestVisit 117 = .ok (.iload_n 3, 1) := by decide +kernel
theorem dX8_shortestVisit_118 : decode cX8_shortestVisit 118 = .ok (.ishl, 1) := by decide +kernel
theorem dX8_shortestVisit_119 : decode cX8_shortestVisit 119 = .ok (.iconst 1, 1) := by decide +kernel
theorem dX8_shortestVisit_120 : decode cX8_shortestVisit 120 = .ok (.isub, 1) := by decide +kernel
theorem dX8_shortestVisit_121 : decode cX8_shortestVisit 121 = .ok (.bipush 6, 2) := by decide +kernel
theorem dX8_shortestVisit_123 : decode cX8_shortestVisit 123 = .ok (.imul, 1) := by decide +kernel
theorem dX8_shortestVisit_124 : decode cX8_shortestVisit 124 = .ok (.iload 5, 2) := by decide +kernel
theorem dX8_shortestVisit_126 : decode cX8_shortestVisit 126 = .ok (.iadd, 1) := by decide +kernel
theorem dX8_shortestVisit_127 : decode cX8_shortestVisit 127 = .ok (.iaload, 1) := by decide +kernel
theorem dX8_shortestVisit_128 : decode cX8_shortestVisit 128 = .ok (.invokestatic 116, 3) := by decide +kernel
theorem dX8_shortestVisit_131 : decode cX8_shortestVisit 131 = .ok (.istore 4, 2) := by decide +kernel
theorem dX8_shortestVisit_133 : decode cX8_shortestVisit 133 = .ok (.iinc 5 1, 3) := by decide +kernel
theorem dX8_shortestVisit_136 : decode cX8_shortestVisit 136 = .ok (.goto (-32), 3) := by decide +kernel
theorem dX8_shortestVisit_139 : decode cX8_shortestVisit 139 = .ok (.iload 4, 2) := by decide +kernel
theorem dX8_shortestVisit_141 : decode cX8_shortestVisit 141 = .ok (.ireturn, 1) := by decide +kernel
theorem dX8_measure_0 : decode cX8_measure 0 = .ok (.aload_n 1, 1) := by decide +kernel
theorem dX8_measure_1 : decode cX8_measure 1 = .ok (.invokevirtual 119, 3) := by decide +kernel
theorem dX8_measure_4 : decode cX8_measure 4 = .ok (.lstore_n 3, 1) := by decide +kernel
theorem dX8_measure_5 : decode cX8_measure 5 = .ok (.aload_n 1, 1) := by decide +kernel
theorem dX8_measure_6 : decode cX8_measure 6 = .ok (.getfield 103, 3) := by decide +kernel
theorem dX8_measure_9 : decode cX8_measure 9 = .ok (.istore 5, 2) := by decide +kernel
theorem dX8_measure_11 : decode cX8_measure 11 = .ok (.aload_n 1, 1) := by decide +kernel
theorem dX8_measure_12 : decode cX8_measure 12 = .ok (.getfield 123, 3) := by decide +kernel
theorem dX8_measure_15 : decode cX8_measure 15 = .ok (.iconst 0, 1) := by decide +kernel
theorem dX8_measure_16 : decode cX8_measure 16 = .ok (.aload_n 0, 1) := by decide +kernel
theorem dX8_measure_17 : decode cX8_measure 17 = .ok (.getfield 22, 3) := by decide +kernel
theorem dX8_measure_20 : decode cX8_measure 20 = .ok (.iconst 0, 1) := by decide +kernel
theorem dX8_measure_21 : decode cX8_measure 21 = .ok (.iload 5, 2) := by decide +kernel
theorem dX8_measure_23 : decode cX8_measure 23 = .ok (.invokestatic 126, 3) := by decide +kernel
theorem dX8_measure_26 : decode cX8_measure 26 = .ok (.aload_n 0, 1) := by decide +kernel
theorem dX8_measure_27 : decode cX8_measure 27 = .ok (.getfield 22, 3) := by decide +kernel
theorem dX8_measure_30 : decode cX8_measure 30 = .ok (.iload 5, 2) := by decide +kernel
theorem dX8_measure_32 : decode cX8_measure 32 = .ok (.iload_n 2, 1) := by decide +kernel
theorem dX8_measure_33 : decode cX8_measure 33 = .ok (.iastore, 1) := by decide +kernel
theorem dX8_measure_34 : decode cX8_measure 34 = .ok (.iconst 0, 1) := by decide +kernel
theorem dX8_measure_35 : decode cX8_measure 35 = .ok (.istore 6, 2) := by decide +kernel
theorem dX8_measure_37 : decode cX8_measure 37 = .ok (.iload 6, 2) := by decide +kernel
theorem dX8_measure_39 : decode cX8_measure 39 = .ok (.iload 5, 2) := by decide +kernel
theorem dX8_measure_41 : decode cX8_measure 41 = .ok (.if_icmp .gt 90, 3) := by decide +kernel
theorem dX8_measure_44 : decode cX8_measure 44 = .ok (.iconst 0, 1) := by decide +kernel
theorem dX8_measure_45 : decode cX8_measure 45 = .ok (.istore 7, 2) := by decide +kernel
theorem dX8_measure_47 : decode cX8_measure 47 = .ok (.iload 7, 2) := by decide +kernel
theorem dX8_measure_49 : decode cX8_measure 49 = .ok (.iload 6, 2) := by decide +kernel
theorem dX8_measure_51 : decode cX8_measure 51 = .ok (.if_icmp .gt 74, 3) := by decide +kernel
theorem dX8_measure_54 : decode cX8_measure 54 = .ok (.aload_n 0, 1) := by decide +kernel
theorem dX8_measure_55 : decode cX8_measure 55 = .ok (.lload_n 3, 1) := by decide +kernel
theorem dX8_measure_56 : decode cX8_measure 56 = .ok (.aload_n 0, 1) := by decide +kernel
theorem dX8_measure_57 : decode cX8_measure 57 = .ok (.getfield 22, 3) := by decide +kernel
theorem dX8_measure_60 : decode cX8_measure 60 = .ok (.iload 6, 2) := by decide +kernel
theorem dX8_measure_62 : decode cX8_measure 62 = .ok (.iaload, 1) := by decide +kernel
theorem dX8_measure_63 : decode cX8_measure 63 = .ok (.aload_n 0, 1) := by decide +kernel
theorem dX8_measure_64 : decode cX8_measure 64 = .ok (.getfield 22, 3) := by decide +kernel
theorem dX8_measure_67 : decode cX8_measure 67 = .ok (.iload 7, 2) := by decide +kernel
theorem dX8_measure_69 : decode cX8_measure 69 = .ok (.iaload, 1) := by decide +kernel
theorem dX8_measure_70 : decode cX8_measure 70 = .ok (.invokevirtual 132, 3) := by decide +kernel
theorem dX8_measure_73 : decode cX8_measure 73 = .ok (.istore 8, 2) := by decide +kernel
theorem dX8_measure_75 : decode cX8_measure 75 = .ok (.iload 8, 2) := by decide +kernel
theorem dX8_measure_77 : decode cX8_measure 77 = .ok (.iconst (-1), 1) := by decide +kernel
theorem dX8_measure_78 : decode cX8_measure 78 = .ok (.if_icmp .ne 5, 3) := by decide +kernel
theorem dX8_measure_81 : decode cX8_measure 81 = .ok (.iconst 0, 1) := by decide +kernel
theorem dX8_measure_82 : decode cX8_measure 82 = .ok (.ireturn, 1) := by decide +kernel
theorem dX8_measure_83 : decode cX8_measure 83 = .ok (.aload_n 0, 1) := by decide +kernel
theorem dX8_measure_84 : decode cX8_measure 84 = .ok (.getfield 25, 3) := by decide +kernel
theorem dX8_measure_87 : decode cX8_measure 87 = .ok (.iload 6, 2) := by decide +kernel
theorem dX8_measure_89 : decode cX8_measure 89 = .ok (.aload_n 0, 1) := by decide +kernel
theorem dX8_measure_90 : decode cX8_measure 90 = .ok (.getfield 22, 3) := by decide +kernel
theorem dX8_measure_93 : decode cX8_measure 93 = .ok (.arraylength, 1) := by decide +kernel
theorem dX8_measure_94 : decode cX8_measure 94 = .ok (.imul, 1) := by decide +kernel
theorem dX8_measure_95 : decode cX8_measure 95 = .ok (.iload 7, 2) := by decide +kernel
theorem dX8_measure_97 : decode cX8_measure 97 = .ok (.iadd, 1) := by decide +kernel
theorem dX8_measure_98 : decode cX8_measure 98 = .ok (.iload 8, 2) := by decide +kernel
theorem dX8_measure_100 : decode cX8_measure 100 = .ok (.iastore, 1) := by decide +kernel
theorem dX8_measure_101 : decode cX8_measure 101 = .ok (.aload_n 0, 1) := by decide +kernel
theorem dX8_measure_102 : decode cX8_measure 102 = .ok (.getfield 25, 3) := by decide +kernel
theorem dX8_measure_105 : decode cX8_measure 105 = .ok (.iload 7, 2) := by decide +kernel
theorem dX8_measure_107 : decode cX8_measure 107 = .ok (.aload_n 0, 1) := by decide +kernel
theorem dX8_measure_108 : decode cX8_measure 108 = .ok (.getfield 22, 3) := by decide +kernel
theorem dX8_measure_111 : decode cX8_measure 111 = .ok (.arraylength, 1) := by decide +kernel
theorem dX8_measure_112 : decode cX8_measure 112 = .ok (.imul, 1) := by decide +kernel
theorem dX8_measure_113 : decode cX8_measure 113 = .ok (.iload 6, 2) := by decide +kernel
theorem dX8_measure_115 : decode cX8_measure 115 = .ok (.iadd, 1) := by decide +kernel
theorem dX8_measure_116 : decode cX8_measure 116 = .ok (.iload 8, 2) := by decide +kernel
theorem dX8_measure_118 : decode cX8_measure 118 = .ok (.iastore, 1) := by decide +kernel
theorem dX8_measure_119 : decode cX8_measure 119 = .ok (.iinc 7 1, 3) := by decide +kernel
theorem dX8_measure_122 : decode cX8_measure 122 = .ok (.goto (-75), 3) := by decide +kernel
theorem dX8_measure_125 : decode cX8_measure 125 = .ok (.iinc 6 1, 3) := by decide +kernel
theorem dX8_measure_128 : decode cX8_measure 128 = .ok (.goto (-91), 3) := by decide +kernel
theorem dX8_measure_131 : decode cX8_measure 131 = .ok (.iconst 1, 1) := by decide +kernel
theorem dX8_measure_132 : decode cX8_measure 132 = .ok (.ireturn, 1) := by decide +kernel
theorem dX8_shortestTo_0 : decode cX8_shortestTo 0 = .ok (.iload_n 1, 1) := by decide +kernel
theorem dX8_shortestTo_1 : decode cX8_shortestTo 1 = .ok (.iconst 1, 1) := by decide +kernel
theorem dX8_shortestTo_2 : decode cX8_shortestTo 2 = .ok (.iload_n 2, 1) := by decide +kernel
theorem dX8_shortestTo_3 : decode cX8_shortestTo 3 = .ok (.ishl, 1) := by decide +kernel
theorem dX8_shortestTo_4 : decode cX8_shortestTo 4 = .ok (.iconst (-1), 1) := by decide +kernel
theorem dX8_shortestTo_5 : decode cX8_shortestTo 5 = .ok (.ixor, 1) := by decide +kernel
theorem dX8_shortestTo_6 : decode cX8_shortestTo 6 = .ok (.iand, 1) := by decide +kernel
theorem dX8_shortestTo_7 : decode cX8_shortestTo 7 = .ok (.istore 4, 2) := by decide +kernel
theorem dX8_shortestTo_9 : decode cX8_shortestTo 9 = .ok (.iload 4, 2) := by decide +kernel
theorem dX8_shortestTo_11 : decode cX8_shortestTo 11 = .ok (.ifCond .ne 18, 3) := by decide +kernel
theorem dX8_shortestTo_14 : decode cX8_shortestTo 14 = .ok (.aload_n 0, 1) := by decide +kernel
theorem dX8_shortestTo_15 : decode cX8_shortestTo 15 = .ok (.getfield 25, 3) := by decide +kernel
theorem dX8_shortestTo_18 : decode cX8_shortestTo 18 = .ok (.iload_n 3, 1) := by decide +kernel
theorem dX8_shortestTo_19 : decode cX8_shortestTo 19 = .ok (.aload_n 0, 1) := by decide +kernel
theorem dX8_shortestTo_20 : decode cX8_shortestTo 20 = .ok (.getfield 22, 3) := by decide +kernel
theorem dX8_shortestTo_23 : decode cX8_shortestTo 23 = .ok (.arraylength, 1) := by decide +kernel
theorem dX8_shortestTo_24 : decode cX8_shortestTo 24 = .ok (.imul, 1) := by decide +kernel
theorem dX8_shortestTo_25 : decode cX8_shortestTo 25 = .ok (.iload_n 2, 1) := by decide +kernel
theorem dX8_shortestTo_26 : decode cX8_shortestTo 26 = .ok (.iadd, 1) := by decide +kernel
theorem dX8_shortestTo_27 : decode cX8_shortestTo 27 = .ok (.iaload, 1) := by decide +kernel
theorem dX8_shortestTo_28 : decode cX8_shortestTo 28 = .ok (.ireturn, 1) := by decide +kernel
theorem dX8_shortestTo_29 : decode cX8_shortestTo 29 = .ok (.iconst (-1), 1) := by decide +kernel
theorem dX8_shortestTo_30 : decode cX8_shortestTo 30 = .ok (.istore 5, 2) := by decide +kernel
theorem dX8_shortestTo_32 : decode cX8_shortestTo 32 = .ok (.iconst 0, 1) := by decide +kernel
theorem dX8_shortestTo_33 : decode cX8_shortestTo 33 = .ok (.istore 6, 2) := by decide +kernel
theorem dX8_shortestTo_35 : decode cX8_shortestTo 35 = .ok (.iload 6, 2) := by decide +kernel
theorem dX8_shortestTo_37 : decode cX8_shortestTo 37 = .ok (.iload_n 3, 1) := by decide +kernel
theorem dX8_shortestTo_38 : decode cX8_shortestTo 38 = .ok (.if_icmp .ge 70, 3) := by decide +kernel
theorem dX8_shortestTo_41 : decode cX8_shortestTo 41 = .ok (.iload 4, 2) := by decide +kernel
theorem dX8_shortestTo_43 : decode cX8_shortestTo 43 = .ok (.iload 6, 2) := by decide +kernel
theorem dX8_shortestTo_45 : decode cX8_shortestTo 45 = .ok (.ishr, 1) := by decide +kernel
theorem dX8_shortestTo_46 : decode cX8_shortestTo 46 = .ok (.iconst 1, 1) := by decide +kernel
theorem dX8_shortestTo_47 : decode cX8_shortestTo 47 = .ok (.iand, 1) := by decide +kernel
theorem dX8_shortestTo_48 : decode cX8_shortestTo 48 = .ok (.ifCond .eq 54, 3) := by decide +kernel
theorem dX8_shortestTo_51 : decode cX8_shortestTo 51 = .ok (.aload_n 0, 1) := by decide +kernel
theorem dX8_shortestTo_52 : decode cX8_shortestTo 52 = .ok (.getfield 28, 3) := by decide +kernel
theorem dX8_shortestTo_55 : decode cX8_shortestTo 55 = .ok (.iload 4, 2) := by decide +kernel
theorem dX8_shortestTo_57 : decode cX8_shortestTo 57 = .ok (.bipush 6, 2) := by decide +kernel
theorem dX8_shortestTo_59 : decode cX8_shortestTo 59 = .ok (.imul, 1) := by decide +kernel
theorem dX8_shortestTo_60 : decode cX8_shortestTo 60 = .ok (.iload 6, 2) := by decide +kernel
theorem dX8_shortestTo_62 : decode cX8_shortestTo 62 = .ok (.iadd, 1) := by decide +kernel
theorem dX8_shortestTo_63 : decode cX8_shortestTo 63 = .ok (.iaload, 1) := by decide +kernel
theorem dX8_shortestTo_64 : decode cX8_shortestTo 64 = .ok (.aload_n 0, 1) := by decide +kernel
theorem dX8_shortestTo_65 : decode cX8_shortestTo 65 = .ok (.getfield 25, 3) := by decide +kernel
theorem dX8_shortestTo_68 : decode cX8_shortestTo 68 = .ok (.iload 6, 2) := by decide +kernel
theorem dX8_shortestTo_70 : decode cX8_shortestTo 70 = .ok (.aload_n 0, 1) := by decide +kernel
theorem dX8_shortestTo_71 : decode cX8_shortestTo 71 = .ok (.getfield 22, 3) := by decide +kernel
theorem dX8_shortestTo_74 : decode cX8_shortestTo 74 = .ok (.arraylength, 1) := by decide +kernel
theorem dX8_shortestTo_75 : decode cX8_shortestTo 75 = .ok (.imul, 1) := by decide +kernel
theorem dX8_shortestTo_76 : decode cX8_shortestTo 76 = .ok (.iload_n 2, 1) := by decide +kernel
theorem dX8_shortestTo_77 : decode cX8_shortestTo 77 = .ok (.iadd, 1) := by decide +kernel
theorem dX8_shortestTo_78 : decode cX8_shortestTo 78 = .ok (.iaload, 1) := by decide +kernel
theorem dX8_shortestTo_79 : decode cX8_shortestTo 79 = .ok (.iadd, 1) := by decide +kernel
theorem dX8_shortestTo_80 : decode cX8_shortestTo 80 = .ok (.istore 7, 2) := by decide +kernel
theorem dX8_shortestTo_82 : decode cX8_shortestTo 82 = .ok (.iload 5, 2) := by decide +kernel
theorem dX8_shortestTo_84 : decode cX8_shortestTo 84 = .ok (.iconst (-1), 1) := by decide +kernel
theorem dX8_shortestTo_85 : decode cX8_shortestTo 85 = .ok (.if_icmp .ne 8, 3) := by decide +kernel
theorem dX8_shortestTo_88 : decode cX8_shortestTo 88 = .ok (.iload 7, 2) := by decide +kernel
theorem dX8_shortestTo_90 : decode cX8_shortestTo 90 = .ok (.goto 10, 3) := by decide +kernel
theorem dX8_shortestTo_93 : decode cX8_shortestTo 93 = .ok (.iload 5, 2) := by decide +kernel
theorem dX8_shortestTo_95 : decode cX8_shortestTo 95 = .ok (.iload 7, 2) := by decide +kernel
theorem dX8_shortestTo_97 : decode cX8_shortestTo 97 = .ok (.invokestatic 116, 3) := by decide +kernel
theorem dX8_shortestTo_100 : decode cX8_shortestTo 100 = .ok (.istore 5, 2) := by decide +kernel
theorem dX8_shortestTo_102 : decode cX8_shortestTo 102 = .ok (.iinc 6 1, 3) := by decide +kernel
theorem dX8_shortestTo_105 : decode cX8_shortestTo 105 = .ok (.goto (-70), 3) := by decide +kernel
theorem dX8_shortestTo_108 : decode cX8_shortestTo 108 = .ok (.iload 5, 2) := by decide +kernel
theorem dX8_shortestTo_110 : decode cX8_shortestTo 110 = .ok (.ireturn, 1) := by decide +kernel
theorem dX9_init_0 : decode cX9_init 0 = .ok (.aload_n 0, 1) := by decide +kernel
theorem dX9_init_1 : decode cX9_init 1 = .ok (.invokespecial 3, 3) := by decide +kernel
theorem dX9_init_4 : decode cX9_init 4 = .ok (.aload_n 0, 1) := by decide +kernel
theorem dX9_init_5 : decode cX9_init 5 = .ok (.sipush 600, 3) := by decide +kernel
theorem dX9_init_8 : decode cX9_init 8 = .ok (.newarray .byte, 2) := by decide +kernel
theorem dX9_init_10 : decode cX9_init 10 = .ok (.putfield 9, 3) := by decide +kernel
theorem dX9_init_13 : decode cX9_init 13 = .ok (.aload_n 0, 1) := by decide +kernel
theorem dX9_init_14 : decode cX9_init 14 = .ok (.iconst (-1), 1) := by decide +kernel
theorem dX9_init_15 : decode cX9_init 15 = .ok (.putfield 15, 3) := by decide +kernel
theorem dX9_init_18 : decode cX9_init 18 = .ok (.aload_n 0, 1) := by decide +kernel
theorem dX9_init_19 : decode cX9_init 19 = .ok (.iconst 4, 1) := by decide +kernel
theorem dX9_init_20 : decode cX9_init 20 = .ok (.newarray .int, 2) := by decide +kernel
theorem dX9_init_22 : decode cX9_init 22 = .ok (.putfield 19, 3) := by decide +kernel
theorem dX9_init_25 : decode cX9_init 25 = .ok (.aload_n 0, 1) := by decide +kernel
theorem dX9_init_26 : decode cX9_init 26 = .ok (.iconst 2, 1) := by decide +kernel
theorem dX9_init_27 : decode cX9_init 27 = .ok (.anewarray 23, 3) := by decide +kernel
theorem dX9_init_30 : decode cX9_init 30 = .ok (.putfield 25, 3) := by decide +kernel
theorem dX9_init_33 : decode cX9_init 33 = .ok (.aload_n 0, 1) := by decide +kernel
theorem dX9_init_34 : decode cX9_init 34 = .ok (.iconst 2, 1) := by decide +kernel
theorem dX9_init_35 : decode cX9_init 35 = .ok (.anewarray 29, 3) := by decide +kernel
theorem dX9_init_38 : decode cX9_init 38 = .ok (.putfield 31, 3) := by decide +kernel
theorem dX9_init_41 : decode cX9_init 41 = .ok (.aload_n 0, 1) := by decide +kernel
theorem dX9_init_42 : decode cX9_init 42 = .ok (.iconst 2, 1) := by decide +kernel
theorem dX9_init_43 : decode cX9_init 43 = .ok (.anewarray 35, 3) := by decide +kernel
theorem dX9_init_46 : decode cX9_init 46 = .ok (.putfield 37, 3) := by decide +kernel
theorem dX9_init_49 : decode cX9_init 49 = .ok (.aload_n 0, 1) := by decide +kernel
theorem dX9_init_50 : decode cX9_init 50 = .ok (.iconst 2, 1) := by decide +kernel
theorem dX9_init_51 : decode cX9_init 51 = .ok (.anewarray 29, 3) := by decide +kernel
theorem dX9_init_54 : decode cX9_init 54 = .ok (.putfield 41, 3) := by decide +kernel
theorem dX9_init_57 : decode cX9_init 57 = .ok (.iconst 0, 1) := by decide +kernel
theorem dX9_init_58 : decode cX9_init 58 = .ok (.istore_n 1, 1) := by decide +kernel
theorem dX9_init_59 : decode cX9_init 59 = .ok (.iload_n 1, 1) := by decide +kernel
theorem dX9_init_60 : decode cX9_init 60 = .ok (.iconst 2, 1) := by decide +kernel
theorem dX9_init_61 : decode cX9_init 61 = .ok (.if_icmp .ge 61, 3) := by decide +kernel
theorem dX9_init_64 : decode cX9_init 64 = .ok (.aload_n 0, 1) := by decide +kernel
theorem dX9_init_65 : decode cX9_init 65 = .ok (.getfield 25, 3) := by decide +kernel
theorem dX9_init_68 : decode cX9_init 68 = .ok (.iload_n 1, 1) := by decide +kernel
theorem dX9_init_69 : decode cX9_init 69 = .ok (.new 23, 3) := by decide +kernel
theorem dX9_init_72 : decode cX9_init 72 = .ok (.dup, 1) := by decide +kernel
theorem dX9_init_73 : decode cX9_init 73 = .ok (.invokespecial 44, 3) := by decide +kernel
theorem dX9_init_76 : decode cX9_init 76 = .ok (.aastore, 1) := by decide +kernel
theorem dX9_init_77 : decode cX9_init 77 = .ok (.aload_n 0, 1) := by decide +kernel
theorem dX9_init_78 : decode cX9_init 78 = .ok (.getfield 31, 3) := by decide +kernel
theorem dX9_init_81 : decode cX9_init 81 = .ok (.iload_n 1, 1) := by decide +kernel
theorem dX9_init_82 : decode cX9_init 82 = .ok (.new 29, 3) := by decide +kernel
theorem dX9_init_85 : decode cX9_init 85 = .ok (.dup, 1) := by decide +kernel
theorem dX9_init_86 : decode cX9_init 86 = .ok (.invokespecial 45, 3) := by decide +kernel
theorem dX9_init_89 : decode cX9_init 89 = .ok (.aastore, 1) := by decide +kernel
theorem dX9_init_90 : decode cX9_init 90 = .ok (.aload_n 0, 1) := by decide +kernel
theorem dX9_init_91 : decode cX9_init 91 = .ok (.getfield 37, 3) := by decide +kernel
theorem dX9_init_94 : decode cX9_init 94 = .ok (.iload_n 1, 1) := by decide +kernel
theorem dX9_init_95 : decode cX9_init 95 = .ok (.new 35, 3) := by decide +kernel
theorem dX9_init_98 : decode cX9_init 98 = .ok (.dup, 1) := by decide +kernel
theorem dX9_init_99 : decode cX9_init 99 = .ok (.invokespecial 46, 3) := by decide +kernel
theorem dX9_init_102 : decode cX9_init 102 = .ok (.aastore, 1) := by decide +kernel
theorem dX9_init_103 : decode cX9_init 103 = .ok (.aload_n 0, 1) := by decide +kernel
theorem dX9_init_104 : decode cX9_init 104 = .ok (.getfield 41, 3) := by decide +kernel
theorem dX9_init_107 : decode cX9_init 107 = .ok (.iload_n 1, 1) := by decide +kernel
theorem dX9_init_108 : decode cX9_init 108 = .ok (.new 29, 3) := by decide +kernel
theorem dX9_init_111 : decode cX9_init 111 = .ok (.dup, 1) := by decide +kernel
theorem dX9_init_112 : decode cX9_init 112 = .ok (.invokespecial 45, 3) := by decide +kernel
theorem dX9_init_115 : decode cX9_init 115 = .ok (.aastore, 1) := by decide +kernel
theorem dX9_init_116 : decode cX9_init 116 = .ok (.iinc 1 1, 3) := by decide +kernel
theorem dX9_init_119 : decode cX9_init 119 = .ok (.goto (-60), 3) := by decide +kernel
theorem dX9_init_122 : decode cX9_init 122 = .ok (.return_, 1) := by decide +kernel
theorem dX9_take_0 : decode cX9_take 0 = .ok (.aload_n 1, 1) := by decide +kernel
theorem dX9_take_1 : decode cX9_take 1 = .ok (.getfield 9, 3) := by decide +kernel
theorem dX9_take_4 : decode cX9_take 4 = .ok (.iconst 0, 1) := by decide +kernel
theorem dX9_take_5 : decode cX9_take 5 = .ok (.aload_n 0, 1) := by decide +kernel
theorem dX9_take_6 : decode cX9_take 6 = .ok (.getfield 9, 3) := by decide +kernel
theorem dX9_take_9 : decode cX9_take 9 = .ok (.iconst 0, 1) := by decide +kernel
theorem dX9_take_10 : decode cX9_take 10 = .ok (.sipush 600, 3) := by decide +kernel
theorem dX9_take_13 : decode cX9_take 13 = .ok (.invokestatic 47, 3) := by decide +kernel
theorem dX9_take_16 : decode cX9_take 16 = .ok (.aload_n 0, 1) := by decide +kernel
theorem dX9_take_17 : decode cX9_take 17 = .ok (.aload_n 1, 1) := by decide +kernel
theorem dX9_take_18 : decode cX9_take 18 = .ok (.getfield 53, 3) := by decide +kernel
theorem dX9_take_21 : decode cX9_take 21 = .ok (.putfield 53, 3) := by decide +kernel
theorem dX9_take_24 : decode cX9_take 24 = .ok (.aload_n 0, 1) := by decide +kernel
theorem dX9_take_25 : decode cX9_take 25 = .ok (.aload_n 1, 1) := by decide +kernel
theorem dX9_take_26 : decode cX9_take 26 = .ok (.getfield 56, 3) := by decide +kernel
theorem dX9_take_29 : decode cX9_take 29 = .ok (.putfield 56, 3) := by decide +kernel
theorem dX9_take_32 : decode cX9_take 32 = .ok (.aload_n 0, 1) := by decide +kernel
theorem dX9_take_33 : decode cX9_take 33 = .ok (.aload_n 1, 1) := by decide +kernel
theorem dX9_take_34 : decode cX9_take 34 = .ok (.getfield 15, 3) := by decide +kernel
theorem dX9_take_37 : decode cX9_take 37 = .ok (.putfield 15, 3) := by decide +kernel
theorem dX9_take_40 : decode cX9_take 40 = .ok (.aload_n 1, 1) := by decide +kernel
theorem dX9_take_41 : decode cX9_take 41 = .ok (.getfield 19, 3) := by decide +kernel
theorem dX9_take_44 : decode cX9_take 44 = .ok (.iconst 0, 1) := by decide +kernel
theorem dX9_take_45 : decode cX9_take 45 = .ok (.aload_n 0, 1) := by decide +kernel
theorem dX9_take_46 : decode cX9_take 46 = .ok (.getfield 19, 3) := by decide +kernel
theorem dX9_take_49 : decode cX9_take 49 = .ok (.iconst 0, 1) := by decide +kernel
theorem dX9_take_50 : decode cX9_take 50 = .ok (.iconst 4, 1) := by decide +kernel
theorem dX9_take_51 : decode cX9_take 51 = .ok (.invokestatic 47, 3) := by decide +kernel
theorem dX9_take_54 : decode cX9_take 54 = .ok (.iconst 0, 1) := by decide +kernel
theorem dX9_take_55 : decode cX9_take 55 = .ok (.istore_n 2, 1) := by decide +kernel
theorem dX9_take_56 : decode cX9_take 56 = .ok (.iload_n 2, 1) := by decide +kernel
theorem dX9_take_57 : decode cX9_take 57 = .ok (.iconst 2, 1) := by decide +kernel
theorem dX9_take_58 : decode cX9_take 58 = .ok (.if_icmp .ge 69, 3) := by decide +kernel
theorem dX9_take_61 : decode cX9_take 61 = .ok (.aload_n 0, 1) := by decide +kernel
theorem dX9_take_62 : decode cX9_take 62 = .ok (.getfield 25, 3) := by decide +kernel
theorem dX9_take_65 : decode cX9_take 65 = .ok (.iload_n 2, 1) := by decide +kernel
theorem dX9_take_66 : decode cX9_take 66 = .ok (.aaload, 1) := by decide +kernel
theorem dX9_take_67 : decode cX9_take 67 = .ok (.aload_n 1, 1) := by decide +kernel
theorem dX9_take_68 : decode cX9_take 68 = .ok (.getfield 25, 3) := by decide +kernel
theorem dX9_take_71 : decode cX9_take 71 = .ok (.iload_n 2, 1) := by decide +kernel
theorem dX9_take_72 : decode cX9_take 72 = .ok (.aaload, 1) := by decide +kernel
theorem dX9_take_73 : decode cX9_take 73 = .ok (.invokevirtual 59, 3) := by decide +kernel
theorem dX9_take_76 : decode cX9_take 76 = .ok (.aload_n 0, 1) := by decide +kernel
theorem dX9_take_77 : decode cX9_take 77 = .ok (.getfield 31, 3) := by decide +kernel
theorem dX9_take_80 : decode cX9_take 80 = .ok (.iload_n 2, 1) := by decide +kernel
theorem dX9_take_81 : decode cX9_take 81 = .ok (.aaload, 1) := by decide +kernel
theorem dX9_take_82 : decode cX9_take 82 = .ok (.aload_n 1, 1) := by decide +kernel
theorem dX9_take_83 : decode cX9_take 83 = .ok (.getfield 31, 3) := by decide +kernel
theorem dX9_take_86 : decode cX9_take 86 = .ok (.iload_n 2, 1) := by decide +kernel
theorem dX9_take_87 : decode cX9_take 87 = .ok (.aaload, 1) := by decide +kernel
theorem dX9_take_88 : decode cX9_take 88 = .ok (.invokevirtual 63, 3) := by decide +kernel
theorem dX9_take_91 : decode cX9_take 91 = .ok (.aload_n 0, 1) := by decide +kernel
theorem dX9_take_92 : decode cX9_take 92 = .ok (.getfield 37, 3) := by decide +kernel
theorem dX9_take_95 : decode cX9_take 95 = .ok (.iload_n 2, 1) := by decide +kernel
theorem dX9_take_96 : decode cX9_take 96 = .ok (.aaload, 1) := by decide +kernel
theorem dX9_take_97 : decode cX9_take 97 = .ok (.aload_n 1, 1) := by decide +kernel
theorem dX9_take_98 : decode cX9_take 98 = .ok (.getfield 37, 3) := by decide +kernel
theorem dX9_take_101 : decode cX9_take 101 = .ok (.iload_n 2, 1) := by decide +kernel
theorem dX9_take_102 : decode cX9_take 102 = .ok (.aaload, 1) := by decide +kernel
theorem dX9_take_103 : decode cX9_take 103 = .ok (.invokevirtual 66, 3) := by decide +kernel
theorem dX9_take_106 : decode cX9_take 106 = .ok (.aload_n 0, 1) := by decide +kernel
theorem dX9_take_107 : decode cX9_take 107 = .ok (.getfield 41, 3) := by decide +kernel
theorem dX9_take_110 : decode cX9_take 110 = .ok (.iload_n 2, 1) := by decide +kernel
theorem dX9_take_111 : decode cX9_take 111 = .ok (.aaload, 1) := by decide +kernel
theorem dX9_take_112 : decode cX9_take 112 = .ok (.aload_n 1, 1) := by decide +kernel
theorem dX9_take_113 : decode cX9_take 113 = .ok (.getfield 41, 3) := by decide +kernel
theorem dX9_take_116 : decode cX9_take 116 = .ok (.iload_n 2, 1) := by decide +kernel
theorem dX9_take_117 : decode cX9_take 117 = .ok (.aaload, 1) := by decide +kernel
theorem dX9_take_118 : decode cX9_take 118 = .ok (.invokevirtual 63, 3) := by decide +kernel
theorem dX9_take_121 : decode cX9_take 121 = .ok (.iinc 2 1, 3) := by decide +kernel
theorem dX9_take_124 : decode cX9_take 124 = .ok (.goto (-68), 3) := by decide +kernel
theorem dX9_take_127 : decode cX9_take 127 = .ok (.return_, 1) := by decide +kernel
theorem dX9_write_0 : decode cX9_write 0 = .ok (.bipush 24, 2) := by decide +kernel
theorem dX9_write_2 : decode cX9_write 2 = .ok (.istore_n 2, 1) := by decide +kernel
theorem dX9_write_3 : decode cX9_write 3 = .ok (.iload_n 2, 1) := by decide +kernel
theorem dX9_write_4 : decode cX9_write 4 = .ok (.ifCond .lt 42, 3) := by decide +kernel
theorem dX9_write_7 : decode cX9_write 7 = .ok (.aload_n 0, 1) := by decide +kernel
theorem dX9_write_8 : decode cX9_write 8 = .ok (.getfield 53, 3) := by decide +kernel
theorem dX9_write_11 : decode cX9_write 11 = .ok (.sipush 600, 3) := by decide +kernel
theorem dX9_write_14 : decode cX9_write 14 = .ok (.if_icmp .ge 32, 3) := by decide +kernel
theorem dX9_write_17 : decode cX9_write 17 = .ok (.aload_n 0, 1) := by decide +kernel
theorem dX9_write_18 : decode cX9_write 18 = .ok (.getfield 9, 3) := by decide +kernel
theorem dX9_write_21 : decode cX9_write 21 = .ok (.aload_n 0, 1) := by decide +kernel
theorem dX9_write_22 : decode cX9_write 22 = .ok (.getfield 53, 3) := by decide +kernel
theorem dX9_write_25 : decode cX9_write 25 = .ok (.iload_n 1, 1) := by decide +kernel
theorem dX9_write_26 : decode cX9_write 26 = .ok (.iload_n 2, 1) := by decide +kernel
theorem dX9_write_27 : decode cX9_write 27 = .ok (.iushr, 1) := by decide +kernel
theorem dX9_write_28 : decode cX9_write 28 = .ok (.i2b, 1) := by decide +kernel
theorem dX9_write_29 : decode cX9_write 29 = .ok (.bastore, 1) := by decide +kernel
theorem dX9_write_30 : decode cX9_write 30 = .ok (.aload_n 0, 1) := by decide +kernel
theorem dX9_write_31 : decode cX9_write 31 = .ok (.dup, 1) := by decide +kernel
theorem dX9_write_32 : decode cX9_write 32 = .ok (.getfield 53, 3) := by decide +kernel
theorem dX9_write_35 : decode cX9_write 35 = .ok (.iconst 1, 1) := by decide +kernel
theorem dX9_write_36 : decode cX9_write 36 = .ok (.iadd, 1) := by decide +kernel
theorem dX9_write_37 : decode cX9_write 37 = .ok (.putfield 53, 3) := by decide +kernel
theorem dX9_write_40 : decode cX9_write 40 = .ok (.iinc 2 (-8), 3) := by decide +kernel
theorem dX9_write_43 : decode cX9_write 43 = .ok (.goto (-40), 3) := by decide +kernel
theorem dX9_write_46 : decode cX9_write 46 = .ok (.return_, 1) := by decide +kernel
theorem dX9_manyOf_0 : decode cX9_manyOf 0 = .ok (.iload_n 1, 1) := by decide +kernel
theorem dX9_manyOf_1 : decode cX9_manyOf 1 = .ok (.ifCond .lt 17, 3) := by decide +kernel
theorem dX9_manyOf_4 : decode cX9_manyOf 4 = .ok (.iload_n 1, 1) := by decide +kernel
theorem dX9_manyOf_5 : decode cX9_manyOf 5 = .ok (.iconst 4, 1) := by decide +kernel
theorem dX9_manyOf_6 : decode cX9_manyOf 6 = .ok (.if_icmp .ge 12, 3) := by decide +kernel
theorem dX9_manyOf_9 : decode cX9_manyOf 9 = .ok (.aload_n 0, 1) := by decide +kernel
theorem dX9_manyOf_10 : decode cX9_manyOf 10 = .ok (.getfield 19, 3) := by decide +kernel
theorem dX9_manyOf_13 : decode cX9_manyOf 13 = .ok (.iload_n 1, 1) := by decide +kernel
theorem dX9_manyOf_14 : decode cX9_manyOf 14 = .ok (.iaload, 1) := by decide +kernel
theorem dX9_manyOf_15 : decode cX9_manyOf 15 = .ok (.goto 5, 3) := by decide +kernel
theorem dX9_manyOf_18 : decode cX9_manyOf 18 = .ok (.bipush (-2), 2) := by decide +kernel
theorem dX9_manyOf_20 : decode cX9_manyOf 20 = .ok (.ireturn, 1) := by decide +kernel
theorem dX9_hasOne_0 : decode cX9_hasOne 0 = .ok (.iload_n 2, 1) := by decide +kernel
theorem dX9_hasOne_1 : decode cX9_hasOne 1 = .ok (.ifCond .lt 22, 3) := by decide +kernel
theorem dX9_hasOne_4 : decode cX9_hasOne 4 = .ok (.iload_n 2, 1) := by decide +kernel
theorem dX9_hasOne_5 : decode cX9_hasOne 5 = .ok (.aload_n 0, 1) := by decide +kernel
theorem dX9_hasOne_6 : decode cX9_hasOne 6 = .ok (.getfield 19, 3) := by decide +kernel
theorem dX9_hasOne_9 : decode cX9_hasOne 9 = .ok (.iload_n 1, 1) := by decide +kernel
theorem dX9_hasOne_10 : decode cX9_hasOne 10 = .ok (.iaload, 1) := by decide +kernel
theorem dX9_hasOne_11 : decode cX9_hasOne 11 = .ok (.if_icmp .ge 12, 3) := by decide +kernel
theorem dX9_hasOne_14 : decode cX9_hasOne 14 = .ok (.iload_n 2, 1) := by decide +kernel
theorem dX9_hasOne_15 : decode cX9_hasOne 15 = .ok (.iconst 2, 1) := by decide +kernel
theorem dX9_hasOne_16 : decode cX9_hasOne 16 = .ok (.if_icmp .ge 7, 3) := by decide +kernel
theorem dX9_hasOne_19 : decode cX9_hasOne 19 = .ok (.iconst 1, 1) := by decide +kernel
theorem dX9_hasOne_20 : decode cX9_hasOne 20 = .ok (.goto 4, 3) := by decide +kernel
theorem dX9_hasOne_23 : decode cX9_hasOne 23 = .ok (.iconst 0, 1) := by decide +kernel
theorem dX9_hasOne_24 : decode cX9_hasOne 24 = .ok (.ireturn, 1) := by decide +kernel
theorem dX9_cityAt_0 : decode cX9_cityAt 0 = .ok (.aload_n 0, 1) := by decide +kernel
theorem dX9_cityAt_1 : decode cX9_cityAt 1 = .ok (.iconst 0, 1) := by decide +kernel
theorem dX9_cityAt_2 : decode cX9_cityAt 2 = .ok (.iload_n 1, 1) := by decide +kernel
theorem dX9_cityAt_3 : decode cX9_cityAt 3 = .ok (.invokevirtual 69, 3) := by decide +kernel
theorem dX9_cityAt_6 : decode cX9_cityAt 6 = .ok (.ifCond .eq 12, 3) := by decide +kernel
theorem dX9_cityAt_9 : decode cX9_cityAt 9 = .ok (.aload_n 0, 1) := by decide +kernel
theorem dX9_cityAt_10 : decode cX9_cityAt 10 = .ok (.getfield 25, 3) := by decide +kernel
theorem dX9_cityAt_13 : decode cX9_cityAt 13 = .ok (.iload_n 1, 1) := by decide +kernel
theorem dX9_cityAt_14 : decode cX9_cityAt 14 = .ok (.aaload, 1) := by decide +kernel
theorem dX9_cityAt_15 : decode cX9_cityAt 15 = .ok (.goto 4, 3) := by decide +kernel
theorem dX9_cityAt_18 : decode cX9_cityAt 18 = .ok (.aconst_null, 1) := by decide +kernel
theorem dX9_cityAt_19 : decode cX9_cityAt 19 = .ok (.areturn, 1) := by decide +kernel
theorem dX9_nightAt_0 : decode cX9_nightAt 0 = .ok (.aload_n 0, 1) := by decide +kernel
theorem dX9_nightAt_1 : decode cX9_nightAt 1 = .ok (.iconst 1, 1) := by decide +kernel
theorem dX9_nightAt_2 : decode cX9_nightAt 2 = .ok (.iload_n 1, 1) := by decide +kernel
theorem dX9_nightAt_3 : decode cX9_nightAt 3 = .ok (.invokevirtual 69, 3) := by decide +kernel
theorem dX9_nightAt_6 : decode cX9_nightAt 6 = .ok (.ifCond .eq 12, 3) := by decide +kernel
theorem dX9_nightAt_9 : decode cX9_nightAt 9 = .ok (.aload_n 0, 1) := by decide +kernel
theorem dX9_nightAt_10 : decode cX9_nightAt 10 = .ok (.getfield 31, 3) := by decide +kernel
theorem dX9_nightAt_13 : decode cX9_nightAt 13 = .ok (.iload_n 1, 1) := by decide +kernel
theorem dX9_nightAt_14 : decode cX9_nightAt 14 = .ok (.aaload, 1) := by decide +kernel
theorem dX9_nightAt_15 : decode cX9_nightAt 15 = .ok (.goto 4, 3) := by decide +kernel
theorem dX9_nightAt_18 : decode cX9_nightAt 18 = .ok (.aconst_null, 1) := by decide +kernel
theorem dX9_nightAt_19 : decode cX9_nightAt 19 = .ok (.areturn, 1) := by decide +kernel
theorem dX9_trialAt_0 : decode cX9_trialAt 0 = .ok (.aload_n 0, 1) := by decide +kernel
theorem dX9_trialAt_1 : decode cX9_trialAt 1 = .ok (.iconst 2, 1) := by decide +kernel
theorem dX9_trialAt_2 : decode cX9_trialAt 2 = .ok (.iload_n 1, 1) := by decide +kernel
theorem dX9_trialAt_3 : decode cX9_trialAt 3 = .ok (.invokevirtual 69, 3) := by decide +kernel
theorem dX9_trialAt_6 : decode cX9_trialAt 6 = .ok (.ifCond .eq 12, 3) := by decide +kernel
theorem dX9_trialAt_9 : decode cX9_trialAt 9 = .ok (.aload_n 0, 1) := by decide +kernel
theorem dX9_trialAt_10 : decode cX9_trialAt 10 = .ok (.getfield 37, 3) := by decide +kernel
theorem dX9_trialAt_13 : decode cX9_trialAt 13 = .ok (.iload_n 1, 1) := by decide +kernel
theorem dX9_trialAt_14 : decode cX9_trialAt 14 = .ok (.aaload, 1) := by decide +kernel
theorem dX9_trialAt_15 : decode cX9_trialAt 15 = .ok (.goto 4, 3) := by decide +kernel
theorem dX9_trialAt_18 : decode cX9_trialAt 18 = .ok (.aconst_null, 1) := by decide +kernel
theorem dX9_trialAt_19 : decode cX9_trialAt 19 = .ok (.areturn, 1) := by decide +kernel
theorem dX9_sightAt_0 : decode cX9_sightAt 0 = .ok (.aload_n 0, 1) := by decide +kernel
theorem dX9_sightAt_1 : decode cX9_sightAt 1 = .ok (.iconst 3, 1) := by decide +kernel
theorem dX9_sightAt_2 : decode cX9_sightAt 2 = .ok (.iload_n 1, 1) := by decide +kernel
theorem dX9_sightAt_3 : decode cX9_sightAt 3 = .ok (.invokevirtual 69, 3) := by decide +kernel
theorem dX9_sightAt_6 : decode cX9_sightAt 6 = .ok (.ifCond .eq 12, 3) := by decide +kernel
theorem dX9_sightAt_9 : decode cX9_sightAt 9 = .ok (.aload_n 0, 1) := by decide +kernel
theorem dX9_sightAt_10 : decode cX9_sightAt 10 = .ok (.getfield 41, 3) := by decide +kernel
theorem dX9_sightAt_13 : decode cX9_sightAt 13 = .ok (.iload_n 1, 1) := by decide +kernel
theorem dX9_sightAt_14 : decode cX9_sightAt 14 = .ok (.aaload, 1) := by decide +kernel
theorem dX9_sightAt_15 : decode cX9_sightAt 15 = .ok (.goto 4, 3) := by decide +kernel
theorem dX9_sightAt_18 : decode cX9_sightAt 18 = .ok (.aconst_null, 1) := by decide +kernel
theorem dX9_sightAt_19 : decode cX9_sightAt 19 = .ok (.areturn, 1) := by decide +kernel
theorem dX9_put_0 : decode cX9_put 0 = .ok (.iload_n 1, 1) := by decide +kernel
theorem dX9_put_1 : decode cX9_put 1 = .ok (.ifCond .lt 17, 3) := by decide +kernel
theorem dX9_put_4 : decode cX9_put 4 = .ok (.iload_n 1, 1) := by decide +kernel
theorem dX9_put_5 : decode cX9_put 5 = .ok (.iconst 4, 1) := by decide +kernel
theorem dX9_put_6 : decode cX9_put 6 = .ok (.if_icmp .ge 12, 3) := by decide +kernel
theorem dX9_put_9 : decode cX9_put 9 = .ok (.iload_n 2, 1) := by decide +kernel
theorem dX9_put_10 : decode cX9_put 10 = .ok (.ifCond .lt 8, 3) := by decide +kernel
theorem dX9_put_13 : decode cX9_put 13 = .ok (.iload_n 2, 1) := by decide +kernel
theorem dX9_put_14 : decode cX9_put 14 = .ok (.iconst 2, 1) := by decide +kernel
theorem dX9_put_15 : decode cX9_put 15 = .ok (.if_icmp .lt 4, 3) := by decide +kernel
theorem dX9_put_18 : decode cX9_put 18 = .ok (.return_, 1) := by decide +kernel
theorem dX9_put_19 : decode cX9_put 19 = .ok (.iload_n 1, 1) := by decide +kernel
theorem dX9_put_20 : decode cX9_put 20 = .ok (.tableswitch 76 0 2 #[28, 44, 60], 28) := by decide +kernel
theorem dX9_put_48 : decode cX9_put 48 = .ok (.aload_n 0, 1) := by decide +kernel
theorem dX9_put_49 : decode cX9_put 49 = .ok (.getfield 25, 3) := by decide +kernel
theorem dX9_put_52 : decode cX9_put 52 = .ok (.iload_n 2, 1) := by decide +kernel
theorem dX9_put_53 : decode cX9_put 53 = .ok (.aaload, 1) := by decide +kernel
theorem dX9_put_54 : decode cX9_put 54 = .ok (.aload_n 3, 1) := by decide +kernel
theorem dX9_put_55 : decode cX9_put 55 = .ok (.getfield 73, 3) := by decide +kernel
theorem dX9_put_58 : decode cX9_put 58 = .ok (.invokevirtual 59, 3) := by decide +kernel
theorem dX9_put_61 : decode cX9_put 61 = .ok (.goto 48, 3) := by decide +kernel
theorem dX9_put_64 : decode cX9_put 64 = .ok (.aload_n 0, 1) := by decide +kernel
theorem dX9_put_65 : decode cX9_put 65 = .ok (.getfield 31, 3) := by decide +kernel
theorem dX9_put_68 : decode cX9_put 68 = .ok (.iload_n 2, 1) := by decide +kernel
theorem dX9_put_69 : decode cX9_put 69 = .ok (.aaload, 1) := by decide +kernel
theorem dX9_put_70 : decode cX9_put 70 = .ok (.aload_n 3, 1) := by decide +kernel
theorem dX9_put_71 : decode cX9_put 71 = .ok (.getfield 79, 3) := by decide +kernel
theorem dX9_put_74 : decode cX9_put 74 = .ok (.invokevirtual 63, 3) := by decide +kernel
theorem dX9_put_77 : decode cX9_put 77 = .ok (.goto 32, 3) := by decide +kernel
theorem dX9_put_80 : decode cX9_put 80 = .ok (.aload_n 0, 1) := by decide +kernel
theorem dX9_put_81 : decode cX9_put 81 = .ok (.getfield 37, 3) := by decide +kernel
theorem dX9_put_84 : decode cX9_put 84 = .ok (.iload_n 2, 1) := by decide +kernel
theorem dX9_put_85 : decode cX9_put 85 = .ok (.aaload, 1) := by decide +kernel
theorem dX9_put_86 : decode cX9_put 86 = .ok (.aload_n 3, 1) := by decide +kernel
theorem dX9_put_87 : decode cX9_put 87 = .ok (.getfield 83, 3) := by decide +kernel
theorem dX9_put_90 : decode cX9_put 90 = .ok (.invokevirtual 66, 3) := by decide +kernel
theorem dX9_put_93 : decode cX9_put 93 = .ok (.goto 16, 3) := by decide +kernel
theorem dX9_put_96 : decode cX9_put 96 = .ok (.aload_n 0, 1) := by decide +kernel
theorem dX9_put_97 : decode cX9_put 97 = .ok (.getfield 41, 3) := by decide +kernel
theorem dX9_put_100 : decode cX9_put 100 = .ok (.iload_n 2, 1) := by decide +kernel
theorem dX9_put_101 : decode cX9_put 101 = .ok (.aaload, 1) := by decide +kernel
theorem dX9_put_102 : decode cX9_put 102 = .ok (.aload_n 3, 1) := by decide +kernel
theorem dX9_put_103 : decode cX9_put 103 = .ok (.getfield 79, 3) := by decide +kernel
theorem dX9_put_106 : decode cX9_put 106 = .ok (.invokevirtual 63, 3) := by decide +kernel
theorem dX9_put_109 : decode cX9_put 109 = .ok (.aload_n 0, 1) := by decide +kernel
theorem dX9_put_110 : decode cX9_put 110 = .ok (.getfield 19, 3) := by decide +kernel
theorem dX9_put_113 : decode cX9_put 113 = .ok (.iload_n 1, 1) := by decide +kernel
theorem dX9_put_114 : decode cX9_put 114 = .ok (.aload_n 0, 1) := by decide +kernel
theorem dX9_put_115 : decode cX9_put 115 = .ok (.getfield 19, 3) := by decide +kernel
theorem dX9_put_118 : decode cX9_put 118 = .ok (.iload_n 1, 1) := by decide +kernel
theorem dX9_put_119 : decode cX9_put 119 = .ok (.iaload, 1) := by decide +kernel
theorem dX9_put_120 : decode cX9_put 120 = .ok (.iload_n 2, 1) := by decide +kernel
theorem dX9_put_121 : decode cX9_put 121 = .ok (.iconst 1, 1) := by decide +kernel
theorem dX9_put_122 : decode cX9_put 122 = .ok (.iadd, 1) := by decide +kernel
theorem dX9_put_123 : decode cX9_put 123 = .ok (.invokestatic 87, 3) := by decide +kernel
theorem dX9_put_126 : decode cX9_put 126 = .ok (.iastore, 1) := by decide +kernel
theorem dX9_put_127 : decode cX9_put 127 = .ok (.return_, 1) := by decide +kernel
theorem dX10_init_0 : decode cX10_init 0 = .ok (.aload_n 0, 1) := by decide +kernel
theorem dX10_init_1 : decode cX10_init 1 = .ok (.invokespecial 3, 3) := by decide +kernel
theorem dX10_init_4 : decode cX10_init 4 = .ok (.aload_n 0, 1) := by decide +kernel
theorem dX10_init_5 : decode cX10_init 5 = .ok (.new 9, 3) := by decide +kernel
theorem dX10_init_8 : decode cX10_init 8 = .ok (.dup, 1) := by decide +kernel
theorem dX10_init_9 : decode cX10_init 9 = .ok (.invokespecial 11, 3) := by decide +kernel
theorem dX10_init_12 : decode cX10_init 12 = .ok (.putfield 12, 3) := by decide +kernel
theorem dX10_init_15 : decode cX10_init 15 = .ok (.return_, 1) := by decide +kernel
theorem dX10_reset_0 : decode cX10_reset 0 = .ok (.aload_n 0, 1) := by decide +kernel
theorem dX10_reset_1 : decode cX10_reset 1 = .ok (.iconst 4, 1) := by decide +kernel
theorem dX10_reset_2 : decode cX10_reset 2 = .ok (.putfield 18, 3) := by decide +kernel
theorem dX10_reset_5 : decode cX10_reset 5 = .ok (.aload_n 0, 1) := by decide +kernel
theorem dX10_reset_6 : decode cX10_reset 6 = .ok (.iconst (-1), 1) := by decide +kernel
theorem dX10_reset_7 : decode cX10_reset 7 = .ok (.putfield 22, 3) := by decide +kernel
theorem dX10_reset_10 : decode cX10_reset 10 = .ok (.aload_n 0, 1) := by decide +kernel
theorem dX10_reset_11 : decode cX10_reset 11 = .ok (.getfield 12, 3) := by decide +kernel
theorem dX10_reset_14 : decode cX10_reset 14 = .ok (.iconst 0, 1) := by decide +kernel
theorem dX10_reset_15 : decode cX10_reset 15 = .ok (.putfield 25, 3) := by decide +kernel
theorem dX10_reset_18 : decode cX10_reset 18 = .ok (.return_, 1) := by decide +kernel
theorem dX10_take_0 : decode cX10_take 0 = .ok (.aload_n 0, 1) := by decide +kernel
theorem dX10_take_1 : decode cX10_take 1 = .ok (.aload_n 1, 1) := by decide +kernel
theorem dX10_take_2 : decode cX10_take 2 = .ok (.getfield 18, 3) := by decide +kernel
theorem dX10_take_5 : decode cX10_take 5 = .ok (.putfield 18, 3) := by decide +kernel
theorem dX10_take_8 : decode cX10_take 8 = .ok (.aload_n 0, 1) := by decide +kernel
theorem dX10_take_9 : decode cX10_take 9 = .ok (.aload_n 1, 1) := by decide +kernel
theorem dX10_take_10 : decode cX10_take 10 = .ok (.getfield 22, 3) := by decide +kernel
theorem dX10_take_13 : decode cX10_take 13 = .ok (.putfield 22, 3) := by decide +kernel
theorem dX10_take_16 : decode cX10_take 16 = .ok (.aload_n 0, 1) := by decide +kernel
theorem dX10_take_17 : decode cX10_take 17 = .ok (.getfield 12, 3) := by decide +kernel
theorem dX10_take_20 : decode cX10_take 20 = .ok (.aload_n 1, 1) := by decide +kernel
theorem dX10_take_21 : decode cX10_take 21 = .ok (.getfield 12, 3) := by decide +kernel
theorem dX10_take_24 : decode cX10_take 24 = .ok (.invokevirtual 28, 3) := by decide +kernel
theorem dX10_take_27 : decode cX10_take 27 = .ok (.return_, 1) := by decide +kernel
theorem dX10_tell_0 : decode cX10_tell 0 = .ok (.iload_n 1, 1) := by decide +kernel
theorem dX10_tell_1 : decode cX10_tell 1 = .ok (.tableswitch 45 0 2 #[27, 32, 37], 27) := by decide +kernel
theorem dX10_tell_28 : decode cX10_tell 28 = .ok (.aload_n 0, 1) := by decide +kernel
theorem dX10_tell_29 : decode cX10_tell 29 = .ok (.getfield 18, 3) := by decide +kernel
theorem dX10_tell_32 : decode cX10_tell 32 = .ok (.ireturn, 1) := by decide +kernel
theorem dX10_tell_33 : decode cX10_tell 33 = .ok (.aload_n 0, 1) := by decide +kernel
theorem dX10_tell_34 : decode cX10_tell 34 = .ok (.getfield 22, 3) := by decide +kernel
theorem dX10_tell_37 : decode cX10_tell 37 = .ok (.ireturn, 1) := by decide +kernel
theorem dX10_tell_38 : decode cX10_tell 38 = .ok (.aload_n 0, 1) := by decide +kernel
theorem dX10_tell_39 : decode cX10_tell 39 = .ok (.getfield 12, 3) := by decide +kernel
theorem dX10_tell_42 : decode cX10_tell 42 = .ok (.getfield 25, 3) := by decide +kernel
theorem dX10_tell_45 : decode cX10_tell 45 = .ok (.ireturn, 1) := by decide +kernel
theorem dX10_tell_46 : decode cX10_tell 46 = .ok (.iload_n 1, 1) := by decide +kernel
theorem dX10_tell_47 : decode cX10_tell 47 = .ok (.bipush 10, 2) := by decide +kernel
theorem dX10_tell_49 : decode cX10_tell 49 = .ok (.if_icmp .lt 9, 3) := by decide +kernel
theorem dX10_tell_52 : decode cX10_tell 52 = .ok (.iload_n 1, 1) := by decide +kernel
theorem dX10_tell_53 : decode cX10_tell 53 = .ok (.bipush 70, 2) := by decide +kernel
theorem dX10_tell_55 : decode cX10_tell 55 = .ok (.if_icmp .lt 6, 3) := by decide +kernel
theorem dX10_tell_58 : decode cX10_tell 58 = .ok (.bipush (-2), 2) := by decide +kernel
theorem dX10_tell_60 : decode cX10_tell 60 = .ok (.ireturn, 1) := by decide +kernel
theorem dX10_tell_61 : decode cX10_tell 61 = .ok (.iload_n 1, 1) := by decide +kernel
theorem dX10_tell_62 : decode cX10_tell 62 = .ok (.bipush 10, 2) := by decide +kernel
theorem dX10_tell_64 : decode cX10_tell 64 = .ok (.isub, 1) := by decide +kernel
theorem dX10_tell_65 : decode cX10_tell 65 = .ok (.bipush 20, 2) := by decide +kernel
theorem dX10_tell_67 : decode cX10_tell 67 = .ok (.idiv, 1) := by decide +kernel
theorem dX10_tell_68 : decode cX10_tell 68 = .ok (.istore_n 2, 1) := by decide +kernel
theorem dX10_tell_69 : decode cX10_tell 69 = .ok (.aload_n 0, 1) := by decide +kernel
theorem dX10_tell_70 : decode cX10_tell 70 = .ok (.getfield 12, 3) := by decide +kernel
theorem dX10_tell_73 : decode cX10_tell 73 = .ok (.iload_n 1, 1) := by decide +kernel
theorem dX10_tell_74 : decode cX10_tell 74 = .ok (.bipush 10, 2) := by decide +kernel
theorem dX10_tell_76 : decode cX10_tell 76 = .ok (.isub, 1) := by decide +kernel
theorem dX10_tell_77 : decode cX10_tell 77 = .ok (.bipush 20, 2) := by decide +kernel
theorem dX10_tell_79 : decode cX10_tell 79 = .ok (.irem, 1) := by decide +kernel
theorem dX10_tell_80 : decode cX10_tell 80 = .ok (.iload_n 2, 1) := by decide +kernel
theorem dX10_tell_81 : decode cX10_tell 81 = .ok (.invokevirtual 32, 3) := by decide +kernel
theorem dX10_tell_84 : decode cX10_tell 84 = .ok (.ireturn, 1) := by decide +kernel
theorem dX10_namesOneWhoIsNotThere_0 : decode cX10_namesOneWhoIsNotThere 0 = .ok (.iconst 0, 1) := by decide +kernel
theorem dX10_namesOneWhoIsNotThere_1 : decode cX10_namesOneWhoIsNotThere 1 = .ok (.istore_n 1, 1) := by decide +kernel
theorem dX10_namesOneWhoIsNotThere_2 : decode cX10_namesOneWhoIsNotThere 2 = .ok (.iload_n 1, 1) := by decide +kernel
theorem dX10_namesOneWhoIsNotThere_3 : decode cX10_namesOneWhoIsNotThere 3 = .ok (.aload_n 0, 1) := by decide +kernel
theorem dX10_namesOneWhoIsNotThere_4 : decode cX10_namesOneWhoIsNotThere 4 = .ok (.getfield 12, 3) := by decide +kernel
theorem dX10_namesOneWhoIsNotThere_7 : decode cX10_namesOneWhoIsNotThere 7 = .ok (.getfield 25, 3) := by decide +kernel
theorem dX10_namesOneWhoIsNotThere_10 : decode cX10_namesOneWhoIsNotThere 10 = .ok (.if_icmp .ge 43, 3) := by decide +kernel
theorem dX10_namesOneWhoIsNotThere_13 : decode cX10_namesOneWhoIsNotThere 13 = .ok (.aload_n 0, 1) := by decide +kernel
theorem dX10_namesOneWhoIsNotThere_14 : decode cX10_namesOneWhoIsNotThere 14 = .ok (.getfield 12, 3) := by decide +kernel
theorem dX10_namesOneWhoIsNotThere_17 : decode cX10_namesOneWhoIsNotThere 17 = .ok (.getfield 36, 3) := by decide +kernel
theorem dX10_namesOneWhoIsNotThere_20 : decode cX10_namesOneWhoIsNotThere 20 = .ok (.iload_n 1, 1) := by decide +kernel
theorem dX10_namesOneWhoIsNotThere_21 : decode cX10_namesOneWhoIsNotThere 21 = .ok (.iaload, 1) := by decide +kernel
theorem dX10_namesOneWhoIsNotThere_22 : decode cX10_namesOneWhoIsNotThere 22 = .ok (.aload_n 0, 1) := by decide +kernel
theorem dX10_namesOneWhoIsNotThere_23 : decode cX10_namesOneWhoIsNotThere 23 = .ok (.getfield 18, 3) := by decide +kernel
theorem dX10_namesOneWhoIsNotThere_26 : decode cX10_namesOneWhoIsNotThere 26 = .ok (.if_icmp .ge 19, 3) := by decide +kernel
theorem dX10_namesOneWhoIsNotThere_29 : decode cX10_namesOneWhoIsNotThere 29 = .ok (.aload_n 0, 1) := by decide +kernel
theorem dX10_namesOneWhoIsNotThere_30 : decode cX10_namesOneWhoIsNotThere 30 = .ok (.getfield 12, 3) := by decide +kernel
theorem dX10_namesOneWhoIsNotThere_33 : decode cX10_namesOneWhoIsNotThere 33 = .ok (.getfield 40, 3) := by decide +kernel
theorem dX10_namesOneWhoIsNotThere_36 : decode cX10_namesOneWhoIsNotThere 36 = .ok (.iload_n 1, 1) := by decide +kernel
theorem dX10_namesOneWhoIsNotThere_37 : decode cX10_namesOneWhoIsNotThere 37 = .ok (.iaload, 1) := by decide +kernel
theorem dX10_namesOneWhoIsNotThere_38 : decode cX10_namesOneWhoIsNotThere 38 = .ok (.aload_n 0, 1) := by decide +kernel
theorem dX10_namesOneWhoIsNotThere_39 : decode cX10_namesOneWhoIsNotThere 39 = .ok (.getfield 18, 3) := by decide +kernel
theorem dX10_namesOneWhoIsNotThere_42 : decode cX10_namesOneWhoIsNotThere 42 = .ok (.if_icmp .lt 5, 3) := by decide +kernel
theorem dX10_namesOneWhoIsNotThere_45 : decode cX10_namesOneWhoIsNotThere 45 = .ok (.iconst 1, 1) := by decide +kernel
theorem dX10_namesOneWhoIsNotThere_46 : decode cX10_namesOneWhoIsNotThere 46 = .ok (.ireturn, 1) := by decide +kernel
theorem dX10_namesOneWhoIsNotThere_47 : decode cX10_namesOneWhoIsNotThere 47 = .ok (.iinc 1 1, 3) := by decide +kernel
theorem dX10_namesOneWhoIsNotThere_50 : decode cX10_namesOneWhoIsNotThere 50 = .ok (.goto (-48), 3) := by decide +kernel
theorem dX10_namesOneWhoIsNotThere_53 : decode cX10_namesOneWhoIsNotThere 53 = .ok (.iconst 0, 1) := by decide +kernel
theorem dX10_namesOneWhoIsNotThere_54 : decode cX10_namesOneWhoIsNotThere 54 = .ok (.ireturn, 1) := by decide +kernel
theorem dX10_isAsMany_0 : decode cX10_isAsMany 0 = .ok (.aload_n 0, 1) := by decide +kernel
theorem dX10_isAsMany_1 : decode cX10_isAsMany 1 = .ok (.getfield 22, 3) := by decide +kernel
theorem dX10_isAsMany_4 : decode cX10_isAsMany 4 = .ok (.iconst (-1), 1) := by decide +kernel
theorem dX10_isAsMany_5 : decode cX10_isAsMany 5 = .ok (.if_icmp .eq 14, 3) := by decide +kernel
theorem dX10_isAsMany_8 : decode cX10_isAsMany 8 = .ok (.iload_n 1, 1) := by decide +kernel
theorem dX10_isAsMany_9 : decode cX10_isAsMany 9 = .ok (.invokestatic 43, 3) := by decide +kernel
theorem dX10_isAsMany_12 : decode cX10_isAsMany 12 = .ok (.aload_n 0, 1) := by decide +kernel
theorem dX10_isAsMany_13 : decode cX10_isAsMany 13 = .ok (.getfield 22, 3) := by decide +kernel
theorem dX10_isAsMany_16 : decode cX10_isAsMany 16 = .ok (.if_icmp .ne 7, 3) := by decide +kernel
theorem dX10_isAsMany_19 : decode cX10_isAsMany 19 = .ok (.iconst 1, 1) := by decide +kernel
theorem dX10_isAsMany_20 : decode cX10_isAsMany 20 = .ok (.goto 4, 3) := by decide +kernel
theorem dX10_isAsMany_23 : decode cX10_isAsMany 23 = .ok (.iconst 0, 1) := by decide +kernel
theorem dX10_isAsMany_24 : decode cX10_isAsMany 24 = .ok (.ireturn, 1) := by decide +kernel
theorem dX10_wrongSayings_0 : decode cX10_wrongSayings 0 = .ok (.iconst 0, 1) := by decide +kernel
theorem dX10_wrongSayings_1 : decode cX10_wrongSayings 1 = .ok (.istore_n 2, 1) := by decide +kernel
theorem dX10_wrongSayings_2 : decode cX10_wrongSayings 2 = .ok (.iconst 0, 1) := by decide +kernel
theorem dX10_wrongSayings_3 : decode cX10_wrongSayings 3 = .ok (.istore_n 3, 1) := by decide +kernel
theorem dX10_wrongSayings_4 : decode cX10_wrongSayings 4 = .ok (.iload_n 3, 1) := by decide +kernel
theorem dX10_wrongSayings_5 : decode cX10_wrongSayings 5 = .ok (.aload_n 0, 1) := by decide +kernel
theorem dX10_wrongSayings_6 : decode cX10_wrongSayings 6 = .ok (.getfield 12, 3) := by decide +kernel
theorem dX10_wrongSayings_9 : decode cX10_wrongSayings 9 = .ok (.getfield 25, 3) := by decide +kernel
theorem dX10_wrongSayings_12 : decode cX10_wrongSayings 12 = .ok (.if_icmp .ge 75, 3) := by decide +kernel
theorem dX10_wrongSayings_15 : decode cX10_wrongSayings 15 = .ok (.iload_n 1, 1) := by decide +kernel
theorem dX10_wrongSayings_16 : decode cX10_wrongSayings 16 = .ok (.aload_n 0, 1) := by decide +kernel
theorem dX10_wrongSayings_17 : decode cX10_wrongSayings 17 = .ok (.getfield 12, 3) := by decide +kernel
theorem dX10_wrongSayings_20 : decode cX10_wrongSayings 20 = .ok (.getfield 36, 3) := by decide +kernel
theorem dX10_wrongSayings_23 : decode cX10_wrongSayings 23 = .ok (.iload_n 3, 1) := by decide +kernel
theorem dX10_wrongSayings_24 : decode cX10_wrongSayings 24 = .ok (.iaload, 1) := by decide +kernel
theorem dX10_wrongSayings_25 : decode cX10_wrongSayings 25 = .ok (.ishr, 1) := by decide +kernel
theorem dX10_wrongSayings_26 : decode cX10_wrongSayings 26 = .ok (.iconst 1, 1) := by decide +kernel
theorem dX10_wrongSayings_27 : decode cX10_wrongSayings 27 = .ok (.iand, 1) := by decide +kernel
theorem dX10_wrongSayings_28 : decode cX10_wrongSayings 28 = .ok (.istore 4, 2) := by decide +kernel
theorem dX10_wrongSayings_30 : decode cX10_wrongSayings 30 = .ok (.iload_n 1, 1) := by decide +kernel
theorem dX10_wrongSayings_31 : decode cX10_wrongSayings 31 = .ok (.aload_n 0, 1) := by decide +kernel
theorem dX10_wrongSayings_32 : decode cX10_wrongSayings 32 = .ok (.getfield 12, 3) := by decide +kernel
theorem dX10_wrongSayings_35 : decode cX10_wrongSayings 35 = .ok (.getfield 40, 3) := by decide +kernel
theorem dX10_wrongSayings_38 : decode cX10_wrongSayings 38 = .ok (.iload_n 3, 1) := by decide +kernel
theorem dX10_wrongSayings_39 : decode cX10_wrongSayings 39 = .ok (.iaload, 1) := by decide +kernel
theorem dX10_wrongSayings_40 : decode cX10_wrongSayings 40 = .ok (.ishr, 1) := by decide +kernel
theorem dX10_wrongSayings_41 : decode cX10_wrongSayings 41 = .ok (.iconst 1, 1) := by decide +kernel
theorem dX10_wrongSayings_42 : decode cX10_wrongSayings 42 = .ok (.iand, 1) := by decide +kernel
theorem dX10_wrongSayings_43 : decode cX10_wrongSayings 43 = .ok (.istore 5, 2) := by decide +kernel
theorem dX10_wrongSayings_45 : decode cX10_wrongSayings 45 = .ok (.iload 5, 2) := by decide +kernel
theorem dX10_wrongSayings_47 : decode cX10_wrongSayings 47 = .ok (.aload_n 0, 1) := by decide +kernel
theorem dX10_wrongSayings_48 : decode cX10_wrongSayings 48 = .ok (.getfield 12, 3) := by decide +kernel
theorem dX10_wrongSayings_51 : decode cX10_wrongSayings 51 = .ok (.getfield 49, 3) := by decide +kernel
theorem dX10_wrongSayings_54 : decode cX10_wrongSayings 54 = .ok (.iload_n 3, 1) := by decide +kernel
theorem dX10_wrongSayings_55 : decode cX10_wrongSayings 55 = .ok (.iaload, 1) := by decide +kernel
theorem dX10_wrongSayings_56 : decode cX10_wrongSayings 56 = .ok (.if_icmp .ne 7, 3) := by decide +kernel
theorem dX10_wrongSayings_59 : decode cX10_wrongSayings 59 = .ok (.iconst 1, 1) := by decide +kernel
theorem dX10_wrongSayings_60 : decode cX10_wrongSayings 60 = .ok (.goto 4, 3) := by decide +kernel
theorem dX10_wrongSayings_63 : decode cX10_wrongSayings 63 = .ok (.iconst 0, 1) := by decide +kernel
theorem dX10_wrongSayings_64 : decode cX10_wrongSayings 64 = .ok (.istore 6, 2) := by decide +kernel
theorem dX10_wrongSayings_66 : decode cX10_wrongSayings 66 = .ok (.iload_n 2, 1) := by decide +kernel
theorem dX10_wrongSayings_67 : decode cX10_wrongSayings 67 = .ok (.iload 6, 2) := by decide +kernel
theorem dX10_wrongSayings_69 : decode cX10_wrongSayings 69 = .ok (.iload 4, 2) := by decide +kernel
theorem dX10_wrongSayings_71 : decode cX10_wrongSayings 71 = .ok (.if_icmp .ne 7, 3) := by decide +kernel
theorem dX10_wrongSayings_74 : decode cX10_wrongSayings 74 = .ok (.iconst 1, 1) := by decide +kernel
theorem dX10_wrongSayings_75 : decode cX10_wrongSayings 75 = .ok (.goto 4, 3) := by decide +kernel
theorem dX10_wrongSayings_78 : decode cX10_wrongSayings 78 = .ok (.iconst 0, 1) := by decide +kernel
theorem dX10_wrongSayings_79 : decode cX10_wrongSayings 79 = .ok (.iadd, 1) := by decide +kernel
theorem dX10_wrongSayings_80 : decode cX10_wrongSayings 80 = .ok (.istore_n 2, 1) := by decide +kernel
theorem dX10_wrongSayings_81 : decode cX10_wrongSayings 81 = .ok (.iinc 3 1, 3) := by decide +kernel
theorem dX10_wrongSayings_84 : decode cX10_wrongSayings 84 = .ok (.goto (-80), 3) := by decide +kernel
theorem dX10_wrongSayings_87 : decode cX10_wrongSayings 87 = .ok (.iload_n 2, 1) := by decide +kernel
theorem dX10_wrongSayings_88 : decode cX10_wrongSayings 88 = .ok (.ireturn, 1) := by decide +kernel
theorem dX10_findFitting_0 : decode cX10_findFitting 0 = .ok (.iconst 0, 1) := by decide +kernel
theorem dX10_findFitting_1 : decode cX10_findFitting 1 = .ok (.istore_n 2, 1) := by decide +kernel
theorem dX10_findFitting_2 : decode cX10_findFitting 2 = .ok (.iconst 0, 1) := by decide +kernel
theorem dX10_findFitting_3 : decode cX10_findFitting 3 = .ok (.istore_n 3, 1) := by decide +kernel
theorem dX10_findFitting_4 : decode cX10_findFitting 4 = .ok (.iload_n 3, 1) := by decide +kernel
theorem dX10_findFitting_5 : decode cX10_findFitting 5 = .ok (.iconst 1, 1) := by decide +kernel
theorem dX10_findFitting_6 : decode cX10_findFitting 6 = .ok (.aload_n 0, 1) := by decide +kernel
theorem dX10_findFitting_7 : decode cX10_findFitting 7 = .ok (.getfield 18, 3) := by decide +kernel
theorem dX10_findFitting_10 : decode cX10_findFitting 10 = .ok (.ishl, 1) := by decide +kernel
theorem dX10_findFitting_11 : decode cX10_findFitting 11 = .ok (.if_icmp .ge 38, 3) := by decide +kernel
theorem dX10_findFitting_14 : decode cX10_findFitting 14 = .ok (.aload_n 0, 1) := by decide +kernel
theorem dX10_findFitting_15 : decode cX10_findFitting 15 = .ok (.iload_n 3, 1) := by decide +kernel
theorem dX10_findFitting_16 : decode cX10_findFitting 16 = .ok (.invokevirtual 52, 3) := by decide +kernel
theorem dX10_findFitting_19 : decode cX10_findFitting 19 = .ok (.ifCond .eq 24, 3) := by decide +kernel
theorem dX10_findFitting_22 : decode cX10_findFitting 22 = .ok (.aload_n 0, 1) := by decide +kernel
theorem dX10_findFitting_23 : decode cX10_findFitting 23 = .ok (.iload_n 3, 1) := by decide +kernel
theorem dX10_findFitting_24 : decode cX10_findFitting 24 = .ok (.invokevirtual 56, 3) := by decide +kernel
theorem dX10_findFitting_27 : decode cX10_findFitting 27 = .ok (.ifCond .ne 16, 3) := by decide +kernel
theorem dX10_findFitting_30 : decode cX10_findFitting 30 = .ok (.iload_n 2, 1) := by decide +kernel
theorem dX10_findFitting_31 : decode cX10_findFitting 31 = .ok (.aload_n 1, 1) := by decide +kernel
theorem dX10_findFitting_32 : decode cX10_findFitting 32 = .ok (.arraylength, 1) := by decide +kernel
theorem dX10_findFitting_33 : decode cX10_findFitting 33 = .ok (.if_icmp .ge 10, 3) := by decide +kernel
theorem dX10_findFitting_36 : decode cX10_findFitting 36 = .ok (.aload_n 1, 1) := by decide +kernel
theorem dX10_findFitting_37 : decode cX10_findFitting 37 = .ok (.iload_n 2, 1) := by decide +kernel
theorem dX10_findFitting_38 : decode cX10_findFitting 38 = .ok (.iload_n 3, 1) := by decide +kernel
theorem dX10_findFitting_39 : decode cX10_findFitting 39 = .ok (.iastore, 1) := by decide +kernel
theorem dX10_findFitting_40 : decode cX10_findFitting 40 = .ok (.iinc 2 1, 3) := by decide +kernel
theorem dX10_findFitting_43 : decode cX10_findFitting 43 = .ok (.iinc 3 1, 3) := by decide +kernel
theorem dX10_findFitting_46 : decode cX10_findFitting 46 = .ok (.goto (-42), 3) := by decide +kernel
theorem dX10_findFitting_49 : decode cX10_findFitting 49 = .ok (.iload_n 2, 1) := by decide +kernel
theorem dX10_findFitting_50 : decode cX10_findFitting 50 = .ok (.ireturn, 1) := by decide +kernel
theorem dX10_judge_0 : decode cX10_judge 0 = .ok (.iload_n 1, 1) := by decide +kernel
theorem dX10_judge_1 : decode cX10_judge 1 = .ok (.iconst 4, 1) := by decide +kernel
theorem dX10_judge_2 : decode cX10_judge 2 = .ok (.if_icmp .eq 8, 3) := by decide +kernel
theorem dX10_judge_5 : decode cX10_judge 5 = .ok (.iload_n 1, 1) := by decide +kernel
theorem dX10_judge_6 : decode cX10_judge 6 = .ok (.iconst 5, 1) := by decide +kernel
theorem dX10_judge_7 : decode cX10_judge 7 = .ok (.if_icmp .ne 18, 3) := by decide +kernel
theorem dX10_judge_10 : decode cX10_judge 10 = .ok (.aload_n 0, 1) := by decide +kernel
theorem dX10_judge_11 : decode cX10_judge 11 = .ok (.iload_n 1, 1) := by decide +kernel
theorem dX10_judge_12 : decode cX10_judge 12 = .ok (.iconst 5, 1) := by decide +kernel
theorem dX10_judge_13 : decode cX10_judge 13 = .ok (.if_icmp .ne 7, 3) := by decide +kernel
theorem dX10_judge_16 : decode cX10_judge 16 = .ok (.iconst 1, 1) := by decide +kernel
theorem dX10_judge_17 : decode cX10_judge 17 = .ok (.goto 4, 3) := by decide +kernel
theorem dX10_judge_20 : decode cX10_judge 20 = .ok (.iconst 0, 1) := by decide +kernel
theorem dX10_judge_21 : decode cX10_judge 21 = .ok (.invokevirtual 59, 3) := by decide +kernel
theorem dX10_judge_24 : decode cX10_judge 24 = .ok (.ireturn, 1) := by decide +kernel
theorem dX10_judge_25 : decode cX10_judge 25 = .ok (.aload_n 0, 1) := by decide +kernel
theorem dX10_judge_26 : decode cX10_judge 26 = .ok (.aload_n 2, 1) := by decide +kernel
theorem dX10_judge_27 : decode cX10_judge 27 = .ok (.invokevirtual 63, 3) := by decide +kernel
theorem dX10_judge_30 : decode cX10_judge 30 = .ok (.istore_n 3, 1) := by decide +kernel
theorem dX10_judge_31 : decode cX10_judge 31 = .ok (.iload_n 1, 1) := by decide +kernel
theorem dX10_judge_32 : decode cX10_judge 32 = .ok (.tableswitch 79 0 3 #[32, 34, 49, 64], 32) := by decide +kernel
theorem dX10_judge_64 : decode cX10_judge 64 = .ok (.iload_n 3, 1) := by decide +kernel
theorem dX10_judge_65 : decode cX10_judge 65 = .ok (.ireturn, 1) := by decide +kernel
theorem dX10_judge_66 : decode cX10_judge 66 = .ok (.iload_n 3, 1) := by decide +kernel
theorem dX10_judge_67 : decode cX10_judge 67 = .ok (.ifCond .ne 7, 3) := by decide +kernel
theorem dX10_judge_70 : decode cX10_judge 70 = .ok (.iconst (-1), 1) := by decide +kernel
theorem dX10_judge_71 : decode cX10_judge 71 = .ok (.goto 9, 3) := by decide +kernel
theorem dX10_judge_74 : decode cX10_judge 74 = .ok (.aload_n 0, 1) := by decide +kernel
theorem dX10_judge_75 : decode cX10_judge 75 = .ok (.aload_n 2, 1) := by decide +kernel
theorem dX10_judge_76 : decode cX10_judge 76 = .ok (.iload_n 3, 1) := by decide +kernel
theorem dX10_judge_77 : decode cX10_judge 77 = .ok (.invokevirtual 67, 3) := by decide +kernel
theorem dX10_judge_80 : decode cX10_judge 80 = .ok (.ireturn, 1) := by decide +kernel
theorem dX10_judge_81 : decode cX10_judge 81 = .ok (.iload_n 3, 1) := by decide +kernel
theorem dX10_judge_82 : decode cX10_judge 82 = .ok (.ifCond .ne 7, 3) := by decide +kernel
theorem dX10_judge_85 : decode cX10_judge 85 = .ok (.iconst (-1), 1) := by decide +kernel
theorem dX10_judge_86 : decode cX10_judge 86 = .ok (.goto 9, 3) := by decide +kernel
theorem dX10_judge_89 : decode cX10_judge 89 = .ok (.aload_n 0, 1) := by decide +kernel
theorem dX10_judge_90 : decode cX10_judge 90 = .ok (.aload_n 2, 1) := by decide +kernel
theorem dX10_judge_91 : decode cX10_judge 91 = .ok (.iload_n 3, 1) := by decide +kernel
theorem dX10_judge_92 : decode cX10_judge 92 = .ok (.invokevirtual 71, 3) := by decide +kernel
theorem dX10_judge_95 : decode cX10_judge 95 = .ok (.ireturn, 1) := by decide +kernel
theorem dX10_judge_96 : decode cX10_judge 96 = .ok (.iload_n 3, 1) := by decide +kernel
theorem dX10_judge_97 : decode cX10_judge 97 = .ok (.ifCond .ne 7, 3) := by decide +kernel
theorem dX10_judge_100 : decode cX10_judge 100 = .ok (.iconst (-1), 1) := by decide +kernel
theorem dX10_judge_101 : decode cX10_judge 101 = .ok (.goto 9, 3) := by decide +kernel
theorem dX10_judge_104 : decode cX10_judge 104 = .ok (.aload_n 0, 1) := by decide +kernel
theorem dX10_judge_105 : decode cX10_judge 105 = .ok (.aload_n 2, 1) := by decide +kernel
theorem dX10_judge_106 : decode cX10_judge 106 = .ok (.iload_n 3, 1) := by decide +kernel
theorem dX10_judge_107 : decode cX10_judge 107 = .ok (.invokevirtual 74, 3) := by decide +kernel
theorem dX10_judge_110 : decode cX10_judge 110 = .ok (.ireturn, 1) := by decide +kernel
theorem dX10_judge_111 : decode cX10_judge 111 = .ok (.iload_n 1, 1) := by decide +kernel
theorem dX10_judge_112 : decode cX10_judge 112 = .ok (.bipush 10, 2) := by decide +kernel
theorem dX10_judge_114 : decode cX10_judge 114 = .ok (.if_icmp .lt 20, 3) := by decide +kernel
theorem dX10_judge_117 : decode cX10_judge 117 = .ok (.iload_n 1, 1) := by decide +kernel
theorem dX10_judge_118 : decode cX10_judge 118 = .ok (.bipush 10, 2) := by decide +kernel
theorem dX10_judge_120 : decode cX10_judge 120 = .ok (.isub, 1) := by decide +kernel
theorem dX10_judge_121 : decode cX10_judge 121 = .ok (.iload_n 3, 1) := by decide +kernel
theorem dX10_judge_122 : decode cX10_judge 122 = .ok (.if_icmp .ge 12, 3) := by decide +kernel
theorem dX10_judge_125 : decode cX10_judge 125 = .ok (.aload_n 2, 1) := by decide +kernel
theorem dX10_judge_126 : decode cX10_judge 126 = .ok (.iload_n 1, 1) := by decide +kernel
theorem dX10_judge_127 : decode cX10_judge 127 = .ok (.bipush 10, 2) := by decide +kernel
theorem dX10_judge_129 : decode cX10_judge 129 = .ok (.isub, 1) := by decide +kernel
theorem dX10_judge_130 : decode cX10_judge 130 = .ok (.iaload, 1) := by decide +kernel
theorem dX10_judge_131 : decode cX10_judge 131 = .ok (.goto 5, 3) := by decide +kernel
theorem dX10_judge_134 : decode cX10_judge 134 = .ok (.bipush (-2), 2) := by decide +kernel
theorem dX10_judge_136 : decode cX10_judge 136 = .ok (.ireturn, 1) := by decide +kernel
theorem dX10_inAll_0 : decode cX10_inAll 0 = .ok (.iconst 1, 1) := by decide +kernel
theorem dX10_inAll_1 : decode cX10_inAll 1 = .ok (.aload_n 0, 1) := by decide +kernel
theorem dX10_inAll_2 : decode cX10_inAll 2 = .ok (.getfield 18, 3) := by decide +kernel
theorem dX10_inAll_5 : decode cX10_inAll 5 = .ok (.ishl, 1) := by decide +kernel
theorem dX10_inAll_6 : decode cX10_inAll 6 = .ok (.iconst 1, 1) := by decide +kernel
theorem dX10_inAll_7 : decode cX10_inAll 7 = .ok (.isub, 1) := by decide +kernel
theorem dX10_inAll_8 : decode cX10_inAll 8 = .ok (.istore_n 3, 1) := by decide +kernel
theorem dX10_inAll_9 : decode cX10_inAll 9 = .ok (.iconst 0, 1) := by decide +kernel
theorem dX10_inAll_10 : decode cX10_inAll 10 = .ok (.istore 4, 2) := by decide +kernel
theorem dX10_inAll_12 : decode cX10_inAll 12 = .ok (.iload 4, 2) := by decide +kernel
theorem dX10_inAll_14 : decode cX10_inAll 14 = .ok (.iload_n 2, 1) := by decide +kernel
theorem dX10_inAll_15 : decode cX10_inAll 15 = .ok (.if_icmp .ge 16, 3) := by decide +kernel
theorem dX10_inAll_18 : decode cX10_inAll 18 = .ok (.iload_n 3, 1) := by decide +kernel
theorem dX10_inAll_19 : decode cX10_inAll 19 = .ok (.aload_n 1, 1) := by decide +kernel
theorem dX10_inAll_20 : decode cX10_inAll 20 = .ok (.iload 4, 2) := by decide +kernel
theorem dX10_inAll_22 : decode cX10_inAll 22 = .ok (.iaload, 1) := by decide +kernel
theorem dX10_inAll_23 : decode cX10_inAll 23 = .ok (.iand, 1) := by decide +kernel
theorem dX10_inAll_24 : decode cX10_inAll 24 = .ok (.istore_n 3, 1) := by decide +kernel
theorem dX10_inAll_25 : decode cX10_inAll 25 = .ok (.iinc 4 1, 3) := by decide +kernel
theorem dX10_inAll_28 : decode cX10_inAll 28 = .ok (.goto (-16), 3) := by decide +kernel
theorem dX10_inAll_31 : decode cX10_inAll 31 = .ok (.iload_n 3, 1) := by decide +kernel
theorem dX10_inAll_32 : decode cX10_inAll 32 = .ok (.ireturn, 1) := by decide +kernel
theorem dX10_inNone_0 : decode cX10_inNone 0 = .ok (.iconst 1, 1) := by decide +kernel
theorem dX10_inNone_1 : decode cX10_inNone 1 = .ok (.aload_n 0, 1) := by decide +kernel
theorem dX10_inNone_2 : decode cX10_inNone 2 = .ok (.getfield 18, 3) := by decide +kernel
theorem dX10_inNone_5 : decode cX10_inNone 5 = .ok (.ishl, 1) := by decide +kernel
theorem dX10_inNone_6 : decode cX10_inNone 6 = .ok (.iconst 1, 1) := by decide +kernel
theorem dX10_inNone_7 : decode cX10_inNone 7 = .ok (.isub, 1) := by decide +kernel
theorem dX10_inNone_8 : decode cX10_inNone 8 = .ok (.istore_n 3, 1) := by decide +kernel
theorem dX10_inNone_9 : decode cX10_inNone 9 = .ok (.iconst 0, 1) := by decide +kernel
theorem dX10_inNone_10 : decode cX10_inNone 10 = .ok (.istore 4, 2) := by decide +kernel
theorem dX10_inNone_12 : decode cX10_inNone 12 = .ok (.iload 4, 2) := by decide +kernel
theorem dX10_inNone_14 : decode cX10_inNone 14 = .ok (.iload_n 2, 1) := by decide +kernel
theorem dX10_inNone_15 : decode cX10_inNone 15 = .ok (.if_icmp .ge 18, 3) := by decide +kernel
theorem dX10_inNone_18 : decode cX10_inNone 18 = .ok (.iload_n 3, 1) := by decide +kernel
theorem dX10_inNone_19 : decode cX10_inNone 19 = .ok (.aload_n 1, 1) := by decide +kernel
theorem dX10_inNone_20 : decode cX10_inNone 20 = .ok (.iload 4, 2) := by decide +kernel
theorem dX10_inNone_22 : decode cX10_inNone 22 = .ok (.iaload, 1) := by decide +kernel
theorem dX10_inNone_23 : decode cX10_inNone 23 = .ok (.iconst (-1), 1) := by decide +kernel
theorem dX10_inNone_24 : decode cX10_inNone 24 = .ok (.ixor, 1) := by decide +kernel
theorem dX10_inNone_25 : decode cX10_inNone 25 = .ok (.iand, 1) := by decide +kernel
theorem dX10_inNone_26 : decode cX10_inNone 26 = .ok (.istore_n 3, 1) := by decide +kernel
theorem dX10_inNone_27 : decode cX10_inNone 27 = .ok (.iinc 4 1, 3) := by decide +kernel
theorem dX10_inNone_30 : decode cX10_inNone 30 = .ok (.goto (-18), 3) := by decide +kernel
theorem dX10_inNone_33 : decode cX10_inNone 33 = .ok (.iload_n 3, 1) := by decide +kernel
theorem dX10_inNone_34 : decode cX10_inNone 34 = .ok (.ireturn, 1) := by decide +kernel
theorem dX10_bestQuestion_0 : decode cX10_bestQuestion 0 = .ok (.iconst (-1), 1) := by decide +kernel
theorem dX10_bestQuestion_1 : decode cX10_bestQuestion 1 = .ok (.istore_n 3, 1) := by decide +kernel
theorem dX10_bestQuestion_2 : decode cX10_bestQuestion 2 = .ok (.iload_n 2, 1) := by decide +kernel
theorem dX10_bestQuestion_3 : decode cX10_bestQuestion 3 = .ok (.iconst 1, 1) := by decide +kernel
theorem dX10_bestQuestion_4 : decode cX10_bestQuestion 4 = .ok (.iadd, 1) := by decide +kernel
theorem dX10_bestQuestion_5 : decode cX10_bestQuestion 5 = .ok (.istore 4, 2) := by decide +kernel
theorem dX10_bestQuestion_7 : decode cX10_bestQuestion 7 = .ok (.iconst 0, 1) := by decide +kernel
theorem dX10_bestQuestion_8 : decode cX10_bestQuestion 8 = .ok (.istore 5, 2) := by decide +kernel
theorem dX10_bestQuestion_10 : decode cX10_bestQuestion 10 = .ok (.iload 5, 2) := by decide +kernel
theorem dX10_bestQuestion_12 : decode cX10_bestQuestion 12 = .ok (.aload_n 0, 1) := by decide +kernel
theorem dX10_bestQuestion_13 : decode cX10_bestQuestion 13 = .ok (.getfield 18, 3) := by decide +kernel
theorem dX10_bestQuestion_16 : decode cX10_bestQuestion 16 = .ok (.if_icmp .ge 69, 3) := by decide +kernel
theorem dX10_bestQuestion_19 : decode cX10_bestQuestion 19 = .ok (.iconst 0, 1) := by decide +kernel
theorem dX10_bestQuestion_20 : decode cX10_bestQuestion 20 = .ok (.istore 6, 2) := by decide +kernel
theorem dX10_bestQuestion_22 : decode cX10_bestQuestion 22 = .ok (.iload 6, 2) := by decide +kernel
theorem dX10_bestQuestion_24 : decode cX10_bestQuestion 24 = .ok (.aload_n 0, 1) := by decide +kernel
theorem dX10_bestQuestion_25 : decode cX10_bestQuestion 25 = .ok (.getfield 18, 3) := by decide +kernel
theorem dX10_bestQuestion_28 : decode cX10_bestQuestion 28 = .ok (.if_icmp .ge 51, 3) := by decide +kernel
theorem dX10_bestQuestion_31 : decode cX10_bestQuestion 31 = .ok (.aload_n 1, 1) := by decide +kernel
theorem dX10_bestQuestion_32 : decode cX10_bestQuestion 32 = .ok (.iload_n 2, 1) := by decide +kernel
theorem dX10_bestQuestion_33 : decode cX10_bestQuestion 33 = .ok (.iload 5, 2) := by decide +kernel
theorem dX10_bestQuestion_35 : decode cX10_bestQuestion 35 = .ok (.iload 6, 2) := by decide +kernel
theorem dX10_bestQuestion_37 : decode cX10_bestQuestion 37 = .ok (.invokestatic 77, 3) := by decide +kernel
theorem dX10_bestQuestion_40 : decode cX10_bestQuestion 40 = .ok (.istore 7, 2) := by decide +kernel
theorem dX10_bestQuestion_42 : decode cX10_bestQuestion 42 = .ok (.iload 7, 2) := by decide +kernel
theorem dX10_bestQuestion_44 : decode cX10_bestQuestion 44 = .ok (.iload_n 2, 1) := by decide +kernel
theorem dX10_bestQuestion_45 : decode cX10_bestQuestion 45 = .ok (.iload 7, 2) := by decide +kernel
theorem dX10_bestQuestion_47 : decode cX10_bestQuestion 47 = .ok (.isub, 1) := by decide +kernel
theorem dX10_bestQuestion_48 : decode cX10_bestQuestion 48 = .ok (.invokestatic 81, 3) := by decide +kernel
theorem dX10_bestQuestion_51 : decode cX10_bestQuestion 51 = .ok (.istore 8, 2) := by decide +kernel
theorem dX10_bestQuestion_53 : decode cX10_bestQuestion 53 = .ok (.iload 8, 2) := by decide +kernel
theorem dX10_bestQuestion_55 : decode cX10_bestQuestion 55 = .ok (.iload 4, 2) := by decide +kernel
theorem dX10_bestQuestion_57 : decode cX10_bestQuestion 57 = .ok (.if_icmp .ge 16, 3) := by decide +kernel
theorem dX10_bestQuestion_60 : decode cX10_bestQuestion 60 = .ok (.iload 8, 2) := by decide +kernel
theorem dX10_bestQuestion_62 : decode cX10_bestQuestion 62 = .ok (.istore 4, 2) := by decide +kernel
theorem dX10_bestQuestion_64 : decode cX10_bestQuestion 64 = .ok (.bipush 8, 2) := by decide +kernel
theorem dX10_bestQuestion_66 : decode cX10_bestQuestion 66 = .ok (.iload 5, 2) := by decide +kernel
theorem dX10_bestQuestion_68 : decode cX10_bestQuestion 68 = .ok (.imul, 1) := by decide +kernel
theorem dX10_bestQuestion_69 : decode cX10_bestQuestion 69 = .ok (.iload 6, 2) := by decide +kernel
theorem dX10_bestQuestion_71 : decode cX10_bestQuestion 71 = .ok (.iadd, 1) := by decide +kernel
theorem dX10_bestQuestion_72 : decode cX10_bestQuestion 72 = .ok (.istore_n 3, 1) := by decide +kernel
theorem dX10_bestQuestion_73 : decode cX10_bestQuestion 73 = .ok (.iinc 6 1, 3) := by decide +kernel
theorem dX10_bestQuestion_76 : decode cX10_bestQuestion 76 = .ok (.goto (-54), 3) := by decide +kernel
theorem dX10_bestQuestion_79 : decode cX10_bestQuestion 79 = .ok (.iinc 5 1, 3) := by decide +kernel
theorem dX10_bestQuestion_82 : decode cX10_bestQuestion 82 = .ok (.goto (-72), 3) := by decide +kernel
theorem dX10_bestQuestion_85 : decode cX10_bestQuestion 85 = .ok (.iload_n 3, 1) := by decide +kernel
theorem dX10_bestQuestion_86 : decode cX10_bestQuestion 86 = .ok (.ireturn, 1) := by decide +kernel
theorem dX10_saidBy_0 : decode cX10_saidBy 0 = .ok (.iconst 0, 1) := by decide +kernel
theorem dX10_saidBy_1 : decode cX10_saidBy 1 = .ok (.istore 4, 2) := by decide +kernel
theorem dX10_saidBy_3 : decode cX10_saidBy 3 = .ok (.iconst 0, 1) := by decide +kernel
theorem dX10_saidBy_4 : decode cX10_saidBy 4 = .ok (.istore 5, 2) := by decide +kernel
theorem dX10_saidBy_6 : decode cX10_saidBy 6 = .ok (.iload 5, 2) := by decide +kernel
theorem dX10_saidBy_8 : decode cX10_saidBy 8 = .ok (.iload_n 1, 1) := by decide +kernel
theorem dX10_saidBy_9 : decode cX10_saidBy 9 = .ok (.if_icmp .ge 29, 3) := by decide +kernel
theorem dX10_saidBy_12 : decode cX10_saidBy 12 = .ok (.iload 4, 2) := by decide +kernel
theorem dX10_saidBy_14 : decode cX10_saidBy 14 = .ok (.aload_n 0, 1) := by decide +kernel
theorem dX10_saidBy_15 : decode cX10_saidBy 15 = .ok (.iload 5, 2) := by decide +kernel
theorem dX10_saidBy_17 : decode cX10_saidBy 17 = .ok (.iaload, 1) := by decide +kernel
theorem dX10_saidBy_18 : decode cX10_saidBy 18 = .ok (.iload_n 2, 1) := by decide +kernel
theorem dX10_saidBy_19 : decode cX10_saidBy 19 = .ok (.ishr, 1) := by decide +kernel
theorem dX10_saidBy_20 : decode cX10_saidBy 20 = .ok (.aload_n 0, 1) := by decide +kernel
theorem dX10_saidBy_21 : decode cX10_saidBy 21 = .ok (.iload 5, 2) := by decide +kernel
theorem dX10_saidBy_23 : decode cX10_saidBy 23 = .ok (.iaload, 1) := by decide +kernel
theorem dX10_saidBy_24 : decode cX10_saidBy 24 = .ok (.iload_n 3, 1) := by decide +kernel
theorem dX10_saidBy_25 : decode cX10_saidBy 25 = .ok (.ishr, 1) := by decide +kernel
theorem dX10_saidBy_26 : decode cX10_saidBy 26 = .ok (.ixor, 1) := by decide +kernel
theorem dX10_saidBy_27 : decode cX10_saidBy 27 = .ok (.iconst 1, 1) := by decide +kernel
theorem dX10_saidBy_28 : decode cX10_saidBy 28 = .ok (.iand, 1) := by decide +kernel
theorem dX10_saidBy_29 : decode cX10_saidBy 29 = .ok (.iadd, 1) := by decide +kernel
theorem dX10_saidBy_30 : decode cX10_saidBy 30 = .ok (.istore 4, 2) := by decide +kernel
theorem dX10_saidBy_32 : decode cX10_saidBy 32 = .ok (.iinc 5 1, 3) := by decide +kernel
theorem dX10_saidBy_35 : decode cX10_saidBy 35 = .ok (.goto (-29), 3) := by decide +kernel
theorem dX10_saidBy_38 : decode cX10_saidBy 38 = .ok (.iload 4, 2) := by decide +kernel
theorem dX10_saidBy_40 : decode cX10_saidBy 40 = .ok (.ireturn, 1) := by decide +kernel
theorem dX10_leastBroken_0 : decode cX10_leastBroken 0 = .ok (.iconst (-1), 1) := by decide +kernel
theorem dX10_leastBroken_1 : decode cX10_leastBroken 1 = .ok (.istore_n 2, 1) := by decide +kernel
theorem dX10_leastBroken_2 : decode cX10_leastBroken 2 = .ok (.iconst (-1), 1) := by decide +kernel
theorem dX10_leastBroken_3 : decode cX10_leastBroken 3 = .ok (.istore_n 3, 1) := by decide +kernel
theorem dX10_leastBroken_4 : decode cX10_leastBroken 4 = .ok (.iconst 0, 1) := by decide +kernel
theorem dX10_leastBroken_5 : decode cX10_leastBroken 5 = .ok (.istore 4, 2) := by decide +kernel
theorem dX10_leastBroken_7 : decode cX10_leastBroken 7 = .ok (.iload 4, 2) := by decide +kernel
theorem dX10_leastBroken_9 : decode cX10_leastBroken 9 = .ok (.iconst 1, 1) := by decide +kernel
theorem dX10_leastBroken_10 : decode cX10_leastBroken 10 = .ok (.aload_n 0, 1) := by decide +kernel
theorem dX10_leastBroken_11 : decode cX10_leastBroken 11 = .ok (.getfield 18, 3) := by decide +kernel
theorem dX10_leastBroken_14 : decode cX10_leastBroken 14 = .ok (.ishl, 1) := by decide +kernel
theorem dX10_leastBroken_15 : decode cX10_leastBroken 15 = .ok (.if_icmp .ge 43, 3) := by decide +kernel
theorem dX10_leastBroken_18 : decode cX10_leastBroken 18 = .ok (.aload_n 0, 1) := by decide +kernel
theorem dX10_leastBroken_19 : decode cX10_leastBroken 19 = .ok (.iload 4, 2) := by decide +kernel
theorem dX10_leastBroken_21 : decode cX10_leastBroken 21 = .ok (.invokevirtual 52, 3) := by decide +kernel
theorem dX10_leastBroken_24 : decode cX10_leastBroken 24 = .ok (.ifCond .eq 28, 3) := by decide +kernel
theorem dX10_leastBroken_27 : decode cX10_leastBroken 27 = .ok (.aload_n 0, 1) := by decide +kernel
theorem dX10_leastBroken_28 : decode cX10_leastBroken 28 = .ok (.iload 4, 2) := by decide +kernel
theorem dX10_leastBroken_30 : decode cX10_leastBroken 30 = .ok (.invokevirtual 56, 3) := by decide +kernel
theorem dX10_leastBroken_33 : decode cX10_leastBroken 33 = .ok (.istore 5, 2) := by decide +kernel
theorem dX10_leastBroken_35 : decode cX10_leastBroken 35 = .ok (.iload_n 3, 1) := by decide +kernel
theorem dX10_leastBroken_36 : decode cX10_leastBroken 36 = .ok (.iconst (-1), 1) := by decide +kernel
theorem dX10_leastBroken_37 : decode cX10_leastBroken 37 = .ok (.if_icmp .eq 9, 3) := by decide +kernel
theorem dX10_leastBroken_40 : decode cX10_leastBroken 40 = .ok (.iload 5, 2) := by decide +kernel
theorem dX10_leastBroken_42 : decode cX10_leastBroken 42 = .ok (.iload_n 3, 1) := by decide +kernel
theorem dX10_leastBroken_43 : decode cX10_leastBroken 43 = .ok (.if_icmp .ge 9, 3) := by decide +kernel
theorem dX10_leastBroken_46 : decode cX10_leastBroken 46 = .ok (.iload 5, 2) := by decide +kernel
theorem dX10_leastBroken_48 : decode cX10_leastBroken 48 = .ok (.istore_n 3, 1) := by decide +kernel
theorem dX10_leastBroken_49 : decode cX10_leastBroken 49 = .ok (.iload 4, 2) := by decide +kernel
theorem dX10_leastBroken_51 : decode cX10_leastBroken 51 = .ok (.istore_n 2, 1) := by decide +kernel
theorem dX10_leastBroken_52 : decode cX10_leastBroken 52 = .ok (.iinc 4 1, 3) := by decide +kernel
theorem dX10_leastBroken_55 : decode cX10_leastBroken 55 = .ok (.goto (-48), 3) := by decide +kernel
theorem dX10_leastBroken_58 : decode cX10_leastBroken 58 = .ok (.iload_n 1, 1) := by decide +kernel
theorem dX10_leastBroken_59 : decode cX10_leastBroken 59 = .ok (.ifCond .eq 7, 3) := by decide +kernel
theorem dX10_leastBroken_62 : decode cX10_leastBroken 62 = .ok (.iload_n 2, 1) := by decide +kernel
theorem dX10_leastBroken_63 : decode cX10_leastBroken 63 = .ok (.goto 4, 3) := by decide +kernel
theorem dX10_leastBroken_66 : decode cX10_leastBroken 66 = .ok (.iload_n 3, 1) := by decide +kernel
theorem dX10_leastBroken_67 : decode cX10_leastBroken 67 = .ok (.ireturn, 1) := by decide +kernel
theorem dX11_init_0 : decode cX11_init 0 = .ok (.aload_n 0, 1) := by decide +kernel
theorem dX11_init_1 : decode cX11_init 1 = .ok (.invokespecial 1, 3) := by decide +kernel
theorem dX11_init_4 : decode cX11_init 4 = .ok (.aload_n 0, 1) := by decide +kernel
theorem dX11_init_5 : decode cX11_init 5 = .ok (.new 7, 3) := by decide +kernel
theorem dX11_init_8 : decode cX11_init 8 = .ok (.dup, 1) := by decide +kernel
theorem dX11_init_9 : decode cX11_init 9 = .ok (.invokespecial 9, 3) := by decide +kernel
theorem dX11_init_12 : decode cX11_init 12 = .ok (.putfield 10, 3) := by decide +kernel
theorem dX11_init_15 : decode cX11_init 15 = .ok (.aload_n 0, 1) := by decide +kernel
theorem dX11_init_16 : decode cX11_init 16 = .ok (.iconst 3, 1) := by decide +kernel
theorem dX11_init_17 : decode cX11_init 17 = .ok (.anewarray 7, 3) := by decide +kernel
theorem dX11_init_20 : decode cX11_init 20 = .ok (.putfield 16, 3) := by decide +kernel
theorem dX11_init_23 : decode cX11_init 23 = .ok (.iconst 0, 1) := by decide +kernel
theorem dX11_init_24 : decode cX11_init 24 = .ok (.istore_n 1, 1) := by decide +kernel
theorem dX11_init_25 : decode cX11_init 25 = .ok (.iload_n 1, 1) := by decide +kernel
theorem dX11_init_26 : decode cX11_init 26 = .ok (.iconst 3, 1) := by decide +kernel
theorem dX11_init_27 : decode cX11_init 27 = .ok (.if_icmp .ge 22, 3) := by decide +kernel
theorem dX11_init_30 : decode cX11_init 30 = .ok (.aload_n 0, 1) := by decide +kernel
theorem dX11_init_31 : decode cX11_init 31 = .ok (.getfield 16, 3) := by decide +kernel
theorem dX11_init_34 : decode cX11_init 34 = .ok (.iload_n 1, 1) := by decide +kernel
theorem dX11_init_35 : decode cX11_init 35 = .ok (.new 7, 3) := by decide +kernel
theorem dX11_init_38 : decode cX11_init 38 = .ok (.dup, 1) := by decide +kernel
theorem dX11_init_39 : decode cX11_init 39 = .ok (.invokespecial 9, 3) := by decide +kernel
theorem dX11_init_42 : decode cX11_init 42 = .ok (.aastore, 1) := by decide +kernel
theorem dX11_init_43 : decode cX11_init 43 = .ok (.iinc 1 1, 3) := by decide +kernel
theorem dX11_init_46 : decode cX11_init 46 = .ok (.goto (-21), 3) := by decide +kernel
theorem dX11_init_49 : decode cX11_init 49 = .ok (.aload_n 0, 1) := by decide +kernel
theorem dX11_init_50 : decode cX11_init 50 = .ok (.iconst 3, 1) := by decide +kernel
theorem dX11_init_51 : decode cX11_init 51 = .ok (.newarray .boolean, 2) := by decide +kernel
theorem dX11_init_53 : decode cX11_init 53 = .ok (.putfield 20, 3) := by decide +kernel
theorem dX11_init_56 : decode cX11_init 56 = .ok (.aload_n 0, 1) := by decide +kernel
theorem dX11_init_57 : decode cX11_init 57 = .ok (.new 24, 3) := by decide +kernel
theorem dX11_init_60 : decode cX11_init 60 = .ok (.dup, 1) := by decide +kernel
theorem dX11_init_61 : decode cX11_init 61 = .ok (.invokespecial 26, 3) := by decide +kernel
theorem dX11_init_64 : decode cX11_init 64 = .ok (.putfield 27, 3) := by decide +kernel
theorem dX11_init_67 : decode cX11_init 67 = .ok (.aload_n 0, 1) := by decide +kernel
theorem dX11_init_68 : decode cX11_init 68 = .ok (.new 31, 3) := by decide +kernel
theorem dX11_init_71 : decode cX11_init 71 = .ok (.dup, 1) := by decide +kernel
theorem dX11_init_72 : decode cX11_init 72 = .ok (.invokespecial 33, 3) := by decide +kernel
theorem dX11_init_75 : decode cX11_init 75 = .ok (.putfield 34, 3) := by decide +kernel
theorem dX11_init_78 : decode cX11_init 78 = .ok (.aload_n 0, 1) := by decide +kernel
theorem dX11_init_79 : decode cX11_init 79 = .ok (.new 38, 3) := by decide +kernel
theorem dX11_init_82 : decode cX11_init 82 = .ok (.dup, 1) := by decide +kernel
theorem dX11_init_83 : decode cX11_init 83 = .ok (.invokespecial 40, 3) := by decide +kernel
theorem dX11_init_86 : decode cX11_init 86 = .ok (.putfield 41, 3) := by decide +kernel
theorem dX11_init_89 : decode cX11_init 89 = .ok (.aload_n 0, 1) := by decide +kernel
theorem dX11_init_90 : decode cX11_init 90 = .ok (.new 45, 3) := by decide +kernel
theorem dX11_init_93 : decode cX11_init 93 = .ok (.dup, 1) := by decide +kernel
theorem dX11_init_94 : decode cX11_init 94 = .ok (.invokespecial 47, 3) := by decide +kernel
theorem dX11_init_97 : decode cX11_init 97 = .ok (.putfield 48, 3) := by decide +kernel
theorem dX11_init_100 : decode cX11_init 100 = .ok (.aload_n 0, 1) := by decide +kernel
theorem dX11_init_101 : decode cX11_init 101 = .ok (.new 52, 3) := by decide +kernel
theorem dX11_init_104 : decode cX11_init 104 = .ok (.dup, 1) := by decide +kernel
theorem dX11_init_105 : decode cX11_init 105 = .ok (.invokespecial 54, 3) := by decide +kernel
theorem dX11_init_108 : decode cX11_init 108 = .ok (.putfield 55, 3) := by decide +kernel
theorem dX11_init_111 : decode cX11_init 111 = .ok (.aload_n 0, 1) := by decide +kernel
theorem dX11_init_112 : decode cX11_init 112 = .ok (.new 59, 3) := by decide +kernel
theorem dX11_init_115 : decode cX11_init 115 = .ok (.dup, 1) := by decide +kernel
theorem dX11_init_116 : decode cX11_init 116 = .ok (.invokespecial 61, 3) := by decide +kernel
theorem dX11_init_119 : decode cX11_init 119 = .ok (.putfield 62, 3) := by decide +kernel
theorem dX11_init_122 : decode cX11_init 122 = .ok (.aload_n 0, 1) := by decide +kernel
theorem dX11_init_123 : decode cX11_init 123 = .ok (.new 66, 3) := by decide +kernel
theorem dX11_init_126 : decode cX11_init 126 = .ok (.dup, 1) := by decide +kernel
theorem dX11_init_127 : decode cX11_init 127 = .ok (.invokespecial 68, 3) := by decide +kernel
theorem dX11_init_130 : decode cX11_init 130 = .ok (.putfield 69, 3) := by decide +kernel
theorem dX11_init_133 : decode cX11_init 133 = .ok (.aload_n 0, 1) := by decide +kernel
theorem dX11_init_134 : decode cX11_init 134 = .ok (.sipush 256, 3) := by decide +kernel
theorem dX11_init_137 : decode cX11_init 137 = .ok (.newarray .int, 2) := by decide +kernel
theorem dX11_init_139 : decode cX11_init 139 = .ok (.putfield 73, 3) := by decide +kernel
theorem dX11_init_142 : decode cX11_init 142 = .ok (.return_, 1) := by decide +kernel
theorem dX11_feed_0 : decode cX11_feed 0 = .ok (.aload_n 0, 1) := by decide +kernel
theorem dX11_feed_1 : decode cX11_feed 1 = .ok (.getfield 10, 3) := by decide +kernel
theorem dX11_feed_4 : decode cX11_feed 4 = .ok (.getfield 77, 3) := by decide +kernel
theorem dX11_feed_7 : decode cX11_feed 7 = .ok (.bipush 20, 2) := by decide +kernel
theorem dX11_feed_9 : decode cX11_feed 9 = .ok (.iadd, 1) := by decide +kernel
theorem dX11_feed_10 : decode cX11_feed 10 = .ok (.sipush 600, 3) := by decide +kernel
theorem dX11_feed_13 : decode cX11_feed 13 = .ok (.if_icmp .le 5, 3) := by decide +kernel
theorem dX11_feed_16 : decode cX11_feed 16 = .ok (.iconst (-1), 1) := by decide +kernel
theorem dX11_feed_17 : decode cX11_feed 17 = .ok (.ireturn, 1) := by decide +kernel
theorem dX11_feed_18 : decode cX11_feed 18 = .ok (.aload_n 0, 1) := by decide +kernel
theorem dX11_feed_19 : decode cX11_feed 19 = .ok (.getfield 10, 3) := by decide +kernel
theorem dX11_feed_22 : decode cX11_feed 22 = .ok (.iload_n 1, 1) := by decide +kernel
theorem dX11_feed_23 : decode cX11_feed 23 = .ok (.invokevirtual 81, 3) := by decide +kernel
theorem dX11_feed_26 : decode cX11_feed 26 = .ok (.aload_n 0, 1) := by decide +kernel
theorem dX11_feed_27 : decode cX11_feed 27 = .ok (.getfield 10, 3) := by decide +kernel
theorem dX11_feed_30 : decode cX11_feed 30 = .ok (.iload_n 2, 1) := by decide +kernel
theorem dX11_feed_31 : decode cX11_feed 31 = .ok (.invokevirtual 81, 3) := by decide +kernel
theorem dX11_feed_34 : decode cX11_feed 34 = .ok (.aload_n 0, 1) := by decide +kernel
theorem dX11_feed_35 : decode cX11_feed 35 = .ok (.getfield 10, 3) := by decide +kernel
theorem dX11_feed_38 : decode cX11_feed 38 = .ok (.iload_n 3, 1) := by decide +kernel
theorem dX11_feed_39 : decode cX11_feed 39 = .ok (.invokevirtual 81, 3) := by decide +kernel
theorem dX11_feed_42 : decode cX11_feed 42 = .ok (.aload_n 0, 1) := by decide +kernel
theorem dX11_feed_43 : decode cX11_feed 43 = .ok (.getfield 10, 3) := by decide +kernel
theorem dX11_feed_46 : decode cX11_feed 46 = .ok (.iload 4, 2) := by decide +kernel
theorem dX11_feed_48 : decode cX11_feed 48 = .ok (.invokevirtual 81, 3) := by decide +kernel
theorem dX11_feed_51 : decode cX11_feed 51 = .ok (.aload_n 0, 1) := by decide +kernel
theorem dX11_feed_52 : decode cX11_feed 52 = .ok (.getfield 10, 3) := by decide +kernel
theorem dX11_feed_55 : decode cX11_feed 55 = .ok (.iload 5, 2) := by decide +kernel
theorem dX11_feed_57 : decode cX11_feed 57 = .ok (.invokevirtual 81, 3) := by decide +kernel
theorem dX11_feed_60 : decode cX11_feed 60 = .ok (.aload_n 0, 1) := by decide +kernel
theorem dX11_feed_61 : decode cX11_feed 61 = .ok (.getfield 10, 3) := by decide +kernel
theorem dX11_feed_64 : decode cX11_feed 64 = .ok (.getfield 77, 3) := by decide +kernel
theorem dX11_feed_67 : decode cX11_feed 67 = .ok (.ireturn, 1) := by decide +kernel
theorem dX11_end_0 : decode cX11_end 0 = .ok (.iload_n 1, 1) := by decide +kernel
theorem dX11_end_1 : decode cX11_end 1 = .ok (.ifCond .lt 14, 3) := by decide +kernel
theorem dX11_end_4 : decode cX11_end 4 = .ok (.iload_n 1, 1) := by decide +kernel
theorem dX11_end_5 : decode cX11_end 5 = .ok (.aload_n 0, 1) := by decide +kernel
theorem dX11_end_6 : decode cX11_end 6 = .ok (.getfield 10, 3) := by decide +kernel
theorem dX11_end_9 : decode cX11_end 9 = .ok (.getfield 77, 3) := by decide +kernel
theorem dX11_end_12 : decode cX11_end 12 = .ok (.if_icmp .le 5, 3) := by decide +kernel
theorem dX11_end_15 : decode cX11_end 15 = .ok (.iconst (-1), 1) := by decide +kernel
theorem dX11_end_16 : decode cX11_end 16 = .ok (.ireturn, 1) := by decide +kernel
theorem dX11_end_17 : decode cX11_end 17 = .ok (.aload_n 0, 1) := by decide +kernel
theorem dX11_end_18 : decode cX11_end 18 = .ok (.getfield 10, 3) := by decide +kernel
theorem dX11_end_21 : decode cX11_end 21 = .ok (.iload_n 1, 1) := by decide +kernel
theorem dX11_end_22 : decode cX11_end 22 = .ok (.putfield 77, 3) := by decide +kernel
theorem dX11_end_25 : decode cX11_end 25 = .ok (.iload_n 1, 1) := by decide +kernel
theorem dX11_end_26 : decode cX11_end 26 = .ok (.ireturn, 1) := by decide +kernel
theorem dX11_text_0 : decode cX11_text 0 = .ok (.aload_n 0, 1) := by decide +kernel
theorem dX11_text_1 : decode cX11_text 1 = .ok (.getfield 10, 3) := by decide +kernel
theorem dX11_text_4 : decode cX11_text 4 = .ok (.getfield 77, 3) := by decide +kernel
theorem dX11_text_7 : decode cX11_text 7 = .ok (.istore_n 3, 1) := by decide +kernel
theorem dX11_text_8 : decode cX11_text 8 = .ok (.aload_n 0, 1) := by decide +kernel
theorem dX11_text_9 : decode cX11_text 9 = .ok (.getfield 10, 3) := by decide +kernel
theorem dX11_text_12 : decode cX11_text 12 = .ok (.iconst 0, 1) := by decide +kernel
theorem dX11_text_13 : decode cX11_text 13 = .ok (.putfield 77, 3) := by decide +kernel
theorem dX11_text_16 : decode cX11_text 16 = .ok (.aload_n 0, 1) := by decide +kernel
theorem dX11_text_17 : decode cX11_text 17 = .ok (.getfield 10, 3) := by decide +kernel
theorem dX11_text_20 : decode cX11_text 20 = .ok (.iconst 0, 1) := by decide +kernel
theorem dX11_text_21 : decode cX11_text 21 = .ok (.putfield 85, 3) := by decide +kernel
theorem dX11_text_24 : decode cX11_text 24 = .ok (.aload_n 0, 1) := by decide +kernel
theorem dX11_text_25 : decode cX11_text 25 = .ok (.getfield 10, 3) := by decide +kernel
theorem dX11_text_28 : decode cX11_text 28 = .ok (.iconst (-1), 1) := by decide +kernel
theorem dX11_text_29 : decode cX11_text 29 = .ok (.putfield 88, 3) := by decide +kernel
theorem dX11_text_32 : decode cX11_text 32 = .ok (.aload_n 0, 1) := by decide +kernel
theorem dX11_text_33 : decode cX11_text 33 = .ok (.getfield 10, 3) := by decide +kernel
theorem dX11_text_36 : decode cX11_text 36 = .ok (.iload_n 1, 1) := by decide +kernel
theorem dX11_text_37 : decode cX11_text 37 = .ok (.invokevirtual 91, 3) := by decide +kernel
theorem dX11_text_40 : decode cX11_text 40 = .ok (.istore 4, 2) := by decide +kernel
theorem dX11_text_42 : decode cX11_text 42 = .ok (.iload_n 2, 1) := by decide +kernel
theorem dX11_text_43 : decode cX11_text 43 = .ok (.iconst (-1), 1) := by decide +kernel
theorem dX11_text_44 : decode cX11_text 44 = .ok (.if_icmp .ne 13, 3) := by decide +kernel
theorem dX11_text_47 : decode cX11_text 47 = .ok (.iload 4, 2) := by decide +kernel
theorem dX11_text_49 : decode cX11_text 49 = .ok (.iconst 2, 1) := by decide +kernel
theorem dX11_text_50 : decode cX11_text 50 = .ok (.if_icmp .ge 7, 3) := by decide +kernel
theorem dX11_text_53 : decode cX11_text 53 = .ok (.iconst 1, 1) := by decide +kernel
theorem dX11_text_54 : decode cX11_text 54 = .ok (.goto 4, 3) := by decide +kernel
theorem dX11_text_57 : decode cX11_text 57 = .ok (.iconst 0, 1) := by decide +kernel
theorem dX11_text_58 : decode cX11_text 58 = .ok (.istore 5, 2) := by decide +kernel
theorem dX11_text_60 : decode cX11_text 60 = .ok (.iload_n 2, 1) := by decide +kernel
theorem dX11_text_61 : decode cX11_text 61 = .ok (.ifCond .lt 13, 3) := by decide +kernel
theorem dX11_text_64 : decode cX11_text 64 = .ok (.iload_n 2, 1) := by decide +kernel
theorem dX11_text_65 : decode cX11_text 65 = .ok (.iload 4, 2) := by decide +kernel
theorem dX11_text_67 : decode cX11_text 67 = .ok (.if_icmp .ge 7, 3) := by decide +kernel
theorem dX11_text_70 : decode cX11_text 70 = .ok (.iconst 1, 1) := by decide +kernel
theorem dX11_text_71 : decode cX11_text 71 = .ok (.goto 4, 3) := by decide +kernel
theorem dX11_text_74 : decode cX11_text 74 = .ok (.iconst 0, 1) := by decide +kernel
theorem dX11_text_75 : decode cX11_text 75 = .ok (.istore 6, 2) := by decide +kernel
theorem dX11_text_77 : decode cX11_text 77 = .ok (.iload 4, 2) := by decide +kernel
theorem dX11_text_79 : decode cX11_text 79 = .ok (.bipush (-2), 2) := by decide +kernel
theorem dX11_text_81 : decode cX11_text 81 = .ok (.if_icmp .eq 13, 3) := by decide +kernel
theorem dX11_text_84 : decode cX11_text 84 = .ok (.iload 5, 2) := by decide +kernel
theorem dX11_text_86 : decode cX11_text 86 = .ok (.ifCond .ne 11, 3) := by decide +kernel
theorem dX11_text_89 : decode cX11_text 89 = .ok (.iload 6, 2) := by decide +kernel
theorem dX11_text_91 : decode cX11_text 91 = .ok (.ifCond .ne 6, 3) := by decide +kernel
theorem dX11_text_94 : decode cX11_text 94 = .ok (.bipush (-2), 2) := by decide +kernel
theorem dX11_text_96 : decode cX11_text 96 = .ok (.ireturn, 1) := by decide +kernel
theorem dX11_text_97 : decode cX11_text 97 = .ok (.aload_n 0, 1) := by decide +kernel
theorem dX11_text_98 : decode cX11_text 98 = .ok (.getfield 27, 3) := by decide +kernel
theorem dX11_text_101 : decode cX11_text 101 = .ok (.iload_n 1, 1) := by decide +kernel
theorem dX11_text_102 : decode cX11_text 102 = .ok (.aload_n 0, 1) := by decide +kernel
theorem dX11_text_103 : decode cX11_text 103 = .ok (.getfield 10, 3) := by decide +kernel
theorem dX11_text_106 : decode cX11_text 106 = .ok (.getfield 95, 3) := by decide +kernel
theorem dX11_text_109 : decode cX11_text 109 = .ok (.iload_n 3, 1) := by decide +kernel
theorem dX11_text_110 : decode cX11_text 110 = .ok (.invokevirtual 99, 3) := by decide +kernel
theorem dX11_text_113 : decode cX11_text 113 = .ok (.aload_n 0, 1) := by decide +kernel
theorem dX11_text_114 : decode cX11_text 114 = .ok (.getfield 10, 3) := by decide +kernel
theorem dX11_text_117 : decode cX11_text 117 = .ok (.aload_n 0, 1) := by decide +kernel
theorem dX11_text_118 : decode cX11_text 118 = .ok (.getfield 27, 3) := by decide +kernel
theorem dX11_text_121 : decode cX11_text 121 = .ok (.getfield 103, 3) := by decide +kernel
theorem dX11_text_124 : decode cX11_text 124 = .ok (.putfield 85, 3) := by decide +kernel
theorem dX11_text_127 : decode cX11_text 127 = .ok (.aload_n 0, 1) := by decide +kernel
theorem dX11_text_128 : decode cX11_text 128 = .ok (.getfield 10, 3) := by decide +kernel
theorem dX11_text_131 : decode cX11_text 131 = .ok (.aload_n 0, 1) := by decide +kernel
theorem dX11_text_132 : decode cX11_text 132 = .ok (.getfield 27, 3) := by decide +kernel
theorem dX11_text_135 : decode cX11_text 135 = .ok (.getfield 104, 3) := by decide +kernel
theorem dX11_text_138 : decode cX11_text 138 = .ok (.putfield 88, 3) := by decide +kernel
theorem dX11_text_141 : decode cX11_text 141 = .ok (.aload_n 0, 1) := by decide +kernel
theorem dX11_text_142 : decode cX11_text 142 = .ok (.getfield 10, 3) := by decide +kernel
theorem dX11_text_145 : decode cX11_text 145 = .ok (.getfield 85, 3) := by decide +kernel
theorem dX11_text_148 : decode cX11_text 148 = .ok (.ifCond .eq 5, 3) := by decide +kernel
theorem dX11_text_151 : decode cX11_text 151 = .ok (.iconst (-1), 1) := by decide +kernel
theorem dX11_text_152 : decode cX11_text 152 = .ok (.ireturn, 1) := by decide +kernel
theorem dX11_text_153 : decode cX11_text 153 = .ok (.iload 5, 2) := by decide +kernel
theorem dX11_text_155 : decode cX11_text 155 = .ok (.ifCond .eq 8, 3) := by decide +kernel
theorem dX11_text_158 : decode cX11_text 158 = .ok (.iload 4, 2) := by decide +kernel
theorem dX11_text_160 : decode cX11_text 160 = .ok (.goto 4, 3) := by decide +kernel
theorem dX11_text_163 : decode cX11_text 163 = .ok (.iload_n 2, 1) := by decide +kernel
theorem dX11_text_164 : decode cX11_text 164 = .ok (.istore 7, 2) := by decide +kernel
theorem dX11_text_166 : decode cX11_text 166 = .ok (.aload_n 0, 1) := by decide +kernel
theorem dX11_text_167 : decode cX11_text 167 = .ok (.getfield 10, 3) := by decide +kernel
theorem dX11_text_170 : decode cX11_text 170 = .ok (.iload_n 1, 1) := by decide +kernel
theorem dX11_text_171 : decode cX11_text 171 = .ok (.iload 7, 2) := by decide +kernel
theorem dX11_text_173 : decode cX11_text 173 = .ok (.aload_n 0, 1) := by decide +kernel
theorem dX11_text_174 : decode cX11_text 174 = .ok (.getfield 27, 3) := by decide +kernel
theorem dX11_text_177 : decode cX11_text 177 = .ok (.invokevirtual 105, 3) := by decide +kernel
theorem dX11_text_180 : decode cX11_text 180 = .ok (.iload 7, 2) := by decide +kernel
theorem dX11_text_182 : decode cX11_text 182 = .ok (.ireturn, 1) := by decide +kernel
theorem dX11_fault_0 : decode cX11_fault 0 = .ok (.iload_n 1, 1) := by decide +kernel
theorem dX11_fault_1 : decode cX11_fault 1 = .ok (.lookupswitch 43 #[(0, 27), (1, 35)], 27) := by decide +kernel
theorem dX11_fault_28 : decode cX11_fault 28 = .ok (.aload_n 0, 1) := by decide +kernel
theorem dX11_fault_29 : decode cX11_fault 29 = .ok (.getfield 10, 3) := by decide +kernel
theorem dX11_fault_32 : decode cX11_fault 32 = .ok (.getfield 85, 3) := by decide +kernel
theorem dX11_fault_35 : decode cX11_fault 35 = .ok (.ireturn, 1) := by decide +kernel
theorem dX11_fault_36 : decode cX11_fault 36 = .ok (.aload_n 0, 1) := by decide +kernel
theorem dX11_fault_37 : decode cX11_fault 37 = .ok (.getfield 10, 3) := by decide +kernel
theorem dX11_fault_40 : decode cX11_fault 40 = .ok (.getfield 88, 3) := by decide +kernel
theorem dX11_fault_43 : decode cX11_fault 43 = .ok (.ireturn, 1) := by decide +kernel
theorem dX11_fault_44 : decode cX11_fault 44 = .ok (.iconst (-1), 1) := by decide +kernel
theorem dX11_fault_45 : decode cX11_fault 45 = .ok (.ireturn, 1) := by decide +kernel
theorem dX11_city_0 : decode cX11_city 0 = .ok (.aload_n 0, 1) := by decide +kernel
theorem dX11_city_1 : decode cX11_city 1 = .ok (.getfield 10, 3) := by decide +kernel
theorem dX11_city_4 : decode cX11_city 4 = .ok (.iload_n 1, 1) := by decide +kernel
theorem dX11_city_5 : decode cX11_city 5 = .ok (.invokevirtual 109, 3) := by decide +kernel
theorem dX11_city_8 : decode cX11_city 8 = .ok (.astore_n 3, 1) := by decide +kernel
theorem dX11_city_9 : decode cX11_city 9 = .ok (.aload_n 3, 1) := by decide +kernel
theorem dX11_city_10 : decode cX11_city 10 = .ok (.ifnonnull 7, 3) := by decide +kernel
theorem dX11_city_13 : decode cX11_city 13 = .ok (.iconst (-1), 1) := by decide +kernel
theorem dX11_city_14 : decode cX11_city 14 = .ok (.goto 8, 3) := by decide +kernel
theorem dX11_city_17 : decode cX11_city 17 = .ok (.aload_n 3, 1) := by decide +kernel
theorem dX11_city_18 : decode cX11_city 18 = .ok (.iload_n 2, 1) := by decide +kernel
theorem dX11_city_19 : decode cX11_city 19 = .ok (.invokevirtual 113, 3) := by decide +kernel
theorem dX11_city_22 : decode cX11_city 22 = .ok (.ireturn, 1) := by decide +kernel
theorem dX11_deed_0 : decode cX11_deed 0 = .ok (.aload_n 0, 1) := by decide +kernel
theorem dX11_deed_1 : decode cX11_deed 1 = .ok (.getfield 10, 3) := by decide +kernel
theorem dX11_deed_4 : decode cX11_deed 4 = .ok (.iload_n 1, 1) := by decide +kernel
theorem dX11_deed_5 : decode cX11_deed 5 = .ok (.invokevirtual 118, 3) := by decide +kernel
theorem dX11_deed_8 : decode cX11_deed 8 = .ok (.astore 4, 2) := by decide +kernel
theorem dX11_deed_10 : decode cX11_deed 10 = .ok (.aload 4, 2) := by decide +kernel
theorem dX11_deed_12 : decode cX11_deed 12 = .ok (.ifnonnull 8, 3) := by decide +kernel
theorem dX11_deed_15 : decode cX11_deed 15 = .ok (.bipush (-2), 2) := by decide +kernel
theorem dX11_deed_17 : decode cX11_deed 17 = .ok (.goto 10, 3) := by decide +kernel
theorem dX11_deed_20 : decode cX11_deed 20 = .ok (.aload 4, 2) := by decide +kernel
theorem dX11_deed_22 : decode cX11_deed 22 = .ok (.iload_n 2, 1) := by decide +kernel
theorem dX11_deed_23 : decode cX11_deed 23 = .ok (.iload_n 3, 1) := by decide +kernel
theorem dX11_deed_24 : decode cX11_deed 24 = .ok (.invokevirtual 122, 3) := by decide +kernel
theorem dX11_deed_27 : decode cX11_deed 27 = .ok (.ireturn, 1) := by decide +kernel
theorem dX11_stop_0 : decode cX11_stop 0 = .ok (.aload_n 0, 1) := by decide +kernel
theorem dX11_stop_1 : decode cX11_stop 1 = .ok (.getfield 10, 3) := by decide +kernel
theorem dX11_stop_4 : decode cX11_stop 4 = .ok (.iload_n 1, 1) := by decide +kernel
theorem dX11_stop_5 : decode cX11_stop 5 = .ok (.invokevirtual 109, 3) := by decide +kernel
theorem dX11_stop_8 : decode cX11_stop 8 = .ok (.astore_n 3, 1) := by decide +kernel
theorem dX11_stop_9 : decode cX11_stop 9 = .ok (.aload_n 0, 1) := by decide +kernel
theorem dX11_stop_10 : decode cX11_stop 10 = .ok (.getfield 10, 3) := by decide +kernel
theorem dX11_stop_13 : decode cX11_stop 13 = .ok (.iload_n 2, 1) := by decide +kernel
theorem dX11_stop_14 : decode cX11_stop 14 = .ok (.invokevirtual 118, 3) := by decide +kernel
theorem dX11_stop_17 : decode cX11_stop 17 = .ok (.astore 4, 2) := by decide +kernel
theorem dX11_stop_19 : decode cX11_stop 19 = .ok (.aload_n 3, 1) := by decide +kernel
theorem dX11_stop_20 : decode cX11_stop 20 = .ok (.ifnull 8, 3) := by decide +kernel
theorem dX11_stop_23 : decode cX11_stop 23 = .ok (.aload 4, 2) := by decide +kernel
theorem dX11_stop_25 : decode cX11_stop 25 = .ok (.ifnonnull 5, 3) := by decide +kernel
theorem dX11_stop_28 : decode cX11_stop 28 = .ok (.iconst (-1), 1) := by decide +kernel
theorem dX11_stop_29 : decode cX11_stop 29 = .ok (.ireturn, 1) := by decide +kernel
theorem dX11_stop_30 : decode cX11_stop 30 = .ok (.aload_n 0, 1) := by decide +kernel
theorem dX11_stop_31 : decode cX11_stop 31 = .ok (.getfield 48, 3) := by decide +kernel
theorem dX11_stop_34 : decode cX11_stop 34 = .ok (.aload_n 3, 1) := by decide +kernel
theorem dX11_stop_35 : decode cX11_stop 35 = .ok (.aload 4, 2) := by decide +kernel
theorem dX11_stop_37 : decode cX11_stop 37 = .ok (.aload 4, 2) := by decide +kernel
theorem dX11_stop_39 : decode cX11_stop 39 = .ok (.getfield 127, 3) := by decide +kernel
theorem dX11_stop_42 : decode cX11_stop 42 = .ok (.invokevirtual 130, 3) := by decide +kernel
theorem dX11_stop_45 : decode cX11_stop 45 = .ok (.ireturn, 1) := by decide +kernel
theorem dX11_state_0 : decode cX11_state 0 = .ok (.aload_n 0, 1) := by decide +kernel
theorem dX11_state_1 : decode cX11_state 1 = .ok (.getfield 10, 3) := by decide +kernel
theorem dX11_state_4 : decode cX11_state 4 = .ok (.iload_n 1, 1) := by decide +kernel
theorem dX11_state_5 : decode cX11_state 5 = .ok (.invokevirtual 109, 3) := by decide +kernel
theorem dX11_state_8 : decode cX11_state 8 = .ok (.astore 5, 2) := by decide +kernel
theorem dX11_state_10 : decode cX11_state 10 = .ok (.aload_n 0, 1) := by decide +kernel
theorem dX11_state_11 : decode cX11_state 11 = .ok (.getfield 10, 3) := by decide +kernel
theorem dX11_state_14 : decode cX11_state 14 = .ok (.iload_n 2, 1) := by decide +kernel
theorem dX11_state_15 : decode cX11_state 15 = .ok (.invokevirtual 118, 3) := by decide +kernel
theorem dX11_state_18 : decode cX11_state 18 = .ok (.astore 6, 2) := by decide +kernel
theorem dX11_state_20 : decode cX11_state 20 = .ok (.aload 5, 2) := by decide +kernel
theorem dX11_state_22 : decode cX11_state 22 = .ok (.ifnull 21, 3) := by decide +kernel
theorem dX11_state_25 : decode cX11_state 25 = .ok (.aload 6, 2) := by decide +kernel
theorem dX11_state_27 : decode cX11_state 27 = .ok (.ifnull 16, 3) := by decide +kernel
theorem dX11_state_30 : decode cX11_state 30 = .ok (.iload_n 3, 1) := by decide +kernel
theorem dX11_state_31 : decode cX11_state 31 = .ok (.ifCond .lt 12, 3) := by decide +kernel
theorem dX11_state_34 : decode cX11_state 34 = .ok (.iload_n 3, 1) := by decide +kernel
theorem dX11_state_35 : decode cX11_state 35 = .ok (.aload 6, 2) := by decide +kernel
theorem dX11_state_37 : decode cX11_state 37 = .ok (.getfield 127, 3) := by decide +kernel
theorem dX11_state_40 : decode cX11_state 40 = .ok (.if_icmp .le 6, 3) := by decide +kernel
theorem dX11_state_43 : decode cX11_state 43 = .ok (.bipush (-2), 2) := by decide +kernel
theorem dX11_state_45 : decode cX11_state 45 = .ok (.ireturn, 1) := by decide +kernel
theorem dX11_state_46 : decode cX11_state 46 = .ok (.aload_n 0, 1) := by decide +kernel
theorem dX11_state_47 : decode cX11_state 47 = .ok (.getfield 48, 3) := by decide +kernel
theorem dX11_state_50 : decode cX11_state 50 = .ok (.aload 5, 2) := by decide +kernel
theorem dX11_state_52 : decode cX11_state 52 = .ok (.aload 6, 2) := by decide +kernel
theorem dX11_state_54 : decode cX11_state 54 = .ok (.iload_n 3, 1) := by decide +kernel
theorem dX11_state_55 : decode cX11_state 55 = .ok (.invokevirtual 130, 3) := by decide +kernel
theorem dX11_state_58 : decode cX11_state 58 = .ok (.iload_n 3, 1) := by decide +kernel
theorem dX11_state_59 : decode cX11_state 59 = .ok (.if_icmp .ge 6, 3) := by decide +kernel
theorem dX11_state_62 : decode cX11_state 62 = .ok (.bipush (-2), 2) := by decide +kernel
theorem dX11_state_64 : decode cX11_state 64 = .ok (.ireturn, 1) := by decide +kernel
theorem dX11_state_65 : decode cX11_state 65 = .ok (.aload_n 0, 1) := by decide +kernel
theorem dX11_state_66 : decode cX11_state 66 = .ok (.getfield 48, 3) := by decide +kernel
theorem dX11_state_69 : decode cX11_state 69 = .ok (.aload 5, 2) := by decide +kernel
theorem dX11_state_71 : decode cX11_state 71 = .ok (.iload 4, 2) := by decide +kernel
theorem dX11_state_73 : decode cX11_state 73 = .ok (.invokevirtual 134, 3) := by decide +kernel
theorem dX11_state_76 : decode cX11_state 76 = .ok (.ireturn, 1) := by decide +kernel
theorem dX11_hears_0 : decode cX11_hears 0 = .ok (.aload_n 0, 1) := by decide +kernel
theorem dX11_hears_1 : decode cX11_hears 1 = .ok (.getfield 10, 3) := by decide +kernel
theorem dX11_hears_4 : decode cX11_hears 4 = .ok (.iload_n 1, 1) := by decide +kernel
theorem dX11_hears_5 : decode cX11_hears 5 = .ok (.invokevirtual 109, 3) := by decide +kernel
theorem dX11_hears_8 : decode cX11_hears 8 = .ok (.astore 4, 2) := by decide +kernel
theorem dX11_hears_10 : decode cX11_hears 10 = .ok (.aload 4, 2) := by decide +kernel
theorem dX11_hears_12 : decode cX11_hears 12 = .ok (.ifnull 12, 3) := by decide +kernel
theorem dX11_hears_15 : decode cX11_hears 15 = .ok (.aload 4, 2) := by decide +kernel
theorem dX11_hears_17 : decode cX11_hears 17 = .ok (.iload_n 2, 1) := by decide +kernel
theorem dX11_hears_18 : decode cX11_hears 18 = .ok (.invokevirtual 137, 3) := by decide +kernel
theorem dX11_hears_21 : decode cX11_hears 21 = .ok (.ifCond .ne 5, 3) := by decide +kernel
theorem dX11_hears_24 : decode cX11_hears 24 = .ok (.iconst (-1), 1) := by decide +kernel
theorem dX11_hears_25 : decode cX11_hears 25 = .ok (.ireturn, 1) := by decide +kernel
theorem dX11_hears_26 : decode cX11_hears 26 = .ok (.aload 4, 2) := by decide +kernel
theorem dX11_hears_28 : decode cX11_hears 28 = .ok (.iload_n 3, 1) := by decide +kernel
theorem dX11_hears_29 : decode cX11_hears 29 = .ok (.invokevirtual 141, 3) := by decide +kernel
theorem dX11_hears_32 : decode cX11_hears 32 = .ok (.istore 5, 2) := by decide +kernel
theorem dX11_hears_34 : decode cX11_hears 34 = .ok (.iload 5, 2) := by decide +kernel
theorem dX11_hears_36 : decode cX11_hears 36 = .ok (.iconst (-1), 1) := by decide +kernel
theorem dX11_hears_37 : decode cX11_hears 37 = .ok (.if_icmp .ne 7, 3) := by decide +kernel
theorem dX11_hears_40 : decode cX11_hears 40 = .ok (.iconst (-1), 1) := by decide +kernel
theorem dX11_hears_41 : decode cX11_hears 41 = .ok (.goto 21, 3) := by decide +kernel
theorem dX11_hears_44 : decode cX11_hears 44 = .ok (.aload_n 0, 1) := by decide +kernel
theorem dX11_hears_45 : decode cX11_hears 45 = .ok (.getfield 34, 3) := by decide +kernel
theorem dX11_hears_48 : decode cX11_hears 48 = .ok (.aload 4, 2) := by decide +kernel
theorem dX11_hears_50 : decode cX11_hears 50 = .ok (.aload 4, 2) := by decide +kernel
theorem dX11_hears_52 : decode cX11_hears 52 = .ok (.getfield 144, 3) := by decide +kernel
theorem dX11_hears_55 : decode cX11_hears 55 = .ok (.iload_n 2, 1) := by decide +kernel
theorem dX11_hears_56 : decode cX11_hears 56 = .ok (.iaload, 1) := by decide +kernel
theorem dX11_hears_57 : decode cX11_hears 57 = .ok (.iload 5, 2) := by decide +kernel
theorem dX11_hears_59 : decode cX11_hears 59 = .ok (.invokevirtual 147, 3) := by decide +kernel
theorem dX11_hears_62 : decode cX11_hears 62 = .ok (.ireturn, 1) := by decide +kernel
theorem dX11_enough_0 : decode cX11_enough 0 = .ok (.aload_n 0, 1) := by decide +kernel
theorem dX11_enough_1 : decode cX11_enough 1 = .ok (.getfield 10, 3) := by decide +kernel
theorem dX11_enough_4 : decode cX11_enough 4 = .ok (.iload_n 1, 1) := by decide +kernel
theorem dX11_enough_5 : decode cX11_enough 5 = .ok (.invokevirtual 109, 3) := by decide +kernel
theorem dX11_enough_8 : decode cX11_enough 8 = .ok (.astore_n 2, 1) := by decide +kernel
theorem dX11_enough_9 : decode cX11_enough 9 = .ok (.aload_n 2, 1) := by decide +kernel
theorem dX11_enough_10 : decode cX11_enough 10 = .ok (.ifnonnull 5, 3) := by decide +kernel
theorem dX11_enough_13 : decode cX11_enough 13 = .ok (.iconst (-1), 1) := by decide +kernel
theorem dX11_enough_14 : decode cX11_enough 14 = .ok (.ireturn, 1) := by decide +kernel
theorem dX11_enough_15 : decode cX11_enough 15 = .ok (.aload_n 0, 1) := by decide +kernel
theorem dX11_enough_16 : decode cX11_enough 16 = .ok (.getfield 41, 3) := by decide +kernel
theorem dX11_enough_19 : decode cX11_enough 19 = .ok (.aload_n 2, 1) := by decide +kernel
theorem dX11_enough_20 : decode cX11_enough 20 = .ok (.invokevirtual 151, 3) := by decide +kernel
theorem dX11_enough_23 : decode cX11_enough 23 = .ok (.aload_n 0, 1) := by decide +kernel
theorem dX11_enough_24 : decode cX11_enough 24 = .ok (.getfield 41, 3) := by decide +kernel
theorem dX11_enough_27 : decode cX11_enough 27 = .ok (.aload_n 2, 1) := by decide +kernel
theorem dX11_enough_28 : decode cX11_enough 28 = .ok (.invokevirtual 155, 3) := by decide +kernel
theorem dX11_enough_31 : decode cX11_enough 31 = .ok (.ireturn, 1) := by decide +kernel
theorem dX11_fresh_0 : decode cX11_fresh 0 = .ok (.aload_n 0, 1) := by decide +kernel
theorem dX11_fresh_1 : decode cX11_fresh 1 = .ok (.getfield 10, 3) := by decide +kernel
theorem dX11_fresh_4 : decode cX11_fresh 4 = .ok (.iload_n 1, 1) := by decide +kernel
theorem dX11_fresh_5 : decode cX11_fresh 5 = .ok (.invokevirtual 109, 3) := by decide +kernel
theorem dX11_fresh_8 : decode cX11_fresh 8 = .ok (.astore 5, 2) := by decide +kernel
theorem dX11_fresh_10 : decode cX11_fresh 10 = .ok (.iload_n 2, 1) := by decide +kernel
theorem dX11_fresh_11 : decode cX11_fresh 11 = .ok (.ifCond .lt 15, 3) := by decide +kernel
theorem dX11_fresh_14 : decode cX11_fresh 14 = .ok (.iload_n 2, 1) := by decide +kernel
theorem dX11_fresh_15 : decode cX11_fresh 15 = .ok (.getstatic 159, 3) := by decide +kernel
theorem dX11_fresh_18 : decode cX11_fresh 18 = .ok (.arraylength, 1) := by decide +kernel
theorem dX11_fresh_19 : decode cX11_fresh 19 = .ok (.if_icmp .ge 7, 3) := by decide +kernel
theorem dX11_fresh_22 : decode cX11_fresh 22 = .ok (.iconst 1, 1) := by decide +kernel
theorem dX11_fresh_23 : decode cX11_fresh 23 = .ok (.goto 4, 3) := by decide +kernel
theorem dX11_fresh_26 : decode cX11_fresh 26 = .ok (.iconst 0, 1) := by decide +kernel
theorem dX11_fresh_27 : decode cX11_fresh 27 = .ok (.istore 6, 2) := by decide +kernel
theorem dX11_fresh_29 : decode cX11_fresh 29 = .ok (.aload 5, 2) := by decide +kernel
theorem dX11_fresh_31 : decode cX11_fresh 31 = .ok (.ifnull 29, 3) := by decide +kernel
theorem dX11_fresh_34 : decode cX11_fresh 34 = .ok (.iload 6, 2) := by decide +kernel
theorem dX11_fresh_36 : decode cX11_fresh 36 = .ok (.ifCond .eq 24, 3) := by decide +kernel
theorem dX11_fresh_39 : decode cX11_fresh 39 = .ok (.iload_n 3, 1) := by decide +kernel
theorem dX11_fresh_40 : decode cX11_fresh 40 = .ok (.iconst 1, 1) := by decide +kernel
theorem dX11_fresh_41 : decode cX11_fresh 41 = .ok (.if_icmp .lt 19, 3) := by decide +kernel
theorem dX11_fresh_44 : decode cX11_fresh 44 = .ok (.iload_n 3, 1) := by decide +kernel
theorem dX11_fresh_45 : decode cX11_fresh 45 = .ok (.iconst 2, 1) := by decide +kernel
theorem dX11_fresh_46 : decode cX11_fresh 46 = .ok (.if_icmp .gt 14, 3) := by decide +kernel
theorem dX11_fresh_49 : decode cX11_fresh 49 = .ok (.iload 4, 2) := by decide +kernel
theorem dX11_fresh_51 : decode cX11_fresh 51 = .ok (.ifCond .lt 9, 3) := by decide +kernel
theorem dX11_fresh_54 : decode cX11_fresh 54 = .ok (.iload 4, 2) := by decide +kernel
theorem dX11_fresh_56 : decode cX11_fresh 56 = .ok (.iload_n 3, 1) := by decide +kernel
theorem dX11_fresh_57 : decode cX11_fresh 57 = .ok (.if_icmp .le 5, 3) := by decide +kernel
theorem dX11_fresh_60 : decode cX11_fresh 60 = .ok (.iconst (-1), 1) := by decide +kernel
theorem dX11_fresh_61 : decode cX11_fresh 61 = .ok (.ireturn, 1) := by decide +kernel
theorem dX11_fresh_62 : decode cX11_fresh 62 = .ok (.aload 5, 2) := by decide +kernel
theorem dX11_fresh_64 : decode cX11_fresh 64 = .ok (.invokevirtual 162, 3) := by decide +kernel
theorem dX11_fresh_67 : decode cX11_fresh 67 = .ok (.invokestatic 166, 3) := by decide +kernel
theorem dX11_fresh_70 : decode cX11_fresh 70 = .ok (.iload_n 3, 1) := by decide +kernel
theorem dX11_fresh_71 : decode cX11_fresh 71 = .ok (.if_icmp .ge 5, 3) := by decide +kernel
theorem dX11_fresh_74 : decode cX11_fresh 74 = .ok (.iconst (-1), 1) := by decide +kernel
theorem dX11_fresh_75 : decode cX11_fresh 75 = .ok (.ireturn, 1) := by decide +kernel
theorem dX11_fresh_76 : decode cX11_fresh 76 = .ok (.aload_n 0, 1) := by decide +kernel
theorem dX11_fresh_77 : decode cX11_fresh 77 = .ok (.getfield 41, 3) := by decide +kernel
theorem dX11_fresh_80 : decode cX11_fresh 80 = .ok (.aload 5, 2) := by decide +kernel
theorem dX11_fresh_82 : decode cX11_fresh 82 = .ok (.invokevirtual 151, 3) := by decide +kernel
theorem dX11_fresh_85 : decode cX11_fresh 85 = .ok (.aload_n 0, 1) := by decide +kernel
theorem dX11_fresh_86 : decode cX11_fresh 86 = .ok (.getfield 41, 3) := by decide +kernel
theorem dX11_fresh_89 : decode cX11_fresh 89 = .ok (.aload 5, 2) := by decide +kernel
theorem dX11_fresh_91 : decode cX11_fresh 91 = .ok (.getstatic 159, 3) := by decide +kernel
theorem dX11_fresh_94 : decode cX11_fresh 94 = .ok (.iload_n 2, 1) := by decide +kernel
theorem dX11_fresh_95 : decode cX11_fresh 95 = .ok (.iaload, 1) := by decide +kernel
theorem dX11_fresh_96 : decode cX11_fresh 96 = .ok (.iload_n 3, 1) := by decide +kernel
theorem dX11_fresh_97 : decode cX11_fresh 97 = .ok (.iload 4, 2) := by decide +kernel
theorem dX11_fresh_99 : decode cX11_fresh 99 = .ok (.invokevirtual 172, 3) := by decide +kernel
theorem dX11_fresh_102 : decode cX11_fresh 102 = .ok (.ireturn, 1) := by decide +kernel
theorem dX11_gather_0 : decode cX11_gather 0 = .ok (.aload_n 0, 1) := by decide +kernel
theorem dX11_gather_1 : decode cX11_gather 1 = .ok (.getfield 10, 3) := by decide +kernel
theorem dX11_gather_4 : decode cX11_gather 4 = .ok (.iload_n 1, 1) := by decide +kernel
theorem dX11_gather_5 : decode cX11_gather 5 = .ok (.invokevirtual 109, 3) := by decide +kernel
theorem dX11_gather_8 : decode cX11_gather 8 = .ok (.astore 6, 2) := by decide +kernel
theorem dX11_gather_10 : decode cX11_gather 10 = .ok (.aload 6, 2) := by decide +kernel
theorem dX11_gather_12 : decode cX11_gather 12 = .ok (.ifnull 37, 3) := by decide +kernel
theorem dX11_gather_15 : decode cX11_gather 15 = .ok (.aload 6, 2) := by decide +kernel
theorem dX11_gather_17 : decode cX11_gather 17 = .ok (.iload_n 2, 1) := by decide +kernel
theorem dX11_gather_18 : decode cX11_gather 18 = .ok (.invokevirtual 137, 3) := by decide +kernel
theorem dX11_gather_21 : decode cX11_gather 21 = .ok (.ifCond .eq 28, 3) := by decide +kernel
theorem dX11_gather_24 : decode cX11_gather 24 = .ok (.aload 6, 2) := by decide +kernel
theorem dX11_gather_26 : decode cX11_gather 26 = .ok (.iload_n 3, 1) := by decide +kernel
theorem dX11_gather_27 : decode cX11_gather 27 = .ok (.invokevirtual 176, 3) := by decide +kernel
theorem dX11_gather_30 : decode cX11_gather 30 = .ok (.ifCond .eq 19, 3) := by decide +kernel
theorem dX11_gather_33 : decode cX11_gather 33 = .ok (.aload 6, 2) := by decide +kernel
theorem dX11_gather_35 : decode cX11_gather 35 = .ok (.iload 4, 2) := by decide +kernel
theorem dX11_gather_37 : decode cX11_gather 37 = .ok (.invokevirtual 176, 3) := by decide +kernel
theorem dX11_gather_40 : decode cX11_gather 40 = .ok (.ifCond .eq 9, 3) := by decide +kernel
theorem dX11_gather_43 : decode cX11_gather 43 = .ok (.iload_n 3, 1) := by decide +kernel
theorem dX11_gather_44 : decode cX11_gather 44 = .ok (.iload 4, 2) := by decide +kernel
theorem dX11_gather_46 : decode cX11_gather 46 = .ok (.if_icmp .ne 5, 3) := by decide +kernel
theorem dX11_gather_49 : decode cX11_gather 49 = .ok (.iconst (-1), 1) := by decide +kernel
theorem dX11_gather_50 : decode cX11_gather 50 = .ok (.ireturn, 1) := by decide +kernel
theorem dX11_gather_51 : decode cX11_gather 51 = .ok (.aload_n 0, 1) := by decide +kernel
theorem dX11_gather_52 : decode cX11_gather 52 = .ok (.getfield 62, 3) := by decide +kernel
theorem dX11_gather_55 : decode cX11_gather 55 = .ok (.aload 6, 2) := by decide +kernel
theorem dX11_gather_57 : decode cX11_gather 57 = .ok (.invokevirtual 162, 3) := by decide +kernel
theorem dX11_gather_60 : decode cX11_gather 60 = .ok (.aload_n 0, 1) := by decide +kernel
theorem dX11_gather_61 : decode cX11_gather 61 = .ok (.getfield 34, 3) := by decide +kernel
theorem dX11_gather_64 : decode cX11_gather 64 = .ok (.aload 6, 2) := by decide +kernel
theorem dX11_gather_66 : decode cX11_gather 66 = .ok (.aload 6, 2) := by decide +kernel
theorem dX11_gather_68 : decode cX11_gather 68 = .ok (.getfield 144, 3) := by decide +kernel
theorem dX11_gather_71 : decode cX11_gather 71 = .ok (.iload_n 2, 1) := by decide +kernel
theorem dX11_gather_72 : decode cX11_gather 72 = .ok (.iaload, 1) := by decide +kernel
theorem dX11_gather_73 : decode cX11_gather 73 = .ok (.aload 6, 2) := by decide +kernel
theorem dX11_gather_75 : decode cX11_gather 75 = .ok (.iload_n 2, 1) := by decide +kernel
theorem dX11_gather_76 : decode cX11_gather 76 = .ok (.invokevirtual 179, 3) := by decide +kernel
theorem dX11_gather_79 : decode cX11_gather 79 = .ok (.invokevirtual 182, 3) := by decide +kernel
theorem dX11_gather_82 : decode cX11_gather 82 = .ok (.invokevirtual 186, 3) := by decide +kernel
theorem dX11_gather_85 : decode cX11_gather 85 = .ok (.aload_n 0, 1) := by decide +kernel
theorem dX11_gather_86 : decode cX11_gather 86 = .ok (.getfield 62, 3) := by decide +kernel
theorem dX11_gather_89 : decode cX11_gather 89 = .ok (.aload 6, 2) := by decide +kernel
theorem dX11_gather_91 : decode cX11_gather 91 = .ok (.getfield 190, 3) := by decide +kernel
theorem dX11_gather_94 : decode cX11_gather 94 = .ok (.iload_n 3, 1) := by decide +kernel
theorem dX11_gather_95 : decode cX11_gather 95 = .ok (.iaload, 1) := by decide +kernel
theorem dX11_gather_96 : decode cX11_gather 96 = .ok (.aload 6, 2) := by decide +kernel
theorem dX11_gather_98 : decode cX11_gather 98 = .ok (.getfield 190, 3) := by decide +kernel
theorem dX11_gather_101 : decode cX11_gather 101 = .ok (.iload 4, 2) := by decide +kernel
theorem dX11_gather_103 : decode cX11_gather 103 = .ok (.iaload, 1) := by decide +kernel
theorem dX11_gather_104 : decode cX11_gather 104 = .ok (.iload 5, 2) := by decide +kernel
theorem dX11_gather_106 : decode cX11_gather 106 = .ok (.invokevirtual 193, 3) := by decide +kernel
theorem dX11_gather_109 : decode cX11_gather 109 = .ok (.ireturn, 1) := by decide +kernel
theorem dX11_chase_0 : decode cX11_chase 0 = .ok (.aload_n 0, 1) := by decide +kernel
theorem dX11_chase_1 : decode cX11_chase 1 = .ok (.getfield 10, 3) := by decide +kernel
theorem dX11_chase_4 : decode cX11_chase 4 = .ok (.iload_n 1, 1) := by decide +kernel
theorem dX11_chase_5 : decode cX11_chase 5 = .ok (.invokevirtual 109, 3) := by decide +kernel
theorem dX11_chase_8 : decode cX11_chase 8 = .ok (.astore 4, 2) := by decide +kernel
theorem dX11_chase_10 : decode cX11_chase 10 = .ok (.aload 4, 2) := by decide +kernel
theorem dX11_chase_12 : decode cX11_chase 12 = .ok (.ifnull 21, 3) := by decide +kernel
theorem dX11_chase_15 : decode cX11_chase 15 = .ok (.aload 4, 2) := by decide +kernel
theorem dX11_chase_17 : decode cX11_chase 17 = .ok (.iload_n 2, 1) := by decide +kernel
theorem dX11_chase_18 : decode cX11_chase 18 = .ok (.invokevirtual 137, 3) := by decide +kernel
theorem dX11_chase_21 : decode cX11_chase 21 = .ok (.ifCond .eq 12, 3) := by decide +kernel
theorem dX11_chase_24 : decode cX11_chase 24 = .ok (.aload 4, 2) := by decide +kernel
theorem dX11_chase_26 : decode cX11_chase 26 = .ok (.iload_n 3, 1) := by decide +kernel
theorem dX11_chase_27 : decode cX11_chase 27 = .ok (.invokevirtual 176, 3) := by decide +kernel
theorem dX11_chase_30 : decode cX11_chase 30 = .ok (.ifCond .ne 5, 3) := by decide +kernel
theorem dX11_chase_33 : decode cX11_chase 33 = .ok (.iconst (-1), 1) := by decide +kernel
theorem dX11_chase_34 : decode cX11_chase 34 = .ok (.ireturn, 1) := by decide +kernel
theorem dX11_chase_35 : decode cX11_chase 35 = .ok (.aload_n 0, 1) := by decide +kernel
theorem dX11_chase_36 : decode cX11_chase 36 = .ok (.getfield 62, 3) := by decide +kernel
theorem dX11_chase_39 : decode cX11_chase 39 = .ok (.aload 4, 2) := by decide +kernel
theorem dX11_chase_41 : decode cX11_chase 41 = .ok (.invokevirtual 162, 3) := by decide +kernel
theorem dX11_chase_44 : decode cX11_chase 44 = .ok (.aload 4, 2) := by decide +kernel
theorem dX11_chase_46 : decode cX11_chase 46 = .ok (.getfield 144, 3) := by decide +kernel
theorem dX11_chase_49 : decode cX11_chase 49 = .ok (.iload_n 2, 1) := by decide +kernel
theorem dX11_chase_50 : decode cX11_chase 50 = .ok (.iaload, 1) := by decide +kernel
theorem dX11_chase_51 : decode cX11_chase 51 = .ok (.aload 4, 2) := by decide +kernel
theorem dX11_chase_53 : decode cX11_chase 53 = .ok (.getfield 190, 3) := by decide +kernel
theorem dX11_chase_56 : decode cX11_chase 56 = .ok (.iload_n 3, 1) := by decide +kernel
theorem dX11_chase_57 : decode cX11_chase 57 = .ok (.iaload, 1) := by decide +kernel
theorem dX11_chase_58 : decode cX11_chase 58 = .ok (.invokevirtual 197, 3) := by decide +kernel
theorem dX11_chase_61 : decode cX11_chase 61 = .ok (.ireturn, 1) := by decide +kernel
theorem dX11_programme_0 : decode cX11_programme 0 = .ok (.aload_n 0, 1) := by decide +kernel
theorem dX11_programme_1 : decode cX11_programme 1 = .ok (.getfield 10, 3) := by decide +kernel
theorem dX11_programme_4 : decode cX11_programme 4 = .ok (.iload_n 1, 1) := by decide +kernel
theorem dX11_programme_5 : decode cX11_programme 5 = .ok (.invokevirtual 109, 3) := by decide +kernel
theorem dX11_programme_8 : decode cX11_programme 8 = .ok (.astore 4, 2) := by decide +kernel
theorem dX11_programme_10 : decode cX11_programme 10 = .ok (.aload 4, 2) := by decide +kernel
theorem dX11_programme_12 : decode cX11_programme 12 = .ok (.ifnull 24, 3) := by decide +kernel
theorem dX11_programme_15 : decode cX11_programme 15 = .ok (.iload_n 2, 1) := by decide +kernel
theorem dX11_programme_16 : decode cX11_programme 16 = .ok (.ifCond .lt 20, 3) := by decide +kernel
theorem dX11_programme_19 : decode cX11_programme 19 = .ok (.iload_n 2, 1) := by decide +kernel
theorem dX11_programme_20 : decode cX11_programme 20 = .ok (.bipush 12, 2) := by decide +kernel
theorem dX11_programme_22 : decode cX11_programme 22 = .ok (.if_icmp .gt 14, 3) := by decide +kernel
theorem dX11_programme_25 : decode cX11_programme 25 = .ok (.iload_n 3, 1) := by decide +kernel
theorem dX11_programme_26 : decode cX11_programme 26 = .ok (.bipush (-2), 2) := by decide +kernel
theorem dX11_programme_28 : decode cX11_programme 28 = .ok (.if_icmp .lt 8, 3) := by decide +kernel
theorem dX11_programme_31 : decode cX11_programme 31 = .ok (.iload_n 3, 1) := by decide +kernel
theorem dX11_programme_32 : decode cX11_programme 32 = .ok (.iload_n 2, 1) := by decide +kernel
theorem dX11_programme_33 : decode cX11_programme 33 = .ok (.if_icmp .lt 5, 3) := by decide +kernel
theorem dX11_programme_36 : decode cX11_programme 36 = .ok (.iconst (-1), 1) := by decide +kernel
theorem dX11_programme_37 : decode cX11_programme 37 = .ok (.ireturn, 1) := by decide +kernel
theorem dX11_programme_38 : decode cX11_programme 38 = .ok (.iload_n 3, 1) := by decide +kernel
theorem dX11_programme_39 : decode cX11_programme 39 = .ok (.bipush (-2), 2) := by decide +kernel
theorem dX11_programme_41 : decode cX11_programme 41 = .ok (.if_icmp .ne 7, 3) := by decide +kernel
theorem dX11_programme_44 : decode cX11_programme 44 = .ok (.iconst 1, 1) := by decide +kernel
theorem dX11_programme_45 : decode cX11_programme 45 = .ok (.goto 4, 3) := by decide +kernel
theorem dX11_programme_48 : decode cX11_programme 48 = .ok (.iconst 0, 1) := by decide +kernel
theorem dX11_programme_49 : decode cX11_programme 49 = .ok (.istore 5, 2) := by decide +kernel
theorem dX11_programme_51 : decode cX11_programme 51 = .ok (.aload_n 0, 1) := by decide +kernel
theorem dX11_programme_52 : decode cX11_programme 52 = .ok (.getfield 69, 3) := by decide +kernel
theorem dX11_programme_55 : decode cX11_programme 55 = .ok (.aload 4, 2) := by decide +kernel
theorem dX11_programme_57 : decode cX11_programme 57 = .ok (.getfield 201, 3) := by decide +kernel
theorem dX11_programme_60 : decode cX11_programme 60 = .ok (.iload_n 2, 1) := by decide +kernel
theorem dX11_programme_61 : decode cX11_programme 61 = .ok (.iload 5, 2) := by decide +kernel
theorem dX11_programme_63 : decode cX11_programme 63 = .ok (.invokevirtual 204, 3) := by decide +kernel
theorem dX11_programme_66 : decode cX11_programme 66 = .ok (.iload_n 3, 1) := by decide +kernel
theorem dX11_programme_67 : decode cX11_programme 67 = .ok (.ifCond .ge 14, 3) := by decide +kernel
theorem dX11_programme_70 : decode cX11_programme 70 = .ok (.aload_n 0, 1) := by decide +kernel
theorem dX11_programme_71 : decode cX11_programme 71 = .ok (.getfield 69, 3) := by decide +kernel
theorem dX11_programme_74 : decode cX11_programme 74 = .ok (.iload_n 2, 1) := by decide +kernel
theorem dX11_programme_75 : decode cX11_programme 75 = .ok (.invokevirtual 208, 3) := by decide +kernel
theorem dX11_programme_78 : decode cX11_programme 78 = .ok (.goto 17, 3) := by decide +kernel
theorem dX11_programme_81 : decode cX11_programme 81 = .ok (.aload_n 0, 1) := by decide +kernel
theorem dX11_programme_82 : decode cX11_programme 82 = .ok (.getfield 69, 3) := by decide +kernel
theorem dX11_programme_85 : decode cX11_programme 85 = .ok (.aload 4, 2) := by decide +kernel
theorem dX11_programme_87 : decode cX11_programme 87 = .ok (.getfield 201, 3) := by decide +kernel
theorem dX11_programme_90 : decode cX11_programme 90 = .ok (.iload_n 2, 1) := by decide +kernel
theorem dX11_programme_91 : decode cX11_programme 91 = .ok (.iload_n 3, 1) := by decide +kernel
theorem dX11_programme_92 : decode cX11_programme 92 = .ok (.invokevirtual 211, 3) := by decide +kernel
theorem dX11_programme_95 : decode cX11_programme 95 = .ok (.ireturn, 1) := by decide +kernel
theorem dX11_part_0 : decode cX11_part 0 = .ok (.aload_n 0, 1) := by decide +kernel
theorem dX11_part_1 : decode cX11_part 1 = .ok (.getfield 10, 3) := by decide +kernel
theorem dX11_part_4 : decode cX11_part 4 = .ok (.iload_n 1, 1) := by decide +kernel
theorem dX11_part_5 : decode cX11_part 5 = .ok (.invokevirtual 109, 3) := by decide +kernel
theorem dX11_part_8 : decode cX11_part 8 = .ok (.astore 4, 2) := by decide +kernel
theorem dX11_part_10 : decode cX11_part 10 = .ok (.aload 4, 2) := by decide +kernel
theorem dX11_part_12 : decode cX11_part 12 = .ok (.ifnull 17, 3) := by decide +kernel
theorem dX11_part_15 : decode cX11_part 15 = .ok (.iload_n 2, 1) := by decide +kernel
theorem dX11_part_16 : decode cX11_part 16 = .ok (.iconst (-1), 1) := by decide +kernel
theorem dX11_part_17 : decode cX11_part 17 = .ok (.if_icmp .lt 12, 3) := by decide +kernel
theorem dX11_part_20 : decode cX11_part 20 = .ok (.iload_n 2, 1) := by decide +kernel
theorem dX11_part_21 : decode cX11_part 21 = .ok (.aload 4, 2) := by decide +kernel
theorem dX11_part_23 : decode cX11_part 23 = .ok (.getfield 215, 3) := by decide +kernel
theorem dX11_part_26 : decode cX11_part 26 = .ok (.if_icmp .le 5, 3) := by decide +kernel
theorem dX11_part_29 : decode cX11_part 29 = .ok (.iconst (-1), 1) := by decide +kernel
theorem dX11_part_30 : decode cX11_part 30 = .ok (.ireturn, 1) := by decide +kernel
theorem dX11_part_31 : decode cX11_part 31 = .ok (.iload_n 2, 1) := by decide +kernel
theorem dX11_part_32 : decode cX11_part 32 = .ok (.iconst (-1), 1) := by decide +kernel
theorem dX11_part_33 : decode cX11_part 33 = .ok (.if_icmp .ne 9, 3) := by decide +kernel
theorem dX11_part_36 : decode cX11_part 36 = .ok (.aload 4, 2) := by decide +kernel
theorem dX11_part_38 : decode cX11_part 38 = .ok (.invokevirtual 218, 3) := by decide +kernel
theorem dX11_part_41 : decode cX11_part 41 = .ok (.ireturn, 1) := by decide +kernel
theorem dX11_part_42 : decode cX11_part 42 = .ok (.aload 4, 2) := by decide +kernel
theorem dX11_part_44 : decode cX11_part 44 = .ok (.iload_n 2, 1) := by decide +kernel
theorem dX11_part_45 : decode cX11_part 45 = .ok (.invokevirtual 222, 3) := by decide +kernel
theorem dX11_part_48 : decode cX11_part 48 = .ok (.istore 5, 2) := by decide +kernel
theorem dX11_part_50 : decode cX11_part 50 = .ok (.iload_n 3, 1) := by decide +kernel
theorem dX11_part_51 : decode cX11_part 51 = .ok (.ifCond .eq 14, 3) := by decide +kernel
theorem dX11_part_54 : decode cX11_part 54 = .ok (.aload 4, 2) := by decide +kernel
theorem dX11_part_56 : decode cX11_part 56 = .ok (.getfield 225, 3) := by decide +kernel
theorem dX11_part_59 : decode cX11_part 59 = .ok (.iload 5, 2) := by decide +kernel
theorem dX11_part_61 : decode cX11_part 61 = .ok (.isub, 1) := by decide +kernel
theorem dX11_part_62 : decode cX11_part 62 = .ok (.goto 5, 3) := by decide +kernel
theorem dX11_part_65 : decode cX11_part 65 = .ok (.iload 5, 2) := by decide +kernel
theorem dX11_part_67 : decode cX11_part 67 = .ok (.ireturn, 1) := by decide +kernel
theorem dX11_line_0 : decode cX11_line 0 = .ok (.aload_n 0, 1) := by decide +kernel
theorem dX11_line_1 : decode cX11_line 1 = .ok (.getfield 10, 3) := by decide +kernel
theorem dX11_line_4 : decode cX11_line 4 = .ok (.iload_n 1, 1) := by decide +kernel
theorem dX11_line_5 : decode cX11_line 5 = .ok (.invokevirtual 109, 3) := by decide +kernel
theorem dX11_line_8 : decode cX11_line 8 = .ok (.astore_n 2, 1) := by decide +kernel
theorem dX11_line_9 : decode cX11_line 9 = .ok (.aload_n 2, 1) := by decide +kernel
theorem dX11_line_10 : decode cX11_line 10 = .ok (.ifnonnull 7, 3) := by decide +kernel
theorem dX11_line_13 : decode cX11_line 13 = .ok (.iconst (-1), 1) := by decide +kernel
theorem dX11_line_14 : decode cX11_line 14 = .ok (.goto 7, 3) := by decide +kernel
theorem dX11_line_17 : decode cX11_line 17 = .ok (.aload_n 2, 1) := by decide +kernel
theorem dX11_line_18 : decode cX11_line 18 = .ok (.invokevirtual 228, 3) := by decide +kernel
theorem dX11_line_21 : decode cX11_line 21 = .ok (.ireturn, 1) := by decide +kernel
theorem dX11_trial_0 : decode cX11_trial 0 = .ok (.aload_n 0, 1) := by decide +kernel
theorem dX11_trial_1 : decode cX11_trial 1 = .ok (.getfield 10, 3) := by decide +kernel
theorem dX11_trial_4 : decode cX11_trial 4 = .ok (.iload_n 1, 1) := by decide +kernel
theorem dX11_trial_5 : decode cX11_trial 5 = .ok (.invokevirtual 231, 3) := by decide +kernel
theorem dX11_trial_8 : decode cX11_trial 8 = .ok (.astore_n 3, 1) := by decide +kernel
theorem dX11_trial_9 : decode cX11_trial 9 = .ok (.aload_n 3, 1) := by decide +kernel
theorem dX11_trial_10 : decode cX11_trial 10 = .ok (.ifnonnull 8, 3) := by decide +kernel
theorem dX11_trial_13 : decode cX11_trial 13 = .ok (.bipush (-2), 2) := by decide +kernel
theorem dX11_trial_15 : decode cX11_trial 15 = .ok (.goto 8, 3) := by decide +kernel
theorem dX11_trial_18 : decode cX11_trial 18 = .ok (.aload_n 3, 1) := by decide +kernel
theorem dX11_trial_19 : decode cX11_trial 19 = .ok (.iload_n 2, 1) := by decide +kernel
theorem dX11_trial_20 : decode cX11_trial 20 = .ok (.invokevirtual 235, 3) := by decide +kernel
theorem dX11_trial_23 : decode cX11_trial 23 = .ok (.ireturn, 1) := by decide +kernel
theorem dX11_thieves_0 : decode cX11_thieves 0 = .ok (.aload_n 0, 1) := by decide +kernel
theorem dX11_thieves_1 : decode cX11_thieves 1 = .ok (.getfield 10, 3) := by decide +kernel
theorem dX11_thieves_4 : decode cX11_thieves 4 = .ok (.iload_n 1, 1) := by decide +kernel
theorem dX11_thieves_5 : decode cX11_thieves 5 = .ok (.invokevirtual 231, 3) := by decide +kernel
theorem dX11_thieves_8 : decode cX11_thieves 8 = .ok (.astore_n 3, 1) := by decide +kernel
theorem dX11_thieves_9 : decode cX11_thieves 9 = .ok (.aload_n 3, 1) := by decide +kernel
theorem dX11_thieves_10 : decode cX11_thieves 10 = .ok (.ifnonnull 8, 3) := by decide +kernel
theorem dX11_thieves_13 : decode cX11_thieves 13 = .ok (.bipush (-2), 2) := by decide +kernel
theorem dX11_thieves_15 : decode cX11_thieves 15 = .ok (.goto 12, 3) := by decide +kernel
theorem dX11_thieves_18 : decode cX11_thieves 18 = .ok (.aload_n 3, 1) := by decide +kernel
theorem dX11_thieves_19 : decode cX11_thieves 19 = .ok (.iload_n 2, 1) := by decide +kernel
theorem dX11_thieves_20 : decode cX11_thieves 20 = .ok (.aload_n 0, 1) := by decide +kernel
theorem dX11_thieves_21 : decode cX11_thieves 21 = .ok (.getfield 73, 3) := by decide +kernel
theorem dX11_thieves_24 : decode cX11_thieves 24 = .ok (.invokevirtual 238, 3) := by decide +kernel
theorem dX11_thieves_27 : decode cX11_thieves 27 = .ok (.ireturn, 1) := by decide +kernel
theorem dX11_fact_0 : decode cX11_fact 0 = .ok (.aload_n 0, 1) := by decide +kernel
theorem dX11_fact_1 : decode cX11_fact 1 = .ok (.getfield 10, 3) := by decide +kernel
theorem dX11_fact_4 : decode cX11_fact 4 = .ok (.iload_n 1, 1) := by decide +kernel
theorem dX11_fact_5 : decode cX11_fact 5 = .ok (.invokevirtual 242, 3) := by decide +kernel
theorem dX11_fact_8 : decode cX11_fact 8 = .ok (.astore 4, 2) := by decide +kernel
theorem dX11_fact_10 : decode cX11_fact 10 = .ok (.aload 4, 2) := by decide +kernel
theorem dX11_fact_12 : decode cX11_fact 12 = .ok (.ifnonnull 8, 3) := by decide +kernel
theorem dX11_fact_15 : decode cX11_fact 15 = .ok (.bipush (-2), 2) := by decide +kernel
theorem dX11_fact_17 : decode cX11_fact 17 = .ok (.goto 10, 3) := by decide +kernel
theorem dX11_fact_20 : decode cX11_fact 20 = .ok (.aload 4, 2) := by decide +kernel
theorem dX11_fact_22 : decode cX11_fact 22 = .ok (.iload_n 2, 1) := by decide +kernel
theorem dX11_fact_23 : decode cX11_fact 23 = .ok (.iload_n 3, 1) := by decide +kernel
theorem dX11_fact_24 : decode cX11_fact 24 = .ok (.invokevirtual 122, 3) := by decide +kernel
theorem dX11_fact_27 : decode cX11_fact 27 = .ok (.ireturn, 1) := by decide +kernel
theorem dX11_seen_0 : decode cX11_seen 0 = .ok (.aload_n 0, 1) := by decide +kernel
theorem dX11_seen_1 : decode cX11_seen 1 = .ok (.getfield 10, 3) := by decide +kernel
theorem dX11_seen_4 : decode cX11_seen 4 = .ok (.iload_n 1, 1) := by decide +kernel
theorem dX11_seen_5 : decode cX11_seen 5 = .ok (.invokevirtual 109, 3) := by decide +kernel
theorem dX11_seen_8 : decode cX11_seen 8 = .ok (.astore 4, 2) := by decide +kernel
theorem dX11_seen_10 : decode cX11_seen 10 = .ok (.aload_n 0, 1) := by decide +kernel
theorem dX11_seen_11 : decode cX11_seen 11 = .ok (.getfield 10, 3) := by decide +kernel
theorem dX11_seen_14 : decode cX11_seen 14 = .ok (.iload_n 2, 1) := by decide +kernel
theorem dX11_seen_15 : decode cX11_seen 15 = .ok (.invokevirtual 242, 3) := by decide +kernel
theorem dX11_seen_18 : decode cX11_seen 18 = .ok (.astore 5, 2) := by decide +kernel
theorem dX11_seen_20 : decode cX11_seen 20 = .ok (.aload 4, 2) := by decide +kernel
theorem dX11_seen_22 : decode cX11_seen 22 = .ok (.ifnull 18, 3) := by decide +kernel
theorem dX11_seen_25 : decode cX11_seen 25 = .ok (.aload 5, 2) := by decide +kernel
theorem dX11_seen_27 : decode cX11_seen 27 = .ok (.ifnull 13, 3) := by decide +kernel
theorem dX11_seen_30 : decode cX11_seen 30 = .ok (.aload 4, 2) := by decide +kernel
theorem dX11_seen_32 : decode cX11_seen 32 = .ok (.aload 5, 2) := by decide +kernel
theorem dX11_seen_34 : decode cX11_seen 34 = .ok (.invokevirtual 245, 3) := by decide +kernel
theorem dX11_seen_37 : decode cX11_seen 37 = .ok (.ifCond .ne 6, 3) := by decide +kernel
theorem dX11_seen_40 : decode cX11_seen 40 = .ok (.bipush (-2), 2) := by decide +kernel
theorem dX11_seen_42 : decode cX11_seen 42 = .ok (.ireturn, 1) := by decide +kernel
theorem dX11_seen_43 : decode cX11_seen 43 = .ok (.aload_n 0, 1) := by decide +kernel
theorem dX11_seen_44 : decode cX11_seen 44 = .ok (.getfield 41, 3) := by decide +kernel
theorem dX11_seen_47 : decode cX11_seen 47 = .ok (.aload 4, 2) := by decide +kernel
theorem dX11_seen_49 : decode cX11_seen 49 = .ok (.invokevirtual 151, 3) := by decide +kernel
theorem dX11_seen_52 : decode cX11_seen 52 = .ok (.aload_n 0, 1) := by decide +kernel
theorem dX11_seen_53 : decode cX11_seen 53 = .ok (.getfield 41, 3) := by decide +kernel
theorem dX11_seen_56 : decode cX11_seen 56 = .ok (.aload 4, 2) := by decide +kernel
theorem dX11_seen_58 : decode cX11_seen 58 = .ok (.aload 5, 2) := by decide +kernel
theorem dX11_seen_60 : decode cX11_seen 60 = .ok (.iload_n 3, 1) := by decide +kernel
theorem dX11_seen_61 : decode cX11_seen 61 = .ok (.invokevirtual 249, 3) := by decide +kernel
theorem dX11_seen_64 : decode cX11_seen 64 = .ok (.ireturn, 1) := by decide +kernel
theorem dX11_drawn_0 : decode cX11_drawn 0 = .ok (.aload_n 0, 1) := by decide +kernel
theorem dX11_drawn_1 : decode cX11_drawn 1 = .ok (.getfield 10, 3) := by decide +kernel
theorem dX11_drawn_4 : decode cX11_drawn 4 = .ok (.iload_n 1, 1) := by decide +kernel
theorem dX11_drawn_5 : decode cX11_drawn 5 = .ok (.invokevirtual 109, 3) := by decide +kernel
theorem dX11_drawn_8 : decode cX11_drawn 8 = .ok (.astore 5, 2) := by decide +kernel
theorem dX11_drawn_10 : decode cX11_drawn 10 = .ok (.aload 5, 2) := by decide +kernel
theorem dX11_drawn_12 : decode cX11_drawn 12 = .ok (.ifnull 13, 3) := by decide +kernel
theorem dX11_drawn_15 : decode cX11_drawn 15 = .ok (.iload_n 3, 1) := by decide +kernel
theorem dX11_drawn_16 : decode cX11_drawn 16 = .ok (.ifCond .lt 9, 3) := by decide +kernel
theorem dX11_drawn_19 : decode cX11_drawn 19 = .ok (.iload_n 3, 1) := by decide +kernel
theorem dX11_drawn_20 : decode cX11_drawn 20 = .ok (.bipush 60, 2) := by decide +kernel
theorem dX11_drawn_22 : decode cX11_drawn 22 = .ok (.if_icmp .le 6, 3) := by decide +kernel
theorem dX11_drawn_25 : decode cX11_drawn 25 = .ok (.bipush (-2), 2) := by decide +kernel
theorem dX11_drawn_27 : decode cX11_drawn 27 = .ok (.ireturn, 1) := by decide +kernel
theorem dX11_drawn_28 : decode cX11_drawn 28 = .ok (.aload_n 0, 1) := by decide +kernel
theorem dX11_drawn_29 : decode cX11_drawn 29 = .ok (.getfield 48, 3) := by decide +kernel
theorem dX11_drawn_32 : decode cX11_drawn 32 = .ok (.aload 5, 2) := by decide +kernel
theorem dX11_drawn_34 : decode cX11_drawn 34 = .ok (.invokevirtual 252, 3) := by decide +kernel
theorem dX11_drawn_37 : decode cX11_drawn 37 = .ok (.iload_n 2, 1) := by decide +kernel
theorem dX11_drawn_38 : decode cX11_drawn 38 = .ok (.istore 6, 2) := by decide +kernel
theorem dX11_drawn_40 : decode cX11_drawn 40 = .ok (.iconst 0, 1) := by decide +kernel
theorem dX11_drawn_41 : decode cX11_drawn 41 = .ok (.istore 7, 2) := by decide +kernel
theorem dX11_drawn_43 : decode cX11_drawn 43 = .ok (.iload 7, 2) := by decide +kernel
theorem dX11_drawn_45 : decode cX11_drawn 45 = .ok (.iload_n 3, 1) := by decide +kernel
theorem dX11_drawn_46 : decode cX11_drawn 46 = .ok (.if_icmp .ge 22, 3) := by decide +kernel
theorem dX11_drawn_49 : decode cX11_drawn 49 = .ok (.aload_n 0, 1) := by decide +kernel
theorem dX11_drawn_50 : decode cX11_drawn 50 = .ok (.getfield 48, 3) := by decide +kernel
theorem dX11_drawn_53 : decode cX11_drawn 53 = .ok (.aload 5, 2) := by decide +kernel
theorem dX11_drawn_55 : decode cX11_drawn 55 = .ok (.iload 6, 2) := by decide +kernel
theorem dX11_drawn_57 : decode cX11_drawn 57 = .ok (.invokevirtual 255, 3) := by decide +kernel
theorem dX11_drawn_60 : decode cX11_drawn 60 = .ok (.istore 6, 2) := by decide +kernel
theorem dX11_drawn_62 : decode cX11_drawn 62 = .ok (.iinc 7 1, 3) := by decide +kernel
theorem dX11_drawn_65 : decode cX11_drawn 65 = .ok (.goto (-22), 3) := by decide +kernel
theorem dX11_drawn_68 : decode cX11_drawn 68 = .ok (.aload_n 0, 1) := by decide +kernel
theorem dX11_drawn_69 : decode cX11_drawn 69 = .ok (.getfield 48, 3) := by decide +kernel
theorem dX11_drawn_72 : decode cX11_drawn 72 = .ok (.aload 5, 2) := by decide +kernel
theorem dX11_drawn_74 : decode cX11_drawn 74 = .ok (.iload 4, 2) := by decide +kernel
theorem dX11_drawn_76 : decode cX11_drawn 76 = .ok (.invokevirtual 134, 3) := by decide +kernel
theorem dX11_drawn_79 : decode cX11_drawn 79 = .ok (.ireturn, 1) := by decide +kernel
theorem dX11_steps_0 : decode cX11_steps 0 = .ok (.aload_n 0, 1) := by decide +kernel
theorem dX11_steps_1 : decode cX11_steps 1 = .ok (.getfield 10, 3) := by decide +kernel
theorem dX11_steps_4 : decode cX11_steps 4 = .ok (.iload_n 1, 1) := by decide +kernel
theorem dX11_steps_5 : decode cX11_steps 5 = .ok (.invokevirtual 109, 3) := by decide +kernel
theorem dX11_steps_8 : decode cX11_steps 8 = .ok (.astore 4, 2) := by decide +kernel
theorem dX11_steps_10 : decode cX11_steps 10 = .ok (.aload 4, 2) := by decide +kernel
theorem dX11_steps_12 : decode cX11_steps 12 = .ok (.ifnonnull 5, 3) := by decide +kernel
theorem dX11_steps_15 : decode cX11_steps 15 = .ok (.iconst (-1), 1) := by decide +kernel
theorem dX11_steps_16 : decode cX11_steps 16 = .ok (.ireturn, 1) := by decide +kernel
theorem dX11_steps_17 : decode cX11_steps 17 = .ok (.aload_n 0, 1) := by decide +kernel
theorem dX11_steps_18 : decode cX11_steps 18 = .ok (.getfield 55, 3) := by decide +kernel
theorem dX11_steps_21 : decode cX11_steps 21 = .ok (.aload 4, 2) := by decide +kernel
theorem dX11_steps_23 : decode cX11_steps 23 = .ok (.invokevirtual 162, 3) := by decide +kernel
theorem dX11_steps_26 : decode cX11_steps 26 = .ok (.aload 4, 2) := by decide +kernel
theorem dX11_steps_28 : decode cX11_steps 28 = .ok (.iload_n 2, 1) := by decide +kernel
theorem dX11_steps_29 : decode cX11_steps 29 = .ok (.invokevirtual 141, 3) := by decide +kernel
theorem dX11_steps_32 : decode cX11_steps 32 = .ok (.aload 4, 2) := by decide +kernel
theorem dX11_steps_34 : decode cX11_steps 34 = .ok (.iload_n 3, 1) := by decide +kernel
theorem dX11_steps_35 : decode cX11_steps 35 = .ok (.invokevirtual 141, 3) := by decide +kernel
theorem dX11_steps_38 : decode cX11_steps 38 = .ok (.invokevirtual 258, 3) := by decide +kernel
theorem dX11_steps_41 : decode cX11_steps 41 = .ok (.ireturn, 1) := by decide +kernel
theorem dX11_blocks_0 : decode cX11_blocks 0 = .ok (.aload_n 0, 1) := by decide +kernel
theorem dX11_blocks_1 : decode cX11_blocks 1 = .ok (.getfield 10, 3) := by decide +kernel
theorem dX11_blocks_4 : decode cX11_blocks 4 = .ok (.iload_n 1, 1) := by decide +kernel
theorem dX11_blocks_5 : decode cX11_blocks 5 = .ok (.invokevirtual 109, 3) := by decide +kernel
theorem dX11_blocks_8 : decode cX11_blocks 8 = .ok (.astore_n 3, 1) := by decide +kernel
theorem dX11_blocks_9 : decode cX11_blocks 9 = .ok (.aload_n 3, 1) := by decide +kernel
theorem dX11_blocks_10 : decode cX11_blocks 10 = .ok (.ifnonnull 7, 3) := by decide +kernel
theorem dX11_blocks_13 : decode cX11_blocks 13 = .ok (.iconst (-1), 1) := by decide +kernel
theorem dX11_blocks_14 : decode cX11_blocks 14 = .ok (.goto 15, 3) := by decide +kernel
theorem dX11_blocks_17 : decode cX11_blocks 17 = .ok (.aload_n 0, 1) := by decide +kernel
theorem dX11_blocks_18 : decode cX11_blocks 18 = .ok (.getfield 55, 3) := by decide +kernel
theorem dX11_blocks_21 : decode cX11_blocks 21 = .ok (.aload_n 3, 1) := by decide +kernel
theorem dX11_blocks_22 : decode cX11_blocks 22 = .ok (.invokevirtual 162, 3) := by decide +kernel
theorem dX11_blocks_25 : decode cX11_blocks 25 = .ok (.iload_n 2, 1) := by decide +kernel
theorem dX11_blocks_26 : decode cX11_blocks 26 = .ok (.invokevirtual 261, 3) := by decide +kernel
theorem dX11_blocks_29 : decode cX11_blocks 29 = .ok (.ireturn, 1) := by decide +kernel
theorem dX11_cordon_0 : decode cX11_cordon 0 = .ok (.aload_n 0, 1) := by decide +kernel
theorem dX11_cordon_1 : decode cX11_cordon 1 = .ok (.getfield 10, 3) := by decide +kernel
theorem dX11_cordon_4 : decode cX11_cordon 4 = .ok (.iload_n 1, 1) := by decide +kernel
theorem dX11_cordon_5 : decode cX11_cordon 5 = .ok (.invokevirtual 109, 3) := by decide +kernel
theorem dX11_cordon_8 : decode cX11_cordon 8 = .ok (.astore 4, 2) := by decide +kernel
theorem dX11_cordon_10 : decode cX11_cordon 10 = .ok (.aload 4, 2) := by decide +kernel
theorem dX11_cordon_12 : decode cX11_cordon 12 = .ok (.ifnonnull 5, 3) := by decide +kernel
theorem dX11_cordon_15 : decode cX11_cordon 15 = .ok (.iconst (-1), 1) := by decide +kernel
theorem dX11_cordon_16 : decode cX11_cordon 16 = .ok (.ireturn, 1) := by decide +kernel
theorem dX11_cordon_17 : decode cX11_cordon 17 = .ok (.aload_n 0, 1) := by decide +kernel
theorem dX11_cordon_18 : decode cX11_cordon 18 = .ok (.getfield 55, 3) := by decide +kernel
theorem dX11_cordon_21 : decode cX11_cordon 21 = .ok (.aload 4, 2) := by decide +kernel
theorem dX11_cordon_23 : decode cX11_cordon 23 = .ok (.invokevirtual 162, 3) := by decide +kernel
theorem dX11_cordon_26 : decode cX11_cordon 26 = .ok (.aload 4, 2) := by decide +kernel
theorem dX11_cordon_28 : decode cX11_cordon 28 = .ok (.iload_n 2, 1) := by decide +kernel
theorem dX11_cordon_29 : decode cX11_cordon 29 = .ok (.invokevirtual 141, 3) := by decide +kernel
theorem dX11_cordon_32 : decode cX11_cordon 32 = .ok (.aload 4, 2) := by decide +kernel
theorem dX11_cordon_34 : decode cX11_cordon 34 = .ok (.iload_n 3, 1) := by decide +kernel
theorem dX11_cordon_35 : decode cX11_cordon 35 = .ok (.invokevirtual 141, 3) := by decide +kernel
theorem dX11_cordon_38 : decode cX11_cordon 38 = .ok (.invokevirtual 265, 3) := by decide +kernel
theorem dX11_cordon_41 : decode cX11_cordon 41 = .ok (.ireturn, 1) := by decide +kernel
theorem dX11_square_0 : decode cX11_square 0 = .ok (.aload_n 0, 1) := by decide +kernel
theorem dX11_square_1 : decode cX11_square 1 = .ok (.getfield 10, 3) := by decide +kernel
theorem dX11_square_4 : decode cX11_square 4 = .ok (.iload_n 1, 1) := by decide +kernel
theorem dX11_square_5 : decode cX11_square 5 = .ok (.invokevirtual 109, 3) := by decide +kernel
theorem dX11_square_8 : decode cX11_square 8 = .ok (.astore_n 3, 1) := by decide +kernel
theorem dX11_square_9 : decode cX11_square 9 = .ok (.aload_n 3, 1) := by decide +kernel
theorem dX11_square_10 : decode cX11_square 10 = .ok (.ifnonnull 5, 3) := by decide +kernel
theorem dX11_square_13 : decode cX11_square 13 = .ok (.iconst (-1), 1) := by decide +kernel
theorem dX11_square_14 : decode cX11_square 14 = .ok (.ireturn, 1) := by decide +kernel
theorem dX11_square_15 : decode cX11_square 15 = .ok (.aload_n 0, 1) := by decide +kernel
theorem dX11_square_16 : decode cX11_square 16 = .ok (.getfield 41, 3) := by decide +kernel
theorem dX11_square_19 : decode cX11_square 19 = .ok (.aload_n 3, 1) := by decide +kernel
theorem dX11_square_20 : decode cX11_square 20 = .ok (.invokevirtual 151, 3) := by decide +kernel
theorem dX11_square_23 : decode cX11_square 23 = .ok (.aload_n 0, 1) := by decide +kernel
theorem dX11_square_24 : decode cX11_square 24 = .ok (.getfield 41, 3) := by decide +kernel
theorem dX11_square_27 : decode cX11_square 27 = .ok (.aload_n 3, 1) := by decide +kernel
theorem dX11_square_28 : decode cX11_square 28 = .ok (.iload_n 2, 1) := by decide +kernel
theorem dX11_square_29 : decode cX11_square 29 = .ok (.invokevirtual 268, 3) := by decide +kernel
theorem dX11_square_32 : decode cX11_square 32 = .ok (.ireturn, 1) := by decide +kernel
theorem dX11_silent_0 : decode cX11_silent 0 = .ok (.aload_n 0, 1) := by decide +kernel
theorem dX11_silent_1 : decode cX11_silent 1 = .ok (.getfield 10, 3) := by decide +kernel
theorem dX11_silent_4 : decode cX11_silent 4 = .ok (.iload_n 1, 1) := by decide +kernel
theorem dX11_silent_5 : decode cX11_silent 5 = .ok (.invokevirtual 109, 3) := by decide +kernel
theorem dX11_silent_8 : decode cX11_silent 8 = .ok (.astore_n 2, 1) := by decide +kernel
theorem dX11_silent_9 : decode cX11_silent 9 = .ok (.aload_n 2, 1) := by decide +kernel
theorem dX11_silent_10 : decode cX11_silent 10 = .ok (.ifnonnull 5, 3) := by decide +kernel
theorem dX11_silent_13 : decode cX11_silent 13 = .ok (.iconst (-1), 1) := by decide +kernel
theorem dX11_silent_14 : decode cX11_silent 14 = .ok (.ireturn, 1) := by decide +kernel
theorem dX11_silent_15 : decode cX11_silent 15 = .ok (.aload_n 0, 1) := by decide +kernel
theorem dX11_silent_16 : decode cX11_silent 16 = .ok (.getfield 41, 3) := by decide +kernel
theorem dX11_silent_19 : decode cX11_silent 19 = .ok (.aload_n 2, 1) := by decide +kernel
theorem dX11_silent_20 : decode cX11_silent 20 = .ok (.invokevirtual 151, 3) := by decide +kernel
theorem dX11_silent_23 : decode cX11_silent 23 = .ok (.aload_n 0, 1) := by decide +kernel
theorem dX11_silent_24 : decode cX11_silent 24 = .ok (.getfield 41, 3) := by decide +kernel
theorem dX11_silent_27 : decode cX11_silent 27 = .ok (.aload_n 2, 1) := by decide +kernel
theorem dX11_silent_28 : decode cX11_silent 28 = .ok (.invokevirtual 272, 3) := by decide +kernel
theorem dX11_silent_31 : decode cX11_silent 31 = .ok (.ireturn, 1) := by decide +kernel
theorem dX11_round_0 : decode cX11_round 0 = .ok (.aload_n 0, 1) := by decide +kernel
theorem dX11_round_1 : decode cX11_round 1 = .ok (.getfield 10, 3) := by decide +kernel
theorem dX11_round_4 : decode cX11_round 4 = .ok (.iload_n 1, 1) := by decide +kernel
theorem dX11_round_5 : decode cX11_round 5 = .ok (.invokevirtual 109, 3) := by decide +kernel
theorem dX11_round_8 : decode cX11_round 8 = .ok (.astore_n 3, 1) := by decide +kernel
theorem dX11_round_9 : decode cX11_round 9 = .ok (.aload_n 3, 1) := by decide +kernel
theorem dX11_round_10 : decode cX11_round 10 = .ok (.ifnull 11, 3) := by decide +kernel
theorem dX11_round_13 : decode cX11_round 13 = .ok (.aload_n 3, 1) := by decide +kernel
theorem dX11_round_14 : decode cX11_round 14 = .ok (.iload_n 2, 1) := by decide +kernel
theorem dX11_round_15 : decode cX11_round 15 = .ok (.invokevirtual 137, 3) := by decide +kernel
theorem dX11_round_18 : decode cX11_round 18 = .ok (.ifCond .ne 5, 3) := by decide +kernel
theorem dX11_round_21 : decode cX11_round 21 = .ok (.iconst (-1), 1) := by decide +kernel
theorem dX11_round_22 : decode cX11_round 22 = .ok (.ireturn, 1) := by decide +kernel
theorem dX11_round_23 : decode cX11_round 23 = .ok (.aload_n 0, 1) := by decide +kernel
theorem dX11_round_24 : decode cX11_round 24 = .ok (.getfield 55, 3) := by decide +kernel
theorem dX11_round_27 : decode cX11_round 27 = .ok (.aload_n 3, 1) := by decide +kernel
theorem dX11_round_28 : decode cX11_round 28 = .ok (.aload_n 3, 1) := by decide +kernel
theorem dX11_round_29 : decode cX11_round 29 = .ok (.getfield 144, 3) := by decide +kernel
theorem dX11_round_32 : decode cX11_round 32 = .ok (.iload_n 2, 1) := by decide +kernel
theorem dX11_round_33 : decode cX11_round 33 = .ok (.iaload, 1) := by decide +kernel
theorem dX11_round_34 : decode cX11_round 34 = .ok (.invokevirtual 275, 3) := by decide +kernel
theorem dX11_round_37 : decode cX11_round 37 = .ok (.ireturn, 1) := by decide +kernel
theorem dX11_count_0 : decode cX11_count 0 = .ok (.aload_n 0, 1) := by decide +kernel
theorem dX11_count_1 : decode cX11_count 1 = .ok (.getfield 10, 3) := by decide +kernel
theorem dX11_count_4 : decode cX11_count 4 = .ok (.iload_n 1, 1) := by decide +kernel
theorem dX11_count_5 : decode cX11_count 5 = .ok (.invokevirtual 91, 3) := by decide +kernel
theorem dX11_count_8 : decode cX11_count 8 = .ok (.ireturn, 1) := by decide +kernel
theorem dX11_image_0 : decode cX11_image 0 = .ok (.iload_n 1, 1) := by decide +kernel
theorem dX11_image_1 : decode cX11_image 1 = .ok (.ifCond .lt 8, 3) := by decide +kernel
theorem dX11_image_4 : decode cX11_image 4 = .ok (.iload_n 1, 1) := by decide +kernel
theorem dX11_image_5 : decode cX11_image 5 = .ok (.iconst 3, 1) := by decide +kernel
theorem dX11_image_6 : decode cX11_image 6 = .ok (.if_icmp .lt 5, 3) := by decide +kernel
theorem dX11_image_9 : decode cX11_image 9 = .ok (.iconst 0, 1) := by decide +kernel
theorem dX11_image_10 : decode cX11_image 10 = .ok (.ireturn, 1) := by decide +kernel
theorem dX11_image_11 : decode cX11_image 11 = .ok (.aload_n 0, 1) := by decide +kernel
theorem dX11_image_12 : decode cX11_image 12 = .ok (.getfield 16, 3) := by decide +kernel
theorem dX11_image_15 : decode cX11_image 15 = .ok (.iload_n 1, 1) := by decide +kernel
theorem dX11_image_16 : decode cX11_image 16 = .ok (.aaload, 1) := by decide +kernel
theorem dX11_image_17 : decode cX11_image 17 = .ok (.aload_n 0, 1) := by decide +kernel
theorem dX11_image_18 : decode cX11_image 18 = .ok (.getfield 10, 3) := by decide +kernel
theorem dX11_image_21 : decode cX11_image 21 = .ok (.invokevirtual 278, 3) := by decide +kernel
theorem dX11_image_24 : decode cX11_image 24 = .ok (.aload_n 0, 1) := by decide +kernel
theorem dX11_image_25 : decode cX11_image 25 = .ok (.getfield 20, 3) := by decide +kernel
theorem dX11_image_28 : decode cX11_image 28 = .ok (.iload_n 1, 1) := by decide +kernel
theorem dX11_image_29 : decode cX11_image 29 = .ok (.iconst 1, 1) := by decide +kernel
theorem dX11_image_30 : decode cX11_image 30 = .ok (.bastore, 1) := by decide +kernel
theorem dX11_image_31 : decode cX11_image 31 = .ok (.iconst 1, 1) := by decide +kernel
theorem dX11_image_32 : decode cX11_image 32 = .ok (.ireturn, 1) := by decide +kernel
theorem dX11_again_0 : decode cX11_again 0 = .ok (.iload_n 1, 1) := by decide +kernel
theorem dX11_again_1 : decode cX11_again 1 = .ok (.ifCond .lt 17, 3) := by decide +kernel
theorem dX11_again_4 : decode cX11_again 4 = .ok (.iload_n 1, 1) := by decide +kernel
theorem dX11_again_5 : decode cX11_again 5 = .ok (.iconst 3, 1) := by decide +kernel
theorem dX11_again_6 : decode cX11_again 6 = .ok (.if_icmp .ge 12, 3) := by decide +kernel
theorem dX11_again_9 : decode cX11_again 9 = .ok (.aload_n 0, 1) := by decide +kernel
theorem dX11_again_10 : decode cX11_again 10 = .ok (.getfield 20, 3) := by decide +kernel
theorem dX11_again_13 : decode cX11_again 13 = .ok (.iload_n 1, 1) := by decide +kernel
theorem dX11_again_14 : decode cX11_again 14 = .ok (.baload, 1) := by decide +kernel
theorem dX11_again_15 : decode cX11_again 15 = .ok (.ifCond .ne 5, 3) := by decide +kernel
theorem dX11_again_18 : decode cX11_again 18 = .ok (.iconst 0, 1) := by decide +kernel
theorem dX11_again_19 : decode cX11_again 19 = .ok (.ireturn, 1) := by decide +kernel
theorem dX11_again_20 : decode cX11_again 20 = .ok (.aload_n 0, 1) := by decide +kernel
theorem dX11_again_21 : decode cX11_again 21 = .ok (.getfield 10, 3) := by decide +kernel
theorem dX11_again_24 : decode cX11_again 24 = .ok (.aload_n 0, 1) := by decide +kernel
theorem dX11_again_25 : decode cX11_again 25 = .ok (.getfield 16, 3) := by decide +kernel
theorem dX11_again_28 : decode cX11_again 28 = .ok (.iload_n 1, 1) := by decide +kernel
theorem dX11_again_29 : decode cX11_again 29 = .ok (.aaload, 1) := by decide +kernel
theorem dX11_again_30 : decode cX11_again 30 = .ok (.invokevirtual 278, 3) := by decide +kernel
theorem dX11_again_33 : decode cX11_again 33 = .ok (.iconst 1, 1) := by decide +kernel
theorem dX11_again_34 : decode cX11_again 34 = .ok (.ireturn, 1) := by decide +kernel
theorem dX11_spotAt_0 : decode cX11_spotAt 0 = .ok (.bipush 8, 2) := by decide +kernel
theorem dX11_spotAt_2 : decode cX11_spotAt 2 = .ok (.iload_n 1, 1) := by decide +kernel
theorem dX11_spotAt_3 : decode cX11_spotAt 3 = .ok (.imul, 1) := by decide +kernel
theorem dX11_spotAt_4 : decode cX11_spotAt 4 = .ok (.iload_n 0, 1) := by decide +kernel
theorem dX11_spotAt_5 : decode cX11_spotAt 5 = .ok (.iadd, 1) := by decide +kernel
theorem dX11_spotAt_6 : decode cX11_spotAt 6 = .ok (.ireturn, 1) := by decide +kernel
theorem dX11_only_0 : decode cX11_only 0 = .ok (.lconst 1, 1) := by decide +kernel
theorem dX11_only_1 : decode cX11_only 1 = .ok (.iload_n 0, 1) := by decide +kernel
theorem dX11_only_2 : decode cX11_only 2 = .ok (.lshl, 1) := by decide +kernel
theorem dX11_only_3 : decode cX11_only 3 = .ok (.lreturn, 1) := by decide +kernel
theorem dX11_has_0 : decode cX11_has 0 = .ok (.iload_n 2, 1) := by decide +kernel
theorem dX11_has_1 : decode cX11_has 1 = .ok (.ifCond .lt 24, 3) := by decide +kernel
theorem dX11_has_4 : decode cX11_has 4 = .ok (.iload_n 2, 1) := by decide +kernel
theorem dX11_has_5 : decode cX11_has 5 = .ok (.bipush 64, 2) := by decide +kernel
theorem dX11_has_7 : decode cX11_has 7 = .ok (.if_icmp .ge 18, 3) := by decide +kernel
theorem dX11_has_10 : decode cX11_has 10 = .ok (.lload_n 0, 1) := by decide +kernel
theorem dX11_has_11 : decode cX11_has 11 = .ok (.iload_n 2, 1) := by decide +kernel
theorem dX11_has_12 : decode cX11_has 12 = .ok (.invokestatic 282, 3) := by decide +kernel
theorem dX11_has_15 : decode cX11_has 15 = .ok (.land, 1) := by decide +kernel
theorem dX11_has_16 : decode cX11_has 16 = .ok (.lconst 0, 1) := by decide +kernel
theorem dX11_has_17 : decode cX11_has 17 = .ok (.lcmp, 1) := by decide +kernel
theorem dX11_has_18 : decode cX11_has 18 = .ok (.ifCond .eq 7, 3) := by decide +kernel
theorem dX11_has_21 : decode cX11_has 21 = .ok (.iconst 1, 1) := by decide +kernel
theorem dX11_has_22 : decode cX11_has 22 = .ok (.goto 4, 3) := by decide +kernel
theorem dX11_has_25 : decode cX11_has 25 = .ok (.iconst 0, 1) := by decide +kernel
theorem dX11_has_26 : decode cX11_has 26 = .ok (.ireturn, 1) := by decide +kernel
theorem dX11_leastOf_0 : decode cX11_leastOf 0 = .ok (.lload_n 0, 1) := by decide +kernel
theorem dX11_leastOf_1 : decode cX11_leastOf 1 = .ok (.lconst 0, 1) := by decide +kernel
theorem dX11_leastOf_2 : decode cX11_leastOf 2 = .ok (.lcmp, 1) := by decide +kernel
theorem dX11_leastOf_3 : decode cX11_leastOf 3 = .ok (.ifCond .ne 7, 3) := by decide +kernel
theorem dX11_leastOf_6 : decode cX11_leastOf 6 = .ok (.iconst (-1), 1) := by decide +kernel
theorem dX11_leastOf_7 : decode cX11_leastOf 7 = .ok (.goto 12, 3) := by decide +kernel
theorem dX11_leastOf_10 : decode cX11_leastOf 10 = .ok (.lload_n 0, 1) := by decide +kernel
theorem dX11_leastOf_11 : decode cX11_leastOf 11 = .ok (.lload_n 0, 1) := by decide +kernel
theorem dX11_leastOf_12 : decode cX11_leastOf 12 = .ok (.lneg, 1) := by decide +kernel
theorem dX11_leastOf_13 : decode cX11_leastOf 13 = .ok (.land, 1) := by decide +kernel
theorem dX11_leastOf_14 : decode cX11_leastOf 14 = .ok (.lconst 1, 1) := by decide +kernel
theorem dX11_leastOf_15 : decode cX11_leastOf 15 = .ok (.lsub, 1) := by decide +kernel
theorem dX11_leastOf_16 : decode cX11_leastOf 16 = .ok (.invokestatic 166, 3) := by decide +kernel
theorem dX11_leastOf_19 : decode cX11_leastOf 19 = .ok (.ireturn, 1) := by decide +kernel
theorem dX11_moved_0 : decode cX11_moved 0 = .ok (.iload_n 2, 1) := by decide +kernel
theorem dX11_moved_1 : decode cX11_moved 1 = .ok (.tableswitch 57 0 3 #[31, 36, 44, 49], 31) := by decide +kernel
theorem dX11_moved_32 : decode cX11_moved 32 = .ok (.lload_n 0, 1) := by decide +kernel
theorem dX11_moved_33 : decode cX11_moved 33 = .ok (.bipush 8, 2) := by decide +kernel
theorem dX11_moved_35 : decode cX11_moved 35 = .ok (.lushr, 1) := by decide +kernel
theorem dX11_moved_36 : decode cX11_moved 36 = .ok (.lreturn, 1) := by decide +kernel
theorem dX11_moved_37 : decode cX11_moved 37 = .ok (.lload_n 0, 1) := by decide +kernel
theorem dX11_moved_38 : decode cX11_moved 38 = .ok (.ldc2_w 286, 3) := by decide +kernel
theorem dX11_moved_41 : decode cX11_moved 41 = .ok (.land, 1) := by decide +kernel
theorem dX11_moved_42 : decode cX11_moved 42 = .ok (.iconst 1, 1) := by decide +kernel
theorem dX11_moved_43 : decode cX11_moved 43 = .ok (.lshl, 1) := by decide +kernel
theorem dX11_moved_44 : decode cX11_moved 44 = .ok (.lreturn, 1) := by decide +kernel
theorem dX11_moved_45 : decode cX11_moved 45 = .ok (.lload_n 0, 1) := by decide +kernel
theorem dX11_moved_46 : decode cX11_moved 46 = .ok (.bipush 8, 2) := by decide +kernel
theorem dX11_moved_48 : decode cX11_moved 48 = .ok (.lshl, 1) := by decide +kernel
theorem dX11_moved_49 : decode cX11_moved 49 = .ok (.lreturn, 1) := by decide +kernel
theorem dX11_moved_50 : decode cX11_moved 50 = .ok (.lload_n 0, 1) := by decide +kernel
theorem dX11_moved_51 : decode cX11_moved 51 = .ok (.ldc2_w 288, 3) := by decide +kernel
theorem dX11_moved_54 : decode cX11_moved 54 = .ok (.land, 1) := by decide +kernel
theorem dX11_moved_55 : decode cX11_moved 55 = .ok (.iconst 1, 1) := by decide +kernel
theorem dX11_moved_56 : decode cX11_moved 56 = .ok (.lushr, 1) := by decide +kernel
theorem dX11_moved_57 : decode cX11_moved 57 = .ok (.lreturn, 1) := by decide +kernel
theorem dX11_moved_58 : decode cX11_moved 58 = .ok (.lconst 0, 1) := by decide +kernel
theorem dX11_moved_59 : decode cX11_moved 59 = .ok (.lreturn, 1) := by decide +kernel
theorem dX11_nextSpot_0 : decode cX11_nextSpot 0 = .ok (.iload_n 0, 1) := by decide +kernel
theorem dX11_nextSpot_1 : decode cX11_nextSpot 1 = .ok (.invokestatic 282, 3) := by decide +kernel
theorem dX11_nextSpot_4 : decode cX11_nextSpot 4 = .ok (.iload_n 1, 1) := by decide +kernel
theorem dX11_nextSpot_5 : decode cX11_nextSpot 5 = .ok (.invokestatic 290, 3) := by decide +kernel
theorem dX11_nextSpot_8 : decode cX11_nextSpot 8 = .ok (.lload_n 2, 1) := by decide +kernel
theorem dX11_nextSpot_9 : decode cX11_nextSpot 9 = .ok (.land, 1) := by decide +kernel
theorem dX11_nextSpot_10 : decode cX11_nextSpot 10 = .ok (.invokestatic 294, 3) := by decide +kernel
theorem dX11_nextSpot_13 : decode cX11_nextSpot 13 = .ok (.ireturn, 1) := by decide +kernel
theorem dX11_grown_0 : decode cX11_grown 0 = .ok (.lload_n 0, 1) := by decide +kernel
theorem dX11_grown_1 : decode cX11_grown 1 = .ok (.lstore 4, 2) := by decide +kernel
theorem dX11_grown_3 : decode cX11_grown 3 = .ok (.iconst 0, 1) := by decide +kernel
theorem dX11_grown_4 : decode cX11_grown 4 = .ok (.istore 6, 2) := by decide +kernel
theorem dX11_grown_6 : decode cX11_grown 6 = .ok (.iload 6, 2) := by decide +kernel
theorem dX11_grown_8 : decode cX11_grown 8 = .ok (.iconst 4, 1) := by decide +kernel
theorem dX11_grown_9 : decode cX11_grown 9 = .ok (.if_icmp .ge 22, 3) := by decide +kernel
theorem dX11_grown_12 : decode cX11_grown 12 = .ok (.lload 4, 2) := by decide +kernel
theorem dX11_grown_14 : decode cX11_grown 14 = .ok (.lload_n 0, 1) := by decide +kernel
theorem dX11_grown_15 : decode cX11_grown 15 = .ok (.iload 6, 2) := by decide +kernel
theorem dX11_grown_17 : decode cX11_grown 17 = .ok (.invokestatic 290, 3) := by decide +kernel
theorem dX11_grown_20 : decode cX11_grown 20 = .ok (.lload_n 2, 1) := by decide +kernel
theorem dX11_grown_21 : decode cX11_grown 21 = .ok (.land, 1) := by decide +kernel
theorem dX11_grown_22 : decode cX11_grown 22 = .ok (.lor, 1) := by decide +kernel
theorem dX11_grown_23 : decode cX11_grown 23 = .ok (.lstore 4, 2) := by decide +kernel
theorem dX11_grown_25 : decode cX11_grown 25 = .ok (.iinc 6 1, 3) := by decide +kernel
theorem dX11_grown_28 : decode cX11_grown 28 = .ok (.goto (-22), 3) := by decide +kernel
theorem dX11_grown_31 : decode cX11_grown 31 = .ok (.lload 4, 2) := by decide +kernel
theorem dX11_grown_33 : decode cX11_grown 33 = .ok (.lreturn, 1) := by decide +kernel
theorem dX11_contrary_0 : decode cX11_contrary 0 = .ok (.iload_n 0, 1) := by decide +kernel
theorem dX11_contrary_1 : decode cX11_contrary 1 = .ok (.iconst 2, 1) := by decide +kernel
theorem dX11_contrary_2 : decode cX11_contrary 2 = .ok (.ixor, 1) := by decide +kernel
theorem dX11_contrary_3 : decode cX11_contrary 3 = .ok (.ireturn, 1) := by decide +kernel
theorem dJ6_bitCount_0f7a4_0 : decode cJ6_bitCount_0f7a4 0 = .ok (.iload_n 0, 1) := by decide +kernel
theorem dJ6_bitCount_0f7a4_1 : decode cJ6_bitCount_0f7a4 1 = .ok (.iload_n 0, 1) := by decide +kernel
theorem dJ6_bitCount_0f7a4_2 : decode cJ6_bitCount_0f7a4 2 = .ok (.iconst 1, 1) := by decide +kernel
theorem dJ6_bitCount_0f7a4_3 : decode cJ6_bitCount_0f7a4 3 = .ok (.iushr, 1) := by decide +kernel
theorem dJ6_bitCount_0f7a4_4 : decode cJ6_bitCount_0f7a4 4 = .ok (.ldc_w 265, 3) := by decide +kernel
theorem dJ6_bitCount_0f7a4_7 : decode cJ6_bitCount_0f7a4 7 = .ok (.iand, 1) := by decide +kernel
theorem dJ6_bitCount_0f7a4_8 : decode cJ6_bitCount_0f7a4 8 = .ok (.isub, 1) := by decide +kernel
theorem dJ6_bitCount_0f7a4_9 : decode cJ6_bitCount_0f7a4 9 = .ok (.istore_n 0, 1) := by decide +kernel
theorem dJ6_bitCount_0f7a4_10 : decode cJ6_bitCount_0f7a4 10 = .ok (.iload_n 0, 1) := by decide +kernel
theorem dJ6_bitCount_0f7a4_11 : decode cJ6_bitCount_0f7a4 11 = .ok (.ldc_w 266, 3) := by decide +kernel
theorem dJ6_bitCount_0f7a4_14 : decode cJ6_bitCount_0f7a4 14 = .ok (.iand, 1) := by decide +kernel
theorem dJ6_bitCount_0f7a4_15 : decode cJ6_bitCount_0f7a4 15 = .ok (.iload_n 0, 1) := by decide +kernel
theorem dJ6_bitCount_0f7a4_16 : decode cJ6_bitCount_0f7a4 16 = .ok (.iconst 2, 1) := by decide +kernel
theorem dJ6_bitCount_0f7a4_17 : decode cJ6_bitCount_0f7a4 17 = .ok (.iushr, 1) := by decide +kernel
theorem dJ6_bitCount_0f7a4_18 : decode cJ6_bitCount_0f7a4 18 = .ok (.ldc_w 266, 3) := by decide +kernel
theorem dJ6_bitCount_0f7a4_21 : decode cJ6_bitCount_0f7a4 21 = .ok (.iand, 1) := by decide +kernel
theorem dJ6_bitCount_0f7a4_22 : decode cJ6_bitCount_0f7a4 22 = .ok (.iadd, 1) := by decide +kernel
theorem dJ6_bitCount_0f7a4_23 : decode cJ6_bitCount_0f7a4 23 = .ok (.istore_n 0, 1) := by decide +kernel
theorem dJ6_bitCount_0f7a4_24 : decode cJ6_bitCount_0f7a4 24 = .ok (.iload_n 0, 1) := by decide +kernel
theorem dJ6_bitCount_0f7a4_25 : decode cJ6_bitCount_0f7a4 25 = .ok (.iload_n 0, 1) := by decide +kernel
theorem dJ6_bitCount_0f7a4_26 : decode cJ6_bitCount_0f7a4 26 = .ok (.iconst 4, 1) := by decide +kernel
theorem dJ6_bitCount_0f7a4_27 : decode cJ6_bitCount_0f7a4 27 = .ok (.iushr, 1) := by decide +kernel
theorem dJ6_bitCount_0f7a4_28 : decode cJ6_bitCount_0f7a4 28 = .ok (.iadd, 1) := by decide +kernel
theorem dJ6_bitCount_0f7a4_29 : decode cJ6_bitCount_0f7a4 29 = .ok (.ldc_w 267, 3) := by decide +kernel
theorem dJ6_bitCount_0f7a4_32 : decode cJ6_bitCount_0f7a4 32 = .ok (.iand, 1) := by decide +kernel
theorem dJ6_bitCount_0f7a4_33 : decode cJ6_bitCount_0f7a4 33 = .ok (.istore_n 0, 1) := by decide +kernel
theorem dJ6_bitCount_0f7a4_34 : decode cJ6_bitCount_0f7a4 34 = .ok (.iload_n 0, 1) := by decide +kernel
theorem dJ6_bitCount_0f7a4_35 : decode cJ6_bitCount_0f7a4 35 = .ok (.iload_n 0, 1) := by decide +kernel
theorem dJ6_bitCount_0f7a4_36 : decode cJ6_bitCount_0f7a4 36 = .ok (.bipush 8, 2) := by decide +kernel
theorem dJ6_bitCount_0f7a4_38 : decode cJ6_bitCount_0f7a4 38 = .ok (.iushr, 1) := by decide +kernel
theorem dJ6_bitCount_0f7a4_39 : decode cJ6_bitCount_0f7a4 39 = .ok (.iadd, 1) := by decide +kernel
theorem dJ6_bitCount_0f7a4_40 : decode cJ6_bitCount_0f7a4 40 = .ok (.istore_n 0, 1) := by decide +kernel
theorem dJ6_bitCount_0f7a4_41 : decode cJ6_bitCount_0f7a4 41 = .ok (.iload_n 0, 1) := by decide +kernel
theorem dJ6_bitCount_0f7a4_42 : decode cJ6_bitCount_0f7a4 42 = .ok (.iload_n 0, 1) := by decide +kernel
theorem dJ6_bitCount_0f7a4_43 : decode cJ6_bitCount_0f7a4 43 = .ok (.bipush 16, 2) := by decide +kernel
theorem dJ6_bitCount_0f7a4_45 : decode cJ6_bitCount_0f7a4 45 = .ok (.iushr, 1) := by decide +kernel
theorem dJ6_bitCount_0f7a4_46 : decode cJ6_bitCount_0f7a4 46 = .ok (.iadd, 1) := by decide +kernel
theorem dJ6_bitCount_0f7a4_47 : decode cJ6_bitCount_0f7a4 47 = .ok (.istore_n 0, 1) := by decide +kernel
theorem dJ6_bitCount_0f7a4_48 : decode cJ6_bitCount_0f7a4 48 = .ok (.iload_n 0, 1) := by decide +kernel
theorem dJ6_bitCount_0f7a4_49 : decode cJ6_bitCount_0f7a4 49 = .ok (.bipush 63, 2) := by decide +kernel
theorem dJ6_bitCount_0f7a4_51 : decode cJ6_bitCount_0f7a4 51 = .ok (.iand, 1) := by decide +kernel
theorem dJ6_bitCount_0f7a4_52 : decode cJ6_bitCount_0f7a4 52 = .ok (.ireturn, 1) := by decide +kernel
theorem dJ13_bitCount_95d88_0 : decode cJ13_bitCount_95d88 0 = .ok (.lload_n 0, 1) := by decide +kernel
theorem dJ13_bitCount_95d88_1 : decode cJ13_bitCount_95d88 1 = .ok (.lload_n 0, 1) := by decide +kernel
theorem dJ13_bitCount_95d88_2 : decode cJ13_bitCount_95d88 2 = .ok (.iconst 1, 1) := by decide +kernel
theorem dJ13_bitCount_95d88_3 : decode cJ13_bitCount_95d88 3 = .ok (.lushr, 1) := by decide +kernel
theorem dJ13_bitCount_95d88_4 : decode cJ13_bitCount_95d88 4 = .ok (.ldc2_w 314, 3) := by decide +kernel
theorem dJ13_bitCount_95d88_7 : decode cJ13_bitCount_95d88 7 = .ok (.land, 1) := by decide +kernel
theorem dJ13_bitCount_95d88_8 : decode cJ13_bitCount_95d88 8 = .ok (.lsub, 1) := by decide +kernel
theorem dJ13_bitCount_95d88_9 : decode cJ13_bitCount_95d88 9 = .ok (.lstore_n 0, 1) := by decide +kernel
theorem dJ13_bitCount_95d88_10 : decode cJ13_bitCount_95d88 10 = .ok (.lload_n 0, 1) := by decide +kernel
theorem dJ13_bitCount_95d88_11 : decode cJ13_bitCount_95d88 11 = .ok (.ldc2_w 316, 3) := by decide +kernel
theorem dJ13_bitCount_95d88_14 : decode cJ13_bitCount_95d88 14 = .ok (.land, 1) := by decide +kernel
theorem dJ13_bitCount_95d88_15 : decode cJ13_bitCount_95d88 15 = .ok (.lload_n 0, 1) := by decide +kernel
theorem dJ13_bitCount_95d88_16 : decode cJ13_bitCount_95d88 16 = .ok (.iconst 2, 1) := by decide +kernel
theorem dJ13_bitCount_95d88_17 : decode cJ13_bitCount_95d88 17 = .ok (.lushr, 1) := by decide +kernel
theorem dJ13_bitCount_95d88_18 : decode cJ13_bitCount_95d88 18 = .ok (.ldc2_w 316, 3) := by decide +kernel
theorem dJ13_bitCount_95d88_21 : decode cJ13_bitCount_95d88 21 = .ok (.land, 1) := by decide +kernel
theorem dJ13_bitCount_95d88_22 : decode cJ13_bitCount_95d88 22 = .ok (.ladd, 1) := by decide +kernel
theorem dJ13_bitCount_95d88_23 : decode cJ13_bitCount_95d88 23 = .ok (.lstore_n 0, 1) := by decide +kernel
theorem dJ13_bitCount_95d88_24 : decode cJ13_bitCount_95d88 24 = .ok (.lload_n 0, 1) := by decide +kernel
theorem dJ13_bitCount_95d88_25 : decode cJ13_bitCount_95d88 25 = .ok (.lload_n 0, 1) := by decide +kernel
theorem dJ13_bitCount_95d88_26 : decode cJ13_bitCount_95d88 26 = .ok (.iconst 4, 1) := by decide +kernel
theorem dJ13_bitCount_95d88_27 : decode cJ13_bitCount_95d88 27 = .ok (.lushr, 1) := by decide +kernel
theorem dJ13_bitCount_95d88_28 : decode cJ13_bitCount_95d88 28 = .ok (.ladd, 1) := by decide +kernel
theorem dJ13_bitCount_95d88_29 : decode cJ13_bitCount_95d88 29 = .ok (.ldc2_w 318, 3) := by decide +kernel
theorem dJ13_bitCount_95d88_32 : decode cJ13_bitCount_95d88 32 = .ok (.land, 1) := by decide +kernel
theorem dJ13_bitCount_95d88_33 : decode cJ13_bitCount_95d88 33 = .ok (.lstore_n 0, 1) := by decide +kernel
theorem dJ13_bitCount_95d88_34 : decode cJ13_bitCount_95d88 34 = .ok (.lload_n 0, 1) := by decide +kernel
theorem dJ13_bitCount_95d88_35 : decode cJ13_bitCount_95d88 35 = .ok (.lload_n 0, 1) := by decide +kernel
theorem dJ13_bitCount_95d88_36 : decode cJ13_bitCount_95d88 36 = .ok (.bipush 8, 2) := by decide +kernel
theorem dJ13_bitCount_95d88_38 : decode cJ13_bitCount_95d88 38 = .ok (.lushr, 1) := by decide +kernel
theorem dJ13_bitCount_95d88_39 : decode cJ13_bitCount_95d88 39 = .ok (.ladd, 1) := by decide +kernel
theorem dJ13_bitCount_95d88_40 : decode cJ13_bitCount_95d88 40 = .ok (.lstore_n 0, 1) := by decide +kernel
theorem dJ13_bitCount_95d88_41 : decode cJ13_bitCount_95d88 41 = .ok (.lload_n 0, 1) := by decide +kernel
theorem dJ13_bitCount_95d88_42 : decode cJ13_bitCount_95d88 42 = .ok (.lload_n 0, 1) := by decide +kernel
theorem dJ13_bitCount_95d88_43 : decode cJ13_bitCount_95d88 43 = .ok (.bipush 16, 2) := by decide +kernel
theorem dJ13_bitCount_95d88_45 : decode cJ13_bitCount_95d88 45 = .ok (.lushr, 1) := by decide +kernel
theorem dJ13_bitCount_95d88_46 : decode cJ13_bitCount_95d88 46 = .ok (.ladd, 1) := by decide +kernel
theorem dJ13_bitCount_95d88_47 : decode cJ13_bitCount_95d88 47 = .ok (.lstore_n 0, 1) := by decide +kernel
theorem dJ13_bitCount_95d88_48 : decode cJ13_bitCount_95d88 48 = .ok (.lload_n 0, 1) := by decide +kernel
theorem dJ13_bitCount_95d88_49 : decode cJ13_bitCount_95d88 49 = .ok (.lload_n 0, 1) := by decide +kernel
theorem dJ13_bitCount_95d88_50 : decode cJ13_bitCount_95d88 50 = .ok (.bipush 32, 2) := by decide +kernel
theorem dJ13_bitCount_95d88_52 : decode cJ13_bitCount_95d88 52 = .ok (.lushr, 1) := by decide +kernel
theorem dJ13_bitCount_95d88_53 : decode cJ13_bitCount_95d88 53 = .ok (.ladd, 1) := by decide +kernel
theorem dJ13_bitCount_95d88_54 : decode cJ13_bitCount_95d88 54 = .ok (.lstore_n 0, 1) := by decide +kernel
theorem dJ13_bitCount_95d88_55 : decode cJ13_bitCount_95d88 55 = .ok (.lload_n 0, 1) := by decide +kernel
theorem dJ13_bitCount_95d88_56 : decode cJ13_bitCount_95d88 56 = .ok (.l2i, 1) := by decide +kernel
theorem dJ13_bitCount_95d88_57 : decode cJ13_bitCount_95d88 57 = .ok (.bipush 127, 2) := by decide +kernel
theorem dJ13_bitCount_95d88_59 : decode cJ13_bitCount_95d88 59 = .ok (.iand, 1) := by decide +kernel
theorem dJ13_bitCount_95d88_60 : decode cJ13_bitCount_95d88 60 = .ok (.ireturn, 1) := by decide +kernel
theorem dJ9_abs_0f7a4_0 : decode cJ9_abs_0f7a4 0 = .ok (.iload_n 0, 1) := by decide +kernel
theorem dJ9_abs_0f7a4_1 : decode cJ9_abs_0f7a4 1 = .ok (.ifCond .ge 8, 3) := by decide +kernel
theorem dJ9_abs_0f7a4_4 : decode cJ9_abs_0f7a4 4 = .ok (.iload_n 0, 1) := by decide +kernel
theorem dJ9_abs_0f7a4_5 : decode cJ9_abs_0f7a4 5 = .ok (.ineg, 1) := by decide +kernel
theorem dJ9_abs_0f7a4_6 : decode cJ9_abs_0f7a4 6 = .ok (.goto 4, 3) := by decide +kernel
theorem dJ9_abs_0f7a4_9 : decode cJ9_abs_0f7a4 9 = .ok (.iload_n 0, 1) := by decide +kernel
theorem dJ9_abs_0f7a4_10 : decode cJ9_abs_0f7a4 10 = .ok (.ireturn, 1) := by decide +kernel
theorem dJ9_max_7cf53_0 : decode cJ9_max_7cf53 0 = .ok (.iload_n 0, 1) := by decide +kernel
theorem dJ9_max_7cf53_1 : decode cJ9_max_7cf53 1 = .ok (.iload_n 1, 1) := by decide +kernel
theorem dJ9_max_7cf53_2 : decode cJ9_max_7cf53 2 = .ok (.if_icmp .lt 7, 3) := by decide +kernel
theorem dJ9_max_7cf53_5 : decode cJ9_max_7cf53 5 = .ok (.iload_n 0, 1) := by decide +kernel
theorem dJ9_max_7cf53_6 : decode cJ9_max_7cf53 6 = .ok (.goto 4, 3) := by decide +kernel
theorem dJ9_max_7cf53_9 : decode cJ9_max_7cf53 9 = .ok (.iload_n 1, 1) := by decide +kernel
theorem dJ9_max_7cf53_10 : decode cJ9_max_7cf53 10 = .ok (.ireturn, 1) := by decide +kernel
theorem dJ9_min_7cf53_0 : decode cJ9_min_7cf53 0 = .ok (.iload_n 0, 1) := by decide +kernel
theorem dJ9_min_7cf53_1 : decode cJ9_min_7cf53 1 = .ok (.iload_n 1, 1) := by decide +kernel
theorem dJ9_min_7cf53_2 : decode cJ9_min_7cf53 2 = .ok (.if_icmp .gt 7, 3) := by decide +kernel
theorem dJ9_min_7cf53_5 : decode cJ9_min_7cf53 5 = .ok (.iload_n 0, 1) := by decide +kernel
theorem dJ9_min_7cf53_6 : decode cJ9_min_7cf53 6 = .ok (.goto 4, 3) := by decide +kernel
theorem dJ9_min_7cf53_9 : decode cJ9_min_7cf53 9 = .ok (.iload_n 1, 1) := by decide +kernel
theorem dJ9_min_7cf53_10 : decode cJ9_min_7cf53 10 = .ok (.ireturn, 1) := by decide +kernel
theorem dJ0_length_8abf5_0 : decode cJ0_length_8abf5 0 = .ok (.aload_n 0, 1) := by decide +kernel
theorem dJ0_length_8abf5_1 : decode cJ0_length_8abf5 1 = .ok (.getfield 9, 3) := by decide +kernel
theorem dJ0_length_8abf5_4 : decode cJ0_length_8abf5 4 = .ok (.arraylength, 1) := by decide +kernel
theorem dJ0_length_8abf5_5 : decode cJ0_length_8abf5 5 = .ok (.aload_n 0, 1) := by decide +kernel
theorem dJ0_length_8abf5_6 : decode cJ0_length_8abf5 6 = .ok (.invokevirtual 335, 3) := by decide +kernel
theorem dJ0_length_8abf5_9 : decode cJ0_length_8abf5 9 = .ok (.ishr, 1) := by decide +kernel
theorem dJ0_length_8abf5_10 : decode cJ0_length_8abf5 10 = .ok (.ireturn, 1) := by decide +kernel
theorem dJ0_charAt_5068e_0 : decode cJ0_charAt_5068e 0 = .ok (.aload_n 0, 1) := by decide +kernel
theorem dJ0_charAt_5068e_1 : decode cJ0_charAt_5068e 1 = .ok (.invokevirtual 492, 3) := by decide +kernel
theorem dJ0_charAt_5068e_4 : decode cJ0_charAt_5068e 4 = .ok (.ifCond .eq 12, 3) := by decide +kernel
theorem dJ0_charAt_5068e_7 : decode cJ0_charAt_5068e 7 = .ok (.aload_n 0, 1) := by decide +kernel
theorem dJ0_charAt_5068e_8 : decode cJ0_charAt_5068e 8 = .ok (.getfield 9, 3) := by decide +kernel
theorem dJ0_charAt_5068e_11 : decode cJ0_charAt_5068e 11 = .ok (.iload_n 1, 1) := by decide +kernel
theorem dJ0_charAt_5068e_12 : decode cJ0_charAt_5068e 12 = .ok (.invokestatic 495, 3) := by decide +kernel
theorem dJ0_charAt_5068e_15 : decode cJ0_charAt_5068e 15 = .ok (.ireturn, 1) := by decide +kernel
theorem dJ0_charAt_5068e_16 : decode cJ0_charAt_5068e 16 = .ok (.aload_n 0, 1) := by decide +kernel
theorem dJ0_charAt_5068e_17 : decode cJ0_charAt_5068e 17 = .ok (.getfield 9, 3) := by decide +kernel
theorem dJ0_charAt_5068e_20 : decode cJ0_charAt_5068e 20 = .ok (.iload_n 1, 1) := by decide +kernel
theorem dJ0_charAt_5068e_21 : decode cJ0_charAt_5068e 21 = .ok (.invokestatic 498, 3) := by decide +kernel
theorem dJ0_charAt_5068e_24 : decode cJ0_charAt_5068e 24 = .ok (.ireturn, 1) := by decide +kernel
theorem dJ0_coder_7d493_0 : decode cJ0_coder_7d493 0 = .ok (.getstatic 38, 3) := by decide +kernel
theorem dJ0_coder_7d493_3 : decode cJ0_coder_7d493 3 = .ok (.ifCond .eq 10, 3) := by decide +kernel
theorem dJ0_coder_7d493_6 : decode cJ0_coder_7d493 6 = .ok (.aload_n 0, 1) := by decide +kernel
theorem dJ0_coder_7d493_7 : decode cJ0_coder_7d493 7 = .ok (.getfield 15, 3) := by decide +kernel
theorem dJ0_coder_7d493_10 : decode cJ0_coder_7d493 10 = .ok (.goto 4, 3) := by decide +kernel
theorem dJ0_coder_7d493_13 : decode cJ0_coder_7d493 13 = .ok (.iconst 1, 1) := by decide +kernel
theorem dJ0_coder_7d493_14 : decode cJ0_coder_7d493 14 = .ok (.ireturn, 1) := by decide +kernel
theorem dJ0_isLatin1_aae02_0 : decode cJ0_isLatin1_aae02 0 = .ok (.getstatic 38, 3) := by decide +kernel
theorem dJ0_isLatin1_aae02_3 : decode cJ0_isLatin1_aae02 3 = .ok (.ifCond .eq 14, 3) := by decide +kernel
theorem dJ0_isLatin1_aae02_6 : decode cJ0_isLatin1_aae02 6 = .ok (.aload_n 0, 1) := by decide +kernel
theorem dJ0_isLatin1_aae02_7 : decode cJ0_isLatin1_aae02 7 = .ok (.getfield 15, 3) := by decide +kernel
theorem dJ0_isLatin1_aae02_10 : decode cJ0_isLatin1_aae02 10 = .ok (.ifCond .ne 7, 3) := by decide +kernel
theorem dJ0_isLatin1_aae02_13 : decode cJ0_isLatin1_aae02 13 = .ok (.iconst 1, 1) := by decide +kernel
theorem dJ0_isLatin1_aae02_14 : decode cJ0_isLatin1_aae02 14 = .ok (.goto 4, 3) := by decide +kernel
theorem dJ0_isLatin1_aae02_17 : decode cJ0_isLatin1_aae02 17 = .ok (.iconst 0, 1) := by decide +kernel
theorem dJ0_isLatin1_aae02_18 : decode cJ0_isLatin1_aae02 18 = .ok (.ireturn, 1) := by decide +kernel
theorem dJ0_checkIndex_df160_0 : decode cJ0_checkIndex_df160 0 = .ok (.iload_n 0, 1) := by decide +kernel
theorem dJ0_checkIndex_df160_1 : decode cJ0_checkIndex_df160 1 = .ok (.iload_n 1, 1) := by decide +kernel
theorem dJ0_checkIndex_df160_2 : decode cJ0_checkIndex_df160 2 = .ok (.getstatic 1053, 3) := by decide +kernel
theorem dJ0_checkIndex_df160_5 : decode cJ0_checkIndex_df160 5 = .ok (.invokestatic 1059, 3) := by decide +kernel
theorem dJ0_checkIndex_df160_8 : decode cJ0_checkIndex_df160 8 = .ok (.pop, 1) := by decide +kernel
theorem dJ0_checkIndex_df160_9 : decode cJ0_checkIndex_df160 9 = .ok (.return_, 1) := by decide +kernel
theorem dJ1_charAt_3b067_0 : decode cJ1_charAt_3b067 0 = .ok (.iload_n 1, 1) := by decide +kernel
theorem dJ1_charAt_3b067_1 : decode cJ1_charAt_3b067 1 = .ok (.aload_n 0, 1) := by decide +kernel
theorem dJ1_charAt_3b067_2 : decode cJ1_charAt_3b067 2 = .ok (.arraylength, 1) := by decide +kernel
theorem dJ1_charAt_3b067_3 : decode cJ1_charAt_3b067 3 = .ok (.invokestatic 9, 3) := by decide +kernel
theorem dJ1_charAt_3b067_6 : decode cJ1_charAt_3b067 6 = .ok (.aload_n 0, 1) := by decide +kernel
theorem dJ1_charAt_3b067_7 : decode cJ1_charAt_3b067 7 = .ok (.iload_n 1, 1) := by decide +kernel
theorem dJ1_charAt_3b067_8 : decode cJ1_charAt_3b067 8 = .ok (.baload, 1) := by decide +kernel
theorem dJ1_charAt_3b067_9 : decode cJ1_charAt_3b067 9 = .ok (.sipush 255, 3) := by decide +kernel
theorem dJ1_charAt_3b067_12 : decode cJ1_charAt_3b067 12 = .ok (.iand, 1) := by decide +kernel
theorem dJ1_charAt_3b067_13 : decode cJ1_charAt_3b067 13 = .ok (.i2c, 1) := by decide +kernel
theorem dJ1_charAt_3b067_14 : decode cJ1_charAt_3b067 14 = .ok (.ireturn, 1) := by decide +kernel
theorem dJ2_getChar_3b067_0 : decode cJ2_getChar_3b067 0 = .ok (.getstatic 44, 3) := by decide +kernel
theorem dJ2_getChar_3b067_3 : decode cJ2_getChar_3b067 3 = .ok (.ifCond .ne 25, 3) := by decide +kernel
theorem dJ2_getChar_3b067_6 : decode cJ2_getChar_3b067 6 = .ok (.iload_n 1, 1) := by decide +kernel
theorem dJ2_getChar_3b067_7 : decode cJ2_getChar_3b067 7 = .ok (.ifCond .lt 11, 3) := by decide +kernel
theorem dJ2_getChar_3b067_10 : decode cJ2_getChar_3b067 10 = .ok (.iload_n 1, 1) := by decide +kernel
theorem dJ2_getChar_3b067_11 : decode cJ2_getChar_3b067 11 = .ok (.aload_n 0, 1) := by decide +kernel
theorem dJ2_getChar_3b067_12 : decode cJ2_getChar_3b067 12 = .ok (.invokestatic 48, 3) := by decide +kernel
theorem dJ2_getChar_3b067_15 : decode cJ2_getChar_3b067 15 = .ok (.if_icmp .lt 13, 3) := by decide +kernel
theorem dJ2_getChar_3b067_18 : decode cJ2_getChar_3b067 18 = .ok (.new 52, 3) := by decide +kernel
theorem dJ2_getChar_3b067_21 : decode cJ2_getChar_3b067 21 = .ok (.dup, 1) := by decide +kernel
theorem dJ2_getChar_3b067_22 : decode cJ2_getChar_3b067 22 = .ok (.ldc 54, 2) := by decide +kernel
theorem dJ2_getChar_3b067_24 : decode cJ2_getChar_3b067 24 = .ok (.invokespecial 56, 3) := by decide +kernel
theorem dJ2_getChar_3b067_27 : decode cJ2_getChar_3b067 27 = .ok (.athrow, 1) := by decide +kernel
theorem dJ2_getChar_3b067_28 : decode cJ2_getChar_3b067 28 = .ok (.iload_n 1, 1) := by decide +kernel
theorem dJ2_getChar_3b067_29 : decode cJ2_getChar_3b067 29 = .ok (.iconst 1, 1) := by decide +kernel
theorem dJ2_getChar_3b067_30 : decode cJ2_getChar_3b067 30 = .ok (.ishl, 1) := by decide +kernel
theorem dJ2_getChar_3b067_31 : decode cJ2_getChar_3b067 31 = .ok (.istore_n 1, 1) := by decide +kernel
theorem dJ2_getChar_3b067_32 : decode cJ2_getChar_3b067 32 = .ok (.aload_n 0, 1) := by decide +kernel
theorem dJ2_getChar_3b067_33 : decode cJ2_getChar_3b067 33 = .ok (.iload_n 1, 1) := by decide +kernel
theorem dJ2_getChar_3b067_34 : decode cJ2_getChar_3b067 34 = .ok (.iinc 1 1, 3) := by decide +kernel
theorem dJ2_getChar_3b067_37 : decode cJ2_getChar_3b067 37 = .ok (.baload, 1) := by decide +kernel
theorem dJ2_getChar_3b067_38 : decode cJ2_getChar_3b067 38 = .ok (.sipush 255, 3) := by decide +kernel
theorem dJ2_getChar_3b067_41 : decode cJ2_getChar_3b067 41 = .ok (.iand, 1) := by decide +kernel
theorem dJ2_getChar_3b067_42 : decode cJ2_getChar_3b067 42 = .ok (.getstatic 59, 3) := by decide +kernel
theorem dJ2_getChar_3b067_45 : decode cJ2_getChar_3b067 45 = .ok (.ishl, 1) := by decide +kernel
theorem dJ2_getChar_3b067_46 : decode cJ2_getChar_3b067 46 = .ok (.aload_n 0, 1) := by decide +kernel
theorem dJ2_getChar_3b067_47 : decode cJ2_getChar_3b067 47 = .ok (.iload_n 1, 1) := by decide +kernel
theorem dJ2_getChar_3b067_48 : decode cJ2_getChar_3b067 48 = .ok (.baload, 1) := by decide +kernel
theorem dJ2_getChar_3b067_49 : decode cJ2_getChar_3b067 49 = .ok (.sipush 255, 3) := by decide +kernel
theorem dJ2_getChar_3b067_52 : decode cJ2_getChar_3b067 52 = .ok (.iand, 1) := by decide +kernel
theorem dJ2_getChar_3b067_53 : decode cJ2_getChar_3b067 53 = .ok (.getstatic 63, 3) := by decide +kernel
theorem dJ2_getChar_3b067_56 : decode cJ2_getChar_3b067 56 = .ok (.ishl, 1) := by decide +kernel
theorem dJ2_getChar_3b067_57 : decode cJ2_getChar_3b067 57 = .ok (.ior, 1) := by decide +kernel
theorem dJ2_getChar_3b067_58 : decode cJ2_getChar_3b067 58 = .ok (.i2c, 1) := by decide +kernel
theorem dJ2_getChar_3b067_59 : decode cJ2_getChar_3b067 59 = .ok (.ireturn, 1) := by decide +kernel
theorem dJ2_length_9d52b_0 : decode cJ2_length_9d52b 0 = .ok (.aload_n 0, 1) := by decide +kernel
theorem dJ2_length_9d52b_1 : decode cJ2_length_9d52b 1 = .ok (.arraylength, 1) := by decide +kernel
theorem dJ2_length_9d52b_2 : decode cJ2_length_9d52b 2 = .ok (.iconst 1, 1) := by decide +kernel
theorem dJ2_length_9d52b_3 : decode cJ2_length_9d52b 3 = .ok (.ishr, 1) := by decide +kernel
theorem dJ2_length_9d52b_4 : decode cJ2_length_9d52b 4 = .ok (.ireturn, 1) := by decide +kernel
theorem dJ2_charAt_3b067_0 : decode cJ2_charAt_3b067 0 = .ok (.iload_n 1, 1) := by decide +kernel
theorem dJ2_charAt_3b067_1 : decode cJ2_charAt_3b067 1 = .ok (.aload_n 0, 1) := by decide +kernel
theorem dJ2_charAt_3b067_2 : decode cJ2_charAt_3b067 2 = .ok (.invokestatic 67, 3) := by decide +kernel
theorem dJ2_charAt_3b067_5 : decode cJ2_charAt_3b067 5 = .ok (.aload_n 0, 1) := by decide +kernel
theorem dJ2_charAt_3b067_6 : decode cJ2_charAt_3b067 6 = .ok (.iload_n 1, 1) := by decide +kernel
theorem dJ2_charAt_3b067_7 : decode cJ2_charAt_3b067 7 = .ok (.invokestatic 71, 3) := by decide +kernel
theorem dJ2_charAt_3b067_10 : decode cJ2_charAt_3b067 10 = .ok (.ireturn, 1) := by decide +kernel
theorem dJ2_checkIndex_2214a_0 : decode cJ2_checkIndex_2214a 0 = .ok (.iload_n 0, 1) := by decide +kernel
theorem dJ2_checkIndex_2214a_1 : decode cJ2_checkIndex_2214a 1 = .ok (.aload_n 1, 1) := by decide +kernel
theorem dJ2_checkIndex_2214a_2 : decode cJ2_checkIndex_2214a 2 = .ok (.invokestatic 48, 3) := by decide +kernel
theorem dJ2_checkIndex_2214a_5 : decode cJ2_checkIndex_2214a 5 = .ok (.invokestatic 414, 3) := by decide +kernel
theorem dJ2_checkIndex_2214a_8 : decode cJ2_checkIndex_2214a 8 = .ok (.return_, 1) := by decide +kernel
theorem dJ7_fill_d0a16_0 : decode cJ7_fill_d0a16 0 = .ok (.iconst 0, 1) := by decide +kernel
theorem dJ7_fill_d0a16_1 : decode cJ7_fill_d0a16 1 = .ok (.istore_n 3, 1) := by decide +kernel
theorem dJ7_fill_d0a16_2 : decode cJ7_fill_d0a16 2 = .ok (.aload_n 0, 1) := by decide +kernel
theorem dJ7_fill_d0a16_3 : decode cJ7_fill_d0a16 3 = .ok (.arraylength, 1) := by decide +kernel
theorem dJ7_fill_d0a16_4 : decode cJ7_fill_d0a16 4 = .ok (.istore 4, 2) := by decide +kernel
theorem dJ7_fill_d0a16_6 : decode cJ7_fill_d0a16 6 = .ok (.iload_n 3, 1) := by decide +kernel
theorem dJ7_fill_d0a16_7 : decode cJ7_fill_d0a16 7 = .ok (.iload 4, 2) := by decide +kernel
theorem dJ7_fill_d0a16_9 : decode cJ7_fill_d0a16 9 = .ok (.if_icmp .ge 13, 3) := by decide +kernel
theorem dJ7_fill_d0a16_12 : decode cJ7_fill_d0a16 12 = .ok (.aload_n 0, 1) := by decide +kernel
theorem dJ7_fill_d0a16_13 : decode cJ7_fill_d0a16 13 = .ok (.iload_n 3, 1) := by decide +kernel
theorem dJ7_fill_d0a16_14 : decode cJ7_fill_d0a16 14 = .ok (.lload_n 1, 1) := by decide +kernel
theorem dJ7_fill_d0a16_15 : decode cJ7_fill_d0a16 15 = .ok (.lastore, 1) := by decide +kernel
theorem dJ7_fill_d0a16_16 : decode cJ7_fill_d0a16 16 = .ok (.iinc 3 1, 3) := by decide +kernel
theorem dJ7_fill_d0a16_19 : decode cJ7_fill_d0a16 19 = .ok (.goto (-13), 3) := by decide +kernel
theorem dJ7_fill_d0a16_22 : decode cJ7_fill_d0a16 22 = .ok (.return_, 1) := by decide +kernel
theorem dJ7_fill_53178_0 : decode cJ7_fill_53178 0 = .ok (.iconst 0, 1) := by decide +kernel
theorem dJ7_fill_53178_1 : decode cJ7_fill_53178 1 = .ok (.istore_n 2, 1) := by decide +kernel
theorem dJ7_fill_53178_2 : decode cJ7_fill_53178 2 = .ok (.aload_n 0, 1) := by decide +kernel
theorem dJ7_fill_53178_3 : decode cJ7_fill_53178 3 = .ok (.arraylength, 1) := by decide +kernel
theorem dJ7_fill_53178_4 : decode cJ7_fill_53178 4 = .ok (.istore_n 3, 1) := by decide +kernel
theorem dJ7_fill_53178_5 : decode cJ7_fill_53178 5 = .ok (.iload_n 2, 1) := by decide +kernel
theorem dJ7_fill_53178_6 : decode cJ7_fill_53178 6 = .ok (.iload_n 3, 1) := by decide +kernel
theorem dJ7_fill_53178_7 : decode cJ7_fill_53178 7 = .ok (.if_icmp .ge 13, 3) := by decide +kernel
theorem dJ7_fill_53178_10 : decode cJ7_fill_53178 10 = .ok (.aload_n 0, 1) := by decide +kernel
theorem dJ7_fill_53178_11 : decode cJ7_fill_53178 11 = .ok (.iload_n 2, 1) := by decide +kernel
theorem dJ7_fill_53178_12 : decode cJ7_fill_53178 12 = .ok (.iload_n 1, 1) := by decide +kernel
theorem dJ7_fill_53178_13 : decode cJ7_fill_53178 13 = .ok (.iastore, 1) := by decide +kernel
theorem dJ7_fill_53178_14 : decode cJ7_fill_53178 14 = .ok (.iinc 2 1, 3) := by decide +kernel
theorem dJ7_fill_53178_17 : decode cJ7_fill_53178 17 = .ok (.goto (-12), 3) := by decide +kernel
theorem dJ7_fill_53178_20 : decode cJ7_fill_53178 20 = .ok (.return_, 1) := by decide +kernel
theorem dJ3_checkIndex_8e157_0 : decode cJ3_checkIndex_8e157 0 = .ok (.iload_n 0, 1) := by decide +kernel
theorem dJ3_checkIndex_8e157_1 : decode cJ3_checkIndex_8e157 1 = .ok (.ifCond .lt 8, 3) := by decide +kernel
theorem dJ3_checkIndex_8e157_4 : decode cJ3_checkIndex_8e157 4 = .ok (.iload_n 0, 1) := by decide +kernel
theorem dJ3_checkIndex_8e157_5 : decode cJ3_checkIndex_8e157 5 = .ok (.iload_n 1, 1) := by decide +kernel
theorem dJ3_checkIndex_8e157_6 : decode cJ3_checkIndex_8e157 6 = .ok (.if_icmp .lt 10, 3) := by decide +kernel
theorem dJ3_checkIndex_8e157_9 : decode cJ3_checkIndex_8e157 9 = .ok (.aload_n 2, 1) := by decide +kernel
theorem dJ3_checkIndex_8e157_10 : decode cJ3_checkIndex_8e157 10 = .ok (.iload_n 0, 1) := by decide +kernel
theorem dJ3_checkIndex_8e157_11 : decode cJ3_checkIndex_8e157 11 = .ok (.iload_n 1, 1) := by decide +kernel
theorem dJ3_checkIndex_8e157_12 : decode cJ3_checkIndex_8e157 12 = .ok (.invokestatic 95, 3) := by decide +kernel
theorem dJ3_checkIndex_8e157_15 : decode cJ3_checkIndex_8e157 15 = .ok (.athrow, 1) := by decide +kernel
theorem dJ3_checkIndex_8e157_16 : decode cJ3_checkIndex_8e157 16 = .ok (.iload_n 0, 1) := by decide +kernel
theorem dJ3_checkIndex_8e157_17 : decode cJ3_checkIndex_8e157 17 = .ok (.ireturn, 1) := by decide +kernel
