/-! decode rows, printed by program of the program's bytes -/
theorem dX12_findHeard_24 : decode cX12_findHeard 24 = .ok (.bipush 9, 2) := by decide +kernel
theorem dX12_findHeard_26 : decode cX12_findHeard 26 = .ok (.iload_n 1, 1) := by decide +kernel
theorem dX12_findHeard_27 : decode cX12_findHeard 27 = .ok (.iadd, 1) := by decide +kernel
theorem dX12_findHeard_28 : decode cX12_findHeard 28 = .ok (.invokevirtual 324, 3) := by decide +kernel
theorem dX12_findHeard_31 : decode cX12_findHeard 31 = .ok (.invokevirtual 428, 3) := by decide +kernel
theorem dX12_findHeard_34 : decode cX12_findHeard 34 = .ok (.lastore, 1) := by decide +kernel
theorem dX12_findHeard_35 : decode cX12_findHeard 35 = .ok (.iinc 1 1, 3) := by decide +kernel
theorem dX12_findHeard_38 : decode cX12_findHeard 38 = .ok (.goto (-36), 3) := by decide +kernel
theorem dX12_findHeard_41 : decode cX12_findHeard 41 = .ok (.return_, 1) := by decide +kernel
theorem dX12_heardBy_0 : decode cX12_heardBy 0 = .ok (.lconst 0, 1) := by decide +kernel
theorem dX12_heardBy_1 : decode cX12_heardBy 1 = .ok (.lstore_n 2, 1) := by decide +kernel
theorem dX12_heardBy_2 : decode cX12_heardBy 2 = .ok (.iconst 0, 1) := by decide +kernel
theorem dX12_heardBy_3 : decode cX12_heardBy 3 = .ok (.istore 4, 2) := by decide +kernel
theorem dX12_heardBy_5 : decode cX12_heardBy 5 = .ok (.iload 4, 2) := by decide +kernel
theorem dX12_heardBy_7 : decode cX12_heardBy 7 = .ok (.aload_n 0, 1) := by decide +kernel
theorem dX12_heardBy_8 : decode cX12_heardBy 8 = .ok (.getfield 334, 3) := by decide +kernel
theorem dX12_heardBy_11 : decode cX12_heardBy 11 = .ok (.if_icmp .ge 32, 3) := by decide +kernel
theorem dX12_heardBy_14 : decode cX12_heardBy 14 = .ok (.lload_n 2, 1) := by decide +kernel
theorem dX12_heardBy_15 : decode cX12_heardBy 15 = .ok (.iload_n 1, 1) := by decide +kernel
theorem dX12_heardBy_16 : decode cX12_heardBy 16 = .ok (.iload 4, 2) := by decide +kernel
theorem dX12_heardBy_18 : decode cX12_heardBy 18 = .ok (.invokestatic 111, 3) := by decide +kernel
theorem dX12_heardBy_21 : decode cX12_heardBy 21 = .ok (.ifCond .eq 13, 3) := by decide +kernel
theorem dX12_heardBy_24 : decode cX12_heardBy 24 = .ok (.aload_n 0, 1) := by decide +kernel
theorem dX12_heardBy_25 : decode cX12_heardBy 25 = .ok (.getfield 59, 3) := by decide +kernel
theorem dX12_heardBy_28 : decode cX12_heardBy 28 = .ok (.iload 4, 2) := by decide +kernel
theorem dX12_heardBy_30 : decode cX12_heardBy 30 = .ok (.laload, 1) := by decide +kernel
theorem dX12_heardBy_31 : decode cX12_heardBy 31 = .ok (.goto 4, 3) := by decide +kernel
theorem dX12_heardBy_34 : decode cX12_heardBy 34 = .ok (.lconst 0, 1) := by decide +kernel
theorem dX12_heardBy_35 : decode cX12_heardBy 35 = .ok (.lor, 1) := by decide +kernel
theorem dX12_heardBy_36 : decode cX12_heardBy 36 = .ok (.lstore_n 2, 1) := by decide +kernel
theorem dX12_heardBy_37 : decode cX12_heardBy 37 = .ok (.iinc 4 1, 3) := by decide +kernel
theorem dX12_heardBy_40 : decode cX12_heardBy 40 = .ok (.goto (-35), 3) := by decide +kernel
theorem dX12_heardBy_43 : decode cX12_heardBy 43 = .ok (.lload_n 2, 1) := by decide +kernel
theorem dX12_heardBy_44 : decode cX12_heardBy 44 = .ok (.lreturn, 1) := by decide +kernel
theorem dX12_everybody_0 : decode cX12_everybody 0 = .ok (.iconst 1, 1) := by decide +kernel
theorem dX12_everybody_1 : decode cX12_everybody 1 = .ok (.aload_n 0, 1) := by decide +kernel
theorem dX12_everybody_2 : decode cX12_everybody 2 = .ok (.getfield 334, 3) := by decide +kernel
theorem dX12_everybody_5 : decode cX12_everybody 5 = .ok (.ishl, 1) := by decide +kernel
theorem dX12_everybody_6 : decode cX12_everybody 6 = .ok (.iconst 1, 1) := by decide +kernel
theorem dX12_everybody_7 : decode cX12_everybody 7 = .ok (.isub, 1) := by decide +kernel
theorem dX12_everybody_8 : decode cX12_everybody 8 = .ok (.ireturn, 1) := by decide +kernel
theorem dX12_enough_0 : decode cX12_enough 0 = .ok (.aload_n 0, 1) := by decide +kernel
theorem dX12_enough_1 : decode cX12_enough 1 = .ok (.iconst 0, 1) := by decide +kernel
theorem dX12_enough_2 : decode cX12_enough 2 = .ok (.putfield 107, 3) := by decide +kernel
theorem dX12_enough_5 : decode cX12_enough 5 = .ok (.aload_n 0, 1) := by decide +kernel
theorem dX12_enough_6 : decode cX12_enough 6 = .ok (.iload_n 1, 1) := by decide +kernel
theorem dX12_enough_7 : decode cX12_enough 7 = .ok (.invokevirtual 346, 3) := by decide +kernel
theorem dX12_enough_10 : decode cX12_enough 10 = .ok (.ifCond .ne 5, 3) := by decide +kernel
theorem dX12_enough_13 : decode cX12_enough 13 = .ok (.iconst (-1), 1) := by decide +kernel
theorem dX12_enough_14 : decode cX12_enough 14 = .ok (.ireturn, 1) := by decide +kernel
theorem dX12_enough_15 : decode cX12_enough 15 = .ok (.aload_n 0, 1) := by decide +kernel
theorem dX12_enough_16 : decode cX12_enough 16 = .ok (.invokevirtual 432, 3) := by decide +kernel
theorem dX12_enough_19 : decode cX12_enough 19 = .ok (.aload_n 0, 1) := by decide +kernel
theorem dX12_enough_20 : decode cX12_enough 20 = .ok (.aload_n 0, 1) := by decide +kernel
theorem dX12_enough_21 : decode cX12_enough 21 = .ok (.invokevirtual 435, 3) := by decide +kernel
theorem dX12_enough_24 : decode cX12_enough 24 = .ok (.invokevirtual 438, 3) := by decide +kernel
theorem dX12_enough_27 : decode cX12_enough 27 = .ok (.aload_n 0, 1) := by decide +kernel
theorem dX12_enough_28 : decode cX12_enough 28 = .ok (.invokevirtual 442, 3) := by decide +kernel
theorem dX12_enough_31 : decode cX12_enough 31 = .ok (.land, 1) := by decide +kernel
theorem dX12_enough_32 : decode cX12_enough 32 = .ok (.lstore_n 2, 1) := by decide +kernel
theorem dX12_enough_33 : decode cX12_enough 33 = .ok (.iconst (-1), 1) := by decide +kernel
theorem dX12_enough_34 : decode cX12_enough 34 = .ok (.istore 4, 2) := by decide +kernel
theorem dX12_enough_36 : decode cX12_enough 36 = .ok (.iconst 0, 1) := by decide +kernel
theorem dX12_enough_37 : decode cX12_enough 37 = .ok (.istore 5, 2) := by decide +kernel
theorem dX12_enough_39 : decode cX12_enough 39 = .ok (.iload 5, 2) := by decide +kernel
theorem dX12_enough_41 : decode cX12_enough 41 = .ok (.aload_n 0, 1) := by decide +kernel
theorem dX12_enough_42 : decode cX12_enough 42 = .ok (.invokevirtual 435, 3) := by decide +kernel
theorem dX12_enough_45 : decode cX12_enough 45 = .ok (.if_icmp .gt 53, 3) := by decide +kernel
theorem dX12_enough_48 : decode cX12_enough 48 = .ok (.aload_n 0, 1) := by decide +kernel
theorem dX12_enough_49 : decode cX12_enough 49 = .ok (.iload 5, 2) := by decide +kernel
theorem dX12_enough_51 : decode cX12_enough 51 = .ok (.invokevirtual 438, 3) := by decide +kernel
theorem dX12_enough_54 : decode cX12_enough 54 = .ok (.aload_n 0, 1) := by decide +kernel
theorem dX12_enough_55 : decode cX12_enough 55 = .ok (.invokevirtual 442, 3) := by decide +kernel
theorem dX12_enough_58 : decode cX12_enough 58 = .ok (.land, 1) := by decide +kernel
theorem dX12_enough_59 : decode cX12_enough 59 = .ok (.lload_n 2, 1) := by decide +kernel
theorem dX12_enough_60 : decode cX12_enough 60 = .ok (.lcmp, 1) := by decide +kernel
theorem dX12_enough_61 : decode cX12_enough 61 = .ok (.ifCond .ne 27, 3) := by decide +kernel
theorem dX12_enough_64 : decode cX12_enough 64 = .ok (.iload 4, 2) := by decide +kernel
theorem dX12_enough_66 : decode cX12_enough 66 = .ok (.iconst (-1), 1) := by decide +kernel
theorem dX12_enough_67 : decode cX12_enough 67 = .ok (.if_icmp .eq 16, 3) := by decide +kernel
theorem dX12_enough_70 : decode cX12_enough 70 = .ok (.iload 5, 2) := by decide +kernel
theorem dX12_enough_72 : decode cX12_enough 72 = .ok (.invokestatic 446, 3) := by decide +kernel
theorem dX12_enough_75 : decode cX12_enough 75 = .ok (.iload 4, 2) := by decide +kernel
theorem dX12_enough_77 : decode cX12_enough 77 = .ok (.invokestatic 446, 3) := by decide +kernel
theorem dX12_enough_80 : decode cX12_enough 80 = .ok (.if_icmp .ge 8, 3) := by decide +kernel
theorem dX12_enough_83 : decode cX12_enough 83 = .ok (.iload 5, 2) := by decide +kernel
theorem dX12_enough_85 : decode cX12_enough 85 = .ok (.goto 5, 3) := by decide +kernel
theorem dX12_enough_88 : decode cX12_enough 88 = .ok (.iload 4, 2) := by decide +kernel
theorem dX12_enough_90 : decode cX12_enough 90 = .ok (.istore 4, 2) := by decide +kernel
theorem dX12_enough_92 : decode cX12_enough 92 = .ok (.iinc 5 1, 3) := by decide +kernel
theorem dX12_enough_95 : decode cX12_enough 95 = .ok (.goto (-56), 3) := by decide +kernel
theorem dX12_enough_98 : decode cX12_enough 98 = .ok (.iload 4, 2) := by decide +kernel
theorem dX12_enough_100 : decode cX12_enough 100 = .ok (.ireturn, 1) := by decide +kernel
theorem dX12_findNew_0 : decode cX12_findNew 0 = .ok (.aload_n 0, 1) := by decide +kernel
theorem dX12_findNew_1 : decode cX12_findNew 1 = .ok (.invokevirtual 432, 3) := by decide +kernel
theorem dX12_findNew_4 : decode cX12_findNew 4 = .ok (.aload_n 0, 1) := by decide +kernel
theorem dX12_findNew_5 : decode cX12_findNew 5 = .ok (.invokevirtual 442, 3) := by decide +kernel
theorem dX12_findNew_8 : decode cX12_findNew 8 = .ok (.aload_n 0, 1) := by decide +kernel
theorem dX12_findNew_9 : decode cX12_findNew 9 = .ok (.aload_n 0, 1) := by decide +kernel
theorem dX12_findNew_10 : decode cX12_findNew 10 = .ok (.invokevirtual 435, 3) := by decide +kernel
theorem dX12_findNew_13 : decode cX12_findNew 13 = .ok (.invokevirtual 438, 3) := by decide +kernel
theorem dX12_findNew_16 : decode cX12_findNew 16 = .ok (.ldc2_w 449, 3) := by decide +kernel
theorem dX12_findNew_19 : decode cX12_findNew 19 = .ok (.lxor, 1) := by decide +kernel
theorem dX12_findNew_20 : decode cX12_findNew 20 = .ok (.land, 1) := by decide +kernel
theorem dX12_findNew_21 : decode cX12_findNew 21 = .ok (.lstore_n 3, 1) := by decide +kernel
theorem dX12_findNew_22 : decode cX12_findNew 22 = .ok (.iconst 0, 1) := by decide +kernel
theorem dX12_findNew_23 : decode cX12_findNew 23 = .ok (.istore 5, 2) := by decide +kernel
theorem dX12_findNew_25 : decode cX12_findNew 25 = .ok (.iload 5, 2) := by decide +kernel
theorem dX12_findNew_27 : decode cX12_findNew 27 = .ok (.aload_n 0, 1) := by decide +kernel
theorem dX12_findNew_28 : decode cX12_findNew 28 = .ok (.getfield 331, 3) := by decide +kernel
theorem dX12_findNew_31 : decode cX12_findNew 31 = .ok (.if_icmp .ge 25, 3) := by decide +kernel
theorem dX12_findNew_34 : decode cX12_findNew 34 = .ok (.aload_n 0, 1) := by decide +kernel
theorem dX12_findNew_35 : decode cX12_findNew 35 = .ok (.getfield 63, 3) := by decide +kernel
theorem dX12_findNew_38 : decode cX12_findNew 38 = .ok (.iload 5, 2) := by decide +kernel
theorem dX12_findNew_40 : decode cX12_findNew 40 = .ok (.aload_n 0, 1) := by decide +kernel
theorem dX12_findNew_41 : decode cX12_findNew 41 = .ok (.iload 5, 2) := by decide +kernel
theorem dX12_findNew_43 : decode cX12_findNew 43 = .ok (.iload_n 1, 1) := by decide +kernel
theorem dX12_findNew_44 : decode cX12_findNew 44 = .ok (.invokevirtual 428, 3) := by decide +kernel
theorem dX12_findNew_47 : decode cX12_findNew 47 = .ok (.lload_n 3, 1) := by decide +kernel
theorem dX12_findNew_48 : decode cX12_findNew 48 = .ok (.land, 1) := by decide +kernel
theorem dX12_findNew_49 : decode cX12_findNew 49 = .ok (.lastore, 1) := by decide +kernel
theorem dX12_findNew_50 : decode cX12_findNew 50 = .ok (.iinc 5 1, 3) := by decide +kernel
theorem dX12_findNew_53 : decode cX12_findNew 53 = .ok (.goto (-28), 3) := by decide +kernel
theorem dX12_findNew_56 : decode cX12_findNew 56 = .ok (.iconst (-1), 1) := by decide +kernel
theorem dX12_findNew_57 : decode cX12_findNew 57 = .ok (.istore 5, 2) := by decide +kernel
theorem dX12_findNew_59 : decode cX12_findNew 59 = .ok (.iconst 0, 1) := by decide +kernel
theorem dX12_findNew_60 : decode cX12_findNew 60 = .ok (.istore 6, 2) := by decide +kernel
theorem dX12_findNew_62 : decode cX12_findNew 62 = .ok (.iload 6, 2) := by decide +kernel
theorem dX12_findNew_64 : decode cX12_findNew 64 = .ok (.aload_n 0, 1) := by decide +kernel
theorem dX12_findNew_65 : decode cX12_findNew 65 = .ok (.getfield 331, 3) := by decide +kernel
theorem dX12_findNew_68 : decode cX12_findNew 68 = .ok (.if_icmp .ge 143, 3) := by decide +kernel
theorem dX12_findNew_71 : decode cX12_findNew 71 = .ok (.iload_n 2, 1) := by decide +kernel
theorem dX12_findNew_72 : decode cX12_findNew 72 = .ok (.iconst 1, 1) := by decide +kernel
theorem dX12_findNew_73 : decode cX12_findNew 73 = .ok (.if_icmp .ne 8, 3) := by decide +kernel
theorem dX12_findNew_76 : decode cX12_findNew 76 = .ok (.iload 6, 2) := by decide +kernel
theorem dX12_findNew_78 : decode cX12_findNew 78 = .ok (.goto 7, 3) := by decide +kernel
theorem dX12_findNew_81 : decode cX12_findNew 81 = .ok (.iload 6, 2) := by decide +kernel
theorem dX12_findNew_83 : decode cX12_findNew 83 = .ok (.iconst 1, 1) := by decide +kernel
theorem dX12_findNew_84 : decode cX12_findNew 84 = .ok (.iadd, 1) := by decide +kernel
theorem dX12_findNew_85 : decode cX12_findNew 85 = .ok (.istore 7, 2) := by decide +kernel
theorem dX12_findNew_87 : decode cX12_findNew 87 = .ok (.iload 7, 2) := by decide +kernel
theorem dX12_findNew_89 : decode cX12_findNew 89 = .ok (.aload_n 0, 1) := by decide +kernel
theorem dX12_findNew_90 : decode cX12_findNew 90 = .ok (.getfield 331, 3) := by decide +kernel
theorem dX12_findNew_93 : decode cX12_findNew 93 = .ok (.if_icmp .ge 112, 3) := by decide +kernel
theorem dX12_findNew_96 : decode cX12_findNew 96 = .ok (.iload_n 2, 1) := by decide +kernel
theorem dX12_findNew_97 : decode cX12_findNew 97 = .ok (.iconst 2, 1) := by decide +kernel
theorem dX12_findNew_98 : decode cX12_findNew 98 = .ok (.if_icmp .eq 10, 3) := by decide +kernel
theorem dX12_findNew_101 : decode cX12_findNew 101 = .ok (.iload 7, 2) := by decide +kernel
theorem dX12_findNew_103 : decode cX12_findNew 103 = .ok (.iload 6, 2) := by decide +kernel
theorem dX12_findNew_105 : decode cX12_findNew 105 = .ok (.if_icmp .ne 100, 3) := by decide +kernel
theorem dX12_findNew_108 : decode cX12_findNew 108 = .ok (.aload_n 0, 1) := by decide +kernel
theorem dX12_findNew_109 : decode cX12_findNew 109 = .ok (.iload 6, 2) := by decide +kernel
theorem dX12_findNew_111 : decode cX12_findNew 111 = .ok (.invokevirtual 343, 3) := by decide +kernel
theorem dX12_findNew_114 : decode cX12_findNew 114 = .ok (.ifCond .ne 12, 3) := by decide +kernel
theorem dX12_findNew_117 : decode cX12_findNew 117 = .ok (.aload_n 0, 1) := by decide +kernel
theorem dX12_findNew_118 : decode cX12_findNew 118 = .ok (.iload 7, 2) := by decide +kernel
theorem dX12_findNew_120 : decode cX12_findNew 120 = .ok (.invokevirtual 343, 3) := by decide +kernel
theorem dX12_findNew_123 : decode cX12_findNew 123 = .ok (.ifCond .eq 7, 3) := by decide +kernel
theorem dX12_findNew_126 : decode cX12_findNew 126 = .ok (.iconst (-1), 1) := by decide +kernel
theorem dX12_findNew_127 : decode cX12_findNew 127 = .ok (.goto 21, 3) := by decide +kernel
theorem dX12_findNew_130 : decode cX12_findNew 130 = .ok (.aload_n 0, 1) := by decide +kernel
theorem dX12_findNew_131 : decode cX12_findNew 131 = .ok (.getfield 63, 3) := by decide +kernel
theorem dX12_findNew_134 : decode cX12_findNew 134 = .ok (.iload 6, 2) := by decide +kernel
theorem dX12_findNew_136 : decode cX12_findNew 136 = .ok (.laload, 1) := by decide +kernel
theorem dX12_findNew_137 : decode cX12_findNew 137 = .ok (.aload_n 0, 1) := by decide +kernel
theorem dX12_findNew_138 : decode cX12_findNew 138 = .ok (.getfield 63, 3) := by decide +kernel
theorem dX12_findNew_141 : decode cX12_findNew 141 = .ok (.iload 7, 2) := by decide +kernel
theorem dX12_findNew_143 : decode cX12_findNew 143 = .ok (.laload, 1) := by decide +kernel
theorem dX12_findNew_144 : decode cX12_findNew 144 = .ok (.lor, 1) := by decide +kernel
theorem dX12_findNew_145 : decode cX12_findNew 145 = .ok (.invokestatic 451, 3) := by decide +kernel
theorem dX12_findNew_148 : decode cX12_findNew 148 = .ok (.istore 8, 2) := by decide +kernel
theorem dX12_findNew_150 : decode cX12_findNew 150 = .ok (.aload_n 0, 1) := by decide +kernel
theorem dX12_findNew_151 : decode cX12_findNew 151 = .ok (.iload 8, 2) := by decide +kernel
theorem dX12_findNew_153 : decode cX12_findNew 153 = .ok (.iload 5, 2) := by decide +kernel
theorem dX12_findNew_155 : decode cX12_findNew 155 = .ok (.if_icmp .le 8, 3) := by decide +kernel
theorem dX12_findNew_158 : decode cX12_findNew 158 = .ok (.iload 6, 2) := by decide +kernel
theorem dX12_findNew_160 : decode cX12_findNew 160 = .ok (.goto 7, 3) := by decide +kernel
theorem dX12_findNew_163 : decode cX12_findNew 163 = .ok (.aload_n 0, 1) := by decide +kernel
theorem dX12_findNew_164 : decode cX12_findNew 164 = .ok (.getfield 453, 3) := by decide +kernel
theorem dX12_findNew_167 : decode cX12_findNew 167 = .ok (.putfield 453, 3) := by decide +kernel
theorem dX12_findNew_170 : decode cX12_findNew 170 = .ok (.aload_n 0, 1) := by decide +kernel
theorem dX12_findNew_171 : decode cX12_findNew 171 = .ok (.iload 8, 2) := by decide +kernel
theorem dX12_findNew_173 : decode cX12_findNew 173 = .ok (.iload 5, 2) := by decide +kernel
theorem dX12_findNew_175 : decode cX12_findNew 175 = .ok (.if_icmp .le 8, 3) := by decide +kernel
theorem dX12_findNew_178 : decode cX12_findNew 178 = .ok (.iload 7, 2) := by decide +kernel
theorem dX12_findNew_180 : decode cX12_findNew 180 = .ok (.goto 7, 3) := by decide +kernel
theorem dX12_findNew_183 : decode cX12_findNew 183 = .ok (.aload_n 0, 1) := by decide +kernel
theorem dX12_findNew_184 : decode cX12_findNew 184 = .ok (.getfield 456, 3) := by decide +kernel
theorem dX12_findNew_187 : decode cX12_findNew 187 = .ok (.putfield 456, 3) := by decide +kernel
theorem dX12_findNew_190 : decode cX12_findNew 190 = .ok (.iload 5, 2) := by decide +kernel
theorem dX12_findNew_192 : decode cX12_findNew 192 = .ok (.iload 8, 2) := by decide +kernel
theorem dX12_findNew_194 : decode cX12_findNew 194 = .ok (.invokestatic 180, 3) := by decide +kernel
theorem dX12_findNew_197 : decode cX12_findNew 197 = .ok (.istore 5, 2) := by decide +kernel
theorem dX12_findNew_199 : decode cX12_findNew 199 = .ok (.iinc 7 1, 3) := by decide +kernel
theorem dX12_findNew_202 : decode cX12_findNew 202 = .ok (.goto (-115), 3) := by decide +kernel
theorem dX12_findNew_205 : decode cX12_findNew 205 = .ok (.iinc 6 1, 3) := by decide +kernel
theorem dX12_findNew_208 : decode cX12_findNew 208 = .ok (.goto (-146), 3) := by decide +kernel
theorem dX12_findNew_211 : decode cX12_findNew 211 = .ok (.iload 5, 2) := by decide +kernel
theorem dX12_findNew_213 : decode cX12_findNew 213 = .ok (.ireturn, 1) := by decide +kernel
theorem dX12_fresh_0 : decode cX12_fresh 0 = .ok (.aload_n 0, 1) := by decide +kernel
theorem dX12_fresh_1 : decode cX12_fresh 1 = .ok (.iconst 0, 1) := by decide +kernel
theorem dX12_fresh_2 : decode cX12_fresh 2 = .ok (.putfield 107, 3) := by decide +kernel
theorem dX12_fresh_5 : decode cX12_fresh 5 = .ok (.aload_n 0, 1) := by decide +kernel
theorem dX12_fresh_6 : decode cX12_fresh 6 = .ok (.iload_n 1, 1) := by decide +kernel
theorem dX12_fresh_7 : decode cX12_fresh 7 = .ok (.invokevirtual 346, 3) := by decide +kernel
theorem dX12_fresh_10 : decode cX12_fresh 10 = .ok (.ifCond .eq 31, 3) := by decide +kernel
theorem dX12_fresh_13 : decode cX12_fresh 13 = .ok (.iload_n 2, 1) := by decide +kernel
theorem dX12_fresh_14 : decode cX12_fresh 14 = .ok (.iconst 0, 1) := by decide +kernel
theorem dX12_fresh_15 : decode cX12_fresh 15 = .ok (.iconst 3, 1) := by decide +kernel
theorem dX12_fresh_16 : decode cX12_fresh 16 = .ok (.invokestatic 119, 3) := by decide +kernel
theorem dX12_fresh_19 : decode cX12_fresh 19 = .ok (.ifCond .eq 22, 3) := by decide +kernel
theorem dX12_fresh_22 : decode cX12_fresh 22 = .ok (.iload_n 3, 1) := by decide +kernel
theorem dX12_fresh_23 : decode cX12_fresh 23 = .ok (.iconst 1, 1) := by decide +kernel
theorem dX12_fresh_24 : decode cX12_fresh 24 = .ok (.iconst 2, 1) := by decide +kernel
theorem dX12_fresh_25 : decode cX12_fresh 25 = .ok (.invokestatic 119, 3) := by decide +kernel
theorem dX12_fresh_28 : decode cX12_fresh 28 = .ok (.ifCond .eq 13, 3) := by decide +kernel
theorem dX12_fresh_31 : decode cX12_fresh 31 = .ok (.iload 4, 2) := by decide +kernel
theorem dX12_fresh_33 : decode cX12_fresh 33 = .ok (.iconst 0, 1) := by decide +kernel
theorem dX12_fresh_34 : decode cX12_fresh 34 = .ok (.iload_n 3, 1) := by decide +kernel
theorem dX12_fresh_35 : decode cX12_fresh 35 = .ok (.invokestatic 119, 3) := by decide +kernel
theorem dX12_fresh_38 : decode cX12_fresh 38 = .ok (.ifCond .ne 5, 3) := by decide +kernel
theorem dX12_fresh_41 : decode cX12_fresh 41 = .ok (.iconst (-1), 1) := by decide +kernel
theorem dX12_fresh_42 : decode cX12_fresh 42 = .ok (.ireturn, 1) := by decide +kernel
theorem dX12_fresh_43 : decode cX12_fresh 43 = .ok (.aload_n 0, 1) := by decide +kernel
theorem dX12_fresh_44 : decode cX12_fresh 44 = .ok (.iload_n 2, 1) := by decide +kernel
theorem dX12_fresh_45 : decode cX12_fresh 45 = .ok (.iload_n 3, 1) := by decide +kernel
theorem dX12_fresh_46 : decode cX12_fresh 46 = .ok (.invokevirtual 459, 3) := by decide +kernel
theorem dX12_fresh_49 : decode cX12_fresh 49 = .ok (.istore 5, 2) := by decide +kernel
theorem dX12_fresh_51 : decode cX12_fresh 51 = .ok (.iload 5, 2) := by decide +kernel
theorem dX12_fresh_53 : decode cX12_fresh 53 = .ok (.iconst (-1), 1) := by decide +kernel
theorem dX12_fresh_54 : decode cX12_fresh 54 = .ok (.if_icmp .eq 8, 3) := by decide +kernel
theorem dX12_fresh_57 : decode cX12_fresh 57 = .ok (.iload 4, 2) := by decide +kernel
theorem dX12_fresh_59 : decode cX12_fresh 59 = .ok (.ifCond .ne 8, 3) := by decide +kernel
theorem dX12_fresh_62 : decode cX12_fresh 62 = .ok (.iload 5, 2) := by decide +kernel
theorem dX12_fresh_64 : decode cX12_fresh 64 = .ok (.goto 20, 3) := by decide +kernel
theorem dX12_fresh_67 : decode cX12_fresh 67 = .ok (.iload 4, 2) := by decide +kernel
theorem dX12_fresh_69 : decode cX12_fresh 69 = .ok (.iconst 1, 1) := by decide +kernel
theorem dX12_fresh_70 : decode cX12_fresh 70 = .ok (.if_icmp .ne 10, 3) := by decide +kernel
theorem dX12_fresh_73 : decode cX12_fresh 73 = .ok (.aload_n 0, 1) := by decide +kernel
theorem dX12_fresh_74 : decode cX12_fresh 74 = .ok (.getfield 453, 3) := by decide +kernel
theorem dX12_fresh_77 : decode cX12_fresh 77 = .ok (.goto 7, 3) := by decide +kernel
theorem dX12_fresh_80 : decode cX12_fresh 80 = .ok (.aload_n 0, 1) := by decide +kernel
theorem dX12_fresh_81 : decode cX12_fresh 81 = .ok (.getfield 456, 3) := by decide +kernel
theorem dX12_fresh_84 : decode cX12_fresh 84 = .ok (.ireturn, 1) := by decide +kernel
theorem dX12_marched_0 : decode cX12_marched 0 = .ok (.aload_n 0, 1) := by decide +kernel
theorem dX12_marched_1 : decode cX12_marched 1 = .ok (.iload_n 1, 1) := by decide +kernel
theorem dX12_marched_2 : decode cX12_marched 2 = .ok (.iload 4, 2) := by decide +kernel
theorem dX12_marched_4 : decode cX12_marched 4 = .ok (.invokevirtual 383, 3) := by decide +kernel
theorem dX12_marched_7 : decode cX12_marched 7 = .ok (.istore 5, 2) := by decide +kernel
theorem dX12_marched_9 : decode cX12_marched 9 = .ok (.iload 5, 2) := by decide +kernel
theorem dX12_marched_11 : decode cX12_marched 11 = .ok (.iconst (-1), 1) := by decide +kernel
theorem dX12_marched_12 : decode cX12_marched 12 = .ok (.if_icmp .eq 11, 3) := by decide +kernel
theorem dX12_marched_15 : decode cX12_marched 15 = .ok (.lload_n 2, 1) := by decide +kernel
theorem dX12_marched_16 : decode cX12_marched 16 = .ok (.iload_n 1, 1) := by decide +kernel
theorem dX12_marched_17 : decode cX12_marched 17 = .ok (.invokestatic 462, 3) := by decide +kernel
theorem dX12_marched_20 : decode cX12_marched 20 = .ok (.ifCond .ne 7, 3) := by decide +kernel
theorem dX12_marched_23 : decode cX12_marched 23 = .ok (.iload_n 1, 1) := by decide +kernel
theorem dX12_marched_24 : decode cX12_marched 24 = .ok (.goto 5, 3) := by decide +kernel
theorem dX12_marched_27 : decode cX12_marched 27 = .ok (.iload 5, 2) := by decide +kernel
theorem dX12_marched_29 : decode cX12_marched 29 = .ok (.ireturn, 1) := by decide +kernel
theorem dX12_nextOf_0 : decode cX12_nextOf 0 = .ok (.bipush 64, 2) := by decide +kernel
theorem dX12_nextOf_2 : decode cX12_nextOf 2 = .ok (.aload_n 0, 1) := by decide +kernel
theorem dX12_nextOf_3 : decode cX12_nextOf 3 = .ok (.iload_n 1, 1) := by decide +kernel
theorem dX12_nextOf_4 : decode cX12_nextOf 4 = .ok (.bipush 64, 2) := by decide +kernel
theorem dX12_nextOf_6 : decode cX12_nextOf 6 = .ok (.idiv, 1) := by decide +kernel
theorem dX12_nextOf_7 : decode cX12_nextOf 7 = .ok (.lload_n 2, 1) := by decide +kernel
theorem dX12_nextOf_8 : decode cX12_nextOf 8 = .ok (.iload 4, 2) := by decide +kernel
theorem dX12_nextOf_10 : decode cX12_nextOf 10 = .ok (.invokevirtual 465, 3) := by decide +kernel
theorem dX12_nextOf_13 : decode cX12_nextOf 13 = .ok (.imul, 1) := by decide +kernel
theorem dX12_nextOf_14 : decode cX12_nextOf 14 = .ok (.aload_n 0, 1) := by decide +kernel
theorem dX12_nextOf_15 : decode cX12_nextOf 15 = .ok (.iload_n 1, 1) := by decide +kernel
theorem dX12_nextOf_16 : decode cX12_nextOf 16 = .ok (.bipush 64, 2) := by decide +kernel
theorem dX12_nextOf_18 : decode cX12_nextOf 18 = .ok (.irem, 1) := by decide +kernel
theorem dX12_nextOf_19 : decode cX12_nextOf 19 = .ok (.lload_n 2, 1) := by decide +kernel
theorem dX12_nextOf_20 : decode cX12_nextOf 20 = .ok (.iload 4, 2) := by decide +kernel
theorem dX12_nextOf_22 : decode cX12_nextOf 22 = .ok (.invokevirtual 465, 3) := by decide +kernel
theorem dX12_nextOf_25 : decode cX12_nextOf 25 = .ok (.iadd, 1) := by decide +kernel
theorem dX12_nextOf_26 : decode cX12_nextOf 26 = .ok (.ireturn, 1) := by decide +kernel
theorem dX12_findMarches_0 : decode cX12_findMarches 0 = .ok (.iconst 0, 1) := by decide +kernel
theorem dX12_findMarches_1 : decode cX12_findMarches 1 = .ok (.istore_n 3, 1) := by decide +kernel
theorem dX12_findMarches_2 : decode cX12_findMarches 2 = .ok (.iload_n 3, 1) := by decide +kernel
theorem dX12_findMarches_3 : decode cX12_findMarches 3 = .ok (.sipush 4096, 3) := by decide +kernel
theorem dX12_findMarches_6 : decode cX12_findMarches 6 = .ok (.if_icmp .ge 33, 3) := by decide +kernel
theorem dX12_findMarches_9 : decode cX12_findMarches 9 = .ok (.aload_n 0, 1) := by decide +kernel
theorem dX12_findMarches_10 : decode cX12_findMarches 10 = .ok (.getfield 66, 3) := by decide +kernel
theorem dX12_findMarches_13 : decode cX12_findMarches 13 = .ok (.iload_n 3, 1) := by decide +kernel
theorem dX12_findMarches_14 : decode cX12_findMarches 14 = .ok (.iload_n 3, 1) := by decide +kernel
theorem dX12_findMarches_15 : decode cX12_findMarches 15 = .ok (.bipush 64, 2) := by decide +kernel
theorem dX12_findMarches_17 : decode cX12_findMarches 17 = .ok (.idiv, 1) := by decide +kernel
theorem dX12_findMarches_18 : decode cX12_findMarches 18 = .ok (.iload_n 3, 1) := by decide +kernel
theorem dX12_findMarches_19 : decode cX12_findMarches 19 = .ok (.bipush 64, 2) := by decide +kernel
theorem dX12_findMarches_21 : decode cX12_findMarches 21 = .ok (.irem, 1) := by decide +kernel
theorem dX12_findMarches_22 : decode cX12_findMarches 22 = .ok (.if_icmp .ne 7, 3) := by decide +kernel
theorem dX12_findMarches_25 : decode cX12_findMarches 25 = .ok (.iconst 0, 1) := by decide +kernel
theorem dX12_findMarches_26 : decode cX12_findMarches 26 = .ok (.goto 6, 3) := by decide +kernel
theorem dX12_findMarches_29 : decode cX12_findMarches 29 = .ok (.ldc_w 370, 3) := by decide +kernel
theorem dX12_findMarches_32 : decode cX12_findMarches 32 = .ok (.iastore, 1) := by decide +kernel
theorem dX12_findMarches_33 : decode cX12_findMarches 33 = .ok (.iinc 3 1, 3) := by decide +kernel
theorem dX12_findMarches_36 : decode cX12_findMarches 36 = .ok (.goto (-34), 3) := by decide +kernel
theorem dX12_findMarches_39 : decode cX12_findMarches 39 = .ok (.iconst 1, 1) := by decide +kernel
theorem dX12_findMarches_40 : decode cX12_findMarches 40 = .ok (.istore_n 3, 1) := by decide +kernel
theorem dX12_findMarches_41 : decode cX12_findMarches 41 = .ok (.iload_n 3, 1) := by decide +kernel
theorem dX12_findMarches_42 : decode cX12_findMarches 42 = .ok (.ifCond .eq 97, 3) := by decide +kernel
theorem dX12_findMarches_45 : decode cX12_findMarches 45 = .ok (.iconst 0, 1) := by decide +kernel
theorem dX12_findMarches_46 : decode cX12_findMarches 46 = .ok (.istore_n 3, 1) := by decide +kernel
theorem dX12_findMarches_47 : decode cX12_findMarches 47 = .ok (.iconst 0, 1) := by decide +kernel
theorem dX12_findMarches_48 : decode cX12_findMarches 48 = .ok (.istore 4, 2) := by decide +kernel
theorem dX12_findMarches_50 : decode cX12_findMarches 50 = .ok (.iload 4, 2) := by decide +kernel
theorem dX12_findMarches_52 : decode cX12_findMarches 52 = .ok (.bipush 64, 2) := by decide +kernel
theorem dX12_findMarches_54 : decode cX12_findMarches 54 = .ok (.aload_n 0, 1) := by decide +kernel
theorem dX12_findMarches_55 : decode cX12_findMarches 55 = .ok (.getfield 331, 3) := by decide +kernel
theorem dX12_findMarches_58 : decode cX12_findMarches 58 = .ok (.imul, 1) := by decide +kernel
theorem dX12_findMarches_59 : decode cX12_findMarches 59 = .ok (.if_icmp .ge 77, 3) := by decide +kernel
theorem dX12_findMarches_62 : decode cX12_findMarches 62 = .ok (.iconst 0, 1) := by decide +kernel
theorem dX12_findMarches_63 : decode cX12_findMarches 63 = .ok (.istore 5, 2) := by decide +kernel
theorem dX12_findMarches_65 : decode cX12_findMarches 65 = .ok (.iload 5, 2) := by decide +kernel
theorem dX12_findMarches_67 : decode cX12_findMarches 67 = .ok (.iconst 4, 1) := by decide +kernel
theorem dX12_findMarches_68 : decode cX12_findMarches 68 = .ok (.if_icmp .ge 62, 3) := by decide +kernel
theorem dX12_findMarches_71 : decode cX12_findMarches 71 = .ok (.iload 4, 2) := by decide +kernel
theorem dX12_findMarches_73 : decode cX12_findMarches 73 = .ok (.bipush 64, 2) := by decide +kernel
theorem dX12_findMarches_75 : decode cX12_findMarches 75 = .ok (.irem, 1) := by decide +kernel
theorem dX12_findMarches_76 : decode cX12_findMarches 76 = .ok (.aload_n 0, 1) := by decide +kernel
theorem dX12_findMarches_77 : decode cX12_findMarches 77 = .ok (.getfield 331, 3) := by decide +kernel
theorem dX12_findMarches_80 : decode cX12_findMarches 80 = .ok (.if_icmp .ge 50, 3) := by decide +kernel
theorem dX12_findMarches_83 : decode cX12_findMarches 83 = .ok (.aload_n 0, 1) := by decide +kernel
theorem dX12_findMarches_84 : decode cX12_findMarches 84 = .ok (.getfield 66, 3) := by decide +kernel
theorem dX12_findMarches_87 : decode cX12_findMarches 87 = .ok (.aload_n 0, 1) := by decide +kernel
theorem dX12_findMarches_88 : decode cX12_findMarches 88 = .ok (.iload 4, 2) := by decide +kernel
theorem dX12_findMarches_90 : decode cX12_findMarches 90 = .ok (.lload_n 1, 1) := by decide +kernel
theorem dX12_findMarches_91 : decode cX12_findMarches 91 = .ok (.iload 5, 2) := by decide +kernel
theorem dX12_findMarches_93 : decode cX12_findMarches 93 = .ok (.invokevirtual 469, 3) := by decide +kernel
theorem dX12_findMarches_96 : decode cX12_findMarches 96 = .ok (.iaload, 1) := by decide +kernel
theorem dX12_findMarches_97 : decode cX12_findMarches 97 = .ok (.iconst 1, 1) := by decide +kernel
theorem dX12_findMarches_98 : decode cX12_findMarches 98 = .ok (.iadd, 1) := by decide +kernel
theorem dX12_findMarches_99 : decode cX12_findMarches 99 = .ok (.istore 6, 2) := by decide +kernel
theorem dX12_findMarches_101 : decode cX12_findMarches 101 = .ok (.iload 6, 2) := by decide +kernel
theorem dX12_findMarches_103 : decode cX12_findMarches 103 = .ok (.aload_n 0, 1) := by decide +kernel
theorem dX12_findMarches_104 : decode cX12_findMarches 104 = .ok (.getfield 66, 3) := by decide +kernel
theorem dX12_findMarches_107 : decode cX12_findMarches 107 = .ok (.iload 4, 2) := by decide +kernel
theorem dX12_findMarches_109 : decode cX12_findMarches 109 = .ok (.iaload, 1) := by decide +kernel
theorem dX12_findMarches_110 : decode cX12_findMarches 110 = .ok (.if_icmp .ge 14, 3) := by decide +kernel
theorem dX12_findMarches_113 : decode cX12_findMarches 113 = .ok (.aload_n 0, 1) := by decide +kernel
theorem dX12_findMarches_114 : decode cX12_findMarches 114 = .ok (.getfield 66, 3) := by decide +kernel
theorem dX12_findMarches_117 : decode cX12_findMarches 117 = .ok (.iload 4, 2) := by decide +kernel
theorem dX12_findMarches_119 : decode cX12_findMarches 119 = .ok (.iload 6, 2) := by decide +kernel
theorem dX12_findMarches_121 : decode cX12_findMarches 121 = .ok (.iastore, 1) := by decide +kernel
theorem dX12_findMarches_122 : decode cX12_findMarches 122 = .ok (.iconst 1, 1) := by decide +kernel
theorem dX12_findMarches_123 : decode cX12_findMarches 123 = .ok (.istore_n 3, 1) := by decide +kernel
theorem dX12_findMarches_124 : decode cX12_findMarches 124 = .ok (.iinc 5 1, 3) := by decide +kernel
theorem dX12_findMarches_127 : decode cX12_findMarches 127 = .ok (.goto (-62), 3) := by decide +kernel
theorem dX12_findMarches_130 : decode cX12_findMarches 130 = .ok (.iinc 4 1, 3) := by decide +kernel
theorem dX12_findMarches_133 : decode cX12_findMarches 133 = .ok (.goto (-83), 3) := by decide +kernel
theorem dX12_findMarches_136 : decode cX12_findMarches 136 = .ok (.goto (-95), 3) := by decide +kernel
theorem dX12_findMarches_139 : decode cX12_findMarches 139 = .ok (.return_, 1) := by decide +kernel
theorem dX12_gather_0 : decode cX12_gather 0 = .ok (.aload_n 0, 1) := by decide +kernel
theorem dX12_gather_1 : decode cX12_gather 1 = .ok (.iconst 0, 1) := by decide +kernel
theorem dX12_gather_2 : decode cX12_gather 2 = .ok (.putfield 107, 3) := by decide +kernel
theorem dX12_gather_5 : decode cX12_gather 5 = .ok (.aload_n 0, 1) := by decide +kernel
theorem dX12_gather_6 : decode cX12_gather 6 = .ok (.iload_n 1, 1) := by decide +kernel
theorem dX12_gather_7 : decode cX12_gather 7 = .ok (.invokevirtual 346, 3) := by decide +kernel
theorem dX12_gather_10 : decode cX12_gather 10 = .ok (.ifCond .eq 34, 3) := by decide +kernel
theorem dX12_gather_13 : decode cX12_gather 13 = .ok (.aload_n 0, 1) := by decide +kernel
theorem dX12_gather_14 : decode cX12_gather 14 = .ok (.iload_n 2, 1) := by decide +kernel
theorem dX12_gather_15 : decode cX12_gather 15 = .ok (.invokevirtual 349, 3) := by decide +kernel
theorem dX12_gather_18 : decode cX12_gather 18 = .ok (.ifCond .eq 26, 3) := by decide +kernel
theorem dX12_gather_21 : decode cX12_gather 21 = .ok (.aload_n 0, 1) := by decide +kernel
theorem dX12_gather_22 : decode cX12_gather 22 = .ok (.iload_n 3, 1) := by decide +kernel
theorem dX12_gather_23 : decode cX12_gather 23 = .ok (.invokevirtual 355, 3) := by decide +kernel
theorem dX12_gather_26 : decode cX12_gather 26 = .ok (.ifCond .eq 18, 3) := by decide +kernel
theorem dX12_gather_29 : decode cX12_gather 29 = .ok (.aload_n 0, 1) := by decide +kernel
theorem dX12_gather_30 : decode cX12_gather 30 = .ok (.iload 4, 2) := by decide +kernel
theorem dX12_gather_32 : decode cX12_gather 32 = .ok (.invokevirtual 355, 3) := by decide +kernel
theorem dX12_gather_35 : decode cX12_gather 35 = .ok (.ifCond .eq 9, 3) := by decide +kernel
theorem dX12_gather_38 : decode cX12_gather 38 = .ok (.iload_n 3, 1) := by decide +kernel
theorem dX12_gather_39 : decode cX12_gather 39 = .ok (.iload 4, 2) := by decide +kernel
theorem dX12_gather_41 : decode cX12_gather 41 = .ok (.if_icmp .ne 5, 3) := by decide +kernel
theorem dX12_gather_44 : decode cX12_gather 44 = .ok (.iconst (-1), 1) := by decide +kernel
theorem dX12_gather_45 : decode cX12_gather 45 = .ok (.ireturn, 1) := by decide +kernel
theorem dX12_gather_46 : decode cX12_gather 46 = .ok (.aload_n 0, 1) := by decide +kernel
theorem dX12_gather_47 : decode cX12_gather 47 = .ok (.aload_n 0, 1) := by decide +kernel
theorem dX12_gather_48 : decode cX12_gather 48 = .ok (.bipush 9, 2) := by decide +kernel
theorem dX12_gather_50 : decode cX12_gather 50 = .ok (.iload_n 2, 1) := by decide +kernel
theorem dX12_gather_51 : decode cX12_gather 51 = .ok (.invokevirtual 352, 3) := by decide +kernel
theorem dX12_gather_54 : decode cX12_gather 54 = .ok (.aload_n 0, 1) := by decide +kernel
theorem dX12_gather_55 : decode cX12_gather 55 = .ok (.bipush 9, 2) := by decide +kernel
theorem dX12_gather_57 : decode cX12_gather 57 = .ok (.iload_n 2, 1) := by decide +kernel
theorem dX12_gather_58 : decode cX12_gather 58 = .ok (.iadd, 1) := by decide +kernel
theorem dX12_gather_59 : decode cX12_gather 59 = .ok (.invokevirtual 324, 3) := by decide +kernel
theorem dX12_gather_62 : decode cX12_gather 62 = .ok (.invokevirtual 428, 3) := by decide +kernel
theorem dX12_gather_65 : decode cX12_gather 65 = .ok (.lstore 6, 2) := by decide +kernel
theorem dX12_gather_67 : decode cX12_gather 67 = .ok (.aload_n 0, 1) := by decide +kernel
theorem dX12_gather_68 : decode cX12_gather 68 = .ok (.lload 6, 2) := by decide +kernel
theorem dX12_gather_70 : decode cX12_gather 70 = .ok (.invokevirtual 472, 3) := by decide +kernel
theorem dX12_gather_73 : decode cX12_gather 73 = .ok (.bipush 64, 2) := by decide +kernel
theorem dX12_gather_75 : decode cX12_gather 75 = .ok (.aload_n 0, 1) := by decide +kernel
theorem dX12_gather_76 : decode cX12_gather 76 = .ok (.bipush 27, 2) := by decide +kernel
theorem dX12_gather_78 : decode cX12_gather 78 = .ok (.iload_n 3, 1) := by decide +kernel
theorem dX12_gather_79 : decode cX12_gather 79 = .ok (.invokevirtual 352, 3) := by decide +kernel
theorem dX12_gather_82 : decode cX12_gather 82 = .ok (.imul, 1) := by decide +kernel
theorem dX12_gather_83 : decode cX12_gather 83 = .ok (.aload_n 0, 1) := by decide +kernel
theorem dX12_gather_84 : decode cX12_gather 84 = .ok (.bipush 27, 2) := by decide +kernel
theorem dX12_gather_86 : decode cX12_gather 86 = .ok (.iload 4, 2) := by decide +kernel
theorem dX12_gather_88 : decode cX12_gather 88 = .ok (.invokevirtual 352, 3) := by decide +kernel
theorem dX12_gather_91 : decode cX12_gather 91 = .ok (.iadd, 1) := by decide +kernel
theorem dX12_gather_92 : decode cX12_gather 92 = .ok (.istore 8, 2) := by decide +kernel
theorem dX12_gather_94 : decode cX12_gather 94 = .ok (.aload_n 0, 1) := by decide +kernel
theorem dX12_gather_95 : decode cX12_gather 95 = .ok (.getfield 66, 3) := by decide +kernel
theorem dX12_gather_98 : decode cX12_gather 98 = .ok (.iload 8, 2) := by decide +kernel
theorem dX12_gather_100 : decode cX12_gather 100 = .ok (.iaload, 1) := by decide +kernel
theorem dX12_gather_101 : decode cX12_gather 101 = .ok (.ldc_w 370, 3) := by decide +kernel
theorem dX12_gather_104 : decode cX12_gather 104 = .ok (.if_icmp .lt 5, 3) := by decide +kernel
theorem dX12_gather_107 : decode cX12_gather 107 = .ok (.iconst (-1), 1) := by decide +kernel
theorem dX12_gather_108 : decode cX12_gather 108 = .ok (.ireturn, 1) := by decide +kernel
theorem dX12_gather_109 : decode cX12_gather 109 = .ok (.iload 5, 2) := by decide +kernel
theorem dX12_gather_111 : decode cX12_gather 111 = .ok (.ifCond .ne 11, 3) := by decide +kernel
theorem dX12_gather_114 : decode cX12_gather 114 = .ok (.aload_n 0, 1) := by decide +kernel
theorem dX12_gather_115 : decode cX12_gather 115 = .ok (.getfield 66, 3) := by decide +kernel
theorem dX12_gather_118 : decode cX12_gather 118 = .ok (.iload 8, 2) := by decide +kernel
theorem dX12_gather_120 : decode cX12_gather 120 = .ok (.iaload, 1) := by decide +kernel
theorem dX12_gather_121 : decode cX12_gather 121 = .ok (.ireturn, 1) := by decide +kernel
theorem dX12_gather_122 : decode cX12_gather 122 = .ok (.iconst 0, 1) := by decide +kernel
theorem dX12_gather_123 : decode cX12_gather 123 = .ok (.istore 9, 2) := by decide +kernel
theorem dX12_gather_125 : decode cX12_gather 125 = .ok (.iload 9, 2) := by decide +kernel
theorem dX12_gather_127 : decode cX12_gather 127 = .ok (.iconst 4, 1) := by decide +kernel
theorem dX12_gather_128 : decode cX12_gather 128 = .ok (.if_icmp .ge 39, 3) := by decide +kernel
theorem dX12_gather_131 : decode cX12_gather 131 = .ok (.aload_n 0, 1) := by decide +kernel
theorem dX12_gather_132 : decode cX12_gather 132 = .ok (.getfield 66, 3) := by decide +kernel
theorem dX12_gather_135 : decode cX12_gather 135 = .ok (.aload_n 0, 1) := by decide +kernel
theorem dX12_gather_136 : decode cX12_gather 136 = .ok (.iload 8, 2) := by decide +kernel
theorem dX12_gather_138 : decode cX12_gather 138 = .ok (.lload 6, 2) := by decide +kernel
theorem dX12_gather_140 : decode cX12_gather 140 = .ok (.iload 9, 2) := by decide +kernel
theorem dX12_gather_142 : decode cX12_gather 142 = .ok (.invokevirtual 469, 3) := by decide +kernel
theorem dX12_gather_145 : decode cX12_gather 145 = .ok (.iaload, 1) := by decide +kernel
theorem dX12_gather_146 : decode cX12_gather 146 = .ok (.aload_n 0, 1) := by decide +kernel
theorem dX12_gather_147 : decode cX12_gather 147 = .ok (.getfield 66, 3) := by decide +kernel
theorem dX12_gather_150 : decode cX12_gather 150 = .ok (.iload 8, 2) := by decide +kernel
theorem dX12_gather_152 : decode cX12_gather 152 = .ok (.iaload, 1) := by decide +kernel
theorem dX12_gather_153 : decode cX12_gather 153 = .ok (.iconst 1, 1) := by decide +kernel
theorem dX12_gather_154 : decode cX12_gather 154 = .ok (.isub, 1) := by decide +kernel
theorem dX12_gather_155 : decode cX12_gather 155 = .ok (.if_icmp .ne 6, 3) := by decide +kernel
theorem dX12_gather_158 : decode cX12_gather 158 = .ok (.iload 9, 2) := by decide +kernel
theorem dX12_gather_160 : decode cX12_gather 160 = .ok (.ireturn, 1) := by decide +kernel
theorem dX12_gather_161 : decode cX12_gather 161 = .ok (.iinc 9 1, 3) := by decide +kernel
theorem dX12_gather_164 : decode cX12_gather 164 = .ok (.goto (-39), 3) := by decide +kernel
theorem dX12_gather_167 : decode cX12_gather 167 = .ok (.iconst (-1), 1) := by decide +kernel
theorem dX12_gather_168 : decode cX12_gather 168 = .ok (.ireturn, 1) := by decide +kernel
theorem dX12_stay_0 : decode cX12_stay 0 = .ok (.iload_n 1, 1) := by decide +kernel
theorem dX12_stay_1 : decode cX12_stay 1 = .ok (.iload_n 2, 1) := by decide +kernel
theorem dX12_stay_2 : decode cX12_stay 2 = .ok (.if_icmp .ne 5, 3) := by decide +kernel
theorem dX12_stay_5 : decode cX12_stay 5 = .ok (.iconst 0, 1) := by decide +kernel
theorem dX12_stay_6 : decode cX12_stay 6 = .ok (.ireturn, 1) := by decide +kernel
theorem dX12_stay_7 : decode cX12_stay 7 = .ok (.iconst (-1), 1) := by decide +kernel
theorem dX12_stay_8 : decode cX12_stay 8 = .ok (.istore_n 3, 1) := by decide +kernel
theorem dX12_stay_9 : decode cX12_stay 9 = .ok (.iconst 0, 1) := by decide +kernel
theorem dX12_stay_10 : decode cX12_stay 10 = .ok (.istore 4, 2) := by decide +kernel
theorem dX12_stay_12 : decode cX12_stay 12 = .ok (.iload 4, 2) := by decide +kernel
theorem dX12_stay_14 : decode cX12_stay 14 = .ok (.iconst 4, 1) := by decide +kernel
theorem dX12_stay_15 : decode cX12_stay 15 = .ok (.if_icmp .gt 45, 3) := by decide +kernel
theorem dX12_stay_18 : decode cX12_stay 18 = .ok (.aload_n 0, 1) := by decide +kernel
theorem dX12_stay_19 : decode cX12_stay 19 = .ok (.iload_n 2, 1) := by decide +kernel
theorem dX12_stay_20 : decode cX12_stay 20 = .ok (.iload 4, 2) := by decide +kernel
theorem dX12_stay_22 : decode cX12_stay 22 = .ok (.invokevirtual 383, 3) := by decide +kernel
theorem dX12_stay_25 : decode cX12_stay 25 = .ok (.istore 5, 2) := by decide +kernel
theorem dX12_stay_27 : decode cX12_stay 27 = .ok (.iload 5, 2) := by decide +kernel
theorem dX12_stay_29 : decode cX12_stay 29 = .ok (.iconst (-1), 1) := by decide +kernel
theorem dX12_stay_30 : decode cX12_stay 30 = .ok (.if_icmp .ne 7, 3) := by decide +kernel
theorem dX12_stay_33 : decode cX12_stay 33 = .ok (.iload_n 3, 1) := by decide +kernel
theorem dX12_stay_34 : decode cX12_stay 34 = .ok (.goto 19, 3) := by decide +kernel
theorem dX12_stay_37 : decode cX12_stay 37 = .ok (.iload_n 3, 1) := by decide +kernel
theorem dX12_stay_38 : decode cX12_stay 38 = .ok (.aload_n 0, 1) := by decide +kernel
theorem dX12_stay_39 : decode cX12_stay 39 = .ok (.getfield 66, 3) := by decide +kernel
theorem dX12_stay_42 : decode cX12_stay 42 = .ok (.bipush 64, 2) := by decide +kernel
theorem dX12_stay_44 : decode cX12_stay 44 = .ok (.iload_n 1, 1) := by decide +kernel
theorem dX12_stay_45 : decode cX12_stay 45 = .ok (.imul, 1) := by decide +kernel
theorem dX12_stay_46 : decode cX12_stay 46 = .ok (.iload 5, 2) := by decide +kernel
theorem dX12_stay_48 : decode cX12_stay 48 = .ok (.iadd, 1) := by decide +kernel
theorem dX12_stay_49 : decode cX12_stay 49 = .ok (.iaload, 1) := by decide +kernel
theorem dX12_stay_50 : decode cX12_stay 50 = .ok (.invokestatic 180, 3) := by decide +kernel
theorem dX12_stay_53 : decode cX12_stay 53 = .ok (.istore_n 3, 1) := by decide +kernel
theorem dX12_stay_54 : decode cX12_stay 54 = .ok (.iinc 4 1, 3) := by decide +kernel
theorem dX12_stay_57 : decode cX12_stay 57 = .ok (.goto (-45), 3) := by decide +kernel
theorem dX12_stay_60 : decode cX12_stay 60 = .ok (.iload_n 3, 1) := by decide +kernel
theorem dX12_stay_61 : decode cX12_stay 61 = .ok (.ireturn, 1) := by decide +kernel
theorem dX12_sooner_0 : decode cX12_sooner 0 = .ok (.ldc_w 370, 3) := by decide +kernel
theorem dX12_sooner_3 : decode cX12_sooner 3 = .ok (.istore_n 3, 1) := by decide +kernel
theorem dX12_sooner_4 : decode cX12_sooner 4 = .ok (.iconst 0, 1) := by decide +kernel
theorem dX12_sooner_5 : decode cX12_sooner 5 = .ok (.istore 4, 2) := by decide +kernel
theorem dX12_sooner_7 : decode cX12_sooner 7 = .ok (.iload 4, 2) := by decide +kernel
theorem dX12_sooner_9 : decode cX12_sooner 9 = .ok (.iconst 4, 1) := by decide +kernel
theorem dX12_sooner_10 : decode cX12_sooner 10 = .ok (.if_icmp .gt 47, 3) := by decide +kernel
theorem dX12_sooner_13 : decode cX12_sooner 13 = .ok (.aload_n 0, 1) := by decide +kernel
theorem dX12_sooner_14 : decode cX12_sooner 14 = .ok (.iload_n 1, 1) := by decide +kernel
theorem dX12_sooner_15 : decode cX12_sooner 15 = .ok (.iload 4, 2) := by decide +kernel
theorem dX12_sooner_17 : decode cX12_sooner 17 = .ok (.invokevirtual 383, 3) := by decide +kernel
theorem dX12_sooner_20 : decode cX12_sooner 20 = .ok (.istore 5, 2) := by decide +kernel
theorem dX12_sooner_22 : decode cX12_sooner 22 = .ok (.iload 5, 2) := by decide +kernel
theorem dX12_sooner_24 : decode cX12_sooner 24 = .ok (.iconst (-1), 1) := by decide +kernel
theorem dX12_sooner_25 : decode cX12_sooner 25 = .ok (.if_icmp .ne 7, 3) := by decide +kernel
theorem dX12_sooner_28 : decode cX12_sooner 28 = .ok (.iload_n 3, 1) := by decide +kernel
theorem dX12_sooner_29 : decode cX12_sooner 29 = .ok (.goto 21, 3) := by decide +kernel
theorem dX12_sooner_32 : decode cX12_sooner 32 = .ok (.iload_n 3, 1) := by decide +kernel
theorem dX12_sooner_33 : decode cX12_sooner 33 = .ok (.aload_n 0, 1) := by decide +kernel
theorem dX12_sooner_34 : decode cX12_sooner 34 = .ok (.getfield 69, 3) := by decide +kernel
theorem dX12_sooner_37 : decode cX12_sooner 37 = .ok (.bipush 64, 2) := by decide +kernel
theorem dX12_sooner_39 : decode cX12_sooner 39 = .ok (.iload 5, 2) := by decide +kernel
theorem dX12_sooner_41 : decode cX12_sooner 41 = .ok (.imul, 1) := by decide +kernel
theorem dX12_sooner_42 : decode cX12_sooner 42 = .ok (.iload_n 2, 1) := by decide +kernel
theorem dX12_sooner_43 : decode cX12_sooner 43 = .ok (.iadd, 1) := by decide +kernel
theorem dX12_sooner_44 : decode cX12_sooner 44 = .ok (.iaload, 1) := by decide +kernel
theorem dX12_sooner_45 : decode cX12_sooner 45 = .ok (.iconst 1, 1) := by decide +kernel
theorem dX12_sooner_46 : decode cX12_sooner 46 = .ok (.iadd, 1) := by decide +kernel
theorem dX12_sooner_47 : decode cX12_sooner 47 = .ok (.invokestatic 476, 3) := by decide +kernel
theorem dX12_sooner_50 : decode cX12_sooner 50 = .ok (.istore_n 3, 1) := by decide +kernel
theorem dX12_sooner_51 : decode cX12_sooner 51 = .ok (.iinc 4 1, 3) := by decide +kernel
theorem dX12_sooner_54 : decode cX12_sooner 54 = .ok (.goto (-47), 3) := by decide +kernel
theorem dX12_sooner_57 : decode cX12_sooner 57 = .ok (.iload_n 3, 1) := by decide +kernel
theorem dX12_sooner_58 : decode cX12_sooner 58 = .ok (.ireturn, 1) := by decide +kernel
theorem dX12_findChase_0 : decode cX12_findChase 0 = .ok (.iconst 0, 1) := by decide +kernel
theorem dX12_findChase_1 : decode cX12_findChase 1 = .ok (.istore_n 1, 1) := by decide +kernel
theorem dX12_findChase_2 : decode cX12_findChase 2 = .ok (.iload_n 1, 1) := by decide +kernel
theorem dX12_findChase_3 : decode cX12_findChase 3 = .ok (.sipush 4096, 3) := by decide +kernel
theorem dX12_findChase_6 : decode cX12_findChase 6 = .ok (.if_icmp .ge 33, 3) := by decide +kernel
theorem dX12_findChase_9 : decode cX12_findChase 9 = .ok (.aload_n 0, 1) := by decide +kernel
theorem dX12_findChase_10 : decode cX12_findChase 10 = .ok (.getfield 66, 3) := by decide +kernel
theorem dX12_findChase_13 : decode cX12_findChase 13 = .ok (.iload_n 1, 1) := by decide +kernel
theorem dX12_findChase_14 : decode cX12_findChase 14 = .ok (.iload_n 1, 1) := by decide +kernel
theorem dX12_findChase_15 : decode cX12_findChase 15 = .ok (.bipush 64, 2) := by decide +kernel
theorem dX12_findChase_17 : decode cX12_findChase 17 = .ok (.idiv, 1) := by decide +kernel
theorem dX12_findChase_18 : decode cX12_findChase 18 = .ok (.iload_n 1, 1) := by decide +kernel
theorem dX12_findChase_19 : decode cX12_findChase 19 = .ok (.bipush 64, 2) := by decide +kernel
theorem dX12_findChase_21 : decode cX12_findChase 21 = .ok (.irem, 1) := by decide +kernel
theorem dX12_findChase_22 : decode cX12_findChase 22 = .ok (.if_icmp .ne 7, 3) := by decide +kernel
theorem dX12_findChase_25 : decode cX12_findChase 25 = .ok (.iconst 0, 1) := by decide +kernel
theorem dX12_findChase_26 : decode cX12_findChase 26 = .ok (.goto 6, 3) := by decide +kernel
theorem dX12_findChase_29 : decode cX12_findChase 29 = .ok (.ldc_w 370, 3) := by decide +kernel
theorem dX12_findChase_32 : decode cX12_findChase 32 = .ok (.iastore, 1) := by decide +kernel
theorem dX12_findChase_33 : decode cX12_findChase 33 = .ok (.iinc 1 1, 3) := by decide +kernel
theorem dX12_findChase_36 : decode cX12_findChase 36 = .ok (.goto (-34), 3) := by decide +kernel
theorem dX12_findChase_39 : decode cX12_findChase 39 = .ok (.iconst 1, 1) := by decide +kernel
theorem dX12_findChase_40 : decode cX12_findChase 40 = .ok (.istore_n 1, 1) := by decide +kernel
theorem dX12_findChase_41 : decode cX12_findChase 41 = .ok (.iload_n 1, 1) := by decide +kernel
theorem dX12_findChase_42 : decode cX12_findChase 42 = .ok (.ifCond .eq 159, 3) := by decide +kernel
theorem dX12_findChase_45 : decode cX12_findChase 45 = .ok (.iconst 0, 1) := by decide +kernel
theorem dX12_findChase_46 : decode cX12_findChase 46 = .ok (.istore_n 1, 1) := by decide +kernel
theorem dX12_findChase_47 : decode cX12_findChase 47 = .ok (.iconst 0, 1) := by decide +kernel
theorem dX12_findChase_48 : decode cX12_findChase 48 = .ok (.istore_n 2, 1) := by decide +kernel
theorem dX12_findChase_49 : decode cX12_findChase 49 = .ok (.iload_n 2, 1) := by decide +kernel
theorem dX12_findChase_50 : decode cX12_findChase 50 = .ok (.bipush 64, 2) := by decide +kernel
theorem dX12_findChase_52 : decode cX12_findChase 52 = .ok (.aload_n 0, 1) := by decide +kernel
theorem dX12_findChase_53 : decode cX12_findChase 53 = .ok (.getfield 331, 3) := by decide +kernel
theorem dX12_findChase_56 : decode cX12_findChase 56 = .ok (.imul, 1) := by decide +kernel
theorem dX12_findChase_57 : decode cX12_findChase 57 = .ok (.if_icmp .ge 44, 3) := by decide +kernel
theorem dX12_findChase_60 : decode cX12_findChase 60 = .ok (.aload_n 0, 1) := by decide +kernel
theorem dX12_findChase_61 : decode cX12_findChase 61 = .ok (.getfield 69, 3) := by decide +kernel
theorem dX12_findChase_64 : decode cX12_findChase 64 = .ok (.iload_n 2, 1) := by decide +kernel
theorem dX12_findChase_65 : decode cX12_findChase 65 = .ok (.iload_n 2, 1) := by decide +kernel
theorem dX12_findChase_66 : decode cX12_findChase 66 = .ok (.bipush 64, 2) := by decide +kernel
theorem dX12_findChase_68 : decode cX12_findChase 68 = .ok (.irem, 1) := by decide +kernel
theorem dX12_findChase_69 : decode cX12_findChase 69 = .ok (.aload_n 0, 1) := by decide +kernel
theorem dX12_findChase_70 : decode cX12_findChase 70 = .ok (.getfield 331, 3) := by decide +kernel
theorem dX12_findChase_73 : decode cX12_findChase 73 = .ok (.if_icmp .ge 18, 3) := by decide +kernel
theorem dX12_findChase_76 : decode cX12_findChase 76 = .ok (.aload_n 0, 1) := by decide +kernel
theorem dX12_findChase_77 : decode cX12_findChase 77 = .ok (.iload_n 2, 1) := by decide +kernel
theorem dX12_findChase_78 : decode cX12_findChase 78 = .ok (.bipush 64, 2) := by decide +kernel
theorem dX12_findChase_80 : decode cX12_findChase 80 = .ok (.idiv, 1) := by decide +kernel
theorem dX12_findChase_81 : decode cX12_findChase 81 = .ok (.iload_n 2, 1) := by decide +kernel
theorem dX12_findChase_82 : decode cX12_findChase 82 = .ok (.bipush 64, 2) := by decide +kernel
theorem dX12_findChase_84 : decode cX12_findChase 84 = .ok (.irem, 1) := by decide +kernel
theorem dX12_findChase_85 : decode cX12_findChase 85 = .ok (.invokevirtual 479, 3) := by decide +kernel
theorem dX12_findChase_88 : decode cX12_findChase 88 = .ok (.goto 6, 3) := by decide +kernel
theorem dX12_findChase_91 : decode cX12_findChase 91 = .ok (.ldc_w 370, 3) := by decide +kernel
theorem dX12_findChase_94 : decode cX12_findChase 94 = .ok (.iastore, 1) := by decide +kernel
theorem dX12_findChase_95 : decode cX12_findChase 95 = .ok (.iinc 2 1, 3) := by decide +kernel
theorem dX12_findChase_98 : decode cX12_findChase 98 = .ok (.goto (-49), 3) := by decide +kernel
theorem dX12_findChase_101 : decode cX12_findChase 101 = .ok (.iconst 0, 1) := by decide +kernel
theorem dX12_findChase_102 : decode cX12_findChase 102 = .ok (.istore_n 2, 1) := by decide +kernel
theorem dX12_findChase_103 : decode cX12_findChase 103 = .ok (.iload_n 2, 1) := by decide +kernel
theorem dX12_findChase_104 : decode cX12_findChase 104 = .ok (.bipush 64, 2) := by decide +kernel
theorem dX12_findChase_106 : decode cX12_findChase 106 = .ok (.aload_n 0, 1) := by decide +kernel
theorem dX12_findChase_107 : decode cX12_findChase 107 = .ok (.getfield 331, 3) := by decide +kernel
theorem dX12_findChase_110 : decode cX12_findChase 110 = .ok (.imul, 1) := by decide +kernel
theorem dX12_findChase_111 : decode cX12_findChase 111 = .ok (.if_icmp .ge 87, 3) := by decide +kernel
theorem dX12_findChase_114 : decode cX12_findChase 114 = .ok (.iload_n 2, 1) := by decide +kernel
theorem dX12_findChase_115 : decode cX12_findChase 115 = .ok (.bipush 64, 2) := by decide +kernel
theorem dX12_findChase_117 : decode cX12_findChase 117 = .ok (.irem, 1) := by decide +kernel
theorem dX12_findChase_118 : decode cX12_findChase 118 = .ok (.aload_n 0, 1) := by decide +kernel
theorem dX12_findChase_119 : decode cX12_findChase 119 = .ok (.getfield 331, 3) := by decide +kernel
theorem dX12_findChase_122 : decode cX12_findChase 122 = .ok (.if_icmp .ge 27, 3) := by decide +kernel
theorem dX12_findChase_125 : decode cX12_findChase 125 = .ok (.aload_n 0, 1) := by decide +kernel
theorem dX12_findChase_126 : decode cX12_findChase 126 = .ok (.getfield 66, 3) := by decide +kernel
theorem dX12_findChase_129 : decode cX12_findChase 129 = .ok (.iload_n 2, 1) := by decide +kernel
theorem dX12_findChase_130 : decode cX12_findChase 130 = .ok (.iaload, 1) := by decide +kernel
theorem dX12_findChase_131 : decode cX12_findChase 131 = .ok (.ifCond .le 18, 3) := by decide +kernel
theorem dX12_findChase_134 : decode cX12_findChase 134 = .ok (.aload_n 0, 1) := by decide +kernel
theorem dX12_findChase_135 : decode cX12_findChase 135 = .ok (.iload_n 2, 1) := by decide +kernel
theorem dX12_findChase_136 : decode cX12_findChase 136 = .ok (.bipush 64, 2) := by decide +kernel
theorem dX12_findChase_138 : decode cX12_findChase 138 = .ok (.idiv, 1) := by decide +kernel
theorem dX12_findChase_139 : decode cX12_findChase 139 = .ok (.iload_n 2, 1) := by decide +kernel
theorem dX12_findChase_140 : decode cX12_findChase 140 = .ok (.bipush 64, 2) := by decide +kernel
theorem dX12_findChase_142 : decode cX12_findChase 142 = .ok (.irem, 1) := by decide +kernel
theorem dX12_findChase_143 : decode cX12_findChase 143 = .ok (.invokevirtual 482, 3) := by decide +kernel
theorem dX12_findChase_146 : decode cX12_findChase 146 = .ok (.goto 9, 3) := by decide +kernel
theorem dX12_findChase_149 : decode cX12_findChase 149 = .ok (.aload_n 0, 1) := by decide +kernel
theorem dX12_findChase_150 : decode cX12_findChase 150 = .ok (.getfield 66, 3) := by decide +kernel
theorem dX12_findChase_153 : decode cX12_findChase 153 = .ok (.iload_n 2, 1) := by decide +kernel
theorem dX12_findChase_154 : decode cX12_findChase 154 = .ok (.iaload, 1) := by decide +kernel
theorem dX12_findChase_155 : decode cX12_findChase 155 = .ok (.istore_n 3, 1) := by decide +kernel
theorem dX12_findChase_156 : decode cX12_findChase 156 = .ok (.iload_n 1, 1) := by decide +kernel
theorem dX12_findChase_157 : decode cX12_findChase 157 = .ok (.ifCond .ne 13, 3) := by decide +kernel
theorem dX12_findChase_160 : decode cX12_findChase 160 = .ok (.iload_n 3, 1) := by decide +kernel
theorem dX12_findChase_161 : decode cX12_findChase 161 = .ok (.aload_n 0, 1) := by decide +kernel
theorem dX12_findChase_162 : decode cX12_findChase 162 = .ok (.getfield 66, 3) := by decide +kernel
theorem dX12_findChase_165 : decode cX12_findChase 165 = .ok (.iload_n 2, 1) := by decide +kernel
theorem dX12_findChase_166 : decode cX12_findChase 166 = .ok (.iaload, 1) := by decide +kernel
theorem dX12_findChase_167 : decode cX12_findChase 167 = .ok (.if_icmp .ge 7, 3) := by decide +kernel
theorem dX12_findChase_170 : decode cX12_findChase 170 = .ok (.iconst 1, 1) := by decide +kernel
theorem dX12_findChase_171 : decode cX12_findChase 171 = .ok (.goto 4, 3) := by decide +kernel
theorem dX12_findChase_174 : decode cX12_findChase 174 = .ok (.iconst 0, 1) := by decide +kernel
theorem dX12_findChase_175 : decode cX12_findChase 175 = .ok (.istore_n 1, 1) := by decide +kernel
theorem dX12_findChase_176 : decode cX12_findChase 176 = .ok (.aload_n 0, 1) := by decide +kernel
theorem dX12_findChase_177 : decode cX12_findChase 177 = .ok (.getfield 66, 3) := by decide +kernel
theorem dX12_findChase_180 : decode cX12_findChase 180 = .ok (.iload_n 2, 1) := by decide +kernel
theorem dX12_findChase_181 : decode cX12_findChase 181 = .ok (.aload_n 0, 1) := by decide +kernel
theorem dX12_findChase_182 : decode cX12_findChase 182 = .ok (.getfield 66, 3) := by decide +kernel
theorem dX12_findChase_185 : decode cX12_findChase 185 = .ok (.iload_n 2, 1) := by decide +kernel
theorem dX12_findChase_186 : decode cX12_findChase 186 = .ok (.iaload, 1) := by decide +kernel
theorem dX12_findChase_187 : decode cX12_findChase 187 = .ok (.iload_n 3, 1) := by decide +kernel
theorem dX12_findChase_188 : decode cX12_findChase 188 = .ok (.invokestatic 476, 3) := by decide +kernel
theorem dX12_findChase_191 : decode cX12_findChase 191 = .ok (.iastore, 1) := by decide +kernel
theorem dX12_findChase_192 : decode cX12_findChase 192 = .ok (.iinc 2 1, 3) := by decide +kernel
theorem dX12_findChase_195 : decode cX12_findChase 195 = .ok (.goto (-92), 3) := by decide +kernel
theorem dX12_findChase_198 : decode cX12_findChase 198 = .ok (.goto (-157), 3) := by decide +kernel
theorem dX12_findChase_201 : decode cX12_findChase 201 = .ok (.return_, 1) := by decide +kernel
theorem dX12_chase_0 : decode cX12_chase 0 = .ok (.aload_n 0, 1) := by decide +kernel
theorem dX12_chase_1 : decode cX12_chase 1 = .ok (.iconst 0, 1) := by decide +kernel
theorem dX12_chase_2 : decode cX12_chase 2 = .ok (.putfield 107, 3) := by decide +kernel
theorem dX12_chase_5 : decode cX12_chase 5 = .ok (.aload_n 0, 1) := by decide +kernel
theorem dX12_chase_6 : decode cX12_chase 6 = .ok (.iload_n 1, 1) := by decide +kernel
theorem dX12_chase_7 : decode cX12_chase 7 = .ok (.invokevirtual 346, 3) := by decide +kernel
theorem dX12_chase_10 : decode cX12_chase 10 = .ok (.ifCond .eq 19, 3) := by decide +kernel
theorem dX12_chase_13 : decode cX12_chase 13 = .ok (.aload_n 0, 1) := by decide +kernel
theorem dX12_chase_14 : decode cX12_chase 14 = .ok (.iload_n 2, 1) := by decide +kernel
theorem dX12_chase_15 : decode cX12_chase 15 = .ok (.invokevirtual 349, 3) := by decide +kernel
theorem dX12_chase_18 : decode cX12_chase 18 = .ok (.ifCond .eq 11, 3) := by decide +kernel
theorem dX12_chase_21 : decode cX12_chase 21 = .ok (.aload_n 0, 1) := by decide +kernel
theorem dX12_chase_22 : decode cX12_chase 22 = .ok (.iload_n 3, 1) := by decide +kernel
theorem dX12_chase_23 : decode cX12_chase 23 = .ok (.invokevirtual 355, 3) := by decide +kernel
theorem dX12_chase_26 : decode cX12_chase 26 = .ok (.ifCond .ne 5, 3) := by decide +kernel
theorem dX12_chase_29 : decode cX12_chase 29 = .ok (.iconst (-1), 1) := by decide +kernel
theorem dX12_chase_30 : decode cX12_chase 30 = .ok (.ireturn, 1) := by decide +kernel
theorem dX12_chase_31 : decode cX12_chase 31 = .ok (.aload_n 0, 1) := by decide +kernel
theorem dX12_chase_32 : decode cX12_chase 32 = .ok (.invokevirtual 485, 3) := by decide +kernel
theorem dX12_chase_35 : decode cX12_chase 35 = .ok (.aload_n 0, 1) := by decide +kernel
theorem dX12_chase_36 : decode cX12_chase 36 = .ok (.getfield 66, 3) := by decide +kernel
theorem dX12_chase_39 : decode cX12_chase 39 = .ok (.bipush 64, 2) := by decide +kernel
theorem dX12_chase_41 : decode cX12_chase 41 = .ok (.aload_n 0, 1) := by decide +kernel
theorem dX12_chase_42 : decode cX12_chase 42 = .ok (.bipush 9, 2) := by decide +kernel
theorem dX12_chase_44 : decode cX12_chase 44 = .ok (.iload_n 2, 1) := by decide +kernel
theorem dX12_chase_45 : decode cX12_chase 45 = .ok (.invokevirtual 352, 3) := by decide +kernel
theorem dX12_chase_48 : decode cX12_chase 48 = .ok (.imul, 1) := by decide +kernel
theorem dX12_chase_49 : decode cX12_chase 49 = .ok (.aload_n 0, 1) := by decide +kernel
theorem dX12_chase_50 : decode cX12_chase 50 = .ok (.bipush 27, 2) := by decide +kernel
theorem dX12_chase_52 : decode cX12_chase 52 = .ok (.iload_n 3, 1) := by decide +kernel
theorem dX12_chase_53 : decode cX12_chase 53 = .ok (.invokevirtual 352, 3) := by decide +kernel
theorem dX12_chase_56 : decode cX12_chase 56 = .ok (.iadd, 1) := by decide +kernel
theorem dX12_chase_57 : decode cX12_chase 57 = .ok (.iaload, 1) := by decide +kernel
theorem dX12_chase_58 : decode cX12_chase 58 = .ok (.istore 4, 2) := by decide +kernel
theorem dX12_chase_60 : decode cX12_chase 60 = .ok (.iload 4, 2) := by decide +kernel
theorem dX12_chase_62 : decode cX12_chase 62 = .ok (.ldc_w 370, 3) := by decide +kernel
theorem dX12_chase_65 : decode cX12_chase 65 = .ok (.if_icmp .lt 7, 3) := by decide +kernel
theorem dX12_chase_68 : decode cX12_chase 68 = .ok (.iconst (-1), 1) := by decide +kernel
theorem dX12_chase_69 : decode cX12_chase 69 = .ok (.goto 5, 3) := by decide +kernel
theorem dX12_chase_72 : decode cX12_chase 72 = .ok (.iload 4, 2) := by decide +kernel
theorem dX12_chase_74 : decode cX12_chase 74 = .ok (.ireturn, 1) := by decide +kernel
theorem dX12_wornOf_0 : decode cX12_wornOf 0 = .ok (.iload_n 0, 1) := by decide +kernel
theorem dX12_wornOf_1 : decode cX12_wornOf 1 = .ok (.istore_n 2, 1) := by decide +kernel
theorem dX12_wornOf_2 : decode cX12_wornOf 2 = .ok (.iconst 0, 1) := by decide +kernel
theorem dX12_wornOf_3 : decode cX12_wornOf 3 = .ok (.istore_n 3, 1) := by decide +kernel
theorem dX12_wornOf_4 : decode cX12_wornOf 4 = .ok (.iload_n 3, 1) := by decide +kernel
theorem dX12_wornOf_5 : decode cX12_wornOf 5 = .ok (.iload_n 1, 1) := by decide +kernel
theorem dX12_wornOf_6 : decode cX12_wornOf 6 = .ok (.if_icmp .ge 13, 3) := by decide +kernel
theorem dX12_wornOf_9 : decode cX12_wornOf 9 = .ok (.iload_n 2, 1) := by decide +kernel
theorem dX12_wornOf_10 : decode cX12_wornOf 10 = .ok (.iconst 5, 1) := by decide +kernel
theorem dX12_wornOf_11 : decode cX12_wornOf 11 = .ok (.idiv, 1) := by decide +kernel
theorem dX12_wornOf_12 : decode cX12_wornOf 12 = .ok (.istore_n 2, 1) := by decide +kernel
theorem dX12_wornOf_13 : decode cX12_wornOf 13 = .ok (.iinc 3 1, 3) := by decide +kernel
theorem dX12_wornOf_16 : decode cX12_wornOf 16 = .ok (.goto (-12), 3) := by decide +kernel
theorem dX12_wornOf_19 : decode cX12_wornOf 19 = .ok (.iload_n 2, 1) := by decide +kernel
theorem dX12_wornOf_20 : decode cX12_wornOf 20 = .ok (.iconst 5, 1) := by decide +kernel
theorem dX12_wornOf_21 : decode cX12_wornOf 21 = .ok (.irem, 1) := by decide +kernel
theorem dX12_wornOf_22 : decode cX12_wornOf 22 = .ok (.ireturn, 1) := by decide +kernel
theorem dX12_wears_0 : decode cX12_wears 0 = .ok (.iconst 0, 1) := by decide +kernel
theorem dX12_wears_1 : decode cX12_wears 1 = .ok (.istore_n 2, 1) := by decide +kernel
theorem dX12_wears_2 : decode cX12_wears 2 = .ok (.iconst 1, 1) := by decide +kernel
theorem dX12_wears_3 : decode cX12_wears 3 = .ok (.istore_n 3, 1) := by decide +kernel
theorem dX12_wears_4 : decode cX12_wears 4 = .ok (.iconst 0, 1) := by decide +kernel
theorem dX12_wears_5 : decode cX12_wears 5 = .ok (.istore 4, 2) := by decide +kernel
theorem dX12_wears_7 : decode cX12_wears 7 = .ok (.iload 4, 2) := by decide +kernel
theorem dX12_wears_9 : decode cX12_wears 9 = .ok (.iconst 4, 1) := by decide +kernel
theorem dX12_wears_10 : decode cX12_wears 10 = .ok (.if_icmp .ge 51, 3) := by decide +kernel
theorem dX12_wears_13 : decode cX12_wears 13 = .ok (.iload_n 0, 1) := by decide +kernel
theorem dX12_wears_14 : decode cX12_wears 14 = .ok (.iload 4, 2) := by decide +kernel
theorem dX12_wears_16 : decode cX12_wears 16 = .ok (.invokestatic 488, 3) := by decide +kernel
theorem dX12_wears_19 : decode cX12_wears 19 = .ok (.istore 5, 2) := by decide +kernel
theorem dX12_wears_21 : decode cX12_wears 21 = .ok (.iload_n 2, 1) := by decide +kernel
theorem dX12_wears_22 : decode cX12_wears 22 = .ok (.iload_n 3, 1) := by decide +kernel
theorem dX12_wears_23 : decode cX12_wears 23 = .ok (.iload 4, 2) := by decide +kernel
theorem dX12_wears_25 : decode cX12_wears 25 = .ok (.iload_n 1, 1) := by decide +kernel
theorem dX12_wears_26 : decode cX12_wears 26 = .ok (.if_icmp .ne 14, 3) := by decide +kernel
theorem dX12_wears_29 : decode cX12_wears 29 = .ok (.iconst 4, 1) := by decide +kernel
theorem dX12_wears_30 : decode cX12_wears 30 = .ok (.iload 5, 2) := by decide +kernel
theorem dX12_wears_32 : decode cX12_wears 32 = .ok (.iconst 1, 1) := by decide +kernel
theorem dX12_wears_33 : decode cX12_wears 33 = .ok (.iadd, 1) := by decide +kernel
theorem dX12_wears_34 : decode cX12_wears 34 = .ok (.invokestatic 476, 3) := by decide +kernel
theorem dX12_wears_37 : decode cX12_wears 37 = .ok (.goto 11, 3) := by decide +kernel
theorem dX12_wears_40 : decode cX12_wears 40 = .ok (.iconst 0, 1) := by decide +kernel
theorem dX12_wears_41 : decode cX12_wears 41 = .ok (.iload 5, 2) := by decide +kernel
theorem dX12_wears_43 : decode cX12_wears 43 = .ok (.iconst 1, 1) := by decide +kernel
theorem dX12_wears_44 : decode cX12_wears 44 = .ok (.isub, 1) := by decide +kernel
theorem dX12_wears_45 : decode cX12_wears 45 = .ok (.invokestatic 180, 3) := by decide +kernel
theorem dX12_wears_48 : decode cX12_wears 48 = .ok (.imul, 1) := by decide +kernel
theorem dX12_wears_49 : decode cX12_wears 49 = .ok (.iadd, 1) := by decide +kernel
theorem dX12_wears_50 : decode cX12_wears 50 = .ok (.istore_n 2, 1) := by decide +kernel
theorem dX12_wears_51 : decode cX12_wears 51 = .ok (.iload_n 3, 1) := by decide +kernel
theorem dX12_wears_52 : decode cX12_wears 52 = .ok (.iconst 5, 1) := by decide +kernel
theorem dX12_wears_53 : decode cX12_wears 53 = .ok (.imul, 1) := by decide +kernel
theorem dX12_wears_54 : decode cX12_wears 54 = .ok (.istore_n 3, 1) := by decide +kernel
theorem dX12_wears_55 : decode cX12_wears 55 = .ok (.iinc 4 1, 3) := by decide +kernel
theorem dX12_wears_58 : decode cX12_wears 58 = .ok (.goto (-51), 3) := by decide +kernel
theorem dX12_wears_61 : decode cX12_wears 61 = .ok (.iload_n 2, 1) := by decide +kernel
theorem dX12_wears_62 : decode cX12_wears 62 = .ok (.ireturn, 1) := by decide +kernel
theorem dX12_gain_0 : decode cX12_gain 0 = .ok (.iconst 0, 1) := by decide +kernel
theorem dX12_gain_1 : decode cX12_gain 1 = .ok (.aload_n 0, 1) := by decide +kernel
theorem dX12_gain_2 : decode cX12_gain 2 = .ok (.iconst 5, 1) := by decide +kernel
theorem dX12_gain_3 : decode cX12_gain 3 = .ok (.iload_n 2, 1) := by decide +kernel
theorem dX12_gain_4 : decode cX12_gain 4 = .ok (.iadd, 1) := by decide +kernel
theorem dX12_gain_5 : decode cX12_gain 5 = .ok (.invokevirtual 324, 3) := by decide +kernel
theorem dX12_gain_8 : decode cX12_gain 8 = .ok (.iload_n 1, 1) := by decide +kernel
theorem dX12_gain_9 : decode cX12_gain 9 = .ok (.iload_n 2, 1) := by decide +kernel
theorem dX12_gain_10 : decode cX12_gain 10 = .ok (.invokestatic 488, 3) := by decide +kernel
theorem dX12_gain_13 : decode cX12_gain 13 = .ok (.isub, 1) := by decide +kernel
theorem dX12_gain_14 : decode cX12_gain 14 = .ok (.invokestatic 180, 3) := by decide +kernel
theorem dX12_gain_17 : decode cX12_gain 17 = .ok (.ireturn, 1) := by decide +kernel
theorem dX12_cell_0 : decode cX12_cell 0 = .ok (.sipush 625, 3) := by decide +kernel
theorem dX12_cell_3 : decode cX12_cell 3 = .ok (.iload_n 0, 1) := by decide +kernel
theorem dX12_cell_4 : decode cX12_cell 4 = .ok (.imul, 1) := by decide +kernel
theorem dX12_cell_5 : decode cX12_cell 5 = .ok (.iload_n 1, 1) := by decide +kernel
theorem dX12_cell_6 : decode cX12_cell 6 = .ok (.iadd, 1) := by decide +kernel
theorem dX12_cell_7 : decode cX12_cell 7 = .ok (.iconst 5, 1) := by decide +kernel
theorem dX12_cell_8 : decode cX12_cell 8 = .ok (.imul, 1) := by decide +kernel
theorem dX12_cell_9 : decode cX12_cell 9 = .ok (.iload_n 2, 1) := by decide +kernel
theorem dX12_cell_10 : decode cX12_cell 10 = .ok (.iadd, 1) := by decide +kernel
theorem dX12_cell_11 : decode cX12_cell 11 = .ok (.ireturn, 1) := by decide +kernel
theorem dX12_findBrings_0 : decode cX12_findBrings 0 = .ok (.iconst 0, 1) := by decide +kernel
theorem dX12_findBrings_1 : decode cX12_findBrings 1 = .ok (.istore_n 3, 1) := by decide +kernel
theorem dX12_findBrings_2 : decode cX12_findBrings 2 = .ok (.iload_n 3, 1) := by decide +kernel
theorem dX12_findBrings_3 : decode cX12_findBrings 3 = .ok (.iload_n 1, 1) := by decide +kernel
theorem dX12_findBrings_4 : decode cX12_findBrings 4 = .ok (.if_icmp .gt 138, 3) := by decide +kernel
theorem dX12_findBrings_7 : decode cX12_findBrings 7 = .ok (.iconst 0, 1) := by decide +kernel
theorem dX12_findBrings_8 : decode cX12_findBrings 8 = .ok (.istore 4, 2) := by decide +kernel
theorem dX12_findBrings_10 : decode cX12_findBrings 10 = .ok (.iload 4, 2) := by decide +kernel
theorem dX12_findBrings_12 : decode cX12_findBrings 12 = .ok (.sipush 625, 3) := by decide +kernel
theorem dX12_findBrings_15 : decode cX12_findBrings 15 = .ok (.if_icmp .ge 121, 3) := by decide +kernel
theorem dX12_findBrings_18 : decode cX12_findBrings 18 = .ok (.iconst 0, 1) := by decide +kernel
theorem dX12_findBrings_19 : decode cX12_findBrings 19 = .ok (.istore 5, 2) := by decide +kernel
theorem dX12_findBrings_21 : decode cX12_findBrings 21 = .ok (.iload 5, 2) := by decide +kernel
theorem dX12_findBrings_23 : decode cX12_findBrings 23 = .ok (.iconst 4, 1) := by decide +kernel
theorem dX12_findBrings_24 : decode cX12_findBrings 24 = .ok (.if_icmp .gt 106, 3) := by decide +kernel
theorem dX12_findBrings_27 : decode cX12_findBrings 27 = .ok (.iload_n 3, 1) := by decide +kernel
theorem dX12_findBrings_28 : decode cX12_findBrings 28 = .ok (.ifCond .ne 7, 3) := by decide +kernel
theorem dX12_findBrings_31 : decode cX12_findBrings 31 = .ok (.iconst 0, 1) := by decide +kernel
theorem dX12_findBrings_32 : decode cX12_findBrings 32 = .ok (.goto 4, 3) := by decide +kernel
theorem dX12_findBrings_35 : decode cX12_findBrings 35 = .ok (.iconst (-1), 1) := by decide +kernel
theorem dX12_findBrings_36 : decode cX12_findBrings 36 = .ok (.istore 6, 2) := by decide +kernel
theorem dX12_findBrings_38 : decode cX12_findBrings 38 = .ok (.iconst 0, 1) := by decide +kernel
theorem dX12_findBrings_39 : decode cX12_findBrings 39 = .ok (.istore 7, 2) := by decide +kernel
theorem dX12_findBrings_41 : decode cX12_findBrings 41 = .ok (.iload 7, 2) := by decide +kernel
theorem dX12_findBrings_43 : decode cX12_findBrings 43 = .ok (.iconst 4, 1) := by decide +kernel
theorem dX12_findBrings_44 : decode cX12_findBrings 44 = .ok (.if_icmp .ge 65, 3) := by decide +kernel
theorem dX12_findBrings_47 : decode cX12_findBrings 47 = .ok (.iload_n 3, 1) := by decide +kernel
theorem dX12_findBrings_48 : decode cX12_findBrings 48 = .ok (.ifCond .le 61, 3) := by decide +kernel
theorem dX12_findBrings_51 : decode cX12_findBrings 51 = .ok (.iload_n 2, 1) := by decide +kernel
theorem dX12_findBrings_52 : decode cX12_findBrings 52 = .ok (.ifCond .eq 15, 3) := by decide +kernel
theorem dX12_findBrings_55 : decode cX12_findBrings 55 = .ok (.iload 7, 2) := by decide +kernel
theorem dX12_findBrings_57 : decode cX12_findBrings 57 = .ok (.iload 5, 2) := by decide +kernel
theorem dX12_findBrings_59 : decode cX12_findBrings 59 = .ok (.if_icmp .ne 8, 3) := by decide +kernel
theorem dX12_findBrings_62 : decode cX12_findBrings 62 = .ok (.iload 6, 2) := by decide +kernel
theorem dX12_findBrings_64 : decode cX12_findBrings 64 = .ok (.goto 37, 3) := by decide +kernel
theorem dX12_findBrings_67 : decode cX12_findBrings 67 = .ok (.iload 6, 2) := by decide +kernel
theorem dX12_findBrings_69 : decode cX12_findBrings 69 = .ok (.aload_n 0, 1) := by decide +kernel
theorem dX12_findBrings_70 : decode cX12_findBrings 70 = .ok (.iload 4, 2) := by decide +kernel
theorem dX12_findBrings_72 : decode cX12_findBrings 72 = .ok (.iload 7, 2) := by decide +kernel
theorem dX12_findBrings_74 : decode cX12_findBrings 74 = .ok (.invokevirtual 491, 3) := by decide +kernel
theorem dX12_findBrings_77 : decode cX12_findBrings 77 = .ok (.aload_n 0, 1) := by decide +kernel
theorem dX12_findBrings_78 : decode cX12_findBrings 78 = .ok (.getfield 73, 3) := by decide +kernel
theorem dX12_findBrings_81 : decode cX12_findBrings 81 = .ok (.iload_n 3, 1) := by decide +kernel
theorem dX12_findBrings_82 : decode cX12_findBrings 82 = .ok (.iconst 1, 1) := by decide +kernel
theorem dX12_findBrings_83 : decode cX12_findBrings 83 = .ok (.isub, 1) := by decide +kernel
theorem dX12_findBrings_84 : decode cX12_findBrings 84 = .ok (.iload 4, 2) := by decide +kernel
theorem dX12_findBrings_86 : decode cX12_findBrings 86 = .ok (.iload 7, 2) := by decide +kernel
theorem dX12_findBrings_88 : decode cX12_findBrings 88 = .ok (.invokestatic 494, 3) := by decide +kernel
theorem dX12_findBrings_91 : decode cX12_findBrings 91 = .ok (.iload 7, 2) := by decide +kernel
theorem dX12_findBrings_93 : decode cX12_findBrings 93 = .ok (.invokestatic 497, 3) := by decide +kernel
theorem dX12_findBrings_96 : decode cX12_findBrings 96 = .ok (.iaload, 1) := by decide +kernel
theorem dX12_findBrings_97 : decode cX12_findBrings 97 = .ok (.iadd, 1) := by decide +kernel
theorem dX12_findBrings_98 : decode cX12_findBrings 98 = .ok (.invokestatic 180, 3) := by decide +kernel
theorem dX12_findBrings_101 : decode cX12_findBrings 101 = .ok (.istore 6, 2) := by decide +kernel
theorem dX12_findBrings_103 : decode cX12_findBrings 103 = .ok (.iinc 7 1, 3) := by decide +kernel
theorem dX12_findBrings_106 : decode cX12_findBrings 106 = .ok (.goto (-65), 3) := by decide +kernel
theorem dX12_findBrings_109 : decode cX12_findBrings 109 = .ok (.aload_n 0, 1) := by decide +kernel
theorem dX12_findBrings_110 : decode cX12_findBrings 110 = .ok (.getfield 73, 3) := by decide +kernel
theorem dX12_findBrings_113 : decode cX12_findBrings 113 = .ok (.iload_n 3, 1) := by decide +kernel
theorem dX12_findBrings_114 : decode cX12_findBrings 114 = .ok (.iload 4, 2) := by decide +kernel
theorem dX12_findBrings_116 : decode cX12_findBrings 116 = .ok (.iload 5, 2) := by decide +kernel
theorem dX12_findBrings_118 : decode cX12_findBrings 118 = .ok (.invokestatic 497, 3) := by decide +kernel
theorem dX12_findBrings_121 : decode cX12_findBrings 121 = .ok (.iload 6, 2) := by decide +kernel
theorem dX12_findBrings_123 : decode cX12_findBrings 123 = .ok (.iastore, 1) := by decide +kernel
theorem dX12_findBrings_124 : decode cX12_findBrings 124 = .ok (.iinc 5 1, 3) := by decide +kernel
theorem dX12_findBrings_127 : decode cX12_findBrings 127 = .ok (.goto (-106), 3) := by decide +kernel
theorem dX12_findBrings_130 : decode cX12_findBrings 130 = .ok (.iinc 4 1, 3) := by decide +kernel
theorem dX12_findBrings_133 : decode cX12_findBrings 133 = .ok (.goto (-123), 3) := by decide +kernel
theorem dX12_findBrings_136 : decode cX12_findBrings 136 = .ok (.iinc 3 1, 3) := by decide +kernel
theorem dX12_findBrings_139 : decode cX12_findBrings 139 = .ok (.goto (-137), 3) := by decide +kernel
theorem dX12_findBrings_142 : decode cX12_findBrings 142 = .ok (.return_, 1) := by decide +kernel
theorem dX12_commandAt_0 : decode cX12_commandAt 0 = .ok (.iconst 0, 1) := by decide +kernel
theorem dX12_commandAt_1 : decode cX12_commandAt 1 = .ok (.istore_n 3, 1) := by decide +kernel
theorem dX12_commandAt_2 : decode cX12_commandAt 2 = .ok (.iconst 4, 1) := by decide +kernel
theorem dX12_commandAt_3 : decode cX12_commandAt 3 = .ok (.istore 4, 2) := by decide +kernel
theorem dX12_commandAt_5 : decode cX12_commandAt 5 = .ok (.iconst 0, 1) := by decide +kernel
theorem dX12_commandAt_6 : decode cX12_commandAt 6 = .ok (.istore 5, 2) := by decide +kernel
theorem dX12_commandAt_8 : decode cX12_commandAt 8 = .ok (.iload 5, 2) := by decide +kernel
theorem dX12_commandAt_10 : decode cX12_commandAt 10 = .ok (.iload_n 2, 1) := by decide +kernel
theorem dX12_commandAt_11 : decode cX12_commandAt 11 = .ok (.if_icmp .gt 77, 3) := by decide +kernel
theorem dX12_commandAt_14 : decode cX12_commandAt 14 = .ok (.iconst 0, 1) := by decide +kernel
theorem dX12_commandAt_15 : decode cX12_commandAt 15 = .ok (.istore 6, 2) := by decide +kernel
theorem dX12_commandAt_17 : decode cX12_commandAt 17 = .ok (.aload_n 0, 1) := by decide +kernel
theorem dX12_commandAt_18 : decode cX12_commandAt 18 = .ok (.iload_n 3, 1) := by decide +kernel
theorem dX12_commandAt_19 : decode cX12_commandAt 19 = .ok (.iload 6, 2) := by decide +kernel
theorem dX12_commandAt_21 : decode cX12_commandAt 21 = .ok (.invokevirtual 491, 3) := by decide +kernel
theorem dX12_commandAt_24 : decode cX12_commandAt 24 = .ok (.aload_n 0, 1) := by decide +kernel
theorem dX12_commandAt_25 : decode cX12_commandAt 25 = .ok (.getfield 73, 3) := by decide +kernel
theorem dX12_commandAt_28 : decode cX12_commandAt 28 = .ok (.iload_n 1, 1) := by decide +kernel
theorem dX12_commandAt_29 : decode cX12_commandAt 29 = .ok (.iload 5, 2) := by decide +kernel
theorem dX12_commandAt_31 : decode cX12_commandAt 31 = .ok (.isub, 1) := by decide +kernel
theorem dX12_commandAt_32 : decode cX12_commandAt 32 = .ok (.iconst 1, 1) := by decide +kernel
theorem dX12_commandAt_33 : decode cX12_commandAt 33 = .ok (.isub, 1) := by decide +kernel
theorem dX12_commandAt_34 : decode cX12_commandAt 34 = .ok (.iload_n 3, 1) := by decide +kernel
theorem dX12_commandAt_35 : decode cX12_commandAt 35 = .ok (.iload 6, 2) := by decide +kernel
theorem dX12_commandAt_37 : decode cX12_commandAt 37 = .ok (.invokestatic 494, 3) := by decide +kernel
theorem dX12_commandAt_40 : decode cX12_commandAt 40 = .ok (.iload 6, 2) := by decide +kernel
theorem dX12_commandAt_42 : decode cX12_commandAt 42 = .ok (.invokestatic 497, 3) := by decide +kernel
theorem dX12_commandAt_45 : decode cX12_commandAt 45 = .ok (.iaload, 1) := by decide +kernel
theorem dX12_commandAt_46 : decode cX12_commandAt 46 = .ok (.iadd, 1) := by decide +kernel
theorem dX12_commandAt_47 : decode cX12_commandAt 47 = .ok (.aload_n 0, 1) := by decide +kernel
theorem dX12_commandAt_48 : decode cX12_commandAt 48 = .ok (.getfield 73, 3) := by decide +kernel
theorem dX12_commandAt_51 : decode cX12_commandAt 51 = .ok (.iload_n 1, 1) := by decide +kernel
theorem dX12_commandAt_52 : decode cX12_commandAt 52 = .ok (.iload 5, 2) := by decide +kernel
theorem dX12_commandAt_54 : decode cX12_commandAt 54 = .ok (.isub, 1) := by decide +kernel
theorem dX12_commandAt_55 : decode cX12_commandAt 55 = .ok (.iload_n 3, 1) := by decide +kernel
theorem dX12_commandAt_56 : decode cX12_commandAt 56 = .ok (.iload 4, 2) := by decide +kernel
theorem dX12_commandAt_58 : decode cX12_commandAt 58 = .ok (.invokestatic 497, 3) := by decide +kernel
theorem dX12_commandAt_61 : decode cX12_commandAt 61 = .ok (.iaload, 1) := by decide +kernel
theorem dX12_commandAt_62 : decode cX12_commandAt 62 = .ok (.if_icmp .eq 9, 3) := by decide +kernel
theorem dX12_commandAt_65 : decode cX12_commandAt 65 = .ok (.iinc 6 1, 3) := by decide +kernel
theorem dX12_commandAt_68 : decode cX12_commandAt 68 = .ok (.goto (-51), 3) := by decide +kernel
theorem dX12_commandAt_71 : decode cX12_commandAt 71 = .ok (.iload_n 3, 1) := by decide +kernel
theorem dX12_commandAt_72 : decode cX12_commandAt 72 = .ok (.iload 6, 2) := by decide +kernel
theorem dX12_commandAt_74 : decode cX12_commandAt 74 = .ok (.invokestatic 494, 3) := by decide +kernel
theorem dX12_commandAt_77 : decode cX12_commandAt 77 = .ok (.istore_n 3, 1) := by decide +kernel
theorem dX12_commandAt_78 : decode cX12_commandAt 78 = .ok (.iload 6, 2) := by decide +kernel
theorem dX12_commandAt_80 : decode cX12_commandAt 80 = .ok (.istore 4, 2) := by decide +kernel
theorem dX12_commandAt_82 : decode cX12_commandAt 82 = .ok (.iinc 5 1, 3) := by decide +kernel
theorem dX12_commandAt_85 : decode cX12_commandAt 85 = .ok (.goto (-77), 3) := by decide +kernel
theorem dX12_commandAt_88 : decode cX12_commandAt 88 = .ok (.iload 4, 2) := by decide +kernel
theorem dX12_commandAt_90 : decode cX12_commandAt 90 = .ok (.ireturn, 1) := by decide +kernel
theorem dX12_programme_0 : decode cX12_programme 0 = .ok (.aload_n 0, 1) := by decide +kernel
theorem dX12_programme_1 : decode cX12_programme 1 = .ok (.iconst 0, 1) := by decide +kernel
theorem dX12_programme_2 : decode cX12_programme 2 = .ok (.putfield 107, 3) := by decide +kernel
theorem dX12_programme_5 : decode cX12_programme 5 = .ok (.iload_n 2, 1) := by decide +kernel
theorem dX12_programme_6 : decode cX12_programme 6 = .ok (.iconst 0, 1) := by decide +kernel
theorem dX12_programme_7 : decode cX12_programme 7 = .ok (.bipush 12, 2) := by decide +kernel
theorem dX12_programme_9 : decode cX12_programme 9 = .ok (.invokestatic 119, 3) := by decide +kernel
theorem dX12_programme_12 : decode cX12_programme 12 = .ok (.ifCond .eq 23, 3) := by decide +kernel
theorem dX12_programme_15 : decode cX12_programme 15 = .ok (.iload_n 3, 1) := by decide +kernel
theorem dX12_programme_16 : decode cX12_programme 16 = .ok (.bipush (-2), 2) := by decide +kernel
theorem dX12_programme_18 : decode cX12_programme 18 = .ok (.iload_n 2, 1) := by decide +kernel
theorem dX12_programme_19 : decode cX12_programme 19 = .ok (.iconst 1, 1) := by decide +kernel
theorem dX12_programme_20 : decode cX12_programme 20 = .ok (.isub, 1) := by decide +kernel
theorem dX12_programme_21 : decode cX12_programme 21 = .ok (.invokestatic 119, 3) := by decide +kernel
theorem dX12_programme_24 : decode cX12_programme 24 = .ok (.ifCond .eq 11, 3) := by decide +kernel
theorem dX12_programme_27 : decode cX12_programme 27 = .ok (.aload_n 0, 1) := by decide +kernel
theorem dX12_programme_28 : decode cX12_programme 28 = .ok (.iload_n 1, 1) := by decide +kernel
theorem dX12_programme_29 : decode cX12_programme 29 = .ok (.invokevirtual 346, 3) := by decide +kernel
theorem dX12_programme_32 : decode cX12_programme 32 = .ok (.ifCond .ne 5, 3) := by decide +kernel
theorem dX12_programme_35 : decode cX12_programme 35 = .ok (.iconst (-1), 1) := by decide +kernel
theorem dX12_programme_36 : decode cX12_programme 36 = .ok (.ireturn, 1) := by decide +kernel
theorem dX12_programme_37 : decode cX12_programme 37 = .ok (.aload_n 0, 1) := by decide +kernel
theorem dX12_programme_38 : decode cX12_programme 38 = .ok (.iload_n 2, 1) := by decide +kernel
theorem dX12_programme_39 : decode cX12_programme 39 = .ok (.iload_n 3, 1) := by decide +kernel
theorem dX12_programme_40 : decode cX12_programme 40 = .ok (.bipush (-2), 2) := by decide +kernel
theorem dX12_programme_42 : decode cX12_programme 42 = .ok (.if_icmp .ne 7, 3) := by decide +kernel
theorem dX12_programme_45 : decode cX12_programme 45 = .ok (.iconst 1, 1) := by decide +kernel
theorem dX12_programme_46 : decode cX12_programme 46 = .ok (.goto 4, 3) := by decide +kernel
theorem dX12_programme_49 : decode cX12_programme 49 = .ok (.iconst 0, 1) := by decide +kernel
theorem dX12_programme_50 : decode cX12_programme 50 = .ok (.invokevirtual 501, 3) := by decide +kernel
theorem dX12_programme_53 : decode cX12_programme 53 = .ok (.iload_n 3, 1) := by decide +kernel
theorem dX12_programme_54 : decode cX12_programme 54 = .ok (.ifCond .ge 17, 3) := by decide +kernel
theorem dX12_programme_57 : decode cX12_programme 57 = .ok (.aload_n 0, 1) := by decide +kernel
theorem dX12_programme_58 : decode cX12_programme 58 = .ok (.getfield 73, 3) := by decide +kernel
theorem dX12_programme_61 : decode cX12_programme 61 = .ok (.iload_n 2, 1) := by decide +kernel
theorem dX12_programme_62 : decode cX12_programme 62 = .ok (.iconst 0, 1) := by decide +kernel
theorem dX12_programme_63 : decode cX12_programme 63 = .ok (.iconst 4, 1) := by decide +kernel
theorem dX12_programme_64 : decode cX12_programme 64 = .ok (.invokestatic 497, 3) := by decide +kernel
theorem dX12_programme_67 : decode cX12_programme 67 = .ok (.iaload, 1) := by decide +kernel
theorem dX12_programme_68 : decode cX12_programme 68 = .ok (.goto 9, 3) := by decide +kernel
theorem dX12_programme_71 : decode cX12_programme 71 = .ok (.aload_n 0, 1) := by decide +kernel
theorem dX12_programme_72 : decode cX12_programme 72 = .ok (.iload_n 2, 1) := by decide +kernel
theorem dX12_programme_73 : decode cX12_programme 73 = .ok (.iload_n 3, 1) := by decide +kernel
theorem dX12_programme_74 : decode cX12_programme 74 = .ok (.invokevirtual 505, 3) := by decide +kernel
theorem dX12_programme_77 : decode cX12_programme 77 = .ok (.ireturn, 1) := by decide +kernel
theorem dX12_onLeft_0 : decode cX12_onLeft 0 = .ok (.iconst 0, 1) := by decide +kernel
theorem dX12_onLeft_1 : decode cX12_onLeft 1 = .ok (.istore_n 2, 1) := by decide +kernel
theorem dX12_onLeft_2 : decode cX12_onLeft 2 = .ok (.iconst 0, 1) := by decide +kernel
theorem dX12_onLeft_3 : decode cX12_onLeft 3 = .ok (.istore_n 3, 1) := by decide +kernel
theorem dX12_onLeft_4 : decode cX12_onLeft 4 = .ok (.iload_n 3, 1) := by decide +kernel
theorem dX12_onLeft_5 : decode cX12_onLeft 5 = .ok (.aload_n 0, 1) := by decide +kernel
theorem dX12_onLeft_6 : decode cX12_onLeft 6 = .ok (.getfield 337, 3) := by decide +kernel
theorem dX12_onLeft_9 : decode cX12_onLeft 9 = .ok (.if_icmp .ge 33, 3) := by decide +kernel
theorem dX12_onLeft_12 : decode cX12_onLeft 12 = .ok (.iload_n 2, 1) := by decide +kernel
theorem dX12_onLeft_13 : decode cX12_onLeft 13 = .ok (.aload_n 0, 1) := by decide +kernel
theorem dX12_onLeft_14 : decode cX12_onLeft 14 = .ok (.bipush 27, 2) := by decide +kernel
theorem dX12_onLeft_16 : decode cX12_onLeft 16 = .ok (.iload_n 3, 1) := by decide +kernel
theorem dX12_onLeft_17 : decode cX12_onLeft 17 = .ok (.invokevirtual 352, 3) := by decide +kernel
theorem dX12_onLeft_20 : decode cX12_onLeft 20 = .ok (.aload_n 0, 1) := by decide +kernel
theorem dX12_onLeft_21 : decode cX12_onLeft 21 = .ok (.getfield 328, 3) := by decide +kernel
theorem dX12_onLeft_24 : decode cX12_onLeft 24 = .ok (.irem, 1) := by decide +kernel
theorem dX12_onLeft_25 : decode cX12_onLeft 25 = .ok (.iload_n 1, 1) := by decide +kernel
theorem dX12_onLeft_26 : decode cX12_onLeft 26 = .ok (.if_icmp .ge 7, 3) := by decide +kernel
theorem dX12_onLeft_29 : decode cX12_onLeft 29 = .ok (.iconst 1, 1) := by decide +kernel
theorem dX12_onLeft_30 : decode cX12_onLeft 30 = .ok (.goto 4, 3) := by decide +kernel
theorem dX12_onLeft_33 : decode cX12_onLeft 33 = .ok (.iconst 0, 1) := by decide +kernel
theorem dX12_onLeft_34 : decode cX12_onLeft 34 = .ok (.iadd, 1) := by decide +kernel
theorem dX12_onLeft_35 : decode cX12_onLeft 35 = .ok (.istore_n 2, 1) := by decide +kernel
theorem dX12_onLeft_36 : decode cX12_onLeft 36 = .ok (.iinc 3 1, 3) := by decide +kernel
theorem dX12_onLeft_39 : decode cX12_onLeft 39 = .ok (.goto (-35), 3) := by decide +kernel
theorem dX12_onLeft_42 : decode cX12_onLeft 42 = .ok (.iload_n 2, 1) := by decide +kernel
theorem dX12_onLeft_43 : decode cX12_onLeft 43 = .ok (.ireturn, 1) := by decide +kernel
theorem dX12_unlike_0 : decode cX12_unlike 0 = .ok (.iconst 2, 1) := by decide +kernel
theorem dX12_unlike_1 : decode cX12_unlike 1 = .ok (.aload_n 0, 1) := by decide +kernel
theorem dX12_unlike_2 : decode cX12_unlike 2 = .ok (.iload_n 1, 1) := by decide +kernel
theorem dX12_unlike_3 : decode cX12_unlike 3 = .ok (.invokevirtual 508, 3) := by decide +kernel
theorem dX12_unlike_6 : decode cX12_unlike 6 = .ok (.imul, 1) := by decide +kernel
theorem dX12_unlike_7 : decode cX12_unlike 7 = .ok (.aload_n 0, 1) := by decide +kernel
theorem dX12_unlike_8 : decode cX12_unlike 8 = .ok (.getfield 337, 3) := by decide +kernel
theorem dX12_unlike_11 : decode cX12_unlike 11 = .ok (.isub, 1) := by decide +kernel
theorem dX12_unlike_12 : decode cX12_unlike 12 = .ok (.istore_n 2, 1) := by decide +kernel
theorem dX12_unlike_13 : decode cX12_unlike 13 = .ok (.iload_n 2, 1) := by decide +kernel
theorem dX12_unlike_14 : decode cX12_unlike 14 = .ok (.ifCond .ge 8, 3) := by decide +kernel
theorem dX12_unlike_17 : decode cX12_unlike 17 = .ok (.iload_n 2, 1) := by decide +kernel
theorem dX12_unlike_18 : decode cX12_unlike 18 = .ok (.ineg, 1) := by decide +kernel
theorem dX12_unlike_19 : decode cX12_unlike 19 = .ok (.goto 4, 3) := by decide +kernel
theorem dX12_unlike_22 : decode cX12_unlike 22 = .ok (.iload_n 2, 1) := by decide +kernel
theorem dX12_unlike_23 : decode cX12_unlike 23 = .ok (.ireturn, 1) := by decide +kernel
theorem dX12_part_0 : decode cX12_part 0 = .ok (.aload_n 0, 1) := by decide +kernel
theorem dX12_part_1 : decode cX12_part 1 = .ok (.iconst 0, 1) := by decide +kernel
theorem dX12_part_2 : decode cX12_part 2 = .ok (.putfield 107, 3) := by decide +kernel
theorem dX12_part_5 : decode cX12_part 5 = .ok (.aload_n 0, 1) := by decide +kernel
theorem dX12_part_6 : decode cX12_part 6 = .ok (.iload_n 1, 1) := by decide +kernel
theorem dX12_part_7 : decode cX12_part 7 = .ok (.invokevirtual 346, 3) := by decide +kernel
theorem dX12_part_10 : decode cX12_part 10 = .ok (.ifCond .eq 15, 3) := by decide +kernel
theorem dX12_part_13 : decode cX12_part 13 = .ok (.iload_n 2, 1) := by decide +kernel
theorem dX12_part_14 : decode cX12_part 14 = .ok (.iconst (-1), 1) := by decide +kernel
theorem dX12_part_15 : decode cX12_part 15 = .ok (.aload_n 0, 1) := by decide +kernel
theorem dX12_part_16 : decode cX12_part 16 = .ok (.getfield 328, 3) := by decide +kernel
theorem dX12_part_19 : decode cX12_part 19 = .ok (.invokestatic 119, 3) := by decide +kernel
theorem dX12_part_22 : decode cX12_part 22 = .ok (.ifCond .ne 5, 3) := by decide +kernel
theorem dX12_part_25 : decode cX12_part 25 = .ok (.iconst (-1), 1) := by decide +kernel
theorem dX12_part_26 : decode cX12_part 26 = .ok (.ireturn, 1) := by decide +kernel
theorem dX12_part_27 : decode cX12_part 27 = .ok (.iload_n 2, 1) := by decide +kernel
theorem dX12_part_28 : decode cX12_part 28 = .ok (.iconst (-1), 1) := by decide +kernel
theorem dX12_part_29 : decode cX12_part 29 = .ok (.if_icmp .eq 26, 3) := by decide +kernel
theorem dX12_part_32 : decode cX12_part 32 = .ok (.iload_n 3, 1) := by decide +kernel
theorem dX12_part_33 : decode cX12_part 33 = .ok (.ifCond .eq 16, 3) := by decide +kernel
theorem dX12_part_36 : decode cX12_part 36 = .ok (.aload_n 0, 1) := by decide +kernel
theorem dX12_part_37 : decode cX12_part 37 = .ok (.getfield 337, 3) := by decide +kernel
theorem dX12_part_40 : decode cX12_part 40 = .ok (.aload_n 0, 1) := by decide +kernel
theorem dX12_part_41 : decode cX12_part 41 = .ok (.iload_n 2, 1) := by decide +kernel
theorem dX12_part_42 : decode cX12_part 42 = .ok (.invokevirtual 508, 3) := by decide +kernel
theorem dX12_part_45 : decode cX12_part 45 = .ok (.isub, 1) := by decide +kernel
theorem dX12_part_46 : decode cX12_part 46 = .ok (.goto 8, 3) := by decide +kernel
theorem dX12_part_49 : decode cX12_part 49 = .ok (.aload_n 0, 1) := by decide +kernel
theorem dX12_part_50 : decode cX12_part 50 = .ok (.iload_n 2, 1) := by decide +kernel
theorem dX12_part_51 : decode cX12_part 51 = .ok (.invokevirtual 508, 3) := by decide +kernel
theorem dX12_part_54 : decode cX12_part 54 = .ok (.ireturn, 1) := by decide +kernel
theorem dX12_part_55 : decode cX12_part 55 = .ok (.iconst 0, 1) := by decide +kernel
theorem dX12_part_56 : decode cX12_part 56 = .ok (.istore 4, 2) := by decide +kernel
theorem dX12_part_58 : decode cX12_part 58 = .ok (.iconst 1, 1) := by decide +kernel
theorem dX12_part_59 : decode cX12_part 59 = .ok (.istore 5, 2) := by decide +kernel
theorem dX12_part_61 : decode cX12_part 61 = .ok (.iload 5, 2) := by decide +kernel
theorem dX12_part_63 : decode cX12_part 63 = .ok (.aload_n 0, 1) := by decide +kernel
theorem dX12_part_64 : decode cX12_part 64 = .ok (.getfield 328, 3) := by decide +kernel
theorem dX12_part_67 : decode cX12_part 67 = .ok (.if_icmp .gt 33, 3) := by decide +kernel
theorem dX12_part_70 : decode cX12_part 70 = .ok (.aload_n 0, 1) := by decide +kernel
theorem dX12_part_71 : decode cX12_part 71 = .ok (.iload 5, 2) := by decide +kernel
theorem dX12_part_73 : decode cX12_part 73 = .ok (.invokevirtual 511, 3) := by decide +kernel
theorem dX12_part_76 : decode cX12_part 76 = .ok (.aload_n 0, 1) := by decide +kernel
theorem dX12_part_77 : decode cX12_part 77 = .ok (.iload 4, 2) := by decide +kernel
theorem dX12_part_79 : decode cX12_part 79 = .ok (.invokevirtual 511, 3) := by decide +kernel
theorem dX12_part_82 : decode cX12_part 82 = .ok (.if_icmp .ge 8, 3) := by decide +kernel
theorem dX12_part_85 : decode cX12_part 85 = .ok (.iload 5, 2) := by decide +kernel
theorem dX12_part_87 : decode cX12_part 87 = .ok (.goto 5, 3) := by decide +kernel
theorem dX12_part_90 : decode cX12_part 90 = .ok (.iload 4, 2) := by decide +kernel
theorem dX12_part_92 : decode cX12_part 92 = .ok (.istore 4, 2) := by decide +kernel
theorem dX12_part_94 : decode cX12_part 94 = .ok (.iinc 5 1, 3) := by decide +kernel
theorem dX12_part_97 : decode cX12_part 97 = .ok (.goto (-36), 3) := by decide +kernel
theorem dX12_part_100 : decode cX12_part 100 = .ok (.iload 4, 2) := by decide +kernel
theorem dX12_part_102 : decode cX12_part 102 = .ok (.ireturn, 1) := by decide +kernel
theorem dX12_line_0 : decode cX12_line 0 = .ok (.aload_n 0, 1) := by decide +kernel
theorem dX12_line_1 : decode cX12_line 1 = .ok (.iconst 0, 1) := by decide +kernel
theorem dX12_line_2 : decode cX12_line 2 = .ok (.putfield 107, 3) := by decide +kernel
theorem dX12_line_5 : decode cX12_line 5 = .ok (.aload_n 0, 1) := by decide +kernel
theorem dX12_line_6 : decode cX12_line 6 = .ok (.iload_n 1, 1) := by decide +kernel
theorem dX12_line_7 : decode cX12_line 7 = .ok (.invokevirtual 346, 3) := by decide +kernel
theorem dX12_line_10 : decode cX12_line 10 = .ok (.ifCond .ne 5, 3) := by decide +kernel
theorem dX12_line_13 : decode cX12_line 13 = .ok (.iconst (-1), 1) := by decide +kernel
theorem dX12_line_14 : decode cX12_line 14 = .ok (.ireturn, 1) := by decide +kernel
theorem dX12_line_15 : decode cX12_line 15 = .ok (.iconst 0, 1) := by decide +kernel
theorem dX12_line_16 : decode cX12_line 16 = .ok (.istore_n 2, 1) := by decide +kernel
theorem dX12_line_17 : decode cX12_line 17 = .ok (.iconst 0, 1) := by decide +kernel
theorem dX12_line_18 : decode cX12_line 18 = .ok (.istore_n 3, 1) := by decide +kernel
theorem dX12_line_19 : decode cX12_line 19 = .ok (.iload_n 3, 1) := by decide +kernel
theorem dX12_line_20 : decode cX12_line 20 = .ok (.bipush 8, 2) := by decide +kernel
theorem dX12_line_22 : decode cX12_line 22 = .ok (.if_icmp .ge 99, 3) := by decide +kernel
theorem dX12_line_25 : decode cX12_line 25 = .ok (.iconst 0, 1) := by decide +kernel
theorem dX12_line_26 : decode cX12_line 26 = .ok (.istore 4, 2) := by decide +kernel
theorem dX12_line_28 : decode cX12_line 28 = .ok (.iconst 0, 1) := by decide +kernel
theorem dX12_line_29 : decode cX12_line 29 = .ok (.istore 5, 2) := by decide +kernel
theorem dX12_line_31 : decode cX12_line 31 = .ok (.iconst 0, 1) := by decide +kernel
theorem dX12_line_32 : decode cX12_line 32 = .ok (.istore 6, 2) := by decide +kernel
theorem dX12_line_34 : decode cX12_line 34 = .ok (.iload 6, 2) := by decide +kernel
theorem dX12_line_36 : decode cX12_line 36 = .ok (.aload_n 0, 1) := by decide +kernel
theorem dX12_line_37 : decode cX12_line 37 = .ok (.getfield 337, 3) := by decide +kernel
theorem dX12_line_40 : decode cX12_line 40 = .ok (.if_icmp .ge 63, 3) := by decide +kernel
theorem dX12_line_43 : decode cX12_line 43 = .ok (.iload 4, 2) := by decide +kernel
theorem dX12_line_45 : decode cX12_line 45 = .ok (.aload_n 0, 1) := by decide +kernel
theorem dX12_line_46 : decode cX12_line 46 = .ok (.bipush 27, 2) := by decide +kernel
theorem dX12_line_48 : decode cX12_line 48 = .ok (.iload 6, 2) := by decide +kernel
theorem dX12_line_50 : decode cX12_line 50 = .ok (.invokevirtual 352, 3) := by decide +kernel
theorem dX12_line_53 : decode cX12_line 53 = .ok (.aload_n 0, 1) := by decide +kernel
theorem dX12_line_54 : decode cX12_line 54 = .ok (.getfield 328, 3) := by decide +kernel
theorem dX12_line_57 : decode cX12_line 57 = .ok (.irem, 1) := by decide +kernel
theorem dX12_line_58 : decode cX12_line 58 = .ok (.iload_n 3, 1) := by decide +kernel
theorem dX12_line_59 : decode cX12_line 59 = .ok (.if_icmp .ne 7, 3) := by decide +kernel
theorem dX12_line_62 : decode cX12_line 62 = .ok (.iconst 1, 1) := by decide +kernel
theorem dX12_line_63 : decode cX12_line 63 = .ok (.goto 4, 3) := by decide +kernel
theorem dX12_line_66 : decode cX12_line 66 = .ok (.iconst 0, 1) := by decide +kernel
theorem dX12_line_67 : decode cX12_line 67 = .ok (.iadd, 1) := by decide +kernel
theorem dX12_line_68 : decode cX12_line 68 = .ok (.istore 4, 2) := by decide +kernel
theorem dX12_line_70 : decode cX12_line 70 = .ok (.iload 5, 2) := by decide +kernel
theorem dX12_line_72 : decode cX12_line 72 = .ok (.aload_n 0, 1) := by decide +kernel
theorem dX12_line_73 : decode cX12_line 73 = .ok (.bipush 27, 2) := by decide +kernel
theorem dX12_line_75 : decode cX12_line 75 = .ok (.iload 6, 2) := by decide +kernel
theorem dX12_line_77 : decode cX12_line 77 = .ok (.invokevirtual 352, 3) := by decide +kernel
theorem dX12_line_80 : decode cX12_line 80 = .ok (.aload_n 0, 1) := by decide +kernel
theorem dX12_line_81 : decode cX12_line 81 = .ok (.getfield 328, 3) := by decide +kernel
theorem dX12_line_84 : decode cX12_line 84 = .ok (.idiv, 1) := by decide +kernel
theorem dX12_line_85 : decode cX12_line 85 = .ok (.iload_n 3, 1) := by decide +kernel
theorem dX12_line_86 : decode cX12_line 86 = .ok (.if_icmp .ne 7, 3) := by decide +kernel
theorem dX12_line_89 : decode cX12_line 89 = .ok (.iconst 1, 1) := by decide +kernel
theorem dX12_line_90 : decode cX12_line 90 = .ok (.goto 4, 3) := by decide +kernel
theorem dX12_line_93 : decode cX12_line 93 = .ok (.iconst 0, 1) := by decide +kernel
theorem dX12_line_94 : decode cX12_line 94 = .ok (.iadd, 1) := by decide +kernel
theorem dX12_line_95 : decode cX12_line 95 = .ok (.istore 5, 2) := by decide +kernel
theorem dX12_line_97 : decode cX12_line 97 = .ok (.iinc 6 1, 3) := by decide +kernel
theorem dX12_line_100 : decode cX12_line 100 = .ok (.goto (-66), 3) := by decide +kernel
theorem dX12_line_103 : decode cX12_line 103 = .ok (.iload_n 2, 1) := by decide +kernel
theorem dX12_line_104 : decode cX12_line 104 = .ok (.iload 4, 2) := by decide +kernel
theorem dX12_line_106 : decode cX12_line 106 = .ok (.iload 5, 2) := by decide +kernel
theorem dX12_line_108 : decode cX12_line 108 = .ok (.invokestatic 180, 3) := by decide +kernel
theorem dX12_line_111 : decode cX12_line 111 = .ok (.invokestatic 180, 3) := by decide +kernel
theorem dX12_line_114 : decode cX12_line 114 = .ok (.istore_n 2, 1) := by decide +kernel
theorem dX12_line_115 : decode cX12_line 115 = .ok (.iinc 3 1, 3) := by decide +kernel
theorem dX12_line_118 : decode cX12_line 118 = .ok (.goto (-99), 3) := by decide +kernel
theorem dX12_line_121 : decode cX12_line 121 = .ok (.iload_n 2, 1) := by decide +kernel
theorem dX12_line_122 : decode cX12_line 122 = .ok (.ireturn, 1) := by decide +kernel
theorem dX12_trialOf_0 : decode cX12_trialOf 0 = .ok (.aload_n 0, 1) := by decide +kernel
theorem dX12_trialOf_1 : decode cX12_trialOf 1 = .ok (.getfield 32, 3) := by decide +kernel
theorem dX12_trialOf_4 : decode cX12_trialOf 4 = .ok (.bipush 39, 2) := by decide +kernel
theorem dX12_trialOf_6 : decode cX12_trialOf 6 = .ok (.aload_n 0, 1) := by decide +kernel
theorem dX12_trialOf_7 : decode cX12_trialOf 7 = .ok (.getfield 514, 3) := by decide +kernel
theorem dX12_trialOf_10 : decode cX12_trialOf 10 = .ok (.imul, 1) := by decide +kernel
theorem dX12_trialOf_11 : decode cX12_trialOf 11 = .ok (.iload_n 1, 1) := by decide +kernel
theorem dX12_trialOf_12 : decode cX12_trialOf 12 = .ok (.iadd, 1) := by decide +kernel
theorem dX12_trialOf_13 : decode cX12_trialOf 13 = .ok (.iaload, 1) := by decide +kernel
theorem dX12_trialOf_14 : decode cX12_trialOf 14 = .ok (.ireturn, 1) := by decide +kernel
theorem dX12_hasTrial_0 : decode cX12_hasTrial 0 = .ok (.aload_n 0, 1) := by decide +kernel
theorem dX12_hasTrial_1 : decode cX12_hasTrial 1 = .ok (.iload_n 1, 1) := by decide +kernel
theorem dX12_hasTrial_2 : decode cX12_hasTrial 2 = .ok (.putfield 514, 3) := by decide +kernel
theorem dX12_hasTrial_5 : decode cX12_hasTrial 5 = .ok (.aload_n 0, 1) := by decide +kernel
theorem dX12_hasTrial_6 : decode cX12_hasTrial 6 = .ok (.iconst 2, 1) := by decide +kernel
theorem dX12_hasTrial_7 : decode cX12_hasTrial 7 = .ok (.iload_n 1, 1) := by decide +kernel
theorem dX12_hasTrial_8 : decode cX12_hasTrial 8 = .ok (.invokevirtual 312, 3) := by decide +kernel
theorem dX12_hasTrial_11 : decode cX12_hasTrial 11 = .ok (.ireturn, 1) := by decide +kernel
theorem dX12_trial_0 : decode cX12_trial 0 = .ok (.aload_n 0, 1) := by decide +kernel
theorem dX12_trial_1 : decode cX12_trial 1 = .ok (.iconst 0, 1) := by decide +kernel
theorem dX12_trial_2 : decode cX12_trial 2 = .ok (.putfield 107, 3) := by decide +kernel
theorem dX12_trial_5 : decode cX12_trial 5 = .ok (.aload_n 0, 1) := by decide +kernel
theorem dX12_trial_6 : decode cX12_trial 6 = .ok (.iload_n 1, 1) := by decide +kernel
theorem dX12_trial_7 : decode cX12_trial 7 = .ok (.invokevirtual 517, 3) := by decide +kernel
theorem dX12_trial_10 : decode cX12_trial 10 = .ok (.ifCond .ne 6, 3) := by decide +kernel
theorem dX12_trial_13 : decode cX12_trial 13 = .ok (.bipush (-2), 2) := by decide +kernel
theorem dX12_trial_15 : decode cX12_trial 15 = .ok (.ireturn, 1) := by decide +kernel
theorem dX12_trial_16 : decode cX12_trial 16 = .ok (.iconst 0, 1) := by decide +kernel
theorem dX12_trial_17 : decode cX12_trial 17 = .ok (.istore_n 3, 1) := by decide +kernel
theorem dX12_trial_18 : decode cX12_trial 18 = .ok (.iload_n 3, 1) := by decide +kernel
theorem dX12_trial_19 : decode cX12_trial 19 = .ok (.iconst 3, 1) := by decide +kernel
theorem dX12_trial_20 : decode cX12_trial 20 = .ok (.if_icmp .ge 49, 3) := by decide +kernel
theorem dX12_trial_23 : decode cX12_trial 23 = .ok (.iload_n 2, 1) := by decide +kernel
theorem dX12_trial_24 : decode cX12_trial 24 = .ok (.bipush 10, 2) := by decide +kernel
theorem dX12_trial_26 : decode cX12_trial 26 = .ok (.isub, 1) := by decide +kernel
theorem dX12_trial_27 : decode cX12_trial 27 = .ok (.bipush 20, 2) := by decide +kernel
theorem dX12_trial_29 : decode cX12_trial 29 = .ok (.iload_n 3, 1) := by decide +kernel
theorem dX12_trial_30 : decode cX12_trial 30 = .ok (.imul, 1) := by decide +kernel
theorem dX12_trial_31 : decode cX12_trial 31 = .ok (.isub, 1) := by decide +kernel
theorem dX12_trial_32 : decode cX12_trial 32 = .ok (.istore 4, 2) := by decide +kernel
theorem dX12_trial_34 : decode cX12_trial 34 = .ok (.iload 4, 2) := by decide +kernel
theorem dX12_trial_36 : decode cX12_trial 36 = .ok (.iconst 0, 1) := by decide +kernel
theorem dX12_trial_37 : decode cX12_trial 37 = .ok (.aload_n 0, 1) := by decide +kernel
theorem dX12_trial_38 : decode cX12_trial 38 = .ok (.iconst 2, 1) := by decide +kernel
theorem dX12_trial_39 : decode cX12_trial 39 = .ok (.invokevirtual 520, 3) := by decide +kernel
theorem dX12_trial_42 : decode cX12_trial 42 = .ok (.iconst 1, 1) := by decide +kernel
theorem dX12_trial_43 : decode cX12_trial 43 = .ok (.isub, 1) := by decide +kernel
theorem dX12_trial_44 : decode cX12_trial 44 = .ok (.invokestatic 119, 3) := by decide +kernel
theorem dX12_trial_47 : decode cX12_trial 47 = .ok (.ifCond .eq 16, 3) := by decide +kernel
theorem dX12_trial_50 : decode cX12_trial 50 = .ok (.aload_n 0, 1) := by decide +kernel
theorem dX12_trial_51 : decode cX12_trial 51 = .ok (.iconst 3, 1) := by decide +kernel
theorem dX12_trial_52 : decode cX12_trial 52 = .ok (.iconst 3, 1) := by decide +kernel
theorem dX12_trial_53 : decode cX12_trial 53 = .ok (.iload 4, 2) := by decide +kernel
theorem dX12_trial_55 : decode cX12_trial 55 = .ok (.imul, 1) := by decide +kernel
theorem dX12_trial_56 : decode cX12_trial 56 = .ok (.iadd, 1) := by decide +kernel
theorem dX12_trial_57 : decode cX12_trial 57 = .ok (.iload_n 3, 1) := by decide +kernel
theorem dX12_trial_58 : decode cX12_trial 58 = .ok (.iadd, 1) := by decide +kernel
theorem dX12_trial_59 : decode cX12_trial 59 = .ok (.invokevirtual 520, 3) := by decide +kernel
theorem dX12_trial_62 : decode cX12_trial 62 = .ok (.ireturn, 1) := by decide +kernel
theorem dX12_trial_63 : decode cX12_trial 63 = .ok (.iinc 3 1, 3) := by decide +kernel
theorem dX12_trial_66 : decode cX12_trial 66 = .ok (.goto (-48), 3) := by decide +kernel
theorem dX12_trial_69 : decode cX12_trial 69 = .ok (.iload_n 2, 1) := by decide +kernel
theorem dX12_trial_70 : decode cX12_trial 70 = .ok (.iconst 0, 1) := by decide +kernel
theorem dX12_trial_71 : decode cX12_trial 71 = .ok (.iconst 2, 1) := by decide +kernel
theorem dX12_trial_72 : decode cX12_trial 72 = .ok (.invokestatic 119, 3) := by decide +kernel
theorem dX12_trial_75 : decode cX12_trial 75 = .ok (.ifCond .eq 11, 3) := by decide +kernel
theorem dX12_trial_78 : decode cX12_trial 78 = .ok (.aload_n 0, 1) := by decide +kernel
theorem dX12_trial_79 : decode cX12_trial 79 = .ok (.iload_n 2, 1) := by decide +kernel
theorem dX12_trial_80 : decode cX12_trial 80 = .ok (.invokevirtual 520, 3) := by decide +kernel
theorem dX12_trial_83 : decode cX12_trial 83 = .ok (.goto 5, 3) := by decide +kernel
theorem dX12_trial_86 : decode cX12_trial 86 = .ok (.bipush (-2), 2) := by decide +kernel
theorem dX12_trial_88 : decode cX12_trial 88 = .ok (.ireturn, 1) := by decide +kernel
theorem dX12_areMany_0 : decode cX12_areMany 0 = .ok (.aload_n 0, 1) := by decide +kernel
theorem dX12_areMany_1 : decode cX12_areMany 1 = .ok (.iconst 1, 1) := by decide +kernel
theorem dX12_areMany_2 : decode cX12_areMany 2 = .ok (.invokevirtual 520, 3) := by decide +kernel
theorem dX12_areMany_5 : decode cX12_areMany 5 = .ok (.iconst (-1), 1) := by decide +kernel
theorem dX12_areMany_6 : decode cX12_areMany 6 = .ok (.if_icmp .eq 15, 3) := by decide +kernel
theorem dX12_areMany_9 : decode cX12_areMany 9 = .ok (.iload_n 1, 1) := by decide +kernel
theorem dX12_areMany_10 : decode cX12_areMany 10 = .ok (.invokestatic 446, 3) := by decide +kernel
theorem dX12_areMany_13 : decode cX12_areMany 13 = .ok (.aload_n 0, 1) := by decide +kernel
theorem dX12_areMany_14 : decode cX12_areMany 14 = .ok (.iconst 1, 1) := by decide +kernel
theorem dX12_areMany_15 : decode cX12_areMany 15 = .ok (.invokevirtual 520, 3) := by decide +kernel
theorem dX12_areMany_18 : decode cX12_areMany 18 = .ok (.if_icmp .ne 7, 3) := by decide +kernel
theorem dX12_areMany_21 : decode cX12_areMany 21 = .ok (.iconst 1, 1) := by decide +kernel
theorem dX12_areMany_22 : decode cX12_areMany 22 = .ok (.goto 4, 3) := by decide +kernel
theorem dX12_areMany_25 : decode cX12_areMany 25 = .ok (.iconst 0, 1) := by decide +kernel
theorem dX12_areMany_26 : decode cX12_areMany 26 = .ok (.ireturn, 1) := by decide +kernel
theorem dX12_against_0 : decode cX12_against 0 = .ok (.iconst 0, 1) := by decide +kernel
theorem dX12_against_1 : decode cX12_against 1 = .ok (.istore_n 2, 1) := by decide +kernel
theorem dX12_against_2 : decode cX12_against 2 = .ok (.iconst 0, 1) := by decide +kernel
theorem dX12_against_3 : decode cX12_against 3 = .ok (.istore_n 3, 1) := by decide +kernel
theorem dX12_against_4 : decode cX12_against 4 = .ok (.iload_n 3, 1) := by decide +kernel
theorem dX12_against_5 : decode cX12_against 5 = .ok (.aload_n 0, 1) := by decide +kernel
theorem dX12_against_6 : decode cX12_against 6 = .ok (.iconst 2, 1) := by decide +kernel
theorem dX12_against_7 : decode cX12_against 7 = .ok (.invokevirtual 520, 3) := by decide +kernel
theorem dX12_against_10 : decode cX12_against 10 = .ok (.if_icmp .ge 76, 3) := by decide +kernel
theorem dX12_against_13 : decode cX12_against 13 = .ok (.iload_n 1, 1) := by decide +kernel
theorem dX12_against_14 : decode cX12_against 14 = .ok (.aload_n 0, 1) := by decide +kernel
theorem dX12_against_15 : decode cX12_against 15 = .ok (.iconst 5, 1) := by decide +kernel
theorem dX12_against_16 : decode cX12_against 16 = .ok (.iconst 3, 1) := by decide +kernel
theorem dX12_against_17 : decode cX12_against 17 = .ok (.iload_n 3, 1) := by decide +kernel
theorem dX12_against_18 : decode cX12_against 18 = .ok (.imul, 1) := by decide +kernel
theorem dX12_against_19 : decode cX12_against 19 = .ok (.iadd, 1) := by decide +kernel
theorem dX12_against_20 : decode cX12_against 20 = .ok (.invokevirtual 520, 3) := by decide +kernel
theorem dX12_against_23 : decode cX12_against 23 = .ok (.invokestatic 111, 3) := by decide +kernel
theorem dX12_against_26 : decode cX12_against 26 = .ok (.aload_n 0, 1) := by decide +kernel
theorem dX12_against_27 : decode cX12_against 27 = .ok (.iconst 3, 1) := by decide +kernel
theorem dX12_against_28 : decode cX12_against 28 = .ok (.iconst 3, 1) := by decide +kernel
theorem dX12_against_29 : decode cX12_against 29 = .ok (.iload_n 3, 1) := by decide +kernel
theorem dX12_against_30 : decode cX12_against 30 = .ok (.imul, 1) := by decide +kernel
theorem dX12_against_31 : decode cX12_against 31 = .ok (.iadd, 1) := by decide +kernel
theorem dX12_against_32 : decode cX12_against 32 = .ok (.invokevirtual 520, 3) := by decide +kernel
theorem dX12_against_35 : decode cX12_against 35 = .ok (.iconst 1, 1) := by decide +kernel
theorem dX12_against_36 : decode cX12_against 36 = .ok (.if_icmp .ne 7, 3) := by decide +kernel
theorem dX12_against_39 : decode cX12_against 39 = .ok (.iconst 1, 1) := by decide +kernel
theorem dX12_against_40 : decode cX12_against 40 = .ok (.goto 4, 3) := by decide +kernel
theorem dX12_against_43 : decode cX12_against 43 = .ok (.iconst 0, 1) := by decide +kernel
theorem dX12_against_44 : decode cX12_against 44 = .ok (.if_icmp .ne 7, 3) := by decide +kernel
theorem dX12_against_47 : decode cX12_against 47 = .ok (.iconst 1, 1) := by decide +kernel
theorem dX12_against_48 : decode cX12_against 48 = .ok (.goto 4, 3) := by decide +kernel
theorem dX12_against_51 : decode cX12_against 51 = .ok (.iconst 0, 1) := by decide +kernel
theorem dX12_against_52 : decode cX12_against 52 = .ok (.istore 4, 2) := by decide +kernel
theorem dX12_against_54 : decode cX12_against 54 = .ok (.iload_n 2, 1) := by decide +kernel
theorem dX12_against_55 : decode cX12_against 55 = .ok (.iload 4, 2) := by decide +kernel
theorem dX12_against_57 : decode cX12_against 57 = .ok (.iload_n 1, 1) := by decide +kernel
theorem dX12_against_58 : decode cX12_against 58 = .ok (.aload_n 0, 1) := by decide +kernel
theorem dX12_against_59 : decode cX12_against 59 = .ok (.iconst 4, 1) := by decide +kernel
theorem dX12_against_60 : decode cX12_against 60 = .ok (.iconst 3, 1) := by decide +kernel
theorem dX12_against_61 : decode cX12_against 61 = .ok (.iload_n 3, 1) := by decide +kernel
theorem dX12_against_62 : decode cX12_against 62 = .ok (.imul, 1) := by decide +kernel
theorem dX12_against_63 : decode cX12_against 63 = .ok (.iadd, 1) := by decide +kernel
theorem dX12_against_64 : decode cX12_against 64 = .ok (.invokevirtual 520, 3) := by decide +kernel
theorem dX12_against_67 : decode cX12_against 67 = .ok (.invokestatic 111, 3) := by decide +kernel
theorem dX12_against_70 : decode cX12_against 70 = .ok (.if_icmp .ne 7, 3) := by decide +kernel
theorem dX12_against_73 : decode cX12_against 73 = .ok (.iconst 1, 1) := by decide +kernel
theorem dX12_against_74 : decode cX12_against 74 = .ok (.goto 4, 3) := by decide +kernel
theorem dX12_against_77 : decode cX12_against 77 = .ok (.iconst 0, 1) := by decide +kernel
theorem dX12_against_78 : decode cX12_against 78 = .ok (.iadd, 1) := by decide +kernel
theorem dX12_against_79 : decode cX12_against 79 = .ok (.istore_n 2, 1) := by decide +kernel
theorem dX12_against_80 : decode cX12_against 80 = .ok (.iinc 3 1, 3) := by decide +kernel
theorem dX12_against_83 : decode cX12_against 83 = .ok (.goto (-79), 3) := by decide +kernel
theorem dX12_against_86 : decode cX12_against 86 = .ok (.iload_n 2, 1) := by decide +kernel
theorem dX12_against_87 : decode cX12_against 87 = .ok (.ireturn, 1) := by decide +kernel
theorem dX12_findFits_0 : decode cX12_findFits 0 = .ok (.aload_n 0, 1) := by decide +kernel
theorem dX12_findFits_1 : decode cX12_findFits 1 = .ok (.iconst 0, 1) := by decide +kernel
theorem dX12_findFits_2 : decode cX12_findFits 2 = .ok (.putfield 523, 3) := by decide +kernel
theorem dX12_findFits_5 : decode cX12_findFits 5 = .ok (.iconst 0, 1) := by decide +kernel
theorem dX12_findFits_6 : decode cX12_findFits 6 = .ok (.istore_n 1, 1) := by decide +kernel
theorem dX12_findFits_7 : decode cX12_findFits 7 = .ok (.iload_n 1, 1) := by decide +kernel
theorem dX12_findFits_8 : decode cX12_findFits 8 = .ok (.iconst 1, 1) := by decide +kernel
theorem dX12_findFits_9 : decode cX12_findFits 9 = .ok (.aload_n 0, 1) := by decide +kernel
theorem dX12_findFits_10 : decode cX12_findFits 10 = .ok (.iconst 0, 1) := by decide +kernel
theorem dX12_findFits_11 : decode cX12_findFits 11 = .ok (.invokevirtual 520, 3) := by decide +kernel
theorem dX12_findFits_14 : decode cX12_findFits 14 = .ok (.ishl, 1) := by decide +kernel
theorem dX12_findFits_15 : decode cX12_findFits 15 = .ok (.if_icmp .ge 45, 3) := by decide +kernel
theorem dX12_findFits_18 : decode cX12_findFits 18 = .ok (.aload_n 0, 1) := by decide +kernel
theorem dX12_findFits_19 : decode cX12_findFits 19 = .ok (.iload_n 1, 1) := by decide +kernel
theorem dX12_findFits_20 : decode cX12_findFits 20 = .ok (.invokevirtual 526, 3) := by decide +kernel
theorem dX12_findFits_23 : decode cX12_findFits 23 = .ok (.ifCond .eq 31, 3) := by decide +kernel
theorem dX12_findFits_26 : decode cX12_findFits 26 = .ok (.aload_n 0, 1) := by decide +kernel
theorem dX12_findFits_27 : decode cX12_findFits 27 = .ok (.iload_n 1, 1) := by decide +kernel
theorem dX12_findFits_28 : decode cX12_findFits 28 = .ok (.invokevirtual 529, 3) := by decide +kernel
theorem dX12_findFits_31 : decode cX12_findFits 31 = .ok (.ifCond .ne 23, 3) := by decide +kernel
theorem dX12_findFits_34 : decode cX12_findFits 34 = .ok (.aload_n 0, 1) := by decide +kernel
theorem dX12_findFits_35 : decode cX12_findFits 35 = .ok (.getfield 76, 3) := by decide +kernel
theorem dX12_findFits_38 : decode cX12_findFits 38 = .ok (.aload_n 0, 1) := by decide +kernel
theorem dX12_findFits_39 : decode cX12_findFits 39 = .ok (.getfield 523, 3) := by decide +kernel
theorem dX12_findFits_42 : decode cX12_findFits 42 = .ok (.iload_n 1, 1) := by decide +kernel
theorem dX12_findFits_43 : decode cX12_findFits 43 = .ok (.iastore, 1) := by decide +kernel
theorem dX12_findFits_44 : decode cX12_findFits 44 = .ok (.aload_n 0, 1) := by decide +kernel
theorem dX12_findFits_45 : decode cX12_findFits 45 = .ok (.dup, 1) := by decide +kernel
theorem dX12_findFits_46 : decode cX12_findFits 46 = .ok (.getfield 523, 3) := by decide +kernel
theorem dX12_findFits_49 : decode cX12_findFits 49 = .ok (.iconst 1, 1) := by decide +kernel
theorem dX12_findFits_50 : decode cX12_findFits 50 = .ok (.iadd, 1) := by decide +kernel
theorem dX12_findFits_51 : decode cX12_findFits 51 = .ok (.putfield 523, 3) := by decide +kernel
theorem dX12_findFits_54 : decode cX12_findFits 54 = .ok (.iinc 1 1, 3) := by decide +kernel
theorem dX12_findFits_57 : decode cX12_findFits 57 = .ok (.goto (-50), 3) := by decide +kernel
theorem dX12_findFits_60 : decode cX12_findFits 60 = .ok (.return_, 1) := by decide +kernel
theorem dX12_askOf_0 : decode cX12_askOf 0 = .ok (.iconst (-1), 1) := by decide +kernel
theorem dX12_askOf_1 : decode cX12_askOf 1 = .ok (.istore_n 1, 1) := by decide +kernel
theorem dX12_askOf_2 : decode cX12_askOf 2 = .ok (.ldc_w 370, 3) := by decide +kernel
theorem dX12_askOf_5 : decode cX12_askOf 5 = .ok (.istore_n 2, 1) := by decide +kernel
theorem dX12_askOf_6 : decode cX12_askOf 6 = .ok (.iconst 0, 1) := by decide +kernel
theorem dX12_askOf_7 : decode cX12_askOf 7 = .ok (.istore_n 3, 1) := by decide +kernel
theorem dX12_askOf_8 : decode cX12_askOf 8 = .ok (.iload_n 3, 1) := by decide +kernel
theorem dX12_askOf_9 : decode cX12_askOf 9 = .ok (.aload_n 0, 1) := by decide +kernel
theorem dX12_askOf_10 : decode cX12_askOf 10 = .ok (.iconst 0, 1) := by decide +kernel
theorem dX12_askOf_11 : decode cX12_askOf 11 = .ok (.invokevirtual 520, 3) := by decide +kernel
theorem dX12_askOf_14 : decode cX12_askOf 14 = .ok (.if_icmp .ge 124, 3) := by decide +kernel
theorem dX12_askOf_17 : decode cX12_askOf 17 = .ok (.iconst 0, 1) := by decide +kernel
theorem dX12_askOf_18 : decode cX12_askOf 18 = .ok (.istore 4, 2) := by decide +kernel
theorem dX12_askOf_20 : decode cX12_askOf 20 = .ok (.iload 4, 2) := by decide +kernel
theorem dX12_askOf_22 : decode cX12_askOf 22 = .ok (.aload_n 0, 1) := by decide +kernel
theorem dX12_askOf_23 : decode cX12_askOf 23 = .ok (.iconst 0, 1) := by decide +kernel
theorem dX12_askOf_24 : decode cX12_askOf 24 = .ok (.invokevirtual 520, 3) := by decide +kernel
theorem dX12_askOf_27 : decode cX12_askOf 27 = .ok (.if_icmp .ge 105, 3) := by decide +kernel
theorem dX12_askOf_30 : decode cX12_askOf 30 = .ok (.iconst 0, 1) := by decide +kernel
theorem dX12_askOf_31 : decode cX12_askOf 31 = .ok (.istore 5, 2) := by decide +kernel
theorem dX12_askOf_33 : decode cX12_askOf 33 = .ok (.iconst 0, 1) := by decide +kernel
theorem dX12_askOf_34 : decode cX12_askOf 34 = .ok (.istore 6, 2) := by decide +kernel
theorem dX12_askOf_36 : decode cX12_askOf 36 = .ok (.iload 6, 2) := by decide +kernel
theorem dX12_askOf_38 : decode cX12_askOf 38 = .ok (.aload_n 0, 1) := by decide +kernel
theorem dX12_askOf_39 : decode cX12_askOf 39 = .ok (.getfield 523, 3) := by decide +kernel
theorem dX12_askOf_42 : decode cX12_askOf 42 = .ok (.if_icmp .ge 45, 3) := by decide +kernel
theorem dX12_askOf_45 : decode cX12_askOf 45 = .ok (.iload 5, 2) := by decide +kernel
theorem dX12_askOf_47 : decode cX12_askOf 47 = .ok (.aload_n 0, 1) := by decide +kernel
theorem dX12_askOf_48 : decode cX12_askOf 48 = .ok (.getfield 76, 3) := by decide +kernel
theorem dX12_askOf_51 : decode cX12_askOf 51 = .ok (.iload 6, 2) := by decide +kernel
theorem dX12_askOf_53 : decode cX12_askOf 53 = .ok (.iaload, 1) := by decide +kernel
theorem dX12_askOf_54 : decode cX12_askOf 54 = .ok (.iload 4, 2) := by decide +kernel
theorem dX12_askOf_56 : decode cX12_askOf 56 = .ok (.invokestatic 111, 3) := by decide +kernel
theorem dX12_askOf_59 : decode cX12_askOf 59 = .ok (.aload_n 0, 1) := by decide +kernel
theorem dX12_askOf_60 : decode cX12_askOf 60 = .ok (.getfield 76, 3) := by decide +kernel
theorem dX12_askOf_63 : decode cX12_askOf 63 = .ok (.iload 6, 2) := by decide +kernel
theorem dX12_askOf_65 : decode cX12_askOf 65 = .ok (.iaload, 1) := by decide +kernel
theorem dX12_askOf_66 : decode cX12_askOf 66 = .ok (.iload_n 3, 1) := by decide +kernel
theorem dX12_askOf_67 : decode cX12_askOf 67 = .ok (.invokestatic 111, 3) := by decide +kernel
theorem dX12_askOf_70 : decode cX12_askOf 70 = .ok (.if_icmp .eq 7, 3) := by decide +kernel
theorem dX12_askOf_73 : decode cX12_askOf 73 = .ok (.iconst 1, 1) := by decide +kernel
theorem dX12_askOf_74 : decode cX12_askOf 74 = .ok (.goto 4, 3) := by decide +kernel
theorem dX12_askOf_77 : decode cX12_askOf 77 = .ok (.iconst 0, 1) := by decide +kernel
theorem dX12_askOf_78 : decode cX12_askOf 78 = .ok (.iadd, 1) := by decide +kernel
theorem dX12_askOf_79 : decode cX12_askOf 79 = .ok (.istore 5, 2) := by decide +kernel
theorem dX12_askOf_81 : decode cX12_askOf 81 = .ok (.iinc 6 1, 3) := by decide +kernel
theorem dX12_askOf_84 : decode cX12_askOf 84 = .ok (.goto (-48), 3) := by decide +kernel
theorem dX12_askOf_87 : decode cX12_askOf 87 = .ok (.iload 5, 2) := by decide +kernel
theorem dX12_askOf_89 : decode cX12_askOf 89 = .ok (.aload_n 0, 1) := by decide +kernel
theorem dX12_askOf_90 : decode cX12_askOf 90 = .ok (.getfield 523, 3) := by decide +kernel
theorem dX12_askOf_93 : decode cX12_askOf 93 = .ok (.iload 5, 2) := by decide +kernel
theorem dX12_askOf_95 : decode cX12_askOf 95 = .ok (.isub, 1) := by decide +kernel
theorem dX12_askOf_96 : decode cX12_askOf 96 = .ok (.invokestatic 180, 3) := by decide +kernel
theorem dX12_askOf_99 : decode cX12_askOf 99 = .ok (.istore 6, 2) := by decide +kernel
theorem dX12_askOf_101 : decode cX12_askOf 101 = .ok (.iload 6, 2) := by decide +kernel
theorem dX12_askOf_103 : decode cX12_askOf 103 = .ok (.iload_n 2, 1) := by decide +kernel
theorem dX12_askOf_104 : decode cX12_askOf 104 = .ok (.if_icmp .ge 13, 3) := by decide +kernel
theorem dX12_askOf_107 : decode cX12_askOf 107 = .ok (.bipush 8, 2) := by decide +kernel
theorem dX12_askOf_109 : decode cX12_askOf 109 = .ok (.iload_n 3, 1) := by decide +kernel
theorem dX12_askOf_110 : decode cX12_askOf 110 = .ok (.imul, 1) := by decide +kernel
theorem dX12_askOf_111 : decode cX12_askOf 111 = .ok (.iload 4, 2) := by decide +kernel
theorem dX12_askOf_113 : decode cX12_askOf 113 = .ok (.iadd, 1) := by decide +kernel
theorem dX12_askOf_114 : decode cX12_askOf 114 = .ok (.goto 4, 3) := by decide +kernel
theorem dX12_askOf_117 : decode cX12_askOf 117 = .ok (.iload_n 1, 1) := by decide +kernel
theorem dX12_askOf_118 : decode cX12_askOf 118 = .ok (.istore_n 1, 1) := by decide +kernel
theorem dX12_askOf_119 : decode cX12_askOf 119 = .ok (.iload_n 2, 1) := by decide +kernel
theorem dX12_askOf_120 : decode cX12_askOf 120 = .ok (.iload 6, 2) := by decide +kernel
theorem dX12_askOf_122 : decode cX12_askOf 122 = .ok (.invokestatic 476, 3) := by decide +kernel
theorem dX12_askOf_125 : decode cX12_askOf 125 = .ok (.istore_n 2, 1) := by decide +kernel
theorem dX12_askOf_126 : decode cX12_askOf 126 = .ok (.iinc 4 1, 3) := by decide +kernel
theorem dX12_askOf_129 : decode cX12_askOf 129 = .ok (.goto (-109), 3) := by decide +kernel
theorem dX12_askOf_132 : decode cX12_askOf 132 = .ok (.iinc 3 1, 3) := by decide +kernel
theorem dX12_askOf_135 : decode cX12_askOf 135 = .ok (.goto (-127), 3) := by decide +kernel
theorem dX12_askOf_138 : decode cX12_askOf 138 = .ok (.iload_n 1, 1) := by decide +kernel
theorem dX12_askOf_139 : decode cX12_askOf 139 = .ok (.ireturn, 1) := by decide +kernel
theorem dX12_broken_0 : decode cX12_broken 0 = .ok (.iconst (-1), 1) := by decide +kernel
theorem dX12_broken_1 : decode cX12_broken 1 = .ok (.istore_n 2, 1) := by decide +kernel
theorem dX12_broken_2 : decode cX12_broken 2 = .ok (.iconst 0, 1) := by decide +kernel
theorem dX12_broken_3 : decode cX12_broken 3 = .ok (.istore_n 3, 1) := by decide +kernel
theorem dX12_broken_4 : decode cX12_broken 4 = .ok (.iload_n 3, 1) := by decide +kernel
theorem dX12_broken_5 : decode cX12_broken 5 = .ok (.iconst 1, 1) := by decide +kernel
theorem dX12_broken_6 : decode cX12_broken 6 = .ok (.aload_n 0, 1) := by decide +kernel
theorem dX12_broken_7 : decode cX12_broken 7 = .ok (.iconst 0, 1) := by decide +kernel
theorem dX12_broken_8 : decode cX12_broken 8 = .ok (.invokevirtual 520, 3) := by decide +kernel
theorem dX12_broken_11 : decode cX12_broken 11 = .ok (.ishl, 1) := by decide +kernel
theorem dX12_broken_12 : decode cX12_broken 12 = .ok (.if_icmp .ge 41, 3) := by decide +kernel
theorem dX12_broken_15 : decode cX12_broken 15 = .ok (.aload_n 0, 1) := by decide +kernel
theorem dX12_broken_16 : decode cX12_broken 16 = .ok (.iload_n 3, 1) := by decide +kernel
theorem dX12_broken_17 : decode cX12_broken 17 = .ok (.invokevirtual 526, 3) := by decide +kernel
theorem dX12_broken_20 : decode cX12_broken 20 = .ok (.ifCond .eq 25, 3) := by decide +kernel
theorem dX12_broken_23 : decode cX12_broken 23 = .ok (.iload_n 2, 1) := by decide +kernel
theorem dX12_broken_24 : decode cX12_broken 24 = .ok (.iconst (-1), 1) := by decide +kernel
theorem dX12_broken_25 : decode cX12_broken 25 = .ok (.if_icmp .eq 16, 3) := by decide +kernel
theorem dX12_broken_28 : decode cX12_broken 28 = .ok (.aload_n 0, 1) := by decide +kernel
theorem dX12_broken_29 : decode cX12_broken 29 = .ok (.iload_n 3, 1) := by decide +kernel
theorem dX12_broken_30 : decode cX12_broken 30 = .ok (.invokevirtual 529, 3) := by decide +kernel
theorem dX12_broken_33 : decode cX12_broken 33 = .ok (.aload_n 0, 1) := by decide +kernel
theorem dX12_broken_34 : decode cX12_broken 34 = .ok (.iload_n 2, 1) := by decide +kernel
theorem dX12_broken_35 : decode cX12_broken 35 = .ok (.invokevirtual 529, 3) := by decide +kernel
theorem dX12_broken_38 : decode cX12_broken 38 = .ok (.if_icmp .ge 7, 3) := by decide +kernel
theorem dX12_broken_41 : decode cX12_broken 41 = .ok (.iload_n 3, 1) := by decide +kernel
theorem dX12_broken_42 : decode cX12_broken 42 = .ok (.goto 4, 3) := by decide +kernel
theorem dX12_broken_45 : decode cX12_broken 45 = .ok (.iload_n 2, 1) := by decide +kernel
theorem dX12_broken_46 : decode cX12_broken 46 = .ok (.istore_n 2, 1) := by decide +kernel
theorem dX12_broken_47 : decode cX12_broken 47 = .ok (.iinc 3 1, 3) := by decide +kernel
theorem dX12_broken_50 : decode cX12_broken 50 = .ok (.goto (-46), 3) := by decide +kernel
theorem dX12_broken_53 : decode cX12_broken 53 = .ok (.iload_n 2, 1) := by decide +kernel
theorem dX12_broken_54 : decode cX12_broken 54 = .ok (.iconst (-1), 1) := by decide +kernel
theorem dX12_broken_55 : decode cX12_broken 55 = .ok (.if_icmp .eq 7, 3) := by decide +kernel
theorem dX12_broken_58 : decode cX12_broken 58 = .ok (.iload_n 1, 1) := by decide +kernel
theorem dX12_broken_59 : decode cX12_broken 59 = .ok (.ifCond .eq 7, 3) := by decide +kernel
theorem dX12_broken_62 : decode cX12_broken 62 = .ok (.iload_n 2, 1) := by decide +kernel
theorem dX12_broken_63 : decode cX12_broken 63 = .ok (.goto 8, 3) := by decide +kernel
theorem dX12_broken_66 : decode cX12_broken 66 = .ok (.aload_n 0, 1) := by decide +kernel
theorem dX12_broken_67 : decode cX12_broken 67 = .ok (.iload_n 2, 1) := by decide +kernel
theorem dX12_broken_68 : decode cX12_broken 68 = .ok (.invokevirtual 529, 3) := by decide +kernel
theorem dX12_broken_71 : decode cX12_broken 71 = .ok (.ireturn, 1) := by decide +kernel
theorem dX12_common_0 : decode cX12_common 0 = .ok (.iconst 1, 1) := by decide +kernel
theorem dX12_common_1 : decode cX12_common 1 = .ok (.aload_n 0, 1) := by decide +kernel
theorem dX12_common_2 : decode cX12_common 2 = .ok (.iconst 0, 1) := by decide +kernel
theorem dX12_common_3 : decode cX12_common 3 = .ok (.invokevirtual 520, 3) := by decide +kernel
theorem dX12_common_6 : decode cX12_common 6 = .ok (.ishl, 1) := by decide +kernel
theorem dX12_common_7 : decode cX12_common 7 = .ok (.iconst 1, 1) := by decide +kernel
theorem dX12_common_8 : decode cX12_common 8 = .ok (.isub, 1) := by decide +kernel
theorem dX12_common_9 : decode cX12_common 9 = .ok (.istore_n 2, 1) := by decide +kernel
theorem dX12_common_10 : decode cX12_common 10 = .ok (.iconst 0, 1) := by decide +kernel
theorem dX12_common_11 : decode cX12_common 11 = .ok (.istore_n 3, 1) := by decide +kernel
theorem dX12_common_12 : decode cX12_common 12 = .ok (.iload_n 3, 1) := by decide +kernel
theorem dX12_common_13 : decode cX12_common 13 = .ok (.aload_n 0, 1) := by decide +kernel
theorem dX12_common_14 : decode cX12_common 14 = .ok (.getfield 523, 3) := by decide +kernel
theorem dX12_common_17 : decode cX12_common 17 = .ok (.if_icmp .ge 33, 3) := by decide +kernel
theorem dX12_common_20 : decode cX12_common 20 = .ok (.iload_n 2, 1) := by decide +kernel
theorem dX12_common_21 : decode cX12_common 21 = .ok (.iload_n 1, 1) := by decide +kernel
theorem dX12_common_22 : decode cX12_common 22 = .ok (.ifCond .eq 12, 3) := by decide +kernel
theorem dX12_common_25 : decode cX12_common 25 = .ok (.aload_n 0, 1) := by decide +kernel
theorem dX12_common_26 : decode cX12_common 26 = .ok (.getfield 76, 3) := by decide +kernel
theorem dX12_common_29 : decode cX12_common 29 = .ok (.iload_n 3, 1) := by decide +kernel
theorem dX12_common_30 : decode cX12_common 30 = .ok (.iaload, 1) := by decide +kernel
theorem dX12_common_31 : decode cX12_common 31 = .ok (.goto 11, 3) := by decide +kernel
theorem dX12_common_34 : decode cX12_common 34 = .ok (.aload_n 0, 1) := by decide +kernel
theorem dX12_common_35 : decode cX12_common 35 = .ok (.getfield 76, 3) := by decide +kernel
theorem dX12_common_38 : decode cX12_common 38 = .ok (.iload_n 3, 1) := by decide +kernel
theorem dX12_common_39 : decode cX12_common 39 = .ok (.iaload, 1) := by decide +kernel
theorem dX12_common_40 : decode cX12_common 40 = .ok (.iconst (-1), 1) := by decide +kernel
theorem dX12_common_41 : decode cX12_common 41 = .ok (.ixor, 1) := by decide +kernel
theorem dX12_common_42 : decode cX12_common 42 = .ok (.iand, 1) := by decide +kernel
theorem dX12_common_43 : decode cX12_common 43 = .ok (.istore_n 2, 1) := by decide +kernel
theorem dX12_common_44 : decode cX12_common 44 = .ok (.iinc 3 1, 3) := by decide +kernel
theorem dX12_common_47 : decode cX12_common 47 = .ok (.goto (-35), 3) := by decide +kernel
theorem dX12_common_50 : decode cX12_common 50 = .ok (.iload_n 2, 1) := by decide +kernel
theorem dX12_common_51 : decode cX12_common 51 = .ok (.ireturn, 1) := by decide +kernel
theorem dX12_thieves_0 : decode cX12_thieves 0 = .ok (.aload_n 0, 1) := by decide +kernel
theorem dX12_thieves_1 : decode cX12_thieves 1 = .ok (.iconst 0, 1) := by decide +kernel
theorem dX12_thieves_2 : decode cX12_thieves 2 = .ok (.putfield 107, 3) := by decide +kernel
theorem dX12_thieves_5 : decode cX12_thieves 5 = .ok (.aload_n 0, 1) := by decide +kernel
theorem dX12_thieves_6 : decode cX12_thieves 6 = .ok (.iload_n 1, 1) := by decide +kernel
theorem dX12_thieves_7 : decode cX12_thieves 7 = .ok (.invokevirtual 517, 3) := by decide +kernel
theorem dX12_thieves_10 : decode cX12_thieves 10 = .ok (.ifCond .ne 6, 3) := by decide +kernel
theorem dX12_thieves_13 : decode cX12_thieves 13 = .ok (.bipush (-2), 2) := by decide +kernel
theorem dX12_thieves_15 : decode cX12_thieves 15 = .ok (.ireturn, 1) := by decide +kernel
theorem dX12_thieves_16 : decode cX12_thieves 16 = .ok (.aload_n 0, 1) := by decide +kernel
theorem dX12_thieves_17 : decode cX12_thieves 17 = .ok (.invokevirtual 532, 3) := by decide +kernel
theorem dX12_thieves_20 : decode cX12_thieves 20 = .ok (.iload_n 2, 1) := by decide +kernel
theorem dX12_thieves_21 : decode cX12_thieves 21 = .ok (.bipush 10, 2) := by decide +kernel
theorem dX12_thieves_23 : decode cX12_thieves 23 = .ok (.if_icmp .lt 29, 3) := by decide +kernel
theorem dX12_thieves_26 : decode cX12_thieves 26 = .ok (.iload_n 2, 1) := by decide +kernel
theorem dX12_thieves_27 : decode cX12_thieves 27 = .ok (.bipush 10, 2) := by decide +kernel
theorem dX12_thieves_29 : decode cX12_thieves 29 = .ok (.isub, 1) := by decide +kernel
theorem dX12_thieves_30 : decode cX12_thieves 30 = .ok (.aload_n 0, 1) := by decide +kernel
theorem dX12_thieves_31 : decode cX12_thieves 31 = .ok (.getfield 523, 3) := by decide +kernel
theorem dX12_thieves_34 : decode cX12_thieves 34 = .ok (.if_icmp .ge 15, 3) := by decide +kernel
theorem dX12_thieves_37 : decode cX12_thieves 37 = .ok (.aload_n 0, 1) := by decide +kernel
theorem dX12_thieves_38 : decode cX12_thieves 38 = .ok (.getfield 76, 3) := by decide +kernel
theorem dX12_thieves_41 : decode cX12_thieves 41 = .ok (.iload_n 2, 1) := by decide +kernel
theorem dX12_thieves_42 : decode cX12_thieves 42 = .ok (.bipush 10, 2) := by decide +kernel
theorem dX12_thieves_44 : decode cX12_thieves 44 = .ok (.isub, 1) := by decide +kernel
theorem dX12_thieves_45 : decode cX12_thieves 45 = .ok (.iaload, 1) := by decide +kernel
theorem dX12_thieves_46 : decode cX12_thieves 46 = .ok (.goto 5, 3) := by decide +kernel
theorem dX12_thieves_49 : decode cX12_thieves 49 = .ok (.bipush (-2), 2) := by decide +kernel
theorem dX12_thieves_51 : decode cX12_thieves 51 = .ok (.ireturn, 1) := by decide +kernel
theorem dX12_thieves_52 : decode cX12_thieves 52 = .ok (.iload_n 2, 1) := by decide +kernel
theorem dX12_thieves_53 : decode cX12_thieves 53 = .ok (.iconst 1, 1) := by decide +kernel
theorem dX12_thieves_54 : decode cX12_thieves 54 = .ok (.iconst 3, 1) := by decide +kernel
theorem dX12_thieves_55 : decode cX12_thieves 55 = .ok (.invokestatic 119, 3) := by decide +kernel
theorem dX12_thieves_58 : decode cX12_thieves 58 = .ok (.ifCond .eq 12, 3) := by decide +kernel
theorem dX12_thieves_61 : decode cX12_thieves 61 = .ok (.aload_n 0, 1) := by decide +kernel
theorem dX12_thieves_62 : decode cX12_thieves 62 = .ok (.getfield 523, 3) := by decide +kernel
theorem dX12_thieves_65 : decode cX12_thieves 65 = .ok (.ifCond .ne 5, 3) := by decide +kernel
theorem dX12_thieves_68 : decode cX12_thieves 68 = .ok (.iconst (-1), 1) := by decide +kernel
theorem dX12_thieves_69 : decode cX12_thieves 69 = .ok (.ireturn, 1) := by decide +kernel
theorem dX12_thieves_70 : decode cX12_thieves 70 = .ok (.iload_n 2, 1) := by decide +kernel
theorem dX12_thieves_71 : decode cX12_thieves 71 = .ok (.tableswitch 71 0 5 #[37, 42, 48, 54, 59, 65], 37) := by decide +kernel
theorem dX12_thieves_108 : decode cX12_thieves 108 = .ok (.aload_n 0, 1) := by decide +kernel
theorem dX12_thieves_109 : decode cX12_thieves 109 = .ok (.getfield 523, 3) := by decide +kernel
theorem dX12_thieves_112 : decode cX12_thieves 112 = .ok (.ireturn, 1) := by decide +kernel
theorem dX12_thieves_113 : decode cX12_thieves 113 = .ok (.aload_n 0, 1) := by decide +kernel
theorem dX12_thieves_114 : decode cX12_thieves 114 = .ok (.iconst 1, 1) := by decide +kernel
theorem dX12_thieves_115 : decode cX12_thieves 115 = .ok (.invokevirtual 535, 3) := by decide +kernel
theorem dX12_thieves_118 : decode cX12_thieves 118 = .ok (.ireturn, 1) := by decide +kernel
theorem dX12_thieves_119 : decode cX12_thieves 119 = .ok (.aload_n 0, 1) := by decide +kernel
theorem dX12_thieves_120 : decode cX12_thieves 120 = .ok (.iconst 0, 1) := by decide +kernel
theorem dX12_thieves_121 : decode cX12_thieves 121 = .ok (.invokevirtual 535, 3) := by decide +kernel
theorem dX12_thieves_124 : decode cX12_thieves 124 = .ok (.ireturn, 1) := by decide +kernel
theorem dX12_thieves_125 : decode cX12_thieves 125 = .ok (.aload_n 0, 1) := by decide +kernel
theorem dX12_thieves_126 : decode cX12_thieves 126 = .ok (.invokevirtual 539, 3) := by decide +kernel
theorem dX12_thieves_129 : decode cX12_thieves 129 = .ok (.ireturn, 1) := by decide +kernel
theorem dX12_thieves_130 : decode cX12_thieves 130 = .ok (.aload_n 0, 1) := by decide +kernel
theorem dX12_thieves_131 : decode cX12_thieves 131 = .ok (.iconst 0, 1) := by decide +kernel
theorem dX12_thieves_132 : decode cX12_thieves 132 = .ok (.invokevirtual 542, 3) := by decide +kernel
theorem dX12_thieves_135 : decode cX12_thieves 135 = .ok (.ireturn, 1) := by decide +kernel
theorem dX12_thieves_136 : decode cX12_thieves 136 = .ok (.aload_n 0, 1) := by decide +kernel
theorem dX12_thieves_137 : decode cX12_thieves 137 = .ok (.iconst 1, 1) := by decide +kernel
theorem dX12_thieves_138 : decode cX12_thieves 138 = .ok (.invokevirtual 542, 3) := by decide +kernel
theorem dX12_thieves_141 : decode cX12_thieves 141 = .ok (.ireturn, 1) := by decide +kernel
theorem dX12_thieves_142 : decode cX12_thieves 142 = .ok (.bipush (-2), 2) := by decide +kernel
theorem dX12_thieves_144 : decode cX12_thieves 144 = .ok (.ireturn, 1) := by decide +kernel
theorem dX12_facts_0 : decode cX12_facts 0 = .ok (.aload_n 0, 1) := by decide +kernel
theorem dX12_facts_1 : decode cX12_facts 1 = .ok (.getfield 35, 3) := by decide +kernel
theorem dX12_facts_4 : decode cX12_facts 4 = .ok (.bipush 31, 2) := by decide +kernel
theorem dX12_facts_6 : decode cX12_facts 6 = .ok (.aload_n 0, 1) := by decide +kernel
theorem dX12_facts_7 : decode cX12_facts 7 = .ok (.getfield 545, 3) := by decide +kernel
theorem dX12_facts_10 : decode cX12_facts 10 = .ok (.imul, 1) := by decide +kernel
theorem dX12_facts_11 : decode cX12_facts 11 = .ok (.iaload, 1) := by decide +kernel
theorem dX12_facts_12 : decode cX12_facts 12 = .ok (.ireturn, 1) := by decide +kernel
theorem dX12_factOf_0 : decode cX12_factOf 0 = .ok (.aload_n 0, 1) := by decide +kernel
theorem dX12_factOf_1 : decode cX12_factOf 1 = .ok (.getfield 35, 3) := by decide +kernel
theorem dX12_factOf_4 : decode cX12_factOf 4 = .ok (.bipush 31, 2) := by decide +kernel
theorem dX12_factOf_6 : decode cX12_factOf 6 = .ok (.aload_n 0, 1) := by decide +kernel
theorem dX12_factOf_7 : decode cX12_factOf 7 = .ok (.getfield 545, 3) := by decide +kernel
theorem dX12_factOf_10 : decode cX12_factOf 10 = .ok (.imul, 1) := by decide +kernel
theorem dX12_factOf_11 : decode cX12_factOf 11 = .ok (.iconst 1, 1) := by decide +kernel
theorem dX12_factOf_12 : decode cX12_factOf 12 = .ok (.iadd, 1) := by decide +kernel
theorem dX12_factOf_13 : decode cX12_factOf 13 = .ok (.iconst 3, 1) := by decide +kernel
theorem dX12_factOf_14 : decode cX12_factOf 14 = .ok (.iload_n 1, 1) := by decide +kernel
theorem dX12_factOf_15 : decode cX12_factOf 15 = .ok (.imul, 1) := by decide +kernel
theorem dX12_factOf_16 : decode cX12_factOf 16 = .ok (.iadd, 1) := by decide +kernel
theorem dX12_factOf_17 : decode cX12_factOf 17 = .ok (.iload_n 2, 1) := by decide +kernel
theorem dX12_factOf_18 : decode cX12_factOf 18 = .ok (.iadd, 1) := by decide +kernel
theorem dX12_factOf_19 : decode cX12_factOf 19 = .ok (.iaload, 1) := by decide +kernel
theorem dX12_factOf_20 : decode cX12_factOf 20 = .ok (.ireturn, 1) := by decide +kernel
theorem dX12_hasSight_0 : decode cX12_hasSight 0 = .ok (.aload_n 0, 1) := by decide +kernel
theorem dX12_hasSight_1 : decode cX12_hasSight 1 = .ok (.iload_n 1, 1) := by decide +kernel
theorem dX12_hasSight_2 : decode cX12_hasSight 2 = .ok (.putfield 545, 3) := by decide +kernel
theorem dX12_hasSight_5 : decode cX12_hasSight 5 = .ok (.aload_n 0, 1) := by decide +kernel
theorem dX12_hasSight_6 : decode cX12_hasSight 6 = .ok (.iconst 3, 1) := by decide +kernel
theorem dX12_hasSight_7 : decode cX12_hasSight 7 = .ok (.iload_n 1, 1) := by decide +kernel
theorem dX12_hasSight_8 : decode cX12_hasSight 8 = .ok (.invokevirtual 312, 3) := by decide +kernel
theorem dX12_hasSight_11 : decode cX12_hasSight 11 = .ok (.ireturn, 1) := by decide +kernel
theorem dX12_fact_0 : decode cX12_fact 0 = .ok (.aload_n 0, 1) := by decide +kernel
theorem dX12_fact_1 : decode cX12_fact 1 = .ok (.iconst 0, 1) := by decide +kernel
theorem dX12_fact_2 : decode cX12_fact 2 = .ok (.putfield 107, 3) := by decide +kernel
theorem dX12_fact_5 : decode cX12_fact 5 = .ok (.aload_n 0, 1) := by decide +kernel
theorem dX12_fact_6 : decode cX12_fact 6 = .ok (.iload_n 1, 1) := by decide +kernel
theorem dX12_fact_7 : decode cX12_fact 7 = .ok (.invokevirtual 548, 3) := by decide +kernel
theorem dX12_fact_10 : decode cX12_fact 10 = .ok (.ifCond .ne 6, 3) := by decide +kernel
theorem dX12_fact_13 : decode cX12_fact 13 = .ok (.bipush (-2), 2) := by decide +kernel
theorem dX12_fact_15 : decode cX12_fact 15 = .ok (.ireturn, 1) := by decide +kernel
theorem dX12_fact_16 : decode cX12_fact 16 = .ok (.iload_n 2, 1) := by decide +kernel
theorem dX12_fact_17 : decode cX12_fact 17 = .ok (.iconst (-1), 1) := by decide +kernel
theorem dX12_fact_18 : decode cX12_fact 18 = .ok (.if_icmp .ne 17, 3) := by decide +kernel
theorem dX12_fact_21 : decode cX12_fact 21 = .ok (.iload_n 3, 1) := by decide +kernel
theorem dX12_fact_22 : decode cX12_fact 22 = .ok (.ifCond .ne 10, 3) := by decide +kernel
theorem dX12_fact_25 : decode cX12_fact 25 = .ok (.aload_n 0, 1) := by decide +kernel
theorem dX12_fact_26 : decode cX12_fact 26 = .ok (.invokevirtual 551, 3) := by decide +kernel
theorem dX12_fact_29 : decode cX12_fact 29 = .ok (.goto 5, 3) := by decide +kernel
theorem dX12_fact_32 : decode cX12_fact 32 = .ok (.bipush (-2), 2) := by decide +kernel
theorem dX12_fact_34 : decode cX12_fact 34 = .ok (.ireturn, 1) := by decide +kernel
theorem dX12_fact_35 : decode cX12_fact 35 = .ok (.iload_n 2, 1) := by decide +kernel
theorem dX12_fact_36 : decode cX12_fact 36 = .ok (.iconst 0, 1) := by decide +kernel
theorem dX12_fact_37 : decode cX12_fact 37 = .ok (.aload_n 0, 1) := by decide +kernel
theorem dX12_fact_38 : decode cX12_fact 38 = .ok (.invokevirtual 551, 3) := by decide +kernel
theorem dX12_fact_41 : decode cX12_fact 41 = .ok (.iconst 1, 1) := by decide +kernel
theorem dX12_fact_42 : decode cX12_fact 42 = .ok (.isub, 1) := by decide +kernel
theorem dX12_fact_43 : decode cX12_fact 43 = .ok (.invokestatic 119, 3) := by decide +kernel
theorem dX12_fact_46 : decode cX12_fact 46 = .ok (.ifCond .eq 21, 3) := by decide +kernel
theorem dX12_fact_49 : decode cX12_fact 49 = .ok (.iload_n 3, 1) := by decide +kernel
theorem dX12_fact_50 : decode cX12_fact 50 = .ok (.iconst 0, 1) := by decide +kernel
theorem dX12_fact_51 : decode cX12_fact 51 = .ok (.iconst 2, 1) := by decide +kernel
theorem dX12_fact_52 : decode cX12_fact 52 = .ok (.invokestatic 119, 3) := by decide +kernel
theorem dX12_fact_55 : decode cX12_fact 55 = .ok (.ifCond .eq 12, 3) := by decide +kernel
theorem dX12_fact_58 : decode cX12_fact 58 = .ok (.aload_n 0, 1) := by decide +kernel
theorem dX12_fact_59 : decode cX12_fact 59 = .ok (.iload_n 2, 1) := by decide +kernel
theorem dX12_fact_60 : decode cX12_fact 60 = .ok (.iload_n 3, 1) := by decide +kernel
theorem dX12_fact_61 : decode cX12_fact 61 = .ok (.invokevirtual 554, 3) := by decide +kernel
theorem dX12_fact_64 : decode cX12_fact 64 = .ok (.goto 5, 3) := by decide +kernel
theorem dX12_fact_67 : decode cX12_fact 67 = .ok (.bipush (-2), 2) := by decide +kernel
theorem dX12_fact_69 : decode cX12_fact 69 = .ok (.ireturn, 1) := by decide +kernel
theorem dX12_laySight_0 : decode cX12_laySight 0 = .ok (.aload_n 0, 1) := by decide +kernel
theorem dX12_laySight_1 : decode cX12_laySight 1 = .ok (.iload_n 2, 1) := by decide +kernel
theorem dX12_laySight_2 : decode cX12_laySight 2 = .ok (.invokevirtual 548, 3) := by decide +kernel
theorem dX12_laySight_5 : decode cX12_laySight 5 = .ok (.ifCond .eq 11, 3) := by decide +kernel
theorem dX12_laySight_8 : decode cX12_laySight 8 = .ok (.aload_n 0, 1) := by decide +kernel
theorem dX12_laySight_9 : decode cX12_laySight 9 = .ok (.iload_n 1, 1) := by decide +kernel
theorem dX12_laySight_10 : decode cX12_laySight 10 = .ok (.invokevirtual 346, 3) := by decide +kernel
theorem dX12_laySight_13 : decode cX12_laySight 13 = .ok (.ifCond .ne 5, 3) := by decide +kernel
theorem dX12_laySight_16 : decode cX12_laySight 16 = .ok (.iconst 0, 1) := by decide +kernel
theorem dX12_laySight_17 : decode cX12_laySight 17 = .ok (.ireturn, 1) := by decide +kernel
theorem dX12_laySight_18 : decode cX12_laySight 18 = .ok (.iconst 0, 1) := by decide +kernel
theorem dX12_laySight_19 : decode cX12_laySight 19 = .ok (.istore_n 3, 1) := by decide +kernel
theorem dX12_laySight_20 : decode cX12_laySight 20 = .ok (.iload_n 3, 1) := by decide +kernel
theorem dX12_laySight_21 : decode cX12_laySight 21 = .ok (.aload_n 0, 1) := by decide +kernel
theorem dX12_laySight_22 : decode cX12_laySight 22 = .ok (.invokevirtual 551, 3) := by decide +kernel
theorem dX12_laySight_25 : decode cX12_laySight 25 = .ok (.if_icmp .ge 42, 3) := by decide +kernel
theorem dX12_laySight_28 : decode cX12_laySight 28 = .ok (.aload_n 0, 1) := by decide +kernel
theorem dX12_laySight_29 : decode cX12_laySight 29 = .ok (.iload_n 3, 1) := by decide +kernel
theorem dX12_laySight_30 : decode cX12_laySight 30 = .ok (.iconst 1, 1) := by decide +kernel
theorem dX12_laySight_31 : decode cX12_laySight 31 = .ok (.invokevirtual 554, 3) := by decide +kernel
theorem dX12_laySight_34 : decode cX12_laySight 34 = .ok (.aload_n 0, 1) := by decide +kernel
theorem dX12_laySight_35 : decode cX12_laySight 35 = .ok (.getfield 328, 3) := by decide +kernel
theorem dX12_laySight_38 : decode cX12_laySight 38 = .ok (.if_icmp .ge 21, 3) := by decide +kernel
theorem dX12_laySight_41 : decode cX12_laySight 41 = .ok (.aload_n 0, 1) := by decide +kernel
theorem dX12_laySight_42 : decode cX12_laySight 42 = .ok (.getfield 328, 3) := by decide +kernel
theorem dX12_laySight_45 : decode cX12_laySight 45 = .ok (.aload_n 0, 1) := by decide +kernel
theorem dX12_laySight_46 : decode cX12_laySight 46 = .ok (.iload_n 3, 1) := by decide +kernel
theorem dX12_laySight_47 : decode cX12_laySight 47 = .ok (.iconst 2, 1) := by decide +kernel
theorem dX12_laySight_48 : decode cX12_laySight 48 = .ok (.invokevirtual 554, 3) := by decide +kernel
theorem dX12_laySight_51 : decode cX12_laySight 51 = .ok (.imul, 1) := by decide +kernel
theorem dX12_laySight_52 : decode cX12_laySight 52 = .ok (.aload_n 0, 1) := by decide +kernel
theorem dX12_laySight_53 : decode cX12_laySight 53 = .ok (.getfield 331, 3) := by decide +kernel
theorem dX12_laySight_56 : decode cX12_laySight 56 = .ok (.if_icmp .lt 5, 3) := by decide +kernel
theorem dX12_laySight_59 : decode cX12_laySight 59 = .ok (.iconst 0, 1) := by decide +kernel
theorem dX12_laySight_60 : decode cX12_laySight 60 = .ok (.ireturn, 1) := by decide +kernel
theorem dX12_laySight_61 : decode cX12_laySight 61 = .ok (.iinc 3 1, 3) := by decide +kernel
theorem dX12_laySight_64 : decode cX12_laySight 64 = .ok (.goto (-44), 3) := by decide +kernel
theorem dX12_laySight_67 : decode cX12_laySight 67 = .ok (.iconst 1, 1) := by decide +kernel
theorem dX12_laySight_68 : decode cX12_laySight 68 = .ok (.ireturn, 1) := by decide +kernel
theorem dX12_isSeen_0 : decode cX12_isSeen 0 = .ok (.iconst 0, 1) := by decide +kernel
theorem dX12_isSeen_1 : decode cX12_isSeen 1 = .ok (.istore_n 2, 1) := by decide +kernel
theorem dX12_isSeen_2 : decode cX12_isSeen 2 = .ok (.iload_n 2, 1) := by decide +kernel
theorem dX12_isSeen_3 : decode cX12_isSeen 3 = .ok (.aload_n 0, 1) := by decide +kernel
theorem dX12_isSeen_4 : decode cX12_isSeen 4 = .ok (.invokevirtual 551, 3) := by decide +kernel
theorem dX12_isSeen_7 : decode cX12_isSeen 7 = .ok (.if_icmp .ge 55, 3) := by decide +kernel
theorem dX12_isSeen_10 : decode cX12_isSeen 10 = .ok (.aload_n 0, 1) := by decide +kernel
theorem dX12_isSeen_11 : decode cX12_isSeen 11 = .ok (.iload_n 1, 1) := by decide +kernel
theorem dX12_isSeen_12 : decode cX12_isSeen 12 = .ok (.invokevirtual 438, 3) := by decide +kernel
theorem dX12_isSeen_15 : decode cX12_isSeen 15 = .ok (.aload_n 0, 1) := by decide +kernel
theorem dX12_isSeen_16 : decode cX12_isSeen 16 = .ok (.getfield 328, 3) := by decide +kernel
theorem dX12_isSeen_19 : decode cX12_isSeen 19 = .ok (.aload_n 0, 1) := by decide +kernel
theorem dX12_isSeen_20 : decode cX12_isSeen 20 = .ok (.iload_n 2, 1) := by decide +kernel
theorem dX12_isSeen_21 : decode cX12_isSeen 21 = .ok (.iconst 2, 1) := by decide +kernel
theorem dX12_isSeen_22 : decode cX12_isSeen 22 = .ok (.invokevirtual 554, 3) := by decide +kernel
theorem dX12_isSeen_25 : decode cX12_isSeen 25 = .ok (.imul, 1) := by decide +kernel
theorem dX12_isSeen_26 : decode cX12_isSeen 26 = .ok (.aload_n 0, 1) := by decide +kernel
theorem dX12_isSeen_27 : decode cX12_isSeen 27 = .ok (.iload_n 2, 1) := by decide +kernel
theorem dX12_isSeen_28 : decode cX12_isSeen 28 = .ok (.iconst 1, 1) := by decide +kernel
theorem dX12_isSeen_29 : decode cX12_isSeen 29 = .ok (.invokevirtual 554, 3) := by decide +kernel
theorem dX12_isSeen_32 : decode cX12_isSeen 32 = .ok (.iadd, 1) := by decide +kernel
theorem dX12_isSeen_33 : decode cX12_isSeen 33 = .ok (.invokestatic 462, 3) := by decide +kernel
theorem dX12_isSeen_36 : decode cX12_isSeen 36 = .ok (.aload_n 0, 1) := by decide +kernel
theorem dX12_isSeen_37 : decode cX12_isSeen 37 = .ok (.iload_n 2, 1) := by decide +kernel
theorem dX12_isSeen_38 : decode cX12_isSeen 38 = .ok (.iconst 0, 1) := by decide +kernel
theorem dX12_isSeen_39 : decode cX12_isSeen 39 = .ok (.invokevirtual 554, 3) := by decide +kernel
theorem dX12_isSeen_42 : decode cX12_isSeen 42 = .ok (.iconst 1, 1) := by decide +kernel
theorem dX12_isSeen_43 : decode cX12_isSeen 43 = .ok (.if_icmp .ne 7, 3) := by decide +kernel
theorem dX12_isSeen_46 : decode cX12_isSeen 46 = .ok (.iconst 1, 1) := by decide +kernel
theorem dX12_isSeen_47 : decode cX12_isSeen 47 = .ok (.goto 4, 3) := by decide +kernel
theorem dX12_isSeen_50 : decode cX12_isSeen 50 = .ok (.iconst 0, 1) := by decide +kernel
theorem dX12_isSeen_51 : decode cX12_isSeen 51 = .ok (.if_icmp .eq 5, 3) := by decide +kernel
theorem dX12_isSeen_54 : decode cX12_isSeen 54 = .ok (.iconst 0, 1) := by decide +kernel
theorem dX12_isSeen_55 : decode cX12_isSeen 55 = .ok (.ireturn, 1) := by decide +kernel
theorem dX12_isSeen_56 : decode cX12_isSeen 56 = .ok (.iinc 2 1, 3) := by decide +kernel
theorem dX12_isSeen_59 : decode cX12_isSeen 59 = .ok (.goto (-57), 3) := by decide +kernel
theorem dX12_isSeen_62 : decode cX12_isSeen 62 = .ok (.iconst 1, 1) := by decide +kernel
theorem dX12_isSeen_63 : decode cX12_isSeen 63 = .ok (.ireturn, 1) := by decide +kernel
theorem dX12_listen_0 : decode cX12_listen 0 = .ok (.iconst (-1), 1) := by decide +kernel
theorem dX12_listen_1 : decode cX12_listen 1 = .ok (.istore_n 1, 1) := by decide +kernel
theorem dX12_listen_2 : decode cX12_listen 2 = .ok (.ldc_w 370, 3) := by decide +kernel
theorem dX12_listen_5 : decode cX12_listen 5 = .ok (.istore_n 2, 1) := by decide +kernel
theorem dX12_listen_6 : decode cX12_listen 6 = .ok (.iconst 0, 1) := by decide +kernel
theorem dX12_listen_7 : decode cX12_listen 7 = .ok (.istore_n 3, 1) := by decide +kernel
theorem dX12_listen_8 : decode cX12_listen 8 = .ok (.iload_n 3, 1) := by decide +kernel
theorem dX12_listen_9 : decode cX12_listen 9 = .ok (.aload_n 0, 1) := by decide +kernel
theorem dX12_listen_10 : decode cX12_listen 10 = .ok (.getfield 331, 3) := by decide +kernel
theorem dX12_listen_13 : decode cX12_listen 13 = .ok (.if_icmp .ge 91, 3) := by decide +kernel
theorem dX12_listen_16 : decode cX12_listen 16 = .ok (.iconst 0, 1) := by decide +kernel
theorem dX12_listen_17 : decode cX12_listen 17 = .ok (.istore 4, 2) := by decide +kernel
theorem dX12_listen_19 : decode cX12_listen 19 = .ok (.iconst 0, 1) := by decide +kernel
theorem dX12_listen_20 : decode cX12_listen 20 = .ok (.istore 5, 2) := by decide +kernel
theorem dX12_listen_22 : decode cX12_listen 22 = .ok (.iload 5, 2) := by decide +kernel
theorem dX12_listen_24 : decode cX12_listen 24 = .ok (.aload_n 0, 1) := by decide +kernel
theorem dX12_listen_25 : decode cX12_listen 25 = .ok (.getfield 523, 3) := by decide +kernel
theorem dX12_listen_28 : decode cX12_listen 28 = .ok (.if_icmp .ge 37, 3) := by decide +kernel
theorem dX12_listen_31 : decode cX12_listen 31 = .ok (.iload 4, 2) := by decide +kernel
theorem dX12_listen_33 : decode cX12_listen 33 = .ok (.aload_n 0, 1) := by decide +kernel
theorem dX12_listen_34 : decode cX12_listen 34 = .ok (.aload_n 0, 1) := by decide +kernel
theorem dX12_listen_35 : decode cX12_listen 35 = .ok (.getfield 76, 3) := by decide +kernel
theorem dX12_listen_38 : decode cX12_listen 38 = .ok (.iload 5, 2) := by decide +kernel
theorem dX12_listen_40 : decode cX12_listen 40 = .ok (.iaload, 1) := by decide +kernel
theorem dX12_listen_41 : decode cX12_listen 41 = .ok (.invokevirtual 438, 3) := by decide +kernel
theorem dX12_listen_44 : decode cX12_listen 44 = .ok (.iload_n 3, 1) := by decide +kernel
theorem dX12_listen_45 : decode cX12_listen 45 = .ok (.invokestatic 462, 3) := by decide +kernel
theorem dX12_listen_48 : decode cX12_listen 48 = .ok (.ifCond .eq 7, 3) := by decide +kernel
theorem dX12_listen_51 : decode cX12_listen 51 = .ok (.iconst 1, 1) := by decide +kernel
theorem dX12_listen_52 : decode cX12_listen 52 = .ok (.goto 4, 3) := by decide +kernel
theorem dX12_listen_55 : decode cX12_listen 55 = .ok (.iconst 0, 1) := by decide +kernel
theorem dX12_listen_56 : decode cX12_listen 56 = .ok (.iadd, 1) := by decide +kernel
theorem dX12_listen_57 : decode cX12_listen 57 = .ok (.istore 4, 2) := by decide +kernel
theorem dX12_listen_59 : decode cX12_listen 59 = .ok (.iinc 5 1, 3) := by decide +kernel
theorem dX12_listen_62 : decode cX12_listen 62 = .ok (.goto (-40), 3) := by decide +kernel
theorem dX12_listen_65 : decode cX12_listen 65 = .ok (.iload 4, 2) := by decide +kernel
theorem dX12_listen_67 : decode cX12_listen 67 = .ok (.aload_n 0, 1) := by decide +kernel
theorem dX12_listen_68 : decode cX12_listen 68 = .ok (.getfield 523, 3) := by decide +kernel
theorem dX12_listen_71 : decode cX12_listen 71 = .ok (.iload 4, 2) := by decide +kernel
theorem dX12_listen_73 : decode cX12_listen 73 = .ok (.isub, 1) := by decide +kernel
theorem dX12_listen_74 : decode cX12_listen 74 = .ok (.invokestatic 180, 3) := by decide +kernel
theorem dX12_listen_77 : decode cX12_listen 77 = .ok (.istore 5, 2) := by decide +kernel
theorem dX12_listen_79 : decode cX12_listen 79 = .ok (.iload 5, 2) := by decide +kernel
theorem dX12_listen_81 : decode cX12_listen 81 = .ok (.iload_n 2, 1) := by decide +kernel
theorem dX12_listen_82 : decode cX12_listen 82 = .ok (.if_icmp .ge 7, 3) := by decide +kernel
theorem dX12_listen_85 : decode cX12_listen 85 = .ok (.iload_n 3, 1) := by decide +kernel
theorem dX12_listen_86 : decode cX12_listen 86 = .ok (.goto 4, 3) := by decide +kernel
theorem dX12_listen_89 : decode cX12_listen 89 = .ok (.iload_n 1, 1) := by decide +kernel
theorem dX12_listen_90 : decode cX12_listen 90 = .ok (.istore_n 1, 1) := by decide +kernel
theorem dX12_listen_91 : decode cX12_listen 91 = .ok (.iload_n 2, 1) := by decide +kernel
theorem dX12_listen_92 : decode cX12_listen 92 = .ok (.iload 5, 2) := by decide +kernel
theorem dX12_listen_94 : decode cX12_listen 94 = .ok (.invokestatic 476, 3) := by decide +kernel
theorem dX12_listen_97 : decode cX12_listen 97 = .ok (.istore_n 2, 1) := by decide +kernel
theorem dX12_listen_98 : decode cX12_listen 98 = .ok (.iinc 3 1, 3) := by decide +kernel
theorem dX12_listen_101 : decode cX12_listen 101 = .ok (.goto (-93), 3) := by decide +kernel
theorem dX12_listen_104 : decode cX12_listen 104 = .ok (.iload_n 1, 1) := by decide +kernel
theorem dX12_listen_105 : decode cX12_listen 105 = .ok (.ireturn, 1) := by decide +kernel
theorem dX12_surely_0 : decode cX12_surely 0 = .ok (.aload_n 0, 1) := by decide +kernel
theorem dX12_surely_1 : decode cX12_surely 1 = .ok (.invokevirtual 435, 3) := by decide +kernel
theorem dX12_surely_4 : decode cX12_surely 4 = .ok (.istore_n 1, 1) := by decide +kernel
theorem dX12_surely_5 : decode cX12_surely 5 = .ok (.iconst 0, 1) := by decide +kernel
theorem dX12_surely_6 : decode cX12_surely 6 = .ok (.istore_n 2, 1) := by decide +kernel
theorem dX12_surely_7 : decode cX12_surely 7 = .ok (.iload_n 2, 1) := by decide +kernel
theorem dX12_surely_8 : decode cX12_surely 8 = .ok (.aload_n 0, 1) := by decide +kernel
theorem dX12_surely_9 : decode cX12_surely 9 = .ok (.getfield 523, 3) := by decide +kernel
theorem dX12_surely_12 : decode cX12_surely 12 = .ok (.if_icmp .ge 18, 3) := by decide +kernel
theorem dX12_surely_15 : decode cX12_surely 15 = .ok (.iload_n 1, 1) := by decide +kernel
theorem dX12_surely_16 : decode cX12_surely 16 = .ok (.aload_n 0, 1) := by decide +kernel
theorem dX12_surely_17 : decode cX12_surely 17 = .ok (.getfield 76, 3) := by decide +kernel
theorem dX12_surely_20 : decode cX12_surely 20 = .ok (.iload_n 2, 1) := by decide +kernel
theorem dX12_surely_21 : decode cX12_surely 21 = .ok (.iaload, 1) := by decide +kernel
theorem dX12_surely_22 : decode cX12_surely 22 = .ok (.iand, 1) := by decide +kernel
theorem dX12_surely_23 : decode cX12_surely 23 = .ok (.istore_n 1, 1) := by decide +kernel
theorem dX12_surely_24 : decode cX12_surely 24 = .ok (.iinc 2 1, 3) := by decide +kernel
theorem dX12_surely_27 : decode cX12_surely 27 = .ok (.goto (-20), 3) := by decide +kernel
theorem dX12_surely_30 : decode cX12_surely 30 = .ok (.iload_n 1, 1) := by decide +kernel
theorem dX12_surely_31 : decode cX12_surely 31 = .ok (.ireturn, 1) := by decide +kernel
theorem dX12_seen_0 : decode cX12_seen 0 = .ok (.aload_n 0, 1) := by decide +kernel
theorem dX12_seen_1 : decode cX12_seen 1 = .ok (.iconst 0, 1) := by decide +kernel
theorem dX12_seen_2 : decode cX12_seen 2 = .ok (.putfield 107, 3) := by decide +kernel
theorem dX12_seen_5 : decode cX12_seen 5 = .ok (.aload_n 0, 1) := by decide +kernel
theorem dX12_seen_6 : decode cX12_seen 6 = .ok (.iload_n 1, 1) := by decide +kernel
theorem dX12_seen_7 : decode cX12_seen 7 = .ok (.iload_n 2, 1) := by decide +kernel
theorem dX12_seen_8 : decode cX12_seen 8 = .ok (.invokevirtual 557, 3) := by decide +kernel
theorem dX12_seen_11 : decode cX12_seen 11 = .ok (.ifCond .ne 6, 3) := by decide +kernel
theorem dX12_seen_14 : decode cX12_seen 14 = .ok (.bipush (-2), 2) := by decide +kernel
theorem dX12_seen_16 : decode cX12_seen 16 = .ok (.ireturn, 1) := by decide +kernel
theorem dX12_seen_17 : decode cX12_seen 17 = .ok (.aload_n 0, 1) := by decide +kernel
theorem dX12_seen_18 : decode cX12_seen 18 = .ok (.invokevirtual 432, 3) := by decide +kernel
theorem dX12_seen_21 : decode cX12_seen 21 = .ok (.aload_n 0, 1) := by decide +kernel
theorem dX12_seen_22 : decode cX12_seen 22 = .ok (.iconst 0, 1) := by decide +kernel
theorem dX12_seen_23 : decode cX12_seen 23 = .ok (.putfield 523, 3) := by decide +kernel
theorem dX12_seen_26 : decode cX12_seen 26 = .ok (.iconst 0, 1) := by decide +kernel
theorem dX12_seen_27 : decode cX12_seen 27 = .ok (.istore 4, 2) := by decide +kernel
theorem dX12_seen_29 : decode cX12_seen 29 = .ok (.iload 4, 2) := by decide +kernel
theorem dX12_seen_31 : decode cX12_seen 31 = .ok (.aload_n 0, 1) := by decide +kernel
theorem dX12_seen_32 : decode cX12_seen 32 = .ok (.invokevirtual 435, 3) := by decide +kernel
theorem dX12_seen_35 : decode cX12_seen 35 = .ok (.if_icmp .gt 39, 3) := by decide +kernel
theorem dX12_seen_38 : decode cX12_seen 38 = .ok (.aload_n 0, 1) := by decide +kernel
theorem dX12_seen_39 : decode cX12_seen 39 = .ok (.iload 4, 2) := by decide +kernel
theorem dX12_seen_41 : decode cX12_seen 41 = .ok (.invokevirtual 560, 3) := by decide +kernel
theorem dX12_seen_44 : decode cX12_seen 44 = .ok (.ifCond .eq 24, 3) := by decide +kernel
theorem dX12_seen_47 : decode cX12_seen 47 = .ok (.aload_n 0, 1) := by decide +kernel
theorem dX12_seen_48 : decode cX12_seen 48 = .ok (.getfield 76, 3) := by decide +kernel
theorem dX12_seen_51 : decode cX12_seen 51 = .ok (.aload_n 0, 1) := by decide +kernel
theorem dX12_seen_52 : decode cX12_seen 52 = .ok (.getfield 523, 3) := by decide +kernel
theorem dX12_seen_55 : decode cX12_seen 55 = .ok (.iload 4, 2) := by decide +kernel
theorem dX12_seen_57 : decode cX12_seen 57 = .ok (.iastore, 1) := by decide +kernel
theorem dX12_seen_58 : decode cX12_seen 58 = .ok (.aload_n 0, 1) := by decide +kernel
theorem dX12_seen_59 : decode cX12_seen 59 = .ok (.dup, 1) := by decide +kernel
theorem dX12_seen_60 : decode cX12_seen 60 = .ok (.getfield 523, 3) := by decide +kernel
theorem dX12_seen_63 : decode cX12_seen 63 = .ok (.iconst 1, 1) := by decide +kernel
theorem dX12_seen_64 : decode cX12_seen 64 = .ok (.iadd, 1) := by decide +kernel
theorem dX12_seen_65 : decode cX12_seen 65 = .ok (.putfield 523, 3) := by decide +kernel
theorem dX12_seen_68 : decode cX12_seen 68 = .ok (.iinc 4 1, 3) := by decide +kernel
theorem dX12_seen_71 : decode cX12_seen 71 = .ok (.goto (-42), 3) := by decide +kernel
theorem dX12_seen_74 : decode cX12_seen 74 = .ok (.iload_n 3, 1) := by decide +kernel
theorem dX12_seen_75 : decode cX12_seen 75 = .ok (.bipush 10, 2) := by decide +kernel
theorem dX12_seen_77 : decode cX12_seen 77 = .ok (.if_icmp .lt 29, 3) := by decide +kernel
theorem dX12_seen_80 : decode cX12_seen 80 = .ok (.iload_n 3, 1) := by decide +kernel
theorem dX12_seen_81 : decode cX12_seen 81 = .ok (.bipush 10, 2) := by decide +kernel
theorem dX12_seen_83 : decode cX12_seen 83 = .ok (.isub, 1) := by decide +kernel
theorem dX12_seen_84 : decode cX12_seen 84 = .ok (.aload_n 0, 1) := by decide +kernel
theorem dX12_seen_85 : decode cX12_seen 85 = .ok (.getfield 523, 3) := by decide +kernel
theorem dX12_seen_88 : decode cX12_seen 88 = .ok (.if_icmp .ge 15, 3) := by decide +kernel
theorem dX12_seen_91 : decode cX12_seen 91 = .ok (.aload_n 0, 1) := by decide +kernel
theorem dX12_seen_92 : decode cX12_seen 92 = .ok (.getfield 76, 3) := by decide +kernel
theorem dX12_seen_95 : decode cX12_seen 95 = .ok (.iload_n 3, 1) := by decide +kernel
theorem dX12_seen_96 : decode cX12_seen 96 = .ok (.bipush 10, 2) := by decide +kernel
theorem dX12_seen_98 : decode cX12_seen 98 = .ok (.isub, 1) := by decide +kernel
theorem dX12_seen_99 : decode cX12_seen 99 = .ok (.iaload, 1) := by decide +kernel
theorem dX12_seen_100 : decode cX12_seen 100 = .ok (.goto 5, 3) := by decide +kernel
theorem dX12_seen_103 : decode cX12_seen 103 = .ok (.bipush (-2), 2) := by decide +kernel
theorem dX12_seen_105 : decode cX12_seen 105 = .ok (.ireturn, 1) := by decide +kernel
theorem dX12_seen_106 : decode cX12_seen 106 = .ok (.iload_n 3, 1) := by decide +kernel
theorem dX12_seen_107 : decode cX12_seen 107 = .ok (.ifCond .ne 10, 3) := by decide +kernel
theorem dX12_seen_110 : decode cX12_seen 110 = .ok (.aload_n 0, 1) := by decide +kernel
theorem dX12_seen_111 : decode cX12_seen 111 = .ok (.getfield 523, 3) := by decide +kernel
theorem dX12_seen_114 : decode cX12_seen 114 = .ok (.goto 44, 3) := by decide +kernel
theorem dX12_seen_117 : decode cX12_seen 117 = .ok (.iload_n 3, 1) := by decide +kernel
theorem dX12_seen_118 : decode cX12_seen 118 = .ok (.iconst 1, 1) := by decide +kernel
theorem dX12_seen_119 : decode cX12_seen 119 = .ok (.iconst 2, 1) := by decide +kernel
theorem dX12_seen_120 : decode cX12_seen 120 = .ok (.invokestatic 119, 3) := by decide +kernel
theorem dX12_seen_123 : decode cX12_seen 123 = .ok (.ifCond .ne 8, 3) := by decide +kernel
theorem dX12_seen_126 : decode cX12_seen 126 = .ok (.bipush (-2), 2) := by decide +kernel
theorem dX12_seen_128 : decode cX12_seen 128 = .ok (.goto 30, 3) := by decide +kernel
theorem dX12_seen_131 : decode cX12_seen 131 = .ok (.aload_n 0, 1) := by decide +kernel
theorem dX12_seen_132 : decode cX12_seen 132 = .ok (.getfield 523, 3) := by decide +kernel
theorem dX12_seen_135 : decode cX12_seen 135 = .ok (.ifCond .ne 7, 3) := by decide +kernel
theorem dX12_seen_138 : decode cX12_seen 138 = .ok (.iconst (-1), 1) := by decide +kernel
theorem dX12_seen_139 : decode cX12_seen 139 = .ok (.goto 19, 3) := by decide +kernel
theorem dX12_seen_142 : decode cX12_seen 142 = .ok (.iload_n 3, 1) := by decide +kernel
theorem dX12_seen_143 : decode cX12_seen 143 = .ok (.iconst 1, 1) := by decide +kernel
theorem dX12_seen_144 : decode cX12_seen 144 = .ok (.if_icmp .ne 10, 3) := by decide +kernel
theorem dX12_seen_147 : decode cX12_seen 147 = .ok (.aload_n 0, 1) := by decide +kernel
theorem dX12_seen_148 : decode cX12_seen 148 = .ok (.invokevirtual 563, 3) := by decide +kernel
theorem dX12_seen_151 : decode cX12_seen 151 = .ok (.goto 7, 3) := by decide +kernel
theorem dX12_seen_154 : decode cX12_seen 154 = .ok (.aload_n 0, 1) := by decide +kernel
theorem dX12_seen_155 : decode cX12_seen 155 = .ok (.invokevirtual 566, 3) := by decide +kernel
theorem dX12_seen_158 : decode cX12_seen 158 = .ok (.ireturn, 1) := by decide +kernel
theorem dX12_draw_0 : decode cX12_draw 0 = .ok (.aload_n 0, 1) := by decide +kernel
theorem dX12_draw_1 : decode cX12_draw 1 = .ok (.aload_n 0, 1) := by decide +kernel
theorem dX12_draw_2 : decode cX12_draw 2 = .ok (.getfield 569, 3) := by decide +kernel
theorem dX12_draw_5 : decode cX12_draw 5 = .ok (.ldc_w 572, 3) := by decide +kernel
theorem dX12_draw_8 : decode cX12_draw 8 = .ok (.imul, 1) := by decide +kernel
theorem dX12_draw_9 : decode cX12_draw 9 = .ok (.sipush 12345, 3) := by decide +kernel
theorem dX12_draw_12 : decode cX12_draw 12 = .ok (.iadd, 1) := by decide +kernel
theorem dX12_draw_13 : decode cX12_draw 13 = .ok (.putfield 569, 3) := by decide +kernel
theorem dX12_draw_16 : decode cX12_draw 16 = .ok (.aload_n 0, 1) := by decide +kernel
theorem dX12_draw_17 : decode cX12_draw 17 = .ok (.getfield 569, 3) := by decide +kernel
theorem dX12_draw_20 : decode cX12_draw 20 = .ok (.bipush 16, 2) := by decide +kernel
theorem dX12_draw_22 : decode cX12_draw 22 = .ok (.iushr, 1) := by decide +kernel
theorem dX12_draw_23 : decode cX12_draw 23 = .ok (.iload_n 1, 1) := by decide +kernel
theorem dX12_draw_24 : decode cX12_draw 24 = .ok (.irem, 1) := by decide +kernel
theorem dX12_draw_25 : decode cX12_draw 25 = .ok (.ireturn, 1) := by decide +kernel
theorem dX12_drawDeed_0 : decode cX12_drawDeed 0 = .ok (.aload_n 0, 1) := by decide +kernel
theorem dX12_drawDeed_1 : decode cX12_drawDeed 1 = .ok (.bipush 8, 2) := by decide +kernel
theorem dX12_drawDeed_3 : decode cX12_drawDeed 3 = .ok (.invokevirtual 573, 3) := by decide +kernel
theorem dX12_drawDeed_6 : decode cX12_drawDeed 6 = .ok (.istore_n 1, 1) := by decide +kernel
theorem dX12_drawDeed_7 : decode cX12_drawDeed 7 = .ok (.iload_n 1, 1) := by decide +kernel
theorem dX12_drawDeed_8 : decode cX12_drawDeed 8 = .ok (.bipush 7, 2) := by decide +kernel
theorem dX12_drawDeed_10 : decode cX12_drawDeed 10 = .ok (.if_icmp .ne 9, 3) := by decide +kernel
theorem dX12_drawDeed_13 : decode cX12_drawDeed 13 = .ok (.aload_n 0, 1) := by decide +kernel
theorem dX12_drawDeed_14 : decode cX12_drawDeed 14 = .ok (.invokevirtual 407, 3) := by decide +kernel
theorem dX12_drawDeed_17 : decode cX12_drawDeed 17 = .ok (.pop, 1) := by decide +kernel
theorem dX12_drawDeed_18 : decode cX12_drawDeed 18 = .ok (.return_, 1) := by decide +kernel
theorem dX12_drawDeed_19 : decode cX12_drawDeed 19 = .ok (.iload_n 1, 1) := by decide +kernel
theorem dX12_drawDeed_20 : decode cX12_drawDeed 20 = .ok (.iconst 3, 1) := by decide +kernel
theorem dX12_drawDeed_21 : decode cX12_drawDeed 21 = .ok (.if_icmp .ge 7, 3) := by decide +kernel
theorem dX12_drawDeed_24 : decode cX12_drawDeed 24 = .ok (.iload_n 1, 1) := by decide +kernel
theorem dX12_drawDeed_25 : decode cX12_drawDeed 25 = .ok (.goto 22, 3) := by decide +kernel
theorem dX12_drawDeed_28 : decode cX12_drawDeed 28 = .ok (.iload_n 1, 1) := by decide +kernel
theorem dX12_drawDeed_29 : decode cX12_drawDeed 29 = .ok (.iconst 5, 1) := by decide +kernel
theorem dX12_drawDeed_30 : decode cX12_drawDeed 30 = .ok (.if_icmp .ge 7, 3) := by decide +kernel
theorem dX12_drawDeed_33 : decode cX12_drawDeed 33 = .ok (.iconst 3, 1) := by decide +kernel
theorem dX12_drawDeed_34 : decode cX12_drawDeed 34 = .ok (.goto 13, 3) := by decide +kernel
theorem dX12_drawDeed_37 : decode cX12_drawDeed 37 = .ok (.iload_n 1, 1) := by decide +kernel
theorem dX12_drawDeed_38 : decode cX12_drawDeed 38 = .ok (.iconst 5, 1) := by decide +kernel
theorem dX12_drawDeed_39 : decode cX12_drawDeed 39 = .ok (.if_icmp .ne 7, 3) := by decide +kernel
theorem dX12_drawDeed_42 : decode cX12_drawDeed 42 = .ok (.iconst 4, 1) := by decide +kernel
theorem dX12_drawDeed_43 : decode cX12_drawDeed 43 = .ok (.goto 4, 3) := by decide +kernel
theorem dX12_drawDeed_46 : decode cX12_drawDeed 46 = .ok (.iconst 5, 1) := by decide +kernel
theorem dX12_drawDeed_47 : decode cX12_drawDeed 47 = .ok (.istore_n 2, 1) := by decide +kernel
theorem dX12_drawDeed_48 : decode cX12_drawDeed 48 = .ok (.iload_n 2, 1) := by decide +kernel
theorem dX12_drawDeed_49 : decode cX12_drawDeed 49 = .ok (.iconst 4, 1) := by decide +kernel
theorem dX12_drawDeed_50 : decode cX12_drawDeed 50 = .ok (.if_icmp .ne 10, 3) := by decide +kernel
theorem dX12_drawDeed_53 : decode cX12_drawDeed 53 = .ok (.aload_n 0, 1) := by decide +kernel
theorem dX12_drawDeed_54 : decode cX12_drawDeed 54 = .ok (.getfield 337, 3) := by decide +kernel
theorem dX12_drawDeed_57 : decode cX12_drawDeed 57 = .ok (.goto 7, 3) := by decide +kernel
theorem dX12_drawDeed_60 : decode cX12_drawDeed 60 = .ok (.aload_n 0, 1) := by decide +kernel
theorem dX12_drawDeed_61 : decode cX12_drawDeed 61 = .ok (.getfield 334, 3) := by decide +kernel
theorem dX12_drawDeed_64 : decode cX12_drawDeed 64 = .ok (.istore_n 3, 1) := by decide +kernel
theorem dX12_drawDeed_65 : decode cX12_drawDeed 65 = .ok (.iload_n 3, 1) := by decide +kernel
theorem dX12_drawDeed_66 : decode cX12_drawDeed 66 = .ok (.ifCond .le 32, 3) := by decide +kernel
theorem dX12_drawDeed_69 : decode cX12_drawDeed 69 = .ok (.aload_n 0, 1) := by decide +kernel
theorem dX12_drawDeed_70 : decode cX12_drawDeed 70 = .ok (.iload_n 3, 1) := by decide +kernel
theorem dX12_drawDeed_71 : decode cX12_drawDeed 71 = .ok (.invokevirtual 573, 3) := by decide +kernel
theorem dX12_drawDeed_74 : decode cX12_drawDeed 74 = .ok (.istore 4, 2) := by decide +kernel
theorem dX12_drawDeed_76 : decode cX12_drawDeed 76 = .ok (.aload_n 0, 1) := by decide +kernel
theorem dX12_drawDeed_77 : decode cX12_drawDeed 77 = .ok (.iload_n 2, 1) := by decide +kernel
theorem dX12_drawDeed_78 : decode cX12_drawDeed 78 = .ok (.iload 4, 2) := by decide +kernel
theorem dX12_drawDeed_80 : decode cX12_drawDeed 80 = .ok (.iload_n 2, 1) := by decide +kernel
theorem dX12_drawDeed_81 : decode cX12_drawDeed 81 = .ok (.iconst 3, 1) := by decide +kernel
theorem dX12_drawDeed_82 : decode cX12_drawDeed 82 = .ok (.if_icmp .ge 7, 3) := by decide +kernel
theorem dX12_drawDeed_85 : decode cX12_drawDeed 85 = .ok (.iconst (-1), 1) := by decide +kernel
theorem dX12_drawDeed_86 : decode cX12_drawDeed 86 = .ok (.goto 8, 3) := by decide +kernel
theorem dX12_drawDeed_89 : decode cX12_drawDeed 89 = .ok (.aload_n 0, 1) := by decide +kernel
theorem dX12_drawDeed_90 : decode cX12_drawDeed 90 = .ok (.iconst 4, 1) := by decide +kernel
theorem dX12_drawDeed_91 : decode cX12_drawDeed 91 = .ok (.invokevirtual 573, 3) := by decide +kernel
theorem dX12_drawDeed_94 : decode cX12_drawDeed 94 = .ok (.invokevirtual 413, 3) := by decide +kernel
theorem dX12_drawDeed_97 : decode cX12_drawDeed 97 = .ok (.pop, 1) := by decide +kernel
theorem dX12_drawDeed_98 : decode cX12_drawDeed 98 = .ok (.return_, 1) := by decide +kernel
theorem dX12_drawn_0 : decode cX12_drawn 0 = .ok (.aload_n 0, 1) := by decide +kernel
theorem dX12_drawn_1 : decode cX12_drawn 1 = .ok (.iconst 0, 1) := by decide +kernel
theorem dX12_drawn_2 : decode cX12_drawn 2 = .ok (.putfield 107, 3) := by decide +kernel
theorem dX12_drawn_5 : decode cX12_drawn 5 = .ok (.iload_n 3, 1) := by decide +kernel
theorem dX12_drawn_6 : decode cX12_drawn 6 = .ok (.iconst 0, 1) := by decide +kernel
theorem dX12_drawn_7 : decode cX12_drawn 7 = .ok (.bipush 60, 2) := by decide +kernel
theorem dX12_drawn_9 : decode cX12_drawn 9 = .ok (.invokestatic 119, 3) := by decide +kernel
theorem dX12_drawn_12 : decode cX12_drawn 12 = .ok (.ifCond .eq 11, 3) := by decide +kernel
theorem dX12_drawn_15 : decode cX12_drawn 15 = .ok (.aload_n 0, 1) := by decide +kernel
theorem dX12_drawn_16 : decode cX12_drawn 16 = .ok (.iload_n 1, 1) := by decide +kernel
theorem dX12_drawn_17 : decode cX12_drawn 17 = .ok (.invokevirtual 346, 3) := by decide +kernel
theorem dX12_drawn_20 : decode cX12_drawn 20 = .ok (.ifCond .ne 6, 3) := by decide +kernel
theorem dX12_drawn_23 : decode cX12_drawn 23 = .ok (.bipush (-2), 2) := by decide +kernel
theorem dX12_drawn_25 : decode cX12_drawn 25 = .ok (.ireturn, 1) := by decide +kernel
theorem dX12_drawn_26 : decode cX12_drawn 26 = .ok (.aload_n 0, 1) := by decide +kernel
theorem dX12_drawn_27 : decode cX12_drawn 27 = .ok (.iload_n 2, 1) := by decide +kernel
theorem dX12_drawn_28 : decode cX12_drawn 28 = .ok (.putfield 569, 3) := by decide +kernel
theorem dX12_drawn_31 : decode cX12_drawn 31 = .ok (.aload_n 0, 1) := by decide +kernel
theorem dX12_drawn_32 : decode cX12_drawn 32 = .ok (.invokevirtual 410, 3) := by decide +kernel
theorem dX12_drawn_35 : decode cX12_drawn 35 = .ok (.iconst 0, 1) := by decide +kernel
theorem dX12_drawn_36 : decode cX12_drawn 36 = .ok (.istore 5, 2) := by decide +kernel
theorem dX12_drawn_38 : decode cX12_drawn 38 = .ok (.iload 5, 2) := by decide +kernel
theorem dX12_drawn_40 : decode cX12_drawn 40 = .ok (.iload_n 3, 1) := by decide +kernel
theorem dX12_drawn_41 : decode cX12_drawn 41 = .ok (.if_icmp .ge 13, 3) := by decide +kernel
theorem dX12_drawn_44 : decode cX12_drawn 44 = .ok (.aload_n 0, 1) := by decide +kernel
theorem dX12_drawn_45 : decode cX12_drawn 45 = .ok (.invokevirtual 576, 3) := by decide +kernel
theorem dX12_drawn_48 : decode cX12_drawn 48 = .ok (.iinc 5 1, 3) := by decide +kernel
theorem dX12_drawn_51 : decode cX12_drawn 51 = .ok (.goto (-13), 3) := by decide +kernel
theorem dX12_drawn_54 : decode cX12_drawn 54 = .ok (.aload_n 0, 1) := by decide +kernel
theorem dX12_drawn_55 : decode cX12_drawn 55 = .ok (.iload 4, 2) := by decide +kernel
theorem dX12_drawn_57 : decode cX12_drawn 57 = .ok (.invokevirtual 422, 3) := by decide +kernel
theorem dX12_drawn_60 : decode cX12_drawn 60 = .ok (.ireturn, 1) := by decide +kernel
theorem dX12_findSoon_0 : decode cX12_findSoon 0 = .ok (.iconst 0, 1) := by decide +kernel
theorem dX12_findSoon_1 : decode cX12_findSoon 1 = .ok (.istore_n 2, 1) := by decide +kernel
theorem dX12_findSoon_2 : decode cX12_findSoon 2 = .ok (.iload_n 2, 1) := by decide +kernel
theorem dX12_findSoon_3 : decode cX12_findSoon 3 = .ok (.aload_n 0, 1) := by decide +kernel
theorem dX12_findSoon_4 : decode cX12_findSoon 4 = .ok (.getfield 331, 3) := by decide +kernel
theorem dX12_findSoon_7 : decode cX12_findSoon 7 = .ok (.if_icmp .ge 27, 3) := by decide +kernel
theorem dX12_findSoon_10 : decode cX12_findSoon 10 = .ok (.aload_n 0, 1) := by decide +kernel
theorem dX12_findSoon_11 : decode cX12_findSoon 11 = .ok (.getfield 79, 3) := by decide +kernel
theorem dX12_findSoon_14 : decode cX12_findSoon 14 = .ok (.iload_n 2, 1) := by decide +kernel
theorem dX12_findSoon_15 : decode cX12_findSoon 15 = .ok (.iload_n 2, 1) := by decide +kernel
theorem dX12_findSoon_16 : decode cX12_findSoon 16 = .ok (.iload_n 1, 1) := by decide +kernel
theorem dX12_findSoon_17 : decode cX12_findSoon 17 = .ok (.if_icmp .ne 7, 3) := by decide +kernel
theorem dX12_findSoon_20 : decode cX12_findSoon 20 = .ok (.iconst 0, 1) := by decide +kernel
theorem dX12_findSoon_21 : decode cX12_findSoon 21 = .ok (.goto 6, 3) := by decide +kernel
theorem dX12_findSoon_24 : decode cX12_findSoon 24 = .ok (.ldc_w 370, 3) := by decide +kernel
theorem dX12_findSoon_27 : decode cX12_findSoon 27 = .ok (.iastore, 1) := by decide +kernel
theorem dX12_findSoon_28 : decode cX12_findSoon 28 = .ok (.iinc 2 1, 3) := by decide +kernel
theorem dX12_findSoon_31 : decode cX12_findSoon 31 = .ok (.goto (-29), 3) := by decide +kernel
theorem dX12_findSoon_34 : decode cX12_findSoon 34 = .ok (.iconst 1, 1) := by decide +kernel
theorem dX12_findSoon_35 : decode cX12_findSoon 35 = .ok (.istore_n 2, 1) := by decide +kernel
theorem dX12_findSoon_36 : decode cX12_findSoon 36 = .ok (.iload_n 2, 1) := by decide +kernel
theorem dX12_findSoon_37 : decode cX12_findSoon 37 = .ok (.ifCond .eq 89, 3) := by decide +kernel
theorem dX12_findSoon_40 : decode cX12_findSoon 40 = .ok (.iconst 0, 1) := by decide +kernel
theorem dX12_findSoon_41 : decode cX12_findSoon 41 = .ok (.istore_n 2, 1) := by decide +kernel
theorem dX12_findSoon_42 : decode cX12_findSoon 42 = .ok (.iconst 0, 1) := by decide +kernel
theorem dX12_findSoon_43 : decode cX12_findSoon 43 = .ok (.istore_n 3, 1) := by decide +kernel
theorem dX12_findSoon_44 : decode cX12_findSoon 44 = .ok (.iload_n 3, 1) := by decide +kernel
theorem dX12_findSoon_45 : decode cX12_findSoon 45 = .ok (.aload_n 0, 1) := by decide +kernel
theorem dX12_findSoon_46 : decode cX12_findSoon 46 = .ok (.getfield 331, 3) := by decide +kernel
theorem dX12_findSoon_49 : decode cX12_findSoon 49 = .ok (.if_icmp .ge 74, 3) := by decide +kernel
theorem dX12_findSoon_52 : decode cX12_findSoon 52 = .ok (.iconst 0, 1) := by decide +kernel
theorem dX12_findSoon_53 : decode cX12_findSoon 53 = .ok (.istore 4, 2) := by decide +kernel
theorem dX12_findSoon_55 : decode cX12_findSoon 55 = .ok (.iload 4, 2) := by decide +kernel
theorem dX12_findSoon_57 : decode cX12_findSoon 57 = .ok (.iconst 4, 1) := by decide +kernel
theorem dX12_findSoon_58 : decode cX12_findSoon 58 = .ok (.if_icmp .ge 59, 3) := by decide +kernel
theorem dX12_findSoon_61 : decode cX12_findSoon 61 = .ok (.aload_n 0, 1) := by decide +kernel
theorem dX12_findSoon_62 : decode cX12_findSoon 62 = .ok (.iload_n 3, 1) := by decide +kernel
theorem dX12_findSoon_63 : decode cX12_findSoon 63 = .ok (.iload 4, 2) := by decide +kernel
theorem dX12_findSoon_65 : decode cX12_findSoon 65 = .ok (.invokevirtual 383, 3) := by decide +kernel
theorem dX12_findSoon_68 : decode cX12_findSoon 68 = .ok (.istore 5, 2) := by decide +kernel
theorem dX12_findSoon_70 : decode cX12_findSoon 70 = .ok (.iload 5, 2) := by decide +kernel
theorem dX12_findSoon_72 : decode cX12_findSoon 72 = .ok (.iconst (-1), 1) := by decide +kernel
theorem dX12_findSoon_73 : decode cX12_findSoon 73 = .ok (.if_icmp .eq 38, 3) := by decide +kernel
theorem dX12_findSoon_76 : decode cX12_findSoon 76 = .ok (.aload_n 0, 1) := by decide +kernel
theorem dX12_findSoon_77 : decode cX12_findSoon 77 = .ok (.getfield 79, 3) := by decide +kernel
theorem dX12_findSoon_80 : decode cX12_findSoon 80 = .ok (.iload_n 3, 1) := by decide +kernel
theorem dX12_findSoon_81 : decode cX12_findSoon 81 = .ok (.iaload, 1) := by decide +kernel
theorem dX12_findSoon_82 : decode cX12_findSoon 82 = .ok (.iconst 1, 1) := by decide +kernel
theorem dX12_findSoon_83 : decode cX12_findSoon 83 = .ok (.iadd, 1) := by decide +kernel
theorem dX12_findSoon_84 : decode cX12_findSoon 84 = .ok (.aload_n 0, 1) := by decide +kernel
theorem dX12_findSoon_85 : decode cX12_findSoon 85 = .ok (.getfield 79, 3) := by decide +kernel
theorem dX12_findSoon_88 : decode cX12_findSoon 88 = .ok (.iload 5, 2) := by decide +kernel
theorem dX12_findSoon_90 : decode cX12_findSoon 90 = .ok (.iaload, 1) := by decide +kernel
theorem dX12_findSoon_91 : decode cX12_findSoon 91 = .ok (.if_icmp .ge 20, 3) := by decide +kernel
theorem dX12_findSoon_94 : decode cX12_findSoon 94 = .ok (.aload_n 0, 1) := by decide +kernel
theorem dX12_findSoon_95 : decode cX12_findSoon 95 = .ok (.getfield 79, 3) := by decide +kernel
theorem dX12_findSoon_98 : decode cX12_findSoon 98 = .ok (.iload 5, 2) := by decide +kernel
theorem dX12_findSoon_100 : decode cX12_findSoon 100 = .ok (.aload_n 0, 1) := by decide +kernel
theorem dX12_findSoon_101 : decode cX12_findSoon 101 = .ok (.getfield 79, 3) := by decide +kernel
theorem dX12_findSoon_104 : decode cX12_findSoon 104 = .ok (.iload_n 3, 1) := by decide +kernel
theorem dX12_findSoon_105 : decode cX12_findSoon 105 = .ok (.iaload, 1) := by decide +kernel
theorem dX12_findSoon_106 : decode cX12_findSoon 106 = .ok (.iconst 1, 1) := by decide +kernel
theorem dX12_findSoon_107 : decode cX12_findSoon 107 = .ok (.iadd, 1) := by decide +kernel
theorem dX12_findSoon_108 : decode cX12_findSoon 108 = .ok (.iastore, 1) := by decide +kernel
theorem dX12_findSoon_109 : decode cX12_findSoon 109 = .ok (.iconst 1, 1) := by decide +kernel
theorem dX12_findSoon_110 : decode cX12_findSoon 110 = .ok (.istore_n 2, 1) := by decide +kernel
theorem dX12_findSoon_111 : decode cX12_findSoon 111 = .ok (.iinc 4 1, 3) := by decide +kernel
theorem dX12_findSoon_114 : decode cX12_findSoon 114 = .ok (.goto (-59), 3) := by decide +kernel
theorem dX12_findSoon_117 : decode cX12_findSoon 117 = .ok (.iinc 3 1, 3) := by decide +kernel
theorem dX12_findSoon_120 : decode cX12_findSoon 120 = .ok (.goto (-76), 3) := by decide +kernel
theorem dX12_findSoon_123 : decode cX12_findSoon 123 = .ok (.goto (-87), 3) := by decide +kernel
theorem dX12_findSoon_126 : decode cX12_findSoon 126 = .ok (.return_, 1) := by decide +kernel
theorem dX12_steps_0 : decode cX12_steps 0 = .ok (.aload_n 0, 1) := by decide +kernel
theorem dX12_steps_1 : decode cX12_steps 1 = .ok (.iconst 0, 1) := by decide +kernel
theorem dX12_steps_2 : decode cX12_steps 2 = .ok (.putfield 107, 3) := by decide +kernel
theorem dX12_steps_5 : decode cX12_steps 5 = .ok (.aload_n 0, 1) := by decide +kernel
theorem dX12_steps_6 : decode cX12_steps 6 = .ok (.iload_n 1, 1) := by decide +kernel
theorem dX12_steps_7 : decode cX12_steps 7 = .ok (.invokevirtual 346, 3) := by decide +kernel
theorem dX12_steps_10 : decode cX12_steps 10 = .ok (.ifCond .eq 35, 3) := by decide +kernel
theorem dX12_steps_13 : decode cX12_steps 13 = .ok (.aload_n 0, 1) := by decide +kernel
theorem dX12_steps_14 : decode cX12_steps 14 = .ok (.iload_n 2, 1) := by decide +kernel
theorem dX12_steps_15 : decode cX12_steps 15 = .ok (.invokevirtual 425, 3) := by decide +kernel
theorem dX12_steps_18 : decode cX12_steps 18 = .ok (.ifCond .eq 27, 3) := by decide +kernel
theorem dX12_steps_21 : decode cX12_steps 21 = .ok (.aload_n 0, 1) := by decide +kernel
theorem dX12_steps_22 : decode cX12_steps 22 = .ok (.iload_n 3, 1) := by decide +kernel
theorem dX12_steps_23 : decode cX12_steps 23 = .ok (.invokevirtual 425, 3) := by decide +kernel
theorem dX12_steps_26 : decode cX12_steps 26 = .ok (.ifCond .eq 19, 3) := by decide +kernel
theorem dX12_steps_29 : decode cX12_steps 29 = .ok (.aload_n 0, 1) := by decide +kernel
theorem dX12_steps_30 : decode cX12_steps 30 = .ok (.iload_n 2, 1) := by decide +kernel
theorem dX12_steps_31 : decode cX12_steps 31 = .ok (.invokevirtual 343, 3) := by decide +kernel
theorem dX12_steps_34 : decode cX12_steps 34 = .ok (.ifCond .ne 11, 3) := by decide +kernel
theorem dX12_steps_37 : decode cX12_steps 37 = .ok (.aload_n 0, 1) := by decide +kernel
theorem dX12_steps_38 : decode cX12_steps 38 = .ok (.iload_n 3, 1) := by decide +kernel
theorem dX12_steps_39 : decode cX12_steps 39 = .ok (.invokevirtual 343, 3) := by decide +kernel
theorem dX12_steps_42 : decode cX12_steps 42 = .ok (.ifCond .eq 5, 3) := by decide +kernel
theorem dX12_steps_45 : decode cX12_steps 45 = .ok (.iconst (-1), 1) := by decide +kernel
theorem dX12_steps_46 : decode cX12_steps 46 = .ok (.ireturn, 1) := by decide +kernel
theorem dX12_steps_47 : decode cX12_steps 47 = .ok (.aload_n 0, 1) := by decide +kernel
theorem dX12_steps_48 : decode cX12_steps 48 = .ok (.iload_n 2, 1) := by decide +kernel
theorem dX12_steps_49 : decode cX12_steps 49 = .ok (.invokevirtual 579, 3) := by decide +kernel
theorem dX12_steps_52 : decode cX12_steps 52 = .ok (.aload_n 0, 1) := by decide +kernel
theorem dX12_steps_53 : decode cX12_steps 53 = .ok (.getfield 79, 3) := by decide +kernel
theorem dX12_steps_56 : decode cX12_steps 56 = .ok (.iload_n 3, 1) := by decide +kernel
theorem dX12_steps_57 : decode cX12_steps 57 = .ok (.iaload, 1) := by decide +kernel
theorem dX12_steps_58 : decode cX12_steps 58 = .ok (.ldc_w 370, 3) := by decide +kernel
theorem dX12_steps_61 : decode cX12_steps 61 = .ok (.if_icmp .lt 7, 3) := by decide +kernel
theorem dX12_steps_64 : decode cX12_steps 64 = .ok (.iconst (-1), 1) := by decide +kernel
theorem dX12_steps_65 : decode cX12_steps 65 = .ok (.goto 9, 3) := by decide +kernel
theorem dX12_steps_68 : decode cX12_steps 68 = .ok (.aload_n 0, 1) := by decide +kernel
theorem dX12_steps_69 : decode cX12_steps 69 = .ok (.getfield 79, 3) := by decide +kernel
theorem dX12_steps_72 : decode cX12_steps 72 = .ok (.iload_n 3, 1) := by decide +kernel
theorem dX12_steps_73 : decode cX12_steps 73 = .ok (.iaload, 1) := by decide +kernel
theorem dX12_steps_74 : decode cX12_steps 74 = .ok (.ireturn, 1) := by decide +kernel
theorem dX12_blocks_0 : decode cX12_blocks 0 = .ok (.aload_n 0, 1) := by decide +kernel
theorem dX12_blocks_1 : decode cX12_blocks 1 = .ok (.iconst 0, 1) := by decide +kernel
theorem dX12_blocks_2 : decode cX12_blocks 2 = .ok (.putfield 107, 3) := by decide +kernel
theorem dX12_blocks_5 : decode cX12_blocks 5 = .ok (.aload_n 0, 1) := by decide +kernel
theorem dX12_blocks_6 : decode cX12_blocks 6 = .ok (.iload_n 1, 1) := by decide +kernel
theorem dX12_blocks_7 : decode cX12_blocks 7 = .ok (.invokevirtual 346, 3) := by decide +kernel
theorem dX12_blocks_10 : decode cX12_blocks 10 = .ok (.ifCond .ne 5, 3) := by decide +kernel
theorem dX12_blocks_13 : decode cX12_blocks 13 = .ok (.iconst (-1), 1) := by decide +kernel
theorem dX12_blocks_14 : decode cX12_blocks 14 = .ok (.ireturn, 1) := by decide +kernel
theorem dX12_blocks_15 : decode cX12_blocks 15 = .ok (.iconst 0, 1) := by decide +kernel
theorem dX12_blocks_16 : decode cX12_blocks 16 = .ok (.istore_n 3, 1) := by decide +kernel
theorem dX12_blocks_17 : decode cX12_blocks 17 = .ok (.iconst 0, 1) := by decide +kernel
theorem dX12_blocks_18 : decode cX12_blocks 18 = .ok (.istore 4, 2) := by decide +kernel
theorem dX12_blocks_20 : decode cX12_blocks 20 = .ok (.iconst 0, 1) := by decide +kernel
theorem dX12_blocks_21 : decode cX12_blocks 21 = .ok (.istore 5, 2) := by decide +kernel
theorem dX12_blocks_23 : decode cX12_blocks 23 = .ok (.iload 5, 2) := by decide +kernel
theorem dX12_blocks_25 : decode cX12_blocks 25 = .ok (.aload_n 0, 1) := by decide +kernel
theorem dX12_blocks_26 : decode cX12_blocks 26 = .ok (.getfield 331, 3) := by decide +kernel
theorem dX12_blocks_29 : decode cX12_blocks 29 = .ok (.if_icmp .ge 118, 3) := by decide +kernel
theorem dX12_blocks_32 : decode cX12_blocks 32 = .ok (.iconst 0, 1) := by decide +kernel
theorem dX12_blocks_33 : decode cX12_blocks 33 = .ok (.istore 6, 2) := by decide +kernel
theorem dX12_blocks_35 : decode cX12_blocks 35 = .ok (.iconst (-1), 1) := by decide +kernel
theorem dX12_blocks_36 : decode cX12_blocks 36 = .ok (.istore 7, 2) := by decide +kernel
theorem dX12_blocks_38 : decode cX12_blocks 38 = .ok (.aload_n 0, 1) := by decide +kernel
theorem dX12_blocks_39 : decode cX12_blocks 39 = .ok (.iload 5, 2) := by decide +kernel
theorem dX12_blocks_41 : decode cX12_blocks 41 = .ok (.invokevirtual 579, 3) := by decide +kernel
theorem dX12_blocks_44 : decode cX12_blocks 44 = .ok (.aload_n 0, 1) := by decide +kernel
theorem dX12_blocks_45 : decode cX12_blocks 45 = .ok (.getfield 331, 3) := by decide +kernel
theorem dX12_blocks_48 : decode cX12_blocks 48 = .ok (.iconst 1, 1) := by decide +kernel
theorem dX12_blocks_49 : decode cX12_blocks 49 = .ok (.isub, 1) := by decide +kernel
theorem dX12_blocks_50 : decode cX12_blocks 50 = .ok (.istore 8, 2) := by decide +kernel
theorem dX12_blocks_52 : decode cX12_blocks 52 = .ok (.iload 8, 2) := by decide +kernel
theorem dX12_blocks_54 : decode cX12_blocks 54 = .ok (.ifCond .lt 63, 3) := by decide +kernel
theorem dX12_blocks_57 : decode cX12_blocks 57 = .ok (.aload_n 0, 1) := by decide +kernel
theorem dX12_blocks_58 : decode cX12_blocks 58 = .ok (.iload 5, 2) := by decide +kernel
theorem dX12_blocks_60 : decode cX12_blocks 60 = .ok (.invokevirtual 343, 3) := by decide +kernel
theorem dX12_blocks_63 : decode cX12_blocks 63 = .ok (.ifCond .ne 54, 3) := by decide +kernel
theorem dX12_blocks_66 : decode cX12_blocks 66 = .ok (.iload 6, 2) := by decide +kernel
theorem dX12_blocks_68 : decode cX12_blocks 68 = .ok (.aload_n 0, 1) := by decide +kernel
theorem dX12_blocks_69 : decode cX12_blocks 69 = .ok (.getfield 79, 3) := by decide +kernel
theorem dX12_blocks_72 : decode cX12_blocks 72 = .ok (.iload 8, 2) := by decide +kernel
theorem dX12_blocks_74 : decode cX12_blocks 74 = .ok (.iaload, 1) := by decide +kernel
theorem dX12_blocks_75 : decode cX12_blocks 75 = .ok (.ldc_w 370, 3) := by decide +kernel
theorem dX12_blocks_78 : decode cX12_blocks 78 = .ok (.if_icmp .ge 7, 3) := by decide +kernel
theorem dX12_blocks_81 : decode cX12_blocks 81 = .ok (.iconst 1, 1) := by decide +kernel
theorem dX12_blocks_82 : decode cX12_blocks 82 = .ok (.goto 4, 3) := by decide +kernel
theorem dX12_blocks_85 : decode cX12_blocks 85 = .ok (.iconst 0, 1) := by decide +kernel
theorem dX12_blocks_86 : decode cX12_blocks 86 = .ok (.iadd, 1) := by decide +kernel
theorem dX12_blocks_87 : decode cX12_blocks 87 = .ok (.istore 6, 2) := by decide +kernel
theorem dX12_blocks_89 : decode cX12_blocks 89 = .ok (.aload_n 0, 1) := by decide +kernel
theorem dX12_blocks_90 : decode cX12_blocks 90 = .ok (.getfield 79, 3) := by decide +kernel
theorem dX12_blocks_93 : decode cX12_blocks 93 = .ok (.iload 8, 2) := by decide +kernel
theorem dX12_blocks_95 : decode cX12_blocks 95 = .ok (.iaload, 1) := by decide +kernel
theorem dX12_blocks_96 : decode cX12_blocks 96 = .ok (.ldc_w 370, 3) := by decide +kernel
theorem dX12_blocks_99 : decode cX12_blocks 99 = .ok (.if_icmp .ge 8, 3) := by decide +kernel
theorem dX12_blocks_102 : decode cX12_blocks 102 = .ok (.iload 8, 2) := by decide +kernel
theorem dX12_blocks_104 : decode cX12_blocks 104 = .ok (.goto 5, 3) := by decide +kernel
theorem dX12_blocks_107 : decode cX12_blocks 107 = .ok (.iload 7, 2) := by decide +kernel
theorem dX12_blocks_109 : decode cX12_blocks 109 = .ok (.istore 7, 2) := by decide +kernel
theorem dX12_blocks_111 : decode cX12_blocks 111 = .ok (.iinc 8 (-1), 3) := by decide +kernel
theorem dX12_blocks_114 : decode cX12_blocks 114 = .ok (.goto (-62), 3) := by decide +kernel
theorem dX12_blocks_117 : decode cX12_blocks 117 = .ok (.iload_n 3, 1) := by decide +kernel
theorem dX12_blocks_118 : decode cX12_blocks 118 = .ok (.iload 7, 2) := by decide +kernel
theorem dX12_blocks_120 : decode cX12_blocks 120 = .ok (.iload 5, 2) := by decide +kernel
theorem dX12_blocks_122 : decode cX12_blocks 122 = .ok (.if_icmp .ne 7, 3) := by decide +kernel
theorem dX12_blocks_125 : decode cX12_blocks 125 = .ok (.iconst 1, 1) := by decide +kernel
theorem dX12_blocks_126 : decode cX12_blocks 126 = .ok (.goto 4, 3) := by decide +kernel
theorem dX12_blocks_129 : decode cX12_blocks 129 = .ok (.iconst 0, 1) := by decide +kernel
theorem dX12_blocks_130 : decode cX12_blocks 130 = .ok (.iadd, 1) := by decide +kernel
theorem dX12_blocks_131 : decode cX12_blocks 131 = .ok (.istore_n 3, 1) := by decide +kernel
theorem dX12_blocks_132 : decode cX12_blocks 132 = .ok (.iload 4, 2) := by decide +kernel
theorem dX12_blocks_134 : decode cX12_blocks 134 = .ok (.iload 6, 2) := by decide +kernel
theorem dX12_blocks_136 : decode cX12_blocks 136 = .ok (.invokestatic 180, 3) := by decide +kernel
theorem dX12_blocks_139 : decode cX12_blocks 139 = .ok (.istore 4, 2) := by decide +kernel
theorem dX12_blocks_141 : decode cX12_blocks 141 = .ok (.iinc 5 1, 3) := by decide +kernel
theorem dX12_blocks_144 : decode cX12_blocks 144 = .ok (.goto (-121), 3) := by decide +kernel
theorem dX12_blocks_147 : decode cX12_blocks 147 = .ok (.iload_n 2, 1) := by decide +kernel
theorem dX12_blocks_148 : decode cX12_blocks 148 = .ok (.ifCond .eq 8, 3) := by decide +kernel
theorem dX12_blocks_151 : decode cX12_blocks 151 = .ok (.iload 4, 2) := by decide +kernel
theorem dX12_blocks_153 : decode cX12_blocks 153 = .ok (.goto 4, 3) := by decide +kernel
theorem dX12_blocks_156 : decode cX12_blocks 156 = .ok (.iload_n 3, 1) := by decide +kernel
theorem dX12_blocks_157 : decode cX12_blocks 157 = .ok (.ireturn, 1) := by decide +kernel
theorem dX12_meets_0 : decode cX12_meets 0 = .ok (.aload_n 0, 1) := by decide +kernel
theorem dX12_meets_1 : decode cX12_meets 1 = .ok (.getfield 88, 3) := by decide +kernel
theorem dX12_meets_4 : decode cX12_meets 4 = .ok (.iload_n 1, 1) := by decide +kernel
theorem dX12_meets_5 : decode cX12_meets 5 = .ok (.iaload, 1) := by decide +kernel
theorem dX12_meets_6 : decode cX12_meets 6 = .ok (.bipush (-2), 2) := by decide +kernel
theorem dX12_meets_8 : decode cX12_meets 8 = .ok (.if_icmp .ne 30, 3) := by decide +kernel
theorem dX12_meets_11 : decode cX12_meets 11 = .ok (.aload_n 0, 1) := by decide +kernel
theorem dX12_meets_12 : decode cX12_meets 12 = .ok (.getfield 88, 3) := by decide +kernel
theorem dX12_meets_15 : decode cX12_meets 15 = .ok (.iload_n 1, 1) := by decide +kernel
theorem dX12_meets_16 : decode cX12_meets 16 = .ok (.iload_n 2, 1) := by decide +kernel
theorem dX12_meets_17 : decode cX12_meets 17 = .ok (.iastore, 1) := by decide +kernel
theorem dX12_meets_18 : decode cX12_meets 18 = .ok (.aload_n 0, 1) := by decide +kernel
theorem dX12_meets_19 : decode cX12_meets 19 = .ok (.getfield 91, 3) := by decide +kernel
theorem dX12_meets_22 : decode cX12_meets 22 = .ok (.aload_n 0, 1) := by decide +kernel
theorem dX12_meets_23 : decode cX12_meets 23 = .ok (.getfield 582, 3) := by decide +kernel
theorem dX12_meets_26 : decode cX12_meets 26 = .ok (.iload_n 1, 1) := by decide +kernel
theorem dX12_meets_27 : decode cX12_meets 27 = .ok (.iastore, 1) := by decide +kernel
theorem dX12_meets_28 : decode cX12_meets 28 = .ok (.aload_n 0, 1) := by decide +kernel
theorem dX12_meets_29 : decode cX12_meets 29 = .ok (.dup, 1) := by decide +kernel
theorem dX12_meets_30 : decode cX12_meets 30 = .ok (.getfield 582, 3) := by decide +kernel
theorem dX12_meets_33 : decode cX12_meets 33 = .ok (.iconst 1, 1) := by decide +kernel
theorem dX12_meets_34 : decode cX12_meets 34 = .ok (.iadd, 1) := by decide +kernel
theorem dX12_meets_35 : decode cX12_meets 35 = .ok (.putfield 582, 3) := by decide +kernel
theorem dX12_meets_38 : decode cX12_meets 38 = .ok (.return_, 1) := by decide +kernel
theorem dX12_goOut_0 : decode cX12_goOut 0 = .ok (.iconst 0, 1) := by decide +kernel
theorem dX12_goOut_1 : decode cX12_goOut 1 = .ok (.istore_n 3, 1) := by decide +kernel
theorem dX12_goOut_2 : decode cX12_goOut 2 = .ok (.iload_n 3, 1) := by decide +kernel
theorem dX12_goOut_3 : decode cX12_goOut 3 = .ok (.iconst 4, 1) := by decide +kernel
theorem dX12_goOut_4 : decode cX12_goOut 4 = .ok (.if_icmp .ge 50, 3) := by decide +kernel
theorem dX12_goOut_7 : decode cX12_goOut 7 = .ok (.aload_n 0, 1) := by decide +kernel
theorem dX12_goOut_8 : decode cX12_goOut 8 = .ok (.iload_n 1, 1) := by decide +kernel
theorem dX12_goOut_9 : decode cX12_goOut 9 = .ok (.iload_n 3, 1) := by decide +kernel
theorem dX12_goOut_10 : decode cX12_goOut 10 = .ok (.invokevirtual 383, 3) := by decide +kernel
theorem dX12_goOut_13 : decode cX12_goOut 13 = .ok (.istore 4, 2) := by decide +kernel
theorem dX12_goOut_15 : decode cX12_goOut 15 = .ok (.iload 4, 2) := by decide +kernel
theorem dX12_goOut_17 : decode cX12_goOut 17 = .ok (.iconst (-1), 1) := by decide +kernel
theorem dX12_goOut_18 : decode cX12_goOut 18 = .ok (.if_icmp .eq 30, 3) := by decide +kernel
theorem dX12_goOut_21 : decode cX12_goOut 21 = .ok (.iload 4, 2) := by decide +kernel
theorem dX12_goOut_23 : decode cX12_goOut 23 = .ok (.iload_n 2, 1) := by decide +kernel
theorem dX12_goOut_24 : decode cX12_goOut 24 = .ok (.if_icmp .eq 24, 3) := by decide +kernel
theorem dX12_goOut_27 : decode cX12_goOut 27 = .ok (.aload_n 0, 1) := by decide +kernel
theorem dX12_goOut_28 : decode cX12_goOut 28 = .ok (.getfield 82, 3) := by decide +kernel
theorem dX12_goOut_31 : decode cX12_goOut 31 = .ok (.iload_n 1, 1) := by decide +kernel
theorem dX12_goOut_32 : decode cX12_goOut 32 = .ok (.iaload, 1) := by decide +kernel
theorem dX12_goOut_33 : decode cX12_goOut 33 = .ok (.iload 4, 2) := by decide +kernel
theorem dX12_goOut_35 : decode cX12_goOut 35 = .ok (.if_icmp .eq 13, 3) := by decide +kernel
theorem dX12_goOut_38 : decode cX12_goOut 38 = .ok (.aload_n 0, 1) := by decide +kernel
theorem dX12_goOut_39 : decode cX12_goOut 39 = .ok (.iload 4, 2) := by decide +kernel
theorem dX12_goOut_41 : decode cX12_goOut 41 = .ok (.iload_n 1, 1) := by decide +kernel
theorem dX12_goOut_42 : decode cX12_goOut 42 = .ok (.bipush 64, 2) := by decide +kernel
theorem dX12_goOut_44 : decode cX12_goOut 44 = .ok (.iadd, 1) := by decide +kernel
theorem dX12_goOut_45 : decode cX12_goOut 45 = .ok (.invokevirtual 585, 3) := by decide +kernel
theorem dX12_goOut_48 : decode cX12_goOut 48 = .ok (.iinc 3 1, 3) := by decide +kernel
theorem dX12_goOut_51 : decode cX12_goOut 51 = .ok (.goto (-49), 3) := by decide +kernel
theorem dX12_goOut_54 : decode cX12_goOut 54 = .ok (.iload_n 1, 1) := by decide +kernel
theorem dX12_goOut_55 : decode cX12_goOut 55 = .ok (.iload_n 2, 1) := by decide +kernel
theorem dX12_goOut_56 : decode cX12_goOut 56 = .ok (.if_icmp .eq 22, 3) := by decide +kernel
theorem dX12_goOut_59 : decode cX12_goOut 59 = .ok (.aload_n 0, 1) := by decide +kernel
theorem dX12_goOut_60 : decode cX12_goOut 60 = .ok (.getfield 82, 3) := by decide +kernel
theorem dX12_goOut_63 : decode cX12_goOut 63 = .ok (.iload_n 1, 1) := by decide +kernel
theorem dX12_goOut_64 : decode cX12_goOut 64 = .ok (.iaload, 1) := by decide +kernel
theorem dX12_goOut_65 : decode cX12_goOut 65 = .ok (.iconst (-1), 1) := by decide +kernel
theorem dX12_goOut_66 : decode cX12_goOut 66 = .ok (.if_icmp .eq 12, 3) := by decide +kernel
theorem dX12_goOut_69 : decode cX12_goOut 69 = .ok (.aload_n 0, 1) := by decide +kernel
theorem dX12_goOut_70 : decode cX12_goOut 70 = .ok (.iload_n 1, 1) := by decide +kernel
theorem dX12_goOut_71 : decode cX12_goOut 71 = .ok (.iload_n 1, 1) := by decide +kernel
theorem dX12_goOut_72 : decode cX12_goOut 72 = .ok (.bipush 64, 2) := by decide +kernel
theorem dX12_goOut_74 : decode cX12_goOut 74 = .ok (.iadd, 1) := by decide +kernel
theorem dX12_goOut_75 : decode cX12_goOut 75 = .ok (.invokevirtual 585, 3) := by decide +kernel
theorem dX12_goOut_78 : decode cX12_goOut 78 = .ok (.return_, 1) := by decide +kernel
theorem dX12_goIn_0 : decode cX12_goIn 0 = .ok (.aload_n 0, 1) := by decide +kernel
theorem dX12_goIn_1 : decode cX12_goIn 1 = .ok (.getfield 82, 3) := by decide +kernel
theorem dX12_goIn_4 : decode cX12_goIn 4 = .ok (.iload_n 1, 1) := by decide +kernel
theorem dX12_goIn_5 : decode cX12_goIn 5 = .ok (.iaload, 1) := by decide +kernel
theorem dX12_goIn_6 : decode cX12_goIn 6 = .ok (.iconst (-1), 1) := by decide +kernel
theorem dX12_goIn_7 : decode cX12_goIn 7 = .ok (.if_icmp .ne 15, 3) := by decide +kernel
theorem dX12_goIn_10 : decode cX12_goIn 10 = .ok (.aload_n 0, 1) := by decide +kernel
theorem dX12_goIn_11 : decode cX12_goIn 11 = .ok (.iload_n 1, 1) := by decide +kernel
theorem dX12_goIn_12 : decode cX12_goIn 12 = .ok (.bipush 64, 2) := by decide +kernel
theorem dX12_goIn_14 : decode cX12_goIn 14 = .ok (.iadd, 1) := by decide +kernel
theorem dX12_goIn_15 : decode cX12_goIn 15 = .ok (.iload_n 1, 1) := by decide +kernel
theorem dX12_goIn_16 : decode cX12_goIn 16 = .ok (.invokevirtual 585, 3) := by decide +kernel
theorem dX12_goIn_19 : decode cX12_goIn 19 = .ok (.goto 27, 3) := by decide +kernel
theorem dX12_goIn_22 : decode cX12_goIn 22 = .ok (.aload_n 0, 1) := by decide +kernel
theorem dX12_goIn_23 : decode cX12_goIn 23 = .ok (.getfield 85, 3) := by decide +kernel
theorem dX12_goIn_26 : decode cX12_goIn 26 = .ok (.iload_n 1, 1) := by decide +kernel
theorem dX12_goIn_27 : decode cX12_goIn 27 = .ok (.iaload, 1) := by decide +kernel
theorem dX12_goIn_28 : decode cX12_goIn 28 = .ok (.iload_n 2, 1) := by decide +kernel
theorem dX12_goIn_29 : decode cX12_goIn 29 = .ok (.if_icmp .eq 17, 3) := by decide +kernel
theorem dX12_goIn_32 : decode cX12_goIn 32 = .ok (.aload_n 0, 1) := by decide +kernel
theorem dX12_goIn_33 : decode cX12_goIn 33 = .ok (.aload_n 0, 1) := by decide +kernel
theorem dX12_goIn_34 : decode cX12_goIn 34 = .ok (.getfield 85, 3) := by decide +kernel
theorem dX12_goIn_37 : decode cX12_goIn 37 = .ok (.iload_n 1, 1) := by decide +kernel
theorem dX12_goIn_38 : decode cX12_goIn 38 = .ok (.iaload, 1) := by decide +kernel
theorem dX12_goIn_39 : decode cX12_goIn 39 = .ok (.bipush 64, 2) := by decide +kernel
theorem dX12_goIn_41 : decode cX12_goIn 41 = .ok (.iadd, 1) := by decide +kernel
theorem dX12_goIn_42 : decode cX12_goIn 42 = .ok (.iload_n 1, 1) := by decide +kernel
theorem dX12_goIn_43 : decode cX12_goIn 43 = .ok (.invokevirtual 585, 3) := by decide +kernel
theorem dX12_goIn_46 : decode cX12_goIn 46 = .ok (.return_, 1) := by decide +kernel
theorem dX12_finds_0 : decode cX12_finds 0 = .ok (.iconst 0, 1) := by decide +kernel
theorem dX12_finds_1 : decode cX12_finds 1 = .ok (.istore_n 3, 1) := by decide +kernel
theorem dX12_finds_2 : decode cX12_finds 2 = .ok (.iload_n 3, 1) := by decide +kernel
theorem dX12_finds_3 : decode cX12_finds 3 = .ok (.sipush 128, 3) := by decide +kernel
theorem dX12_finds_6 : decode cX12_finds 6 = .ok (.if_icmp .ge 17, 3) := by decide +kernel
theorem dX12_finds_9 : decode cX12_finds 9 = .ok (.aload_n 0, 1) := by decide +kernel
theorem dX12_finds_10 : decode cX12_finds 10 = .ok (.getfield 88, 3) := by decide +kernel
theorem dX12_finds_13 : decode cX12_finds 13 = .ok (.iload_n 3, 1) := by decide +kernel
theorem dX12_finds_14 : decode cX12_finds 14 = .ok (.bipush (-2), 2) := by decide +kernel
theorem dX12_finds_16 : decode cX12_finds 16 = .ok (.iastore, 1) := by decide +kernel
theorem dX12_finds_17 : decode cX12_finds 17 = .ok (.iinc 3 1, 3) := by decide +kernel
theorem dX12_finds_20 : decode cX12_finds 20 = .ok (.goto (-18), 3) := by decide +kernel
theorem dX12_finds_23 : decode cX12_finds 23 = .ok (.aload_n 0, 1) := by decide +kernel
theorem dX12_finds_24 : decode cX12_finds 24 = .ok (.iconst 0, 1) := by decide +kernel
theorem dX12_finds_25 : decode cX12_finds 25 = .ok (.putfield 582, 3) := by decide +kernel
theorem dX12_finds_28 : decode cX12_finds 28 = .ok (.aload_n 0, 1) := by decide +kernel
theorem dX12_finds_29 : decode cX12_finds 29 = .ok (.iload_n 1, 1) := by decide +kernel
theorem dX12_finds_30 : decode cX12_finds 30 = .ok (.bipush 64, 2) := by decide +kernel
theorem dX12_finds_32 : decode cX12_finds 32 = .ok (.iadd, 1) := by decide +kernel
theorem dX12_finds_33 : decode cX12_finds 33 = .ok (.iconst (-1), 1) := by decide +kernel
theorem dX12_finds_34 : decode cX12_finds 34 = .ok (.invokevirtual 585, 3) := by decide +kernel
theorem dX12_finds_37 : decode cX12_finds 37 = .ok (.iconst 0, 1) := by decide +kernel
theorem dX12_finds_38 : decode cX12_finds 38 = .ok (.istore_n 3, 1) := by decide +kernel
theorem dX12_finds_39 : decode cX12_finds 39 = .ok (.iload_n 3, 1) := by decide +kernel
theorem dX12_finds_40 : decode cX12_finds 40 = .ok (.aload_n 0, 1) := by decide +kernel
theorem dX12_finds_41 : decode cX12_finds 41 = .ok (.getfield 582, 3) := by decide +kernel
theorem dX12_finds_44 : decode cX12_finds 44 = .ok (.if_icmp .ge 59, 3) := by decide +kernel
theorem dX12_finds_47 : decode cX12_finds 47 = .ok (.aload_n 0, 1) := by decide +kernel
theorem dX12_finds_48 : decode cX12_finds 48 = .ok (.getfield 88, 3) := by decide +kernel
theorem dX12_finds_51 : decode cX12_finds 51 = .ok (.iload_n 2, 1) := by decide +kernel
theorem dX12_finds_52 : decode cX12_finds 52 = .ok (.iaload, 1) := by decide +kernel
theorem dX12_finds_53 : decode cX12_finds 53 = .ok (.bipush (-2), 2) := by decide +kernel
theorem dX12_finds_55 : decode cX12_finds 55 = .ok (.if_icmp .ne 48, 3) := by decide +kernel
theorem dX12_finds_58 : decode cX12_finds 58 = .ok (.aload_n 0, 1) := by decide +kernel
theorem dX12_finds_59 : decode cX12_finds 59 = .ok (.getfield 91, 3) := by decide +kernel
theorem dX12_finds_62 : decode cX12_finds 62 = .ok (.iload_n 3, 1) := by decide +kernel
theorem dX12_finds_63 : decode cX12_finds 63 = .ok (.iaload, 1) := by decide +kernel
theorem dX12_finds_64 : decode cX12_finds 64 = .ok (.bipush 64, 2) := by decide +kernel
theorem dX12_finds_66 : decode cX12_finds 66 = .ok (.if_icmp .lt 20, 3) := by decide +kernel
theorem dX12_finds_69 : decode cX12_finds 69 = .ok (.aload_n 0, 1) := by decide +kernel
theorem dX12_finds_70 : decode cX12_finds 70 = .ok (.aload_n 0, 1) := by decide +kernel
theorem dX12_finds_71 : decode cX12_finds 71 = .ok (.getfield 91, 3) := by decide +kernel
theorem dX12_finds_74 : decode cX12_finds 74 = .ok (.iload_n 3, 1) := by decide +kernel
theorem dX12_finds_75 : decode cX12_finds 75 = .ok (.iaload, 1) := by decide +kernel
theorem dX12_finds_76 : decode cX12_finds 76 = .ok (.bipush 64, 2) := by decide +kernel
theorem dX12_finds_78 : decode cX12_finds 78 = .ok (.isub, 1) := by decide +kernel
theorem dX12_finds_79 : decode cX12_finds 79 = .ok (.iload_n 1, 1) := by decide +kernel
theorem dX12_finds_80 : decode cX12_finds 80 = .ok (.invokevirtual 588, 3) := by decide +kernel
theorem dX12_finds_83 : decode cX12_finds 83 = .ok (.goto 14, 3) := by decide +kernel
theorem dX12_finds_86 : decode cX12_finds 86 = .ok (.aload_n 0, 1) := by decide +kernel
theorem dX12_finds_87 : decode cX12_finds 87 = .ok (.aload_n 0, 1) := by decide +kernel
theorem dX12_finds_88 : decode cX12_finds 88 = .ok (.getfield 91, 3) := by decide +kernel
theorem dX12_finds_91 : decode cX12_finds 91 = .ok (.iload_n 3, 1) := by decide +kernel
theorem dX12_finds_92 : decode cX12_finds 92 = .ok (.iaload, 1) := by decide +kernel
theorem dX12_finds_93 : decode cX12_finds 93 = .ok (.iload_n 1, 1) := by decide +kernel
theorem dX12_finds_94 : decode cX12_finds 94 = .ok (.invokevirtual 591, 3) := by decide +kernel
theorem dX12_finds_97 : decode cX12_finds 97 = .ok (.iinc 3 1, 3) := by decide +kernel
theorem dX12_finds_100 : decode cX12_finds 100 = .ok (.goto (-61), 3) := by decide +kernel
theorem dX12_finds_103 : decode cX12_finds 103 = .ok (.aload_n 0, 1) := by decide +kernel
theorem dX12_finds_104 : decode cX12_finds 104 = .ok (.getfield 88, 3) := by decide +kernel
theorem dX12_finds_107 : decode cX12_finds 107 = .ok (.iload_n 2, 1) := by decide +kernel
theorem dX12_finds_108 : decode cX12_finds 108 = .ok (.iaload, 1) := by decide +kernel
theorem dX12_finds_109 : decode cX12_finds 109 = .ok (.bipush (-2), 2) := by decide +kernel
theorem dX12_finds_111 : decode cX12_finds 111 = .ok (.if_icmp .eq 7, 3) := by decide +kernel
theorem dX12_finds_114 : decode cX12_finds 114 = .ok (.iconst 1, 1) := by decide +kernel
theorem dX12_finds_115 : decode cX12_finds 115 = .ok (.goto 4, 3) := by decide +kernel
theorem dX12_finds_118 : decode cX12_finds 118 = .ok (.iconst 0, 1) := by decide +kernel
theorem dX12_finds_119 : decode cX12_finds 119 = .ok (.ireturn, 1) := by decide +kernel
theorem dX12_lays_0 : decode cX12_lays 0 = .ok (.iload_n 1, 1) := by decide +kernel
theorem dX12_lays_1 : decode cX12_lays 1 = .ok (.istore_n 2, 1) := by decide +kernel
theorem dX12_lays_2 : decode cX12_lays 2 = .ok (.aload_n 0, 1) := by decide +kernel
theorem dX12_lays_3 : decode cX12_lays 3 = .ok (.getfield 88, 3) := by decide +kernel
theorem dX12_lays_6 : decode cX12_lays 6 = .ok (.iload_n 2, 1) := by decide +kernel
theorem dX12_lays_7 : decode cX12_lays 7 = .ok (.iaload, 1) := by decide +kernel
theorem dX12_lays_8 : decode cX12_lays 8 = .ok (.iconst (-1), 1) := by decide +kernel
theorem dX12_lays_9 : decode cX12_lays 9 = .ok (.if_icmp .eq 93, 3) := by decide +kernel
theorem dX12_lays_12 : decode cX12_lays 12 = .ok (.aload_n 0, 1) := by decide +kernel
theorem dX12_lays_13 : decode cX12_lays 13 = .ok (.getfield 88, 3) := by decide +kernel
theorem dX12_lays_16 : decode cX12_lays 16 = .ok (.iload_n 2, 1) := by decide +kernel
theorem dX12_lays_17 : decode cX12_lays 17 = .ok (.iaload, 1) := by decide +kernel
theorem dX12_lays_18 : decode cX12_lays 18 = .ok (.istore_n 3, 1) := by decide +kernel
theorem dX12_lays_19 : decode cX12_lays 19 = .ok (.iload_n 3, 1) := by decide +kernel
theorem dX12_lays_20 : decode cX12_lays 20 = .ok (.bipush 64, 2) := by decide +kernel
theorem dX12_lays_22 : decode cX12_lays 22 = .ok (.irem, 1) := by decide +kernel
theorem dX12_lays_23 : decode cX12_lays 23 = .ok (.istore 4, 2) := by decide +kernel
theorem dX12_lays_25 : decode cX12_lays 25 = .ok (.iload_n 2, 1) := by decide +kernel
theorem dX12_lays_26 : decode cX12_lays 26 = .ok (.bipush 64, 2) := by decide +kernel
theorem dX12_lays_28 : decode cX12_lays 28 = .ok (.irem, 1) := by decide +kernel
theorem dX12_lays_29 : decode cX12_lays 29 = .ok (.istore 5, 2) := by decide +kernel
theorem dX12_lays_31 : decode cX12_lays 31 = .ok (.iload_n 3, 1) := by decide +kernel
theorem dX12_lays_32 : decode cX12_lays 32 = .ok (.bipush 64, 2) := by decide +kernel
theorem dX12_lays_34 : decode cX12_lays 34 = .ok (.if_icmp .lt 30, 3) := by decide +kernel
theorem dX12_lays_37 : decode cX12_lays 37 = .ok (.iload_n 2, 1) := by decide +kernel
theorem dX12_lays_38 : decode cX12_lays 38 = .ok (.bipush 64, 2) := by decide +kernel
theorem dX12_lays_40 : decode cX12_lays 40 = .ok (.if_icmp .ge 24, 3) := by decide +kernel
theorem dX12_lays_43 : decode cX12_lays 43 = .ok (.iload 4, 2) := by decide +kernel
theorem dX12_lays_45 : decode cX12_lays 45 = .ok (.iload 5, 2) := by decide +kernel
theorem dX12_lays_47 : decode cX12_lays 47 = .ok (.if_icmp .eq 17, 3) := by decide +kernel
theorem dX12_lays_50 : decode cX12_lays 50 = .ok (.aload_n 0, 1) := by decide +kernel
theorem dX12_lays_51 : decode cX12_lays 51 = .ok (.getfield 94, 3) := by decide +kernel
theorem dX12_lays_54 : decode cX12_lays 54 = .ok (.bipush 64, 2) := by decide +kernel
theorem dX12_lays_56 : decode cX12_lays 56 = .ok (.iload 4, 2) := by decide +kernel
theorem dX12_lays_58 : decode cX12_lays 58 = .ok (.imul, 1) := by decide +kernel
theorem dX12_lays_59 : decode cX12_lays 59 = .ok (.iload 5, 2) := by decide +kernel
theorem dX12_lays_61 : decode cX12_lays 61 = .ok (.iadd, 1) := by decide +kernel
theorem dX12_lays_62 : decode cX12_lays 62 = .ok (.iconst 1, 1) := by decide +kernel
theorem dX12_lays_63 : decode cX12_lays 63 = .ok (.bastore, 1) := by decide +kernel
theorem dX12_lays_64 : decode cX12_lays 64 = .ok (.iload_n 3, 1) := by decide +kernel
theorem dX12_lays_65 : decode cX12_lays 65 = .ok (.bipush 64, 2) := by decide +kernel
theorem dX12_lays_67 : decode cX12_lays 67 = .ok (.if_icmp .ge 30, 3) := by decide +kernel
theorem dX12_lays_70 : decode cX12_lays 70 = .ok (.iload_n 2, 1) := by decide +kernel
theorem dX12_lays_71 : decode cX12_lays 71 = .ok (.bipush 64, 2) := by decide +kernel
theorem dX12_lays_73 : decode cX12_lays 73 = .ok (.if_icmp .lt 24, 3) := by decide +kernel
theorem dX12_lays_76 : decode cX12_lays 76 = .ok (.iload 4, 2) := by decide +kernel
theorem dX12_lays_78 : decode cX12_lays 78 = .ok (.iload 5, 2) := by decide +kernel
theorem dX12_lays_80 : decode cX12_lays 80 = .ok (.if_icmp .eq 17, 3) := by decide +kernel
theorem dX12_lays_83 : decode cX12_lays 83 = .ok (.aload_n 0, 1) := by decide +kernel
theorem dX12_lays_84 : decode cX12_lays 84 = .ok (.getfield 94, 3) := by decide +kernel
theorem dX12_lays_87 : decode cX12_lays 87 = .ok (.bipush 64, 2) := by decide +kernel
theorem dX12_lays_89 : decode cX12_lays 89 = .ok (.iload 5, 2) := by decide +kernel
theorem dX12_lays_91 : decode cX12_lays 91 = .ok (.imul, 1) := by decide +kernel
theorem dX12_lays_92 : decode cX12_lays 92 = .ok (.iload 4, 2) := by decide +kernel
theorem dX12_lays_94 : decode cX12_lays 94 = .ok (.iadd, 1) := by decide +kernel
theorem dX12_lays_95 : decode cX12_lays 95 = .ok (.iconst 0, 1) := by decide +kernel
theorem dX12_lays_96 : decode cX12_lays 96 = .ok (.bastore, 1) := by decide +kernel
theorem dX12_lays_97 : decode cX12_lays 97 = .ok (.iload_n 3, 1) := by decide +kernel
theorem dX12_lays_98 : decode cX12_lays 98 = .ok (.istore_n 2, 1) := by decide +kernel
theorem dX12_lays_99 : decode cX12_lays 99 = .ok (.goto (-97), 3) := by decide +kernel
theorem dX12_lays_102 : decode cX12_lays 102 = .ok (.return_, 1) := by decide +kernel
theorem dX12_layRoads_0 : decode cX12_layRoads 0 = .ok (.iconst 0, 1) := by decide +kernel
theorem dX12_layRoads_1 : decode cX12_layRoads 1 = .ok (.istore_n 2, 1) := by decide +kernel
theorem dX12_layRoads_2 : decode cX12_layRoads 2 = .ok (.iload_n 2, 1) := by decide +kernel
theorem dX12_layRoads_3 : decode cX12_layRoads 3 = .ok (.bipush 64, 2) := by decide +kernel
theorem dX12_layRoads_5 : decode cX12_layRoads 5 = .ok (.if_icmp .ge 23, 3) := by decide +kernel
theorem dX12_layRoads_8 : decode cX12_layRoads 8 = .ok (.aload_n 0, 1) := by decide +kernel
theorem dX12_layRoads_9 : decode cX12_layRoads 9 = .ok (.getfield 82, 3) := by decide +kernel
theorem dX12_layRoads_12 : decode cX12_layRoads 12 = .ok (.iload_n 2, 1) := by decide +kernel
theorem dX12_layRoads_13 : decode cX12_layRoads 13 = .ok (.iconst (-1), 1) := by decide +kernel
theorem dX12_layRoads_14 : decode cX12_layRoads 14 = .ok (.iastore, 1) := by decide +kernel
theorem dX12_layRoads_15 : decode cX12_layRoads 15 = .ok (.aload_n 0, 1) := by decide +kernel
theorem dX12_layRoads_16 : decode cX12_layRoads 16 = .ok (.getfield 85, 3) := by decide +kernel
theorem dX12_layRoads_19 : decode cX12_layRoads 19 = .ok (.iload_n 2, 1) := by decide +kernel
theorem dX12_layRoads_20 : decode cX12_layRoads 20 = .ok (.iconst (-1), 1) := by decide +kernel
theorem dX12_layRoads_21 : decode cX12_layRoads 21 = .ok (.iastore, 1) := by decide +kernel
theorem dX12_layRoads_22 : decode cX12_layRoads 22 = .ok (.iinc 2 1, 3) := by decide +kernel
theorem dX12_layRoads_25 : decode cX12_layRoads 25 = .ok (.goto (-23), 3) := by decide +kernel
theorem dX12_layRoads_28 : decode cX12_layRoads 28 = .ok (.iconst 0, 1) := by decide +kernel
theorem dX12_layRoads_29 : decode cX12_layRoads 29 = .ok (.istore_n 2, 1) := by decide +kernel
theorem dX12_layRoads_30 : decode cX12_layRoads 30 = .ok (.iload_n 2, 1) := by decide +kernel
theorem dX12_layRoads_31 : decode cX12_layRoads 31 = .ok (.sipush 4096, 3) := by decide +kernel
theorem dX12_layRoads_34 : decode cX12_layRoads 34 = .ok (.if_icmp .ge 44, 3) := by decide +kernel
theorem dX12_layRoads_37 : decode cX12_layRoads 37 = .ok (.aload_n 0, 1) := by decide +kernel
theorem dX12_layRoads_38 : decode cX12_layRoads 38 = .ok (.getfield 94, 3) := by decide +kernel
theorem dX12_layRoads_41 : decode cX12_layRoads 41 = .ok (.iload_n 2, 1) := by decide +kernel
theorem dX12_layRoads_42 : decode cX12_layRoads 42 = .ok (.baload, 1) := by decide +kernel
theorem dX12_layRoads_43 : decode cX12_layRoads 43 = .ok (.ifCond .eq 29, 3) := by decide +kernel
theorem dX12_layRoads_46 : decode cX12_layRoads 46 = .ok (.aload_n 0, 1) := by decide +kernel
theorem dX12_layRoads_47 : decode cX12_layRoads 47 = .ok (.getfield 82, 3) := by decide +kernel
theorem dX12_layRoads_50 : decode cX12_layRoads 50 = .ok (.iload_n 2, 1) := by decide +kernel
theorem dX12_layRoads_51 : decode cX12_layRoads 51 = .ok (.bipush 64, 2) := by decide +kernel
theorem dX12_layRoads_53 : decode cX12_layRoads 53 = .ok (.idiv, 1) := by decide +kernel
theorem dX12_layRoads_54 : decode cX12_layRoads 54 = .ok (.iload_n 2, 1) := by decide +kernel
theorem dX12_layRoads_55 : decode cX12_layRoads 55 = .ok (.bipush 64, 2) := by decide +kernel
theorem dX12_layRoads_57 : decode cX12_layRoads 57 = .ok (.irem, 1) := by decide +kernel
theorem dX12_layRoads_58 : decode cX12_layRoads 58 = .ok (.iastore, 1) := by decide +kernel
theorem dX12_layRoads_59 : decode cX12_layRoads 59 = .ok (.aload_n 0, 1) := by decide +kernel
theorem dX12_layRoads_60 : decode cX12_layRoads 60 = .ok (.getfield 85, 3) := by decide +kernel
theorem dX12_layRoads_63 : decode cX12_layRoads 63 = .ok (.iload_n 2, 1) := by decide +kernel
theorem dX12_layRoads_64 : decode cX12_layRoads 64 = .ok (.bipush 64, 2) := by decide +kernel
theorem dX12_layRoads_66 : decode cX12_layRoads 66 = .ok (.irem, 1) := by decide +kernel
theorem dX12_layRoads_67 : decode cX12_layRoads 67 = .ok (.iload_n 2, 1) := by decide +kernel
theorem dX12_layRoads_68 : decode cX12_layRoads 68 = .ok (.bipush 64, 2) := by decide +kernel
theorem dX12_layRoads_70 : decode cX12_layRoads 70 = .ok (.idiv, 1) := by decide +kernel
theorem dX12_layRoads_71 : decode cX12_layRoads 71 = .ok (.iastore, 1) := by decide +kernel
theorem dX12_layRoads_72 : decode cX12_layRoads 72 = .ok (.iinc 2 1, 3) := by decide +kernel
theorem dX12_layRoads_75 : decode cX12_layRoads 75 = .ok (.goto (-45), 3) := by decide +kernel
theorem dX12_layRoads_78 : decode cX12_layRoads 78 = .ok (.aload_n 0, 1) := by decide +kernel
theorem dX12_layRoads_79 : decode cX12_layRoads 79 = .ok (.getfield 85, 3) := by decide +kernel
theorem dX12_layRoads_82 : decode cX12_layRoads 82 = .ok (.iload_n 1, 1) := by decide +kernel
theorem dX12_layRoads_83 : decode cX12_layRoads 83 = .ok (.iconst (-1), 1) := by decide +kernel
theorem dX12_layRoads_84 : decode cX12_layRoads 84 = .ok (.iastore, 1) := by decide +kernel
theorem dX12_layRoads_85 : decode cX12_layRoads 85 = .ok (.aload_n 0, 1) := by decide +kernel
theorem dX12_layRoads_86 : decode cX12_layRoads 86 = .ok (.getfield 82, 3) := by decide +kernel
theorem dX12_layRoads_89 : decode cX12_layRoads 89 = .ok (.iload_n 1, 1) := by decide +kernel
theorem dX12_layRoads_90 : decode cX12_layRoads 90 = .ok (.iconst (-1), 1) := by decide +kernel
theorem dX12_layRoads_91 : decode cX12_layRoads 91 = .ok (.iastore, 1) := by decide +kernel
theorem dX12_layRoads_92 : decode cX12_layRoads 92 = .ok (.return_, 1) := by decide +kernel
theorem dX12_isNext_0 : decode cX12_isNext 0 = .ok (.iconst 0, 1) := by decide +kernel
theorem dX12_isNext_1 : decode cX12_isNext 1 = .ok (.istore_n 3, 1) := by decide +kernel
theorem dX12_isNext_2 : decode cX12_isNext 2 = .ok (.iload_n 3, 1) := by decide +kernel
theorem dX12_isNext_3 : decode cX12_isNext 3 = .ok (.iconst 4, 1) := by decide +kernel
theorem dX12_isNext_4 : decode cX12_isNext 4 = .ok (.if_icmp .ge 21, 3) := by decide +kernel
theorem dX12_isNext_7 : decode cX12_isNext 7 = .ok (.aload_n 0, 1) := by decide +kernel
theorem dX12_isNext_8 : decode cX12_isNext 8 = .ok (.iload_n 1, 1) := by decide +kernel
theorem dX12_isNext_9 : decode cX12_isNext 9 = .ok (.iload_n 3, 1) := by decide +kernel
theorem dX12_isNext_10 : decode cX12_isNext 10 = .ok (.invokevirtual 340, 3) := by decide +kernel
theorem dX12_isNext_13 : decode cX12_isNext 13 = .ok (.iload_n 2, 1) := by decide +kernel
theorem dX12_isNext_14 : decode cX12_isNext 14 = .ok (.if_icmp .ne 5, 3) := by decide +kernel
theorem dX12_isNext_17 : decode cX12_isNext 17 = .ok (.iconst 1, 1) := by decide +kernel
theorem dX12_isNext_18 : decode cX12_isNext 18 = .ok (.ireturn, 1) := by decide +kernel
theorem dX12_isNext_19 : decode cX12_isNext 19 = .ok (.iinc 3 1, 3) := by decide +kernel
theorem dX12_isNext_22 : decode cX12_isNext 22 = .ok (.goto (-20), 3) := by decide +kernel
theorem dX12_isNext_25 : decode cX12_isNext 25 = .ok (.iconst 0, 1) := by decide +kernel
theorem dX12_isNext_26 : decode cX12_isNext 26 = .ok (.ireturn, 1) := by decide +kernel
theorem dX12_cordon_0 : decode cX12_cordon 0 = .ok (.aload_n 0, 1) := by decide +kernel
theorem dX12_cordon_1 : decode cX12_cordon 1 = .ok (.iconst 0, 1) := by decide +kernel
theorem dX12_cordon_2 : decode cX12_cordon 2 = .ok (.putfield 107, 3) := by decide +kernel
theorem dX12_cordon_5 : decode cX12_cordon 5 = .ok (.aload_n 0, 1) := by decide +kernel
theorem dX12_cordon_6 : decode cX12_cordon 6 = .ok (.iload_n 1, 1) := by decide +kernel
theorem dX12_cordon_7 : decode cX12_cordon 7 = .ok (.invokevirtual 346, 3) := by decide +kernel
theorem dX12_cordon_10 : decode cX12_cordon 10 = .ok (.ifCond .eq 49, 3) := by decide +kernel
theorem dX12_cordon_13 : decode cX12_cordon 13 = .ok (.aload_n 0, 1) := by decide +kernel
theorem dX12_cordon_14 : decode cX12_cordon 14 = .ok (.iload_n 2, 1) := by decide +kernel
theorem dX12_cordon_15 : decode cX12_cordon 15 = .ok (.invokevirtual 425, 3) := by decide +kernel
theorem dX12_cordon_18 : decode cX12_cordon 18 = .ok (.ifCond .eq 41, 3) := by decide +kernel
theorem dX12_cordon_21 : decode cX12_cordon 21 = .ok (.aload_n 0, 1) := by decide +kernel
theorem dX12_cordon_22 : decode cX12_cordon 22 = .ok (.iload_n 3, 1) := by decide +kernel
theorem dX12_cordon_23 : decode cX12_cordon 23 = .ok (.invokevirtual 425, 3) := by decide +kernel
theorem dX12_cordon_26 : decode cX12_cordon 26 = .ok (.ifCond .eq 33, 3) := by decide +kernel
theorem dX12_cordon_29 : decode cX12_cordon 29 = .ok (.aload_n 0, 1) := by decide +kernel
theorem dX12_cordon_30 : decode cX12_cordon 30 = .ok (.iload_n 2, 1) := by decide +kernel
theorem dX12_cordon_31 : decode cX12_cordon 31 = .ok (.invokevirtual 343, 3) := by decide +kernel
theorem dX12_cordon_34 : decode cX12_cordon 34 = .ok (.ifCond .ne 25, 3) := by decide +kernel
theorem dX12_cordon_37 : decode cX12_cordon 37 = .ok (.aload_n 0, 1) := by decide +kernel
theorem dX12_cordon_38 : decode cX12_cordon 38 = .ok (.iload_n 3, 1) := by decide +kernel
theorem dX12_cordon_39 : decode cX12_cordon 39 = .ok (.invokevirtual 343, 3) := by decide +kernel
theorem dX12_cordon_42 : decode cX12_cordon 42 = .ok (.ifCond .ne 17, 3) := by decide +kernel
theorem dX12_cordon_45 : decode cX12_cordon 45 = .ok (.iload_n 2, 1) := by decide +kernel
theorem dX12_cordon_46 : decode cX12_cordon 46 = .ok (.iload_n 3, 1) := by decide +kernel
theorem dX12_cordon_47 : decode cX12_cordon 47 = .ok (.if_icmp .eq 12, 3) := by decide +kernel
theorem dX12_cordon_50 : decode cX12_cordon 50 = .ok (.aload_n 0, 1) := by decide +kernel
theorem dX12_cordon_51 : decode cX12_cordon 51 = .ok (.iload_n 2, 1) := by decide +kernel
theorem dX12_cordon_52 : decode cX12_cordon 52 = .ok (.iload_n 3, 1) := by decide +kernel
theorem dX12_cordon_53 : decode cX12_cordon 53 = .ok (.invokevirtual 594, 3) := by decide +kernel
theorem dX12_cordon_56 : decode cX12_cordon 56 = .ok (.ifCond .eq 5, 3) := by decide +kernel
theorem dX12_cordon_59 : decode cX12_cordon 59 = .ok (.iconst (-1), 1) := by decide +kernel
theorem dX12_cordon_60 : decode cX12_cordon 60 = .ok (.ireturn, 1) := by decide +kernel
theorem dX12_cordon_61 : decode cX12_cordon 61 = .ok (.iconst 0, 1) := by decide +kernel
theorem dX12_cordon_62 : decode cX12_cordon 62 = .ok (.istore 4, 2) := by decide +kernel
theorem dX12_cordon_64 : decode cX12_cordon 64 = .ok (.iload 4, 2) := by decide +kernel
theorem dX12_cordon_66 : decode cX12_cordon 66 = .ok (.sipush 4096, 3) := by decide +kernel
theorem dX12_cordon_69 : decode cX12_cordon 69 = .ok (.if_icmp .ge 17, 3) := by decide +kernel
theorem dX12_cordon_72 : decode cX12_cordon 72 = .ok (.aload_n 0, 1) := by decide +kernel
theorem dX12_cordon_73 : decode cX12_cordon 73 = .ok (.getfield 94, 3) := by decide +kernel
theorem dX12_cordon_76 : decode cX12_cordon 76 = .ok (.iload 4, 2) := by decide +kernel
theorem dX12_cordon_78 : decode cX12_cordon 78 = .ok (.iconst 0, 1) := by decide +kernel
theorem dX12_cordon_79 : decode cX12_cordon 79 = .ok (.bastore, 1) := by decide +kernel
theorem dX12_cordon_80 : decode cX12_cordon 80 = .ok (.iinc 4 1, 3) := by decide +kernel
theorem dX12_cordon_83 : decode cX12_cordon 83 = .ok (.goto (-19), 3) := by decide +kernel
theorem dX12_cordon_86 : decode cX12_cordon 86 = .ok (.aload_n 0, 1) := by decide +kernel
theorem dX12_cordon_87 : decode cX12_cordon 87 = .ok (.iload_n 3, 1) := by decide +kernel
theorem dX12_cordon_88 : decode cX12_cordon 88 = .ok (.invokevirtual 597, 3) := by decide +kernel
theorem dX12_cordon_91 : decode cX12_cordon 91 = .ok (.iconst 0, 1) := by decide +kernel
theorem dX12_cordon_92 : decode cX12_cordon 92 = .ok (.istore 4, 2) := by decide +kernel
theorem dX12_cordon_94 : decode cX12_cordon 94 = .ok (.aload_n 0, 1) := by decide +kernel
theorem dX12_cordon_95 : decode cX12_cordon 95 = .ok (.iload_n 2, 1) := by decide +kernel
theorem dX12_cordon_96 : decode cX12_cordon 96 = .ok (.iload_n 3, 1) := by decide +kernel
theorem dX12_cordon_97 : decode cX12_cordon 97 = .ok (.invokevirtual 600, 3) := by decide +kernel
theorem dX12_cordon_100 : decode cX12_cordon 100 = .ok (.ifCond .eq 19, 3) := by decide +kernel
theorem dX12_cordon_103 : decode cX12_cordon 103 = .ok (.aload_n 0, 1) := by decide +kernel
theorem dX12_cordon_104 : decode cX12_cordon 104 = .ok (.iload_n 3, 1) := by decide +kernel
theorem dX12_cordon_105 : decode cX12_cordon 105 = .ok (.invokevirtual 603, 3) := by decide +kernel
theorem dX12_cordon_108 : decode cX12_cordon 108 = .ok (.aload_n 0, 1) := by decide +kernel
theorem dX12_cordon_109 : decode cX12_cordon 109 = .ok (.iload_n 3, 1) := by decide +kernel
theorem dX12_cordon_110 : decode cX12_cordon 110 = .ok (.invokevirtual 597, 3) := by decide +kernel
theorem dX12_cordon_113 : decode cX12_cordon 113 = .ok (.iinc 4 1, 3) := by decide +kernel
theorem dX12_cordon_116 : decode cX12_cordon 116 = .ok (.goto (-22), 3) := by decide +kernel
theorem dX12_cordon_119 : decode cX12_cordon 119 = .ok (.iload 4, 2) := by decide +kernel
theorem dX12_cordon_121 : decode cX12_cordon 121 = .ok (.ireturn, 1) := by decide +kernel
theorem dX12_square_0 : decode cX12_square 0 = .ok (.aload_n 0, 1) := by decide +kernel
theorem dX12_square_1 : decode cX12_square 1 = .ok (.iconst 0, 1) := by decide +kernel
theorem dX12_square_2 : decode cX12_square 2 = .ok (.putfield 107, 3) := by decide +kernel
theorem dX12_square_5 : decode cX12_square 5 = .ok (.aload_n 0, 1) := by decide +kernel
theorem dX12_square_6 : decode cX12_square 6 = .ok (.iload_n 1, 1) := by decide +kernel
theorem dX12_square_7 : decode cX12_square 7 = .ok (.invokevirtual 346, 3) := by decide +kernel
theorem dX12_square_10 : decode cX12_square 10 = .ok (.ifCond .ne 5, 3) := by decide +kernel
theorem dX12_square_13 : decode cX12_square 13 = .ok (.iconst (-1), 1) := by decide +kernel
theorem dX12_square_14 : decode cX12_square 14 = .ok (.ireturn, 1) := by decide +kernel
theorem dX12_square_15 : decode cX12_square 15 = .ok (.aload_n 0, 1) := by decide +kernel
theorem dX12_square_16 : decode cX12_square 16 = .ok (.invokevirtual 432, 3) := by decide +kernel
theorem dX12_square_19 : decode cX12_square 19 = .ok (.iconst 0, 1) := by decide +kernel
theorem dX12_square_20 : decode cX12_square 20 = .ok (.istore_n 3, 1) := by decide +kernel
theorem dX12_square_21 : decode cX12_square 21 = .ok (.iconst (-1), 1) := by decide +kernel
theorem dX12_square_22 : decode cX12_square 22 = .ok (.istore 4, 2) := by decide +kernel
theorem dX12_square_24 : decode cX12_square 24 = .ok (.iconst 0, 1) := by decide +kernel
theorem dX12_square_25 : decode cX12_square 25 = .ok (.istore 5, 2) := by decide +kernel
theorem dX12_square_27 : decode cX12_square 27 = .ok (.iload 5, 2) := by decide +kernel
theorem dX12_square_29 : decode cX12_square 29 = .ok (.aload_n 0, 1) := by decide +kernel
theorem dX12_square_30 : decode cX12_square 30 = .ok (.getfield 331, 3) := by decide +kernel
theorem dX12_square_33 : decode cX12_square 33 = .ok (.if_icmp .ge 78, 3) := by decide +kernel
theorem dX12_square_36 : decode cX12_square 36 = .ok (.iconst 0, 1) := by decide +kernel
theorem dX12_square_37 : decode cX12_square 37 = .ok (.istore 6, 2) := by decide +kernel
theorem dX12_square_39 : decode cX12_square 39 = .ok (.iconst 0, 1) := by decide +kernel
theorem dX12_square_40 : decode cX12_square 40 = .ok (.istore 7, 2) := by decide +kernel
theorem dX12_square_42 : decode cX12_square 42 = .ok (.iload 7, 2) := by decide +kernel
theorem dX12_square_44 : decode cX12_square 44 = .ok (.aload_n 0, 1) := by decide +kernel
theorem dX12_square_45 : decode cX12_square 45 = .ok (.getfield 334, 3) := by decide +kernel
theorem dX12_square_48 : decode cX12_square 48 = .ok (.if_icmp .ge 34, 3) := by decide +kernel
theorem dX12_square_51 : decode cX12_square 51 = .ok (.iload 6, 2) := by decide +kernel
theorem dX12_square_53 : decode cX12_square 53 = .ok (.aload_n 0, 1) := by decide +kernel
theorem dX12_square_54 : decode cX12_square 54 = .ok (.getfield 59, 3) := by decide +kernel
theorem dX12_square_57 : decode cX12_square 57 = .ok (.iload 7, 2) := by decide +kernel
theorem dX12_square_59 : decode cX12_square 59 = .ok (.laload, 1) := by decide +kernel
theorem dX12_square_60 : decode cX12_square 60 = .ok (.iload 5, 2) := by decide +kernel
theorem dX12_square_62 : decode cX12_square 62 = .ok (.invokestatic 462, 3) := by decide +kernel
theorem dX12_square_65 : decode cX12_square 65 = .ok (.ifCond .eq 7, 3) := by decide +kernel
theorem dX12_square_68 : decode cX12_square 68 = .ok (.iconst 1, 1) := by decide +kernel
theorem dX12_square_69 : decode cX12_square 69 = .ok (.goto 4, 3) := by decide +kernel
theorem dX12_square_72 : decode cX12_square 72 = .ok (.iconst 0, 1) := by decide +kernel
theorem dX12_square_73 : decode cX12_square 73 = .ok (.iadd, 1) := by decide +kernel
theorem dX12_square_74 : decode cX12_square 74 = .ok (.istore 6, 2) := by decide +kernel
theorem dX12_square_76 : decode cX12_square 76 = .ok (.iinc 7 1, 3) := by decide +kernel
theorem dX12_square_79 : decode cX12_square 79 = .ok (.goto (-37), 3) := by decide +kernel
theorem dX12_square_82 : decode cX12_square 82 = .ok (.iload 6, 2) := by decide +kernel
theorem dX12_square_84 : decode cX12_square 84 = .ok (.iload 4, 2) := by decide +kernel
theorem dX12_square_86 : decode cX12_square 86 = .ok (.if_icmp .le 8, 3) := by decide +kernel
theorem dX12_square_89 : decode cX12_square 89 = .ok (.iload 5, 2) := by decide +kernel
theorem dX12_square_91 : decode cX12_square 91 = .ok (.goto 4, 3) := by decide +kernel
theorem dX12_square_94 : decode cX12_square 94 = .ok (.iload_n 3, 1) := by decide +kernel
theorem dX12_square_95 : decode cX12_square 95 = .ok (.istore_n 3, 1) := by decide +kernel
theorem dX12_square_96 : decode cX12_square 96 = .ok (.iload 4, 2) := by decide +kernel
theorem dX12_square_98 : decode cX12_square 98 = .ok (.iload 6, 2) := by decide +kernel
theorem dX12_square_100 : decode cX12_square 100 = .ok (.invokestatic 180, 3) := by decide +kernel
theorem dX12_square_103 : decode cX12_square 103 = .ok (.istore 4, 2) := by decide +kernel
theorem dX12_square_105 : decode cX12_square 105 = .ok (.iinc 5 1, 3) := by decide +kernel
theorem dX12_square_108 : decode cX12_square 108 = .ok (.goto (-81), 3) := by decide +kernel
theorem dX12_square_111 : decode cX12_square 111 = .ok (.iload_n 2, 1) := by decide +kernel
theorem dX12_square_112 : decode cX12_square 112 = .ok (.ifCond .eq 8, 3) := by decide +kernel
theorem dX12_square_115 : decode cX12_square 115 = .ok (.iload 4, 2) := by decide +kernel
theorem dX12_square_117 : decode cX12_square 117 = .ok (.goto 4, 3) := by decide +kernel
theorem dX12_square_120 : decode cX12_square 120 = .ok (.iload_n 3, 1) := by decide +kernel
theorem dX12_square_121 : decode cX12_square 121 = .ok (.ireturn, 1) := by decide +kernel
theorem dX12_silent_0 : decode cX12_silent 0 = .ok (.aload_n 0, 1) := by decide +kernel
theorem dX12_silent_1 : decode cX12_silent 1 = .ok (.iconst 0, 1) := by decide +kernel
theorem dX12_silent_2 : decode cX12_silent 2 = .ok (.putfield 107, 3) := by decide +kernel
theorem dX12_silent_5 : decode cX12_silent 5 = .ok (.aload_n 0, 1) := by decide +kernel
theorem dX12_silent_6 : decode cX12_silent 6 = .ok (.iload_n 1, 1) := by decide +kernel
theorem dX12_silent_7 : decode cX12_silent 7 = .ok (.invokevirtual 346, 3) := by decide +kernel
theorem dX12_silent_10 : decode cX12_silent 10 = .ok (.ifCond .ne 5, 3) := by decide +kernel
theorem dX12_silent_13 : decode cX12_silent 13 = .ok (.iconst (-1), 1) := by decide +kernel
theorem dX12_silent_14 : decode cX12_silent 14 = .ok (.ireturn, 1) := by decide +kernel
theorem dX12_silent_15 : decode cX12_silent 15 = .ok (.aload_n 0, 1) := by decide +kernel
theorem dX12_silent_16 : decode cX12_silent 16 = .ok (.invokevirtual 432, 3) := by decide +kernel
theorem dX12_silent_19 : decode cX12_silent 19 = .ok (.iconst 0, 1) := by decide +kernel
theorem dX12_silent_20 : decode cX12_silent 20 = .ok (.istore_n 2, 1) := by decide +kernel
theorem dX12_silent_21 : decode cX12_silent 21 = .ok (.iconst 0, 1) := by decide +kernel
theorem dX12_silent_22 : decode cX12_silent 22 = .ok (.istore_n 3, 1) := by decide +kernel
theorem dX12_silent_23 : decode cX12_silent 23 = .ok (.iload_n 3, 1) := by decide +kernel
theorem dX12_silent_24 : decode cX12_silent 24 = .ok (.aload_n 0, 1) := by decide +kernel
theorem dX12_silent_25 : decode cX12_silent 25 = .ok (.getfield 337, 3) := by decide +kernel
theorem dX12_silent_28 : decode cX12_silent 28 = .ok (.if_icmp .ge 40, 3) := by decide +kernel
theorem dX12_silent_31 : decode cX12_silent 31 = .ok (.iload_n 2, 1) := by decide +kernel
theorem dX12_silent_32 : decode cX12_silent 32 = .ok (.aload_n 0, 1) := by decide +kernel
theorem dX12_silent_33 : decode cX12_silent 33 = .ok (.aload_n 0, 1) := by decide +kernel
theorem dX12_silent_34 : decode cX12_silent 34 = .ok (.invokevirtual 435, 3) := by decide +kernel
theorem dX12_silent_37 : decode cX12_silent 37 = .ok (.invokevirtual 438, 3) := by decide +kernel
theorem dX12_silent_40 : decode cX12_silent 40 = .ok (.aload_n 0, 1) := by decide +kernel
theorem dX12_silent_41 : decode cX12_silent 41 = .ok (.bipush 27, 2) := by decide +kernel
theorem dX12_silent_43 : decode cX12_silent 43 = .ok (.iload_n 3, 1) := by decide +kernel
theorem dX12_silent_44 : decode cX12_silent 44 = .ok (.invokevirtual 352, 3) := by decide +kernel
theorem dX12_silent_47 : decode cX12_silent 47 = .ok (.invokestatic 462, 3) := by decide +kernel
theorem dX12_silent_50 : decode cX12_silent 50 = .ok (.ifCond .eq 7, 3) := by decide +kernel
theorem dX12_silent_53 : decode cX12_silent 53 = .ok (.iconst 0, 1) := by decide +kernel
theorem dX12_silent_54 : decode cX12_silent 54 = .ok (.goto 6, 3) := by decide +kernel
theorem dX12_silent_57 : decode cX12_silent 57 = .ok (.iconst 1, 1) := by decide +kernel
theorem dX12_silent_58 : decode cX12_silent 58 = .ok (.iload_n 3, 1) := by decide +kernel
theorem dX12_silent_59 : decode cX12_silent 59 = .ok (.ishl, 1) := by decide +kernel
theorem dX12_silent_60 : decode cX12_silent 60 = .ok (.ior, 1) := by decide +kernel
theorem dX12_silent_61 : decode cX12_silent 61 = .ok (.istore_n 2, 1) := by decide +kernel
theorem dX12_silent_62 : decode cX12_silent 62 = .ok (.iinc 3 1, 3) := by decide +kernel
theorem dX12_silent_65 : decode cX12_silent 65 = .ok (.goto (-42), 3) := by decide +kernel
theorem dX12_silent_68 : decode cX12_silent 68 = .ok (.iload_n 2, 1) := by decide +kernel
theorem dX12_silent_69 : decode cX12_silent 69 = .ok (.ireturn, 1) := by decide +kernel
theorem dX12_round_0 : decode cX12_round 0 = .ok (.aload_n 0, 1) := by decide +kernel
theorem dX12_round_1 : decode cX12_round 1 = .ok (.iconst 0, 1) := by decide +kernel
theorem dX12_round_2 : decode cX12_round 2 = .ok (.putfield 107, 3) := by decide +kernel
theorem dX12_round_5 : decode cX12_round 5 = .ok (.aload_n 0, 1) := by decide +kernel
theorem dX12_round_6 : decode cX12_round 6 = .ok (.iload_n 1, 1) := by decide +kernel
theorem dX12_round_7 : decode cX12_round 7 = .ok (.invokevirtual 346, 3) := by decide +kernel
theorem dX12_round_10 : decode cX12_round 10 = .ok (.ifCond .eq 11, 3) := by decide +kernel
theorem dX12_round_13 : decode cX12_round 13 = .ok (.aload_n 0, 1) := by decide +kernel
theorem dX12_round_14 : decode cX12_round 14 = .ok (.iload_n 2, 1) := by decide +kernel
theorem dX12_round_15 : decode cX12_round 15 = .ok (.invokevirtual 349, 3) := by decide +kernel
theorem dX12_round_18 : decode cX12_round 18 = .ok (.ifCond .ne 5, 3) := by decide +kernel
theorem dX12_round_21 : decode cX12_round 21 = .ok (.iconst (-1), 1) := by decide +kernel
theorem dX12_round_22 : decode cX12_round 22 = .ok (.ireturn, 1) := by decide +kernel
theorem dX12_round_23 : decode cX12_round 23 = .ok (.iconst 0, 1) := by decide +kernel
theorem dX12_round_24 : decode cX12_round 24 = .ok (.istore_n 3, 1) := by decide +kernel
theorem dX12_round_25 : decode cX12_round 25 = .ok (.iload_n 3, 1) := by decide +kernel
theorem dX12_round_26 : decode cX12_round 26 = .ok (.aload_n 0, 1) := by decide +kernel
theorem dX12_round_27 : decode cX12_round 27 = .ok (.getfield 337, 3) := by decide +kernel
theorem dX12_round_30 : decode cX12_round 30 = .ok (.if_icmp .gt 81, 3) := by decide +kernel
theorem dX12_round_33 : decode cX12_round 33 = .ok (.aload_n 0, 1) := by decide +kernel
theorem dX12_round_34 : decode cX12_round 34 = .ok (.iload_n 3, 1) := by decide +kernel
theorem dX12_round_35 : decode cX12_round 35 = .ok (.aload_n 0, 1) := by decide +kernel
theorem dX12_round_36 : decode cX12_round 36 = .ok (.getfield 337, 3) := by decide +kernel
theorem dX12_round_39 : decode cX12_round 39 = .ok (.if_icmp .ge 13, 3) := by decide +kernel
theorem dX12_round_42 : decode cX12_round 42 = .ok (.aload_n 0, 1) := by decide +kernel
theorem dX12_round_43 : decode cX12_round 43 = .ok (.bipush 27, 2) := by decide +kernel
theorem dX12_round_45 : decode cX12_round 45 = .ok (.iload_n 3, 1) := by decide +kernel
theorem dX12_round_46 : decode cX12_round 46 = .ok (.invokevirtual 352, 3) := by decide +kernel
theorem dX12_round_49 : decode cX12_round 49 = .ok (.goto 10, 3) := by decide +kernel
theorem dX12_round_52 : decode cX12_round 52 = .ok (.aload_n 0, 1) := by decide +kernel
theorem dX12_round_53 : decode cX12_round 53 = .ok (.bipush 9, 2) := by decide +kernel
theorem dX12_round_55 : decode cX12_round 55 = .ok (.iload_n 2, 1) := by decide +kernel
theorem dX12_round_56 : decode cX12_round 56 = .ok (.invokevirtual 352, 3) := by decide +kernel
theorem dX12_round_59 : decode cX12_round 59 = .ok (.invokevirtual 579, 3) := by decide +kernel
theorem dX12_round_62 : decode cX12_round 62 = .ok (.iconst 0, 1) := by decide +kernel
theorem dX12_round_63 : decode cX12_round 63 = .ok (.istore 4, 2) := by decide +kernel
theorem dX12_round_65 : decode cX12_round 65 = .ok (.iload 4, 2) := by decide +kernel
theorem dX12_round_67 : decode cX12_round 67 = .ok (.aload_n 0, 1) := by decide +kernel
theorem dX12_round_68 : decode cX12_round 68 = .ok (.getfield 337, 3) := by decide +kernel
theorem dX12_round_71 : decode cX12_round 71 = .ok (.if_icmp .ge 34, 3) := by decide +kernel
theorem dX12_round_74 : decode cX12_round 74 = .ok (.aload_n 0, 1) := by decide +kernel
theorem dX12_round_75 : decode cX12_round 75 = .ok (.getfield 98, 3) := by decide +kernel
theorem dX12_round_78 : decode cX12_round 78 = .ok (.bipush 7, 2) := by decide +kernel
theorem dX12_round_80 : decode cX12_round 80 = .ok (.iload_n 3, 1) := by decide +kernel
theorem dX12_round_81 : decode cX12_round 81 = .ok (.imul, 1) := by decide +kernel
theorem dX12_round_82 : decode cX12_round 82 = .ok (.iload 4, 2) := by decide +kernel
theorem dX12_round_84 : decode cX12_round 84 = .ok (.iadd, 1) := by decide +kernel
theorem dX12_round_85 : decode cX12_round 85 = .ok (.aload_n 0, 1) := by decide +kernel
theorem dX12_round_86 : decode cX12_round 86 = .ok (.getfield 79, 3) := by decide +kernel
theorem dX12_round_89 : decode cX12_round 89 = .ok (.aload_n 0, 1) := by decide +kernel
theorem dX12_round_90 : decode cX12_round 90 = .ok (.bipush 27, 2) := by decide +kernel
theorem dX12_round_92 : decode cX12_round 92 = .ok (.iload 4, 2) := by decide +kernel
theorem dX12_round_94 : decode cX12_round 94 = .ok (.invokevirtual 352, 3) := by decide +kernel
theorem dX12_round_97 : decode cX12_round 97 = .ok (.iaload, 1) := by decide +kernel
theorem dX12_round_98 : decode cX12_round 98 = .ok (.iastore, 1) := by decide +kernel
theorem dX12_round_99 : decode cX12_round 99 = .ok (.iinc 4 1, 3) := by decide +kernel
theorem dX12_round_102 : decode cX12_round 102 = .ok (.goto (-37), 3) := by decide +kernel
theorem dX12_round_105 : decode cX12_round 105 = .ok (.iinc 3 1, 3) := by decide +kernel
theorem dX12_round_108 : decode cX12_round 108 = .ok (.goto (-83), 3) := by decide +kernel
theorem dX12_round_111 : decode cX12_round 111 = .ok (.iconst 0, 1) := by decide +kernel
theorem dX12_round_112 : decode cX12_round 112 = .ok (.istore_n 3, 1) := by decide +kernel
theorem dX12_round_113 : decode cX12_round 113 = .ok (.iload_n 3, 1) := by decide +kernel
theorem dX12_round_114 : decode cX12_round 114 = .ok (.iconst 1, 1) := by decide +kernel
theorem dX12_round_115 : decode cX12_round 115 = .ok (.aload_n 0, 1) := by decide +kernel
theorem dX12_round_116 : decode cX12_round 116 = .ok (.getfield 337, 3) := by decide +kernel
theorem dX12_round_119 : decode cX12_round 119 = .ok (.ishl, 1) := by decide +kernel
theorem dX12_round_120 : decode cX12_round 120 = .ok (.if_icmp .ge 126, 3) := by decide +kernel
theorem dX12_round_123 : decode cX12_round 123 = .ok (.iconst 0, 1) := by decide +kernel
theorem dX12_round_124 : decode cX12_round 124 = .ok (.istore 4, 2) := by decide +kernel
theorem dX12_round_126 : decode cX12_round 126 = .ok (.iload 4, 2) := by decide +kernel
theorem dX12_round_128 : decode cX12_round 128 = .ok (.aload_n 0, 1) := by decide +kernel
theorem dX12_round_129 : decode cX12_round 129 = .ok (.getfield 337, 3) := by decide +kernel
theorem dX12_round_132 : decode cX12_round 132 = .ok (.if_icmp .gt 108, 3) := by decide +kernel
theorem dX12_round_135 : decode cX12_round 135 = .ok (.iload_n 3, 1) := by decide +kernel
theorem dX12_round_136 : decode cX12_round 136 = .ok (.ifCond .ne 7, 3) := by decide +kernel
theorem dX12_round_139 : decode cX12_round 139 = .ok (.iconst 0, 1) := by decide +kernel
theorem dX12_round_140 : decode cX12_round 140 = .ok (.goto 6, 3) := by decide +kernel
theorem dX12_round_143 : decode cX12_round 143 = .ok (.ldc_w 370, 3) := by decide +kernel
theorem dX12_round_146 : decode cX12_round 146 = .ok (.istore 5, 2) := by decide +kernel
theorem dX12_round_148 : decode cX12_round 148 = .ok (.iconst 0, 1) := by decide +kernel
theorem dX12_round_149 : decode cX12_round 149 = .ok (.istore 6, 2) := by decide +kernel
theorem dX12_round_151 : decode cX12_round 151 = .ok (.iload 6, 2) := by decide +kernel
theorem dX12_round_153 : decode cX12_round 153 = .ok (.aload_n 0, 1) := by decide +kernel
theorem dX12_round_154 : decode cX12_round 154 = .ok (.getfield 337, 3) := by decide +kernel
theorem dX12_round_157 : decode cX12_round 157 = .ok (.if_icmp .ge 63, 3) := by decide +kernel
theorem dX12_round_160 : decode cX12_round 160 = .ok (.iload_n 3, 1) := by decide +kernel
theorem dX12_round_161 : decode cX12_round 161 = .ok (.iload 6, 2) := by decide +kernel
theorem dX12_round_163 : decode cX12_round 163 = .ok (.invokestatic 111, 3) := by decide +kernel
theorem dX12_round_166 : decode cX12_round 166 = .ok (.ifCond .eq 44, 3) := by decide +kernel
theorem dX12_round_169 : decode cX12_round 169 = .ok (.iload 5, 2) := by decide +kernel
theorem dX12_round_171 : decode cX12_round 171 = .ok (.aload_n 0, 1) := by decide +kernel
theorem dX12_round_172 : decode cX12_round 172 = .ok (.getfield 98, 3) := by decide +kernel
theorem dX12_round_175 : decode cX12_round 175 = .ok (.bipush 7, 2) := by decide +kernel
theorem dX12_round_177 : decode cX12_round 177 = .ok (.iload 4, 2) := by decide +kernel
theorem dX12_round_179 : decode cX12_round 179 = .ok (.imul, 1) := by decide +kernel
theorem dX12_round_180 : decode cX12_round 180 = .ok (.iload 6, 2) := by decide +kernel
theorem dX12_round_182 : decode cX12_round 182 = .ok (.iadd, 1) := by decide +kernel
theorem dX12_round_183 : decode cX12_round 183 = .ok (.iaload, 1) := by decide +kernel
theorem dX12_round_184 : decode cX12_round 184 = .ok (.aload_n 0, 1) := by decide +kernel
theorem dX12_round_185 : decode cX12_round 185 = .ok (.getfield 101, 3) := by decide +kernel
theorem dX12_round_188 : decode cX12_round 188 = .ok (.bipush 7, 2) := by decide +kernel
theorem dX12_round_190 : decode cX12_round 190 = .ok (.iload_n 3, 1) := by decide +kernel
theorem dX12_round_191 : decode cX12_round 191 = .ok (.iconst 1, 1) := by decide +kernel
theorem dX12_round_192 : decode cX12_round 192 = .ok (.iload 6, 2) := by decide +kernel
theorem dX12_round_194 : decode cX12_round 194 = .ok (.ishl, 1) := by decide +kernel
theorem dX12_round_195 : decode cX12_round 195 = .ok (.iconst (-1), 1) := by decide +kernel
theorem dX12_round_196 : decode cX12_round 196 = .ok (.ixor, 1) := by decide +kernel
theorem dX12_round_197 : decode cX12_round 197 = .ok (.iand, 1) := by decide +kernel
theorem dX12_round_198 : decode cX12_round 198 = .ok (.imul, 1) := by decide +kernel
theorem dX12_round_199 : decode cX12_round 199 = .ok (.iload 6, 2) := by decide +kernel
theorem dX12_round_201 : decode cX12_round 201 = .ok (.iadd, 1) := by decide +kernel
theorem dX12_round_202 : decode cX12_round 202 = .ok (.iaload, 1) := by decide +kernel
theorem dX12_round_203 : decode cX12_round 203 = .ok (.iadd, 1) := by decide +kernel
theorem dX12_round_204 : decode cX12_round 204 = .ok (.invokestatic 476, 3) := by decide +kernel
theorem dX12_round_207 : decode cX12_round 207 = .ok (.goto 5, 3) := by decide +kernel
theorem dX12_round_210 : decode cX12_round 210 = .ok (.iload 5, 2) := by decide +kernel
theorem dX12_round_212 : decode cX12_round 212 = .ok (.istore 5, 2) := by decide +kernel
theorem dX12_round_214 : decode cX12_round 214 = .ok (.iinc 6 1, 3) := by decide +kernel
theorem dX12_round_217 : decode cX12_round 217 = .ok (.goto (-66), 3) := by decide +kernel
theorem dX12_round_220 : decode cX12_round 220 = .ok (.aload_n 0, 1) := by decide +kernel
theorem dX12_round_221 : decode cX12_round 221 = .ok (.getfield 101, 3) := by decide +kernel
theorem dX12_round_224 : decode cX12_round 224 = .ok (.bipush 7, 2) := by decide +kernel
theorem dX12_round_226 : decode cX12_round 226 = .ok (.iload_n 3, 1) := by decide +kernel
theorem dX12_round_227 : decode cX12_round 227 = .ok (.imul, 1) := by decide +kernel
theorem dX12_round_228 : decode cX12_round 228 = .ok (.iload 4, 2) := by decide +kernel
theorem dX12_round_230 : decode cX12_round 230 = .ok (.iadd, 1) := by decide +kernel
theorem dX12_round_231 : decode cX12_round 231 = .ok (.iload 5, 2) := by decide +kernel
theorem dX12_round_233 : decode cX12_round 233 = .ok (.iastore, 1) := by decide +kernel
theorem dX12_round_234 : decode cX12_round 234 = .ok (.iinc 4 1, 3) := by decide +kernel
theorem dX12_round_237 : decode cX12_round 237 = .ok (.goto (-111), 3) := by decide +kernel
theorem dX12_round_240 : decode cX12_round 240 = .ok (.iinc 3 1, 3) := by decide +kernel
theorem dX12_round_243 : decode cX12_round 243 = .ok (.goto (-130), 3) := by decide +kernel
theorem dX12_round_246 : decode cX12_round 246 = .ok (.aload_n 0, 1) := by decide +kernel
theorem dX12_round_247 : decode cX12_round 247 = .ok (.getfield 101, 3) := by decide +kernel
theorem dX12_round_250 : decode cX12_round 250 = .ok (.bipush 7, 2) := by decide +kernel
theorem dX12_round_252 : decode cX12_round 252 = .ok (.iconst 1, 1) := by decide +kernel
theorem dX12_round_253 : decode cX12_round 253 = .ok (.aload_n 0, 1) := by decide +kernel
theorem dX12_round_254 : decode cX12_round 254 = .ok (.getfield 337, 3) := by decide +kernel
theorem dX12_round_257 : decode cX12_round 257 = .ok (.ishl, 1) := by decide +kernel
theorem dX12_round_258 : decode cX12_round 258 = .ok (.iconst 1, 1) := by decide +kernel
theorem dX12_round_259 : decode cX12_round 259 = .ok (.isub, 1) := by decide +kernel
theorem dX12_round_260 : decode cX12_round 260 = .ok (.imul, 1) := by decide +kernel
theorem dX12_round_261 : decode cX12_round 261 = .ok (.aload_n 0, 1) := by decide +kernel
theorem dX12_round_262 : decode cX12_round 262 = .ok (.getfield 337, 3) := by decide +kernel
theorem dX12_round_265 : decode cX12_round 265 = .ok (.iadd, 1) := by decide +kernel
theorem dX12_round_266 : decode cX12_round 266 = .ok (.iaload, 1) := by decide +kernel
theorem dX12_round_267 : decode cX12_round 267 = .ok (.istore_n 3, 1) := by decide +kernel
theorem dX12_round_268 : decode cX12_round 268 = .ok (.iload_n 3, 1) := by decide +kernel
theorem dX12_round_269 : decode cX12_round 269 = .ok (.ldc_w 370, 3) := by decide +kernel
theorem dX12_round_272 : decode cX12_round 272 = .ok (.if_icmp .lt 7, 3) := by decide +kernel
theorem dX12_round_275 : decode cX12_round 275 = .ok (.iconst (-1), 1) := by decide +kernel
theorem dX12_round_276 : decode cX12_round 276 = .ok (.goto 4, 3) := by decide +kernel
theorem dX12_round_279 : decode cX12_round 279 = .ok (.iload_n 3, 1) := by decide +kernel
theorem dX12_round_280 : decode cX12_round 280 = .ok (.ireturn, 1) := by decide +kernel
theorem dX12_count_0 : decode cX12_count 0 = .ok (.aload_n 0, 1) := by decide +kernel
theorem dX12_count_1 : decode cX12_count 1 = .ok (.iconst 0, 1) := by decide +kernel
theorem dX12_count_2 : decode cX12_count 2 = .ok (.putfield 107, 3) := by decide +kernel
theorem dX12_count_5 : decode cX12_count 5 = .ok (.iload_n 1, 1) := by decide +kernel
theorem dX12_count_6 : decode cX12_count 6 = .ok (.iconst 0, 1) := by decide +kernel
theorem dX12_count_7 : decode cX12_count 7 = .ok (.iconst 3, 1) := by decide +kernel
theorem dX12_count_8 : decode cX12_count 8 = .ok (.invokestatic 119, 3) := by decide +kernel
theorem dX12_count_11 : decode cX12_count 11 = .ok (.ifCond .eq 12, 3) := by decide +kernel
theorem dX12_count_14 : decode cX12_count 14 = .ok (.aload_n 0, 1) := by decide +kernel
theorem dX12_count_15 : decode cX12_count 15 = .ok (.getfield 23, 3) := by decide +kernel
theorem dX12_count_18 : decode cX12_count 18 = .ok (.iload_n 1, 1) := by decide +kernel
theorem dX12_count_19 : decode cX12_count 19 = .ok (.iaload, 1) := by decide +kernel
theorem dX12_count_20 : decode cX12_count 20 = .ok (.goto 5, 3) := by decide +kernel
theorem dX12_count_23 : decode cX12_count 23 = .ok (.bipush (-2), 2) := by decide +kernel
theorem dX12_count_25 : decode cX12_count 25 = .ok (.ireturn, 1) := by decide +kernel
theorem dX12_image_0 : decode cX12_image 0 = .ok (.aload_n 0, 1) := by decide +kernel
theorem dX12_image_1 : decode cX12_image 1 = .ok (.iconst 0, 1) := by decide +kernel
theorem dX12_image_2 : decode cX12_image 2 = .ok (.putfield 107, 3) := by decide +kernel
theorem dX12_image_5 : decode cX12_image 5 = .ok (.iload_n 1, 1) := by decide +kernel
theorem dX12_image_6 : decode cX12_image 6 = .ok (.iconst 0, 1) := by decide +kernel
theorem dX12_image_7 : decode cX12_image 7 = .ok (.iconst 2, 1) := by decide +kernel
theorem dX12_image_8 : decode cX12_image 8 = .ok (.invokestatic 119, 3) := by decide +kernel
theorem dX12_image_11 : decode cX12_image 11 = .ok (.ifCond .ne 5, 3) := by decide +kernel
theorem dX12_image_14 : decode cX12_image 14 = .ok (.iconst 0, 1) := by decide +kernel
theorem dX12_image_15 : decode cX12_image 15 = .ok (.ireturn, 1) := by decide +kernel
theorem dX12_image_16 : decode cX12_image 16 = .ok (.aload_n 0, 1) := by decide +kernel
theorem dX12_image_17 : decode cX12_image 17 = .ok (.iconst 0, 1) := by decide +kernel
theorem dX12_image_18 : decode cX12_image 18 = .ok (.iload_n 1, 1) := by decide +kernel
theorem dX12_image_19 : decode cX12_image 19 = .ok (.iconst 1, 1) := by decide +kernel
theorem dX12_image_20 : decode cX12_image 20 = .ok (.iadd, 1) := by decide +kernel
theorem dX12_image_21 : decode cX12_image 21 = .ok (.invokevirtual 606, 3) := by decide +kernel
theorem dX12_image_24 : decode cX12_image 24 = .ok (.aload_n 0, 1) := by decide +kernel
theorem dX12_image_25 : decode cX12_image 25 = .ok (.getfield 104, 3) := by decide +kernel
theorem dX12_image_28 : decode cX12_image 28 = .ok (.iload_n 1, 1) := by decide +kernel
theorem dX12_image_29 : decode cX12_image 29 = .ok (.iconst 1, 1) := by decide +kernel
theorem dX12_image_30 : decode cX12_image 30 = .ok (.bastore, 1) := by decide +kernel
theorem dX12_image_31 : decode cX12_image 31 = .ok (.iconst 1, 1) := by decide +kernel
theorem dX12_image_32 : decode cX12_image 32 = .ok (.ireturn, 1) := by decide +kernel
theorem dX12_again_0 : decode cX12_again 0 = .ok (.aload_n 0, 1) := by decide +kernel
theorem dX12_again_1 : decode cX12_again 1 = .ok (.iconst 0, 1) := by decide +kernel
theorem dX12_again_2 : decode cX12_again 2 = .ok (.putfield 107, 3) := by decide +kernel
theorem dX12_again_5 : decode cX12_again 5 = .ok (.iload_n 1, 1) := by decide +kernel
theorem dX12_again_6 : decode cX12_again 6 = .ok (.iconst 0, 1) := by decide +kernel
theorem dX12_again_7 : decode cX12_again 7 = .ok (.iconst 2, 1) := by decide +kernel
theorem dX12_again_8 : decode cX12_again 8 = .ok (.invokestatic 119, 3) := by decide +kernel
theorem dX12_again_11 : decode cX12_again 11 = .ok (.ifCond .eq 12, 3) := by decide +kernel
theorem dX12_again_14 : decode cX12_again 14 = .ok (.aload_n 0, 1) := by decide +kernel
theorem dX12_again_15 : decode cX12_again 15 = .ok (.getfield 104, 3) := by decide +kernel
theorem dX12_again_18 : decode cX12_again 18 = .ok (.iload_n 1, 1) := by decide +kernel
theorem dX12_again_19 : decode cX12_again 19 = .ok (.baload, 1) := by decide +kernel
theorem dX12_again_20 : decode cX12_again 20 = .ok (.ifCond .ne 5, 3) := by decide +kernel
theorem dX12_again_23 : decode cX12_again 23 = .ok (.iconst 0, 1) := by decide +kernel
theorem dX12_again_24 : decode cX12_again 24 = .ok (.ireturn, 1) := by decide +kernel
theorem dX12_again_25 : decode cX12_again 25 = .ok (.aload_n 0, 1) := by decide +kernel
theorem dX12_again_26 : decode cX12_again 26 = .ok (.iload_n 1, 1) := by decide +kernel
theorem dX12_again_27 : decode cX12_again 27 = .ok (.iconst 1, 1) := by decide +kernel
theorem dX12_again_28 : decode cX12_again 28 = .ok (.iadd, 1) := by decide +kernel
theorem dX12_again_29 : decode cX12_again 29 = .ok (.iconst 0, 1) := by decide +kernel
theorem dX12_again_30 : decode cX12_again 30 = .ok (.invokevirtual 606, 3) := by decide +kernel
theorem dX12_again_33 : decode cX12_again 33 = .ok (.iconst 1, 1) := by decide +kernel
theorem dX12_again_34 : decode cX12_again 34 = .ok (.ireturn, 1) := by decide +kernel
