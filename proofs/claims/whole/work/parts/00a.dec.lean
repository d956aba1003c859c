/-! decode rows, printed by program of the program's bytes -/
theorem dX0_init_0 : decode cX0_init 0 = .ok (.aload_n 0, 1) := by decide +kernel
theorem dX0_init_1 : decode cX0_init 1 = .ok (.invokespecial 3, 3) := by decide +kernel
theorem dX0_init_4 : decode cX0_init 4 = .ok (.aload_n 0, 1) := by decide +kernel
theorem dX0_init_5 : decode cX0_init 5 = .ok (.bipush 6, 2) := by decide +kernel
theorem dX0_init_7 : decode cX0_init 7 = .ok (.newarray .int, 2) := by decide +kernel
theorem dX0_init_9 : decode cX0_init 9 = .ok (.putfield 9, 3) := by decide +kernel
theorem dX0_init_12 : decode cX0_init 12 = .ok (.aload_n 0, 1) := by decide +kernel
theorem dX0_init_13 : decode cX0_init 13 = .ok (.bipush 6, 2) := by decide +kernel
theorem dX0_init_15 : decode cX0_init 15 = .ok (.newarray .int, 2) := by decide +kernel
theorem dX0_init_17 : decode cX0_init 17 = .ok (.putfield 15, 3) := by decide +kernel
theorem dX0_init_20 : decode cX0_init 20 = .ok (.aload_n 0, 1) := by decide +kernel
theorem dX0_init_21 : decode cX0_init 21 = .ok (.bipush 6, 2) := by decide +kernel
theorem dX0_init_23 : decode cX0_init 23 = .ok (.newarray .int, 2) := by decide +kernel
theorem dX0_init_25 : decode cX0_init 25 = .ok (.putfield 18, 3) := by decide +kernel
theorem dX0_init_28 : decode cX0_init 28 = .ok (.aload_n 0, 1) := by decide +kernel
theorem dX0_init_29 : decode cX0_init 29 = .ok (.bipush 6, 2) := by decide +kernel
theorem dX0_init_31 : decode cX0_init 31 = .ok (.newarray .int, 2) := by decide +kernel
theorem dX0_init_33 : decode cX0_init 33 = .ok (.putfield 21, 3) := by decide +kernel
theorem dX0_init_36 : decode cX0_init 36 = .ok (.aload_n 0, 1) := by decide +kernel
theorem dX0_init_37 : decode cX0_init 37 = .ok (.iconst 4, 1) := by decide +kernel
theorem dX0_init_38 : decode cX0_init 38 = .ok (.newarray .int, 2) := by decide +kernel
theorem dX0_init_40 : decode cX0_init 40 = .ok (.putfield 24, 3) := by decide +kernel
theorem dX0_init_43 : decode cX0_init 43 = .ok (.return_, 1) := by decide +kernel
theorem dX0_reset_0 : decode cX0_reset 0 = .ok (.aload_n 0, 1) := by decide +kernel
theorem dX0_reset_1 : decode cX0_reset 1 = .ok (.bipush 6, 2) := by decide +kernel
theorem dX0_reset_3 : decode cX0_reset 3 = .ok (.putfield 27, 3) := by decide +kernel
theorem dX0_reset_6 : decode cX0_reset 6 = .ok (.aload_n 0, 1) := by decide +kernel
theorem dX0_reset_7 : decode cX0_reset 7 = .ok (.bipush 6, 2) := by decide +kernel
theorem dX0_reset_9 : decode cX0_reset 9 = .ok (.putfield 31, 3) := by decide +kernel
theorem dX0_reset_12 : decode cX0_reset 12 = .ok (.aload_n 0, 1) := by decide +kernel
theorem dX0_reset_13 : decode cX0_reset 13 = .ok (.iconst 4, 1) := by decide +kernel
theorem dX0_reset_14 : decode cX0_reset 14 = .ok (.putfield 34, 3) := by decide +kernel
theorem dX0_reset_17 : decode cX0_reset 17 = .ok (.aload_n 0, 1) := by decide +kernel
theorem dX0_reset_18 : decode cX0_reset 18 = .ok (.lconst 0, 1) := by decide +kernel
theorem dX0_reset_19 : decode cX0_reset 19 = .ok (.putfield 37, 3) := by decide +kernel
theorem dX0_reset_22 : decode cX0_reset 22 = .ok (.aload_n 0, 1) := by decide +kernel
theorem dX0_reset_23 : decode cX0_reset 23 = .ok (.iconst 0, 1) := by decide +kernel
theorem dX0_reset_24 : decode cX0_reset 24 = .ok (.putfield 41, 3) := by decide +kernel
theorem dX0_reset_27 : decode cX0_reset 27 = .ok (.aload_n 0, 1) := by decide +kernel
theorem dX0_reset_28 : decode cX0_reset 28 = .ok (.iconst 0, 1) := by decide +kernel
theorem dX0_reset_29 : decode cX0_reset 29 = .ok (.putfield 44, 3) := by decide +kernel
theorem dX0_reset_32 : decode cX0_reset 32 = .ok (.aload_n 0, 1) := by decide +kernel
theorem dX0_reset_33 : decode cX0_reset 33 = .ok (.getfield 24, 3) := by decide +kernel
theorem dX0_reset_36 : decode cX0_reset 36 = .ok (.iconst 3, 1) := by decide +kernel
theorem dX0_reset_37 : decode cX0_reset 37 = .ok (.invokestatic 47, 3) := by decide +kernel
theorem dX0_reset_40 : decode cX0_reset 40 = .ok (.return_, 1) := by decide +kernel
theorem dX0_take_0 : decode cX0_take 0 = .ok (.aload_n 0, 1) := by decide +kernel
theorem dX0_take_1 : decode cX0_take 1 = .ok (.aload_n 1, 1) := by decide +kernel
theorem dX0_take_2 : decode cX0_take 2 = .ok (.getfield 27, 3) := by decide +kernel
theorem dX0_take_5 : decode cX0_take 5 = .ok (.putfield 27, 3) := by decide +kernel
theorem dX0_take_8 : decode cX0_take 8 = .ok (.aload_n 0, 1) := by decide +kernel
theorem dX0_take_9 : decode cX0_take 9 = .ok (.aload_n 1, 1) := by decide +kernel
theorem dX0_take_10 : decode cX0_take 10 = .ok (.getfield 31, 3) := by decide +kernel
theorem dX0_take_13 : decode cX0_take 13 = .ok (.putfield 31, 3) := by decide +kernel
theorem dX0_take_16 : decode cX0_take 16 = .ok (.aload_n 0, 1) := by decide +kernel
theorem dX0_take_17 : decode cX0_take 17 = .ok (.aload_n 1, 1) := by decide +kernel
theorem dX0_take_18 : decode cX0_take 18 = .ok (.getfield 34, 3) := by decide +kernel
theorem dX0_take_21 : decode cX0_take 21 = .ok (.putfield 34, 3) := by decide +kernel
theorem dX0_take_24 : decode cX0_take 24 = .ok (.aload_n 0, 1) := by decide +kernel
theorem dX0_take_25 : decode cX0_take 25 = .ok (.aload_n 1, 1) := by decide +kernel
theorem dX0_take_26 : decode cX0_take 26 = .ok (.getfield 37, 3) := by decide +kernel
theorem dX0_take_29 : decode cX0_take 29 = .ok (.putfield 37, 3) := by decide +kernel
theorem dX0_take_32 : decode cX0_take 32 = .ok (.aload_n 0, 1) := by decide +kernel
theorem dX0_take_33 : decode cX0_take 33 = .ok (.aload_n 1, 1) := by decide +kernel
theorem dX0_take_34 : decode cX0_take 34 = .ok (.getfield 41, 3) := by decide +kernel
theorem dX0_take_37 : decode cX0_take 37 = .ok (.putfield 41, 3) := by decide +kernel
theorem dX0_take_40 : decode cX0_take 40 = .ok (.aload_n 0, 1) := by decide +kernel
theorem dX0_take_41 : decode cX0_take 41 = .ok (.aload_n 1, 1) := by decide +kernel
theorem dX0_take_42 : decode cX0_take 42 = .ok (.getfield 44, 3) := by decide +kernel
theorem dX0_take_45 : decode cX0_take 45 = .ok (.putfield 44, 3) := by decide +kernel
theorem dX0_take_48 : decode cX0_take 48 = .ok (.aload_n 1, 1) := by decide +kernel
theorem dX0_take_49 : decode cX0_take 49 = .ok (.getfield 9, 3) := by decide +kernel
theorem dX0_take_52 : decode cX0_take 52 = .ok (.iconst 0, 1) := by decide +kernel
theorem dX0_take_53 : decode cX0_take 53 = .ok (.aload_n 0, 1) := by decide +kernel
theorem dX0_take_54 : decode cX0_take 54 = .ok (.getfield 9, 3) := by decide +kernel
theorem dX0_take_57 : decode cX0_take 57 = .ok (.iconst 0, 1) := by decide +kernel
theorem dX0_take_58 : decode cX0_take 58 = .ok (.bipush 6, 2) := by decide +kernel
theorem dX0_take_60 : decode cX0_take 60 = .ok (.invokestatic 53, 3) := by decide +kernel
theorem dX0_take_63 : decode cX0_take 63 = .ok (.aload_n 1, 1) := by decide +kernel
theorem dX0_take_64 : decode cX0_take 64 = .ok (.getfield 15, 3) := by decide +kernel
theorem dX0_take_67 : decode cX0_take 67 = .ok (.iconst 0, 1) := by decide +kernel
theorem dX0_take_68 : decode cX0_take 68 = .ok (.aload_n 0, 1) := by decide +kernel
theorem dX0_take_69 : decode cX0_take 69 = .ok (.getfield 15, 3) := by decide +kernel
theorem dX0_take_72 : decode cX0_take 72 = .ok (.iconst 0, 1) := by decide +kernel
theorem dX0_take_73 : decode cX0_take 73 = .ok (.bipush 6, 2) := by decide +kernel
theorem dX0_take_75 : decode cX0_take 75 = .ok (.invokestatic 53, 3) := by decide +kernel
theorem dX0_take_78 : decode cX0_take 78 = .ok (.aload_n 1, 1) := by decide +kernel
theorem dX0_take_79 : decode cX0_take 79 = .ok (.getfield 18, 3) := by decide +kernel
theorem dX0_take_82 : decode cX0_take 82 = .ok (.iconst 0, 1) := by decide +kernel
theorem dX0_take_83 : decode cX0_take 83 = .ok (.aload_n 0, 1) := by decide +kernel
theorem dX0_take_84 : decode cX0_take 84 = .ok (.getfield 18, 3) := by decide +kernel
theorem dX0_take_87 : decode cX0_take 87 = .ok (.iconst 0, 1) := by decide +kernel
theorem dX0_take_88 : decode cX0_take 88 = .ok (.bipush 6, 2) := by decide +kernel
theorem dX0_take_90 : decode cX0_take 90 = .ok (.invokestatic 53, 3) := by decide +kernel
theorem dX0_take_93 : decode cX0_take 93 = .ok (.aload_n 1, 1) := by decide +kernel
theorem dX0_take_94 : decode cX0_take 94 = .ok (.getfield 21, 3) := by decide +kernel
theorem dX0_take_97 : decode cX0_take 97 = .ok (.iconst 0, 1) := by decide +kernel
theorem dX0_take_98 : decode cX0_take 98 = .ok (.aload_n 0, 1) := by decide +kernel
theorem dX0_take_99 : decode cX0_take 99 = .ok (.getfield 21, 3) := by decide +kernel
theorem dX0_take_102 : decode cX0_take 102 = .ok (.iconst 0, 1) := by decide +kernel
theorem dX0_take_103 : decode cX0_take 103 = .ok (.bipush 6, 2) := by decide +kernel
theorem dX0_take_105 : decode cX0_take 105 = .ok (.invokestatic 53, 3) := by decide +kernel
theorem dX0_take_108 : decode cX0_take 108 = .ok (.aload_n 1, 1) := by decide +kernel
theorem dX0_take_109 : decode cX0_take 109 = .ok (.getfield 24, 3) := by decide +kernel
theorem dX0_take_112 : decode cX0_take 112 = .ok (.iconst 0, 1) := by decide +kernel
theorem dX0_take_113 : decode cX0_take 113 = .ok (.aload_n 0, 1) := by decide +kernel
theorem dX0_take_114 : decode cX0_take 114 = .ok (.getfield 24, 3) := by decide +kernel
theorem dX0_take_117 : decode cX0_take 117 = .ok (.iconst 0, 1) := by decide +kernel
theorem dX0_take_118 : decode cX0_take 118 = .ok (.iconst 4, 1) := by decide +kernel
theorem dX0_take_119 : decode cX0_take 119 = .ok (.invokestatic 53, 3) := by decide +kernel
theorem dX0_take_122 : decode cX0_take 122 = .ok (.return_, 1) := by decide +kernel
theorem dX0_addPlayer_0 : decode cX0_addPlayer 0 = .ok (.aload_n 0, 1) := by decide +kernel
theorem dX0_addPlayer_1 : decode cX0_addPlayer 1 = .ok (.getfield 41, 3) := by decide +kernel
theorem dX0_addPlayer_4 : decode cX0_addPlayer 4 = .ok (.bipush 6, 2) := by decide +kernel
theorem dX0_addPlayer_6 : decode cX0_addPlayer 6 = .ok (.if_icmp .ge 33, 3) := by decide +kernel
theorem dX0_addPlayer_9 : decode cX0_addPlayer 9 = .ok (.aload_n 0, 1) := by decide +kernel
theorem dX0_addPlayer_10 : decode cX0_addPlayer 10 = .ok (.getfield 9, 3) := by decide +kernel
theorem dX0_addPlayer_13 : decode cX0_addPlayer 13 = .ok (.aload_n 0, 1) := by decide +kernel
theorem dX0_addPlayer_14 : decode cX0_addPlayer 14 = .ok (.getfield 41, 3) := by decide +kernel
theorem dX0_addPlayer_17 : decode cX0_addPlayer 17 = .ok (.iload_n 1, 1) := by decide +kernel
theorem dX0_addPlayer_18 : decode cX0_addPlayer 18 = .ok (.iastore, 1) := by decide +kernel
theorem dX0_addPlayer_19 : decode cX0_addPlayer 19 = .ok (.aload_n 0, 1) := by decide +kernel
theorem dX0_addPlayer_20 : decode cX0_addPlayer 20 = .ok (.getfield 15, 3) := by decide +kernel
theorem dX0_addPlayer_23 : decode cX0_addPlayer 23 = .ok (.aload_n 0, 1) := by decide +kernel
theorem dX0_addPlayer_24 : decode cX0_addPlayer 24 = .ok (.getfield 41, 3) := by decide +kernel
theorem dX0_addPlayer_27 : decode cX0_addPlayer 27 = .ok (.iload_n 2, 1) := by decide +kernel
theorem dX0_addPlayer_28 : decode cX0_addPlayer 28 = .ok (.iastore, 1) := by decide +kernel
theorem dX0_addPlayer_29 : decode cX0_addPlayer 29 = .ok (.aload_n 0, 1) := by decide +kernel
theorem dX0_addPlayer_30 : decode cX0_addPlayer 30 = .ok (.dup, 1) := by decide +kernel
theorem dX0_addPlayer_31 : decode cX0_addPlayer 31 = .ok (.getfield 41, 3) := by decide +kernel
theorem dX0_addPlayer_34 : decode cX0_addPlayer 34 = .ok (.iconst 1, 1) := by decide +kernel
theorem dX0_addPlayer_35 : decode cX0_addPlayer 35 = .ok (.iadd, 1) := by decide +kernel
theorem dX0_addPlayer_36 : decode cX0_addPlayer 36 = .ok (.putfield 41, 3) := by decide +kernel
theorem dX0_addPlayer_39 : decode cX0_addPlayer 39 = .ok (.return_, 1) := by decide +kernel
theorem dX0_addPerson_0 : decode cX0_addPerson 0 = .ok (.aload_n 0, 1) := by decide +kernel
theorem dX0_addPerson_1 : decode cX0_addPerson 1 = .ok (.getfield 44, 3) := by decide +kernel
theorem dX0_addPerson_4 : decode cX0_addPerson 4 = .ok (.bipush 6, 2) := by decide +kernel
theorem dX0_addPerson_6 : decode cX0_addPerson 6 = .ok (.if_icmp .ge 33, 3) := by decide +kernel
theorem dX0_addPerson_9 : decode cX0_addPerson 9 = .ok (.aload_n 0, 1) := by decide +kernel
theorem dX0_addPerson_10 : decode cX0_addPerson 10 = .ok (.getfield 18, 3) := by decide +kernel
theorem dX0_addPerson_13 : decode cX0_addPerson 13 = .ok (.aload_n 0, 1) := by decide +kernel
theorem dX0_addPerson_14 : decode cX0_addPerson 14 = .ok (.getfield 44, 3) := by decide +kernel
theorem dX0_addPerson_17 : decode cX0_addPerson 17 = .ok (.iload_n 1, 1) := by decide +kernel
theorem dX0_addPerson_18 : decode cX0_addPerson 18 = .ok (.iastore, 1) := by decide +kernel
theorem dX0_addPerson_19 : decode cX0_addPerson 19 = .ok (.aload_n 0, 1) := by decide +kernel
theorem dX0_addPerson_20 : decode cX0_addPerson 20 = .ok (.getfield 21, 3) := by decide +kernel
theorem dX0_addPerson_23 : decode cX0_addPerson 23 = .ok (.aload_n 0, 1) := by decide +kernel
theorem dX0_addPerson_24 : decode cX0_addPerson 24 = .ok (.getfield 44, 3) := by decide +kernel
theorem dX0_addPerson_27 : decode cX0_addPerson 27 = .ok (.iload_n 2, 1) := by decide +kernel
theorem dX0_addPerson_28 : decode cX0_addPerson 28 = .ok (.iastore, 1) := by decide +kernel
theorem dX0_addPerson_29 : decode cX0_addPerson 29 = .ok (.aload_n 0, 1) := by decide +kernel
theorem dX0_addPerson_30 : decode cX0_addPerson 30 = .ok (.dup, 1) := by decide +kernel
theorem dX0_addPerson_31 : decode cX0_addPerson 31 = .ok (.getfield 44, 3) := by decide +kernel
theorem dX0_addPerson_34 : decode cX0_addPerson 34 = .ok (.iconst 1, 1) := by decide +kernel
theorem dX0_addPerson_35 : decode cX0_addPerson 35 = .ok (.iadd, 1) := by decide +kernel
theorem dX0_addPerson_36 : decode cX0_addPerson 36 = .ok (.putfield 44, 3) := by decide +kernel
theorem dX0_addPerson_39 : decode cX0_addPerson 39 = .ok (.return_, 1) := by decide +kernel
theorem dX0_hasPlayer_0 : decode cX0_hasPlayer 0 = .ok (.iload_n 1, 1) := by decide +kernel
theorem dX0_hasPlayer_1 : decode cX0_hasPlayer 1 = .ok (.ifCond .lt 21, 3) := by decide +kernel
theorem dX0_hasPlayer_4 : decode cX0_hasPlayer 4 = .ok (.iload_n 1, 1) := by decide +kernel
theorem dX0_hasPlayer_5 : decode cX0_hasPlayer 5 = .ok (.aload_n 0, 1) := by decide +kernel
theorem dX0_hasPlayer_6 : decode cX0_hasPlayer 6 = .ok (.getfield 41, 3) := by decide +kernel
theorem dX0_hasPlayer_9 : decode cX0_hasPlayer 9 = .ok (.if_icmp .ge 13, 3) := by decide +kernel
theorem dX0_hasPlayer_12 : decode cX0_hasPlayer 12 = .ok (.iload_n 1, 1) := by decide +kernel
theorem dX0_hasPlayer_13 : decode cX0_hasPlayer 13 = .ok (.bipush 6, 2) := by decide +kernel
theorem dX0_hasPlayer_15 : decode cX0_hasPlayer 15 = .ok (.if_icmp .ge 7, 3) := by decide +kernel
theorem dX0_hasPlayer_18 : decode cX0_hasPlayer 18 = .ok (.iconst 1, 1) := by decide +kernel
theorem dX0_hasPlayer_19 : decode cX0_hasPlayer 19 = .ok (.goto 4, 3) := by decide +kernel
theorem dX0_hasPlayer_22 : decode cX0_hasPlayer 22 = .ok (.iconst 0, 1) := by decide +kernel
theorem dX0_hasPlayer_23 : decode cX0_hasPlayer 23 = .ok (.ireturn, 1) := by decide +kernel
theorem dX0_rangeOf_0 : decode cX0_rangeOf 0 = .ok (.aload_n 0, 1) := by decide +kernel
theorem dX0_rangeOf_1 : decode cX0_rangeOf 1 = .ok (.getfield 9, 3) := by decide +kernel
theorem dX0_rangeOf_4 : decode cX0_rangeOf 4 = .ok (.iload_n 1, 1) := by decide +kernel
theorem dX0_rangeOf_5 : decode cX0_rangeOf 5 = .ok (.iaload, 1) := by decide +kernel
theorem dX0_rangeOf_6 : decode cX0_rangeOf 6 = .ok (.istore_n 2, 1) := by decide +kernel
theorem dX0_rangeOf_7 : decode cX0_rangeOf 7 = .ok (.iload_n 2, 1) := by decide +kernel
theorem dX0_rangeOf_8 : decode cX0_rangeOf 8 = .ok (.ifCond .lt 19, 3) := by decide +kernel
theorem dX0_rangeOf_11 : decode cX0_rangeOf 11 = .ok (.iload_n 2, 1) := by decide +kernel
theorem dX0_rangeOf_12 : decode cX0_rangeOf 12 = .ok (.getstatic 59, 3) := by decide +kernel
theorem dX0_rangeOf_15 : decode cX0_rangeOf 15 = .ok (.arraylength, 1) := by decide +kernel
theorem dX0_rangeOf_16 : decode cX0_rangeOf 16 = .ok (.if_icmp .ge 11, 3) := by decide +kernel
theorem dX0_rangeOf_19 : decode cX0_rangeOf 19 = .ok (.getstatic 59, 3) := by decide +kernel
theorem dX0_rangeOf_22 : decode cX0_rangeOf 22 = .ok (.iload_n 2, 1) := by decide +kernel
theorem dX0_rangeOf_23 : decode cX0_rangeOf 23 = .ok (.iaload, 1) := by decide +kernel
theorem dX0_rangeOf_24 : decode cX0_rangeOf 24 = .ok (.goto 4, 3) := by decide +kernel
theorem dX0_rangeOf_27 : decode cX0_rangeOf 27 = .ok (.iconst 0, 1) := by decide +kernel
theorem dX0_rangeOf_28 : decode cX0_rangeOf 28 = .ok (.ireturn, 1) := by decide +kernel
theorem dX0_hasPerson_0 : decode cX0_hasPerson 0 = .ok (.iload_n 1, 1) := by decide +kernel
theorem dX0_hasPerson_1 : decode cX0_hasPerson 1 = .ok (.ifCond .lt 21, 3) := by decide +kernel
theorem dX0_hasPerson_4 : decode cX0_hasPerson 4 = .ok (.iload_n 1, 1) := by decide +kernel
theorem dX0_hasPerson_5 : decode cX0_hasPerson 5 = .ok (.aload_n 0, 1) := by decide +kernel
theorem dX0_hasPerson_6 : decode cX0_hasPerson 6 = .ok (.getfield 44, 3) := by decide +kernel
theorem dX0_hasPerson_9 : decode cX0_hasPerson 9 = .ok (.if_icmp .ge 13, 3) := by decide +kernel
theorem dX0_hasPerson_12 : decode cX0_hasPerson 12 = .ok (.iload_n 1, 1) := by decide +kernel
theorem dX0_hasPerson_13 : decode cX0_hasPerson 13 = .ok (.bipush 6, 2) := by decide +kernel
theorem dX0_hasPerson_15 : decode cX0_hasPerson 15 = .ok (.if_icmp .ge 7, 3) := by decide +kernel
theorem dX0_hasPerson_18 : decode cX0_hasPerson 18 = .ok (.iconst 1, 1) := by decide +kernel
theorem dX0_hasPerson_19 : decode cX0_hasPerson 19 = .ok (.goto 4, 3) := by decide +kernel
theorem dX0_hasPerson_22 : decode cX0_hasPerson 22 = .ok (.iconst 0, 1) := by decide +kernel
theorem dX0_hasPerson_23 : decode cX0_hasPerson 23 = .ok (.ireturn, 1) := by decide +kernel
theorem dX0_inside_0 : decode cX0_inside 0 = .ok (.aload_n 0, 1) := by decide +kernel
theorem dX0_inside_1 : decode cX0_inside 1 = .ok (.getfield 27, 3) := by decide +kernel
theorem dX0_inside_4 : decode cX0_inside 4 = .ok (.invokestatic 62, 3) := by decide +kernel
theorem dX0_inside_7 : decode cX0_inside 7 = .ok (.lconst 1, 1) := by decide +kernel
theorem dX0_inside_8 : decode cX0_inside 8 = .ok (.lsub, 1) := by decide +kernel
theorem dX0_inside_9 : decode cX0_inside 9 = .ok (.lstore_n 1, 1) := by decide +kernel
theorem dX0_inside_10 : decode cX0_inside 10 = .ok (.lconst 0, 1) := by decide +kernel
theorem dX0_inside_11 : decode cX0_inside 11 = .ok (.lstore_n 3, 1) := by decide +kernel
theorem dX0_inside_12 : decode cX0_inside 12 = .ok (.iconst 0, 1) := by decide +kernel
theorem dX0_inside_13 : decode cX0_inside 13 = .ok (.istore 5, 2) := by decide +kernel
theorem dX0_inside_15 : decode cX0_inside 15 = .ok (.iload 5, 2) := by decide +kernel
theorem dX0_inside_17 : decode cX0_inside 17 = .ok (.aload_n 0, 1) := by decide +kernel
theorem dX0_inside_18 : decode cX0_inside 18 = .ok (.getfield 31, 3) := by decide +kernel
theorem dX0_inside_21 : decode cX0_inside 21 = .ok (.if_icmp .ge 19, 3) := by decide +kernel
theorem dX0_inside_24 : decode cX0_inside 24 = .ok (.lload_n 3, 1) := by decide +kernel
theorem dX0_inside_25 : decode cX0_inside 25 = .ok (.lload_n 1, 1) := by decide +kernel
theorem dX0_inside_26 : decode cX0_inside 26 = .ok (.bipush 8, 2) := by decide +kernel
theorem dX0_inside_28 : decode cX0_inside 28 = .ok (.iload 5, 2) := by decide +kernel
theorem dX0_inside_30 : decode cX0_inside 30 = .ok (.imul, 1) := by decide +kernel
theorem dX0_inside_31 : decode cX0_inside 31 = .ok (.lshl, 1) := by decide +kernel
theorem dX0_inside_32 : decode cX0_inside 32 = .ok (.lor, 1) := by decide +kernel
theorem dX0_inside_33 : decode cX0_inside 33 = .ok (.lstore_n 3, 1) := by decide +kernel
theorem dX0_inside_34 : decode cX0_inside 34 = .ok (.iinc 5 1, 3) := by decide +kernel
theorem dX0_inside_37 : decode cX0_inside 37 = .ok (.goto (-22), 3) := by decide +kernel
theorem dX0_inside_40 : decode cX0_inside 40 = .ok (.lload_n 3, 1) := by decide +kernel
theorem dX0_inside_41 : decode cX0_inside 41 = .ok (.lreturn, 1) := by decide +kernel
theorem dX0_open_0 : decode cX0_open 0 = .ok (.aload_n 0, 1) := by decide +kernel
theorem dX0_open_1 : decode cX0_open 1 = .ok (.invokevirtual 66, 3) := by decide +kernel
theorem dX0_open_4 : decode cX0_open 4 = .ok (.aload_n 0, 1) := by decide +kernel
theorem dX0_open_5 : decode cX0_open 5 = .ok (.getfield 37, 3) := by decide +kernel
theorem dX0_open_8 : decode cX0_open 8 = .ok (.ldc2_w 70, 3) := by decide +kernel
theorem dX0_open_11 : decode cX0_open 11 = .ok (.lxor, 1) := by decide +kernel
theorem dX0_open_12 : decode cX0_open 12 = .ok (.land, 1) := by decide +kernel
theorem dX0_open_13 : decode cX0_open 13 = .ok (.lreturn, 1) := by decide +kernel
theorem dX0_inhabited_0 : decode cX0_inhabited 0 = .ok (.lconst 0, 1) := by decide +kernel
theorem dX0_inhabited_1 : decode cX0_inhabited 1 = .ok (.lstore_n 1, 1) := by decide +kernel
theorem dX0_inhabited_2 : decode cX0_inhabited 2 = .ok (.iconst 0, 1) := by decide +kernel
theorem dX0_inhabited_3 : decode cX0_inhabited 3 = .ok (.istore_n 3, 1) := by decide +kernel
theorem dX0_inhabited_4 : decode cX0_inhabited 4 = .ok (.iload_n 3, 1) := by decide +kernel
theorem dX0_inhabited_5 : decode cX0_inhabited 5 = .ok (.aload_n 0, 1) := by decide +kernel
theorem dX0_inhabited_6 : decode cX0_inhabited 6 = .ok (.getfield 41, 3) := by decide +kernel
theorem dX0_inhabited_9 : decode cX0_inhabited 9 = .ok (.if_icmp .ge 21, 3) := by decide +kernel
theorem dX0_inhabited_12 : decode cX0_inhabited 12 = .ok (.lload_n 1, 1) := by decide +kernel
theorem dX0_inhabited_13 : decode cX0_inhabited 13 = .ok (.aload_n 0, 1) := by decide +kernel
theorem dX0_inhabited_14 : decode cX0_inhabited 14 = .ok (.getfield 15, 3) := by decide +kernel
theorem dX0_inhabited_17 : decode cX0_inhabited 17 = .ok (.iload_n 3, 1) := by decide +kernel
theorem dX0_inhabited_18 : decode cX0_inhabited 18 = .ok (.iaload, 1) := by decide +kernel
theorem dX0_inhabited_19 : decode cX0_inhabited 19 = .ok (.invokestatic 62, 3) := by decide +kernel
theorem dX0_inhabited_22 : decode cX0_inhabited 22 = .ok (.lor, 1) := by decide +kernel
theorem dX0_inhabited_23 : decode cX0_inhabited 23 = .ok (.lstore_n 1, 1) := by decide +kernel
theorem dX0_inhabited_24 : decode cX0_inhabited 24 = .ok (.iinc 3 1, 3) := by decide +kernel
theorem dX0_inhabited_27 : decode cX0_inhabited 27 = .ok (.goto (-23), 3) := by decide +kernel
theorem dX0_inhabited_30 : decode cX0_inhabited 30 = .ok (.iconst 0, 1) := by decide +kernel
theorem dX0_inhabited_31 : decode cX0_inhabited 31 = .ok (.istore_n 3, 1) := by decide +kernel
theorem dX0_inhabited_32 : decode cX0_inhabited 32 = .ok (.iload_n 3, 1) := by decide +kernel
theorem dX0_inhabited_33 : decode cX0_inhabited 33 = .ok (.aload_n 0, 1) := by decide +kernel
theorem dX0_inhabited_34 : decode cX0_inhabited 34 = .ok (.getfield 44, 3) := by decide +kernel
theorem dX0_inhabited_37 : decode cX0_inhabited 37 = .ok (.if_icmp .ge 21, 3) := by decide +kernel
theorem dX0_inhabited_40 : decode cX0_inhabited 40 = .ok (.lload_n 1, 1) := by decide +kernel
theorem dX0_inhabited_41 : decode cX0_inhabited 41 = .ok (.aload_n 0, 1) := by decide +kernel
theorem dX0_inhabited_42 : decode cX0_inhabited 42 = .ok (.getfield 21, 3) := by decide +kernel
theorem dX0_inhabited_45 : decode cX0_inhabited 45 = .ok (.iload_n 3, 1) := by decide +kernel
theorem dX0_inhabited_46 : decode cX0_inhabited 46 = .ok (.iaload, 1) := by decide +kernel
theorem dX0_inhabited_47 : decode cX0_inhabited 47 = .ok (.invokestatic 62, 3) := by decide +kernel
theorem dX0_inhabited_50 : decode cX0_inhabited 50 = .ok (.lor, 1) := by decide +kernel
theorem dX0_inhabited_51 : decode cX0_inhabited 51 = .ok (.lstore_n 1, 1) := by decide +kernel
theorem dX0_inhabited_52 : decode cX0_inhabited 52 = .ok (.iinc 3 1, 3) := by decide +kernel
theorem dX0_inhabited_55 : decode cX0_inhabited 55 = .ok (.goto (-23), 3) := by decide +kernel
theorem dX0_inhabited_58 : decode cX0_inhabited 58 = .ok (.lload_n 1, 1) := by decide +kernel
theorem dX0_inhabited_59 : decode cX0_inhabited 59 = .ok (.lreturn, 1) := by decide +kernel
theorem dX0_spotOf_0 : decode cX0_spotOf 0 = .ok (.aload_n 0, 1) := by decide +kernel
theorem dX0_spotOf_1 : decode cX0_spotOf 1 = .ok (.getfield 27, 3) := by decide +kernel
theorem dX0_spotOf_4 : decode cX0_spotOf 4 = .ok (.iconst 1, 1) := by decide +kernel
theorem dX0_spotOf_5 : decode cX0_spotOf 5 = .ok (.if_icmp .lt 20, 3) := by decide +kernel
theorem dX0_spotOf_8 : decode cX0_spotOf 8 = .ok (.iload_n 1, 1) := by decide +kernel
theorem dX0_spotOf_9 : decode cX0_spotOf 9 = .ok (.ifCond .lt 16, 3) := by decide +kernel
theorem dX0_spotOf_12 : decode cX0_spotOf 12 = .ok (.iload_n 1, 1) := by decide +kernel
theorem dX0_spotOf_13 : decode cX0_spotOf 13 = .ok (.aload_n 0, 1) := by decide +kernel
theorem dX0_spotOf_14 : decode cX0_spotOf 14 = .ok (.getfield 27, 3) := by decide +kernel
theorem dX0_spotOf_17 : decode cX0_spotOf 17 = .ok (.aload_n 0, 1) := by decide +kernel
theorem dX0_spotOf_18 : decode cX0_spotOf 18 = .ok (.getfield 31, 3) := by decide +kernel
theorem dX0_spotOf_21 : decode cX0_spotOf 21 = .ok (.imul, 1) := by decide +kernel
theorem dX0_spotOf_22 : decode cX0_spotOf 22 = .ok (.if_icmp .lt 5, 3) := by decide +kernel
theorem dX0_spotOf_25 : decode cX0_spotOf 25 = .ok (.iconst (-1), 1) := by decide +kernel
theorem dX0_spotOf_26 : decode cX0_spotOf 26 = .ok (.ireturn, 1) := by decide +kernel
theorem dX0_spotOf_27 : decode cX0_spotOf 27 = .ok (.iload_n 1, 1) := by decide +kernel
theorem dX0_spotOf_28 : decode cX0_spotOf 28 = .ok (.aload_n 0, 1) := by decide +kernel
theorem dX0_spotOf_29 : decode cX0_spotOf 29 = .ok (.getfield 27, 3) := by decide +kernel
theorem dX0_spotOf_32 : decode cX0_spotOf 32 = .ok (.irem, 1) := by decide +kernel
theorem dX0_spotOf_33 : decode cX0_spotOf 33 = .ok (.iload_n 1, 1) := by decide +kernel
theorem dX0_spotOf_34 : decode cX0_spotOf 34 = .ok (.aload_n 0, 1) := by decide +kernel
theorem dX0_spotOf_35 : decode cX0_spotOf 35 = .ok (.getfield 27, 3) := by decide +kernel
theorem dX0_spotOf_38 : decode cX0_spotOf 38 = .ok (.idiv, 1) := by decide +kernel
theorem dX0_spotOf_39 : decode cX0_spotOf 39 = .ok (.invokestatic 72, 3) := by decide +kernel
theorem dX0_spotOf_42 : decode cX0_spotOf 42 = .ok (.ireturn, 1) := by decide +kernel
theorem dX0_cellOf_0 : decode cX0_cellOf 0 = .ok (.aload_n 0, 1) := by decide +kernel
theorem dX0_cellOf_1 : decode cX0_cellOf 1 = .ok (.getfield 27, 3) := by decide +kernel
theorem dX0_cellOf_4 : decode cX0_cellOf 4 = .ok (.iload_n 1, 1) := by decide +kernel
theorem dX0_cellOf_5 : decode cX0_cellOf 5 = .ok (.bipush 8, 2) := by decide +kernel
theorem dX0_cellOf_7 : decode cX0_cellOf 7 = .ok (.idiv, 1) := by decide +kernel
theorem dX0_cellOf_8 : decode cX0_cellOf 8 = .ok (.imul, 1) := by decide +kernel
theorem dX0_cellOf_9 : decode cX0_cellOf 9 = .ok (.iload_n 1, 1) := by decide +kernel
theorem dX0_cellOf_10 : decode cX0_cellOf 10 = .ok (.bipush 8, 2) := by decide +kernel
theorem dX0_cellOf_12 : decode cX0_cellOf 12 = .ok (.irem, 1) := by decide +kernel
theorem dX0_cellOf_13 : decode cX0_cellOf 13 = .ok (.iadd, 1) := by decide +kernel
theorem dX0_cellOf_14 : decode cX0_cellOf 14 = .ok (.ireturn, 1) := by decide +kernel
theorem dX0_holds_0 : decode cX0_holds 0 = .ok (.aload_n 0, 1) := by decide +kernel
theorem dX0_holds_1 : decode cX0_holds 1 = .ok (.invokevirtual 66, 3) := by decide +kernel
theorem dX0_holds_4 : decode cX0_holds 4 = .ok (.lstore_n 2, 1) := by decide +kernel
theorem dX0_holds_5 : decode cX0_holds 5 = .ok (.iconst 0, 1) := by decide +kernel
theorem dX0_holds_6 : decode cX0_holds 6 = .ok (.istore 4, 2) := by decide +kernel
theorem dX0_holds_8 : decode cX0_holds 8 = .ok (.iload 4, 2) := by decide +kernel
theorem dX0_holds_10 : decode cX0_holds 10 = .ok (.aload_n 1, 1) := by decide +kernel
theorem dX0_holds_11 : decode cX0_holds 11 = .ok (.getfield 76, 3) := by decide +kernel
theorem dX0_holds_14 : decode cX0_holds 14 = .ok (.if_icmp .ge 24, 3) := by decide +kernel
theorem dX0_holds_17 : decode cX0_holds 17 = .ok (.lload_n 2, 1) := by decide +kernel
theorem dX0_holds_18 : decode cX0_holds 18 = .ok (.aload_n 1, 1) := by decide +kernel
theorem dX0_holds_19 : decode cX0_holds 19 = .ok (.iload 4, 2) := by decide +kernel
theorem dX0_holds_21 : decode cX0_holds 21 = .ok (.invokevirtual 81, 3) := by decide +kernel
theorem dX0_holds_24 : decode cX0_holds 24 = .ok (.invokestatic 85, 3) := by decide +kernel
theorem dX0_holds_27 : decode cX0_holds 27 = .ok (.ifCond .ne 5, 3) := by decide +kernel
theorem dX0_holds_30 : decode cX0_holds 30 = .ok (.iconst 0, 1) := by decide +kernel
theorem dX0_holds_31 : decode cX0_holds 31 = .ok (.ireturn, 1) := by decide +kernel
theorem dX0_holds_32 : decode cX0_holds 32 = .ok (.iinc 4 1, 3) := by decide +kernel
theorem dX0_holds_35 : decode cX0_holds 35 = .ok (.goto (-27), 3) := by decide +kernel
theorem dX0_holds_38 : decode cX0_holds 38 = .ok (.iconst 1, 1) := by decide +kernel
theorem dX0_holds_39 : decode cX0_holds 39 = .ok (.ireturn, 1) := by decide +kernel
theorem dX0_tell_0 : decode cX0_tell 0 = .ok (.iload_n 1, 1) := by decide +kernel
theorem dX0_tell_1 : decode cX0_tell 1 = .ok (.bipush 100, 2) := by decide +kernel
theorem dX0_tell_3 : decode cX0_tell 3 = .ok (.if_icmp .lt 38, 3) := by decide +kernel
theorem dX0_tell_6 : decode cX0_tell 6 = .ok (.aload_n 0, 1) := by decide +kernel
theorem dX0_tell_7 : decode cX0_tell 7 = .ok (.iload_n 1, 1) := by decide +kernel
theorem dX0_tell_8 : decode cX0_tell 8 = .ok (.bipush 100, 2) := by decide +kernel
theorem dX0_tell_10 : decode cX0_tell 10 = .ok (.isub, 1) := by decide +kernel
theorem dX0_tell_11 : decode cX0_tell 11 = .ok (.invokevirtual 89, 3) := by decide +kernel
theorem dX0_tell_14 : decode cX0_tell 14 = .ok (.istore_n 2, 1) := by decide +kernel
theorem dX0_tell_15 : decode cX0_tell 15 = .ok (.iload_n 2, 1) := by decide +kernel
theorem dX0_tell_16 : decode cX0_tell 16 = .ok (.iconst (-1), 1) := by decide +kernel
theorem dX0_tell_17 : decode cX0_tell 17 = .ok (.if_icmp .ne 7, 3) := by decide +kernel
theorem dX0_tell_20 : decode cX0_tell 20 = .ok (.iconst (-1), 1) := by decide +kernel
theorem dX0_tell_21 : decode cX0_tell 21 = .ok (.goto 19, 3) := by decide +kernel
theorem dX0_tell_24 : decode cX0_tell 24 = .ok (.aload_n 0, 1) := by decide +kernel
theorem dX0_tell_25 : decode cX0_tell 25 = .ok (.getfield 37, 3) := by decide +kernel
theorem dX0_tell_28 : decode cX0_tell 28 = .ok (.iload_n 2, 1) := by decide +kernel
theorem dX0_tell_29 : decode cX0_tell 29 = .ok (.invokestatic 85, 3) := by decide +kernel
theorem dX0_tell_32 : decode cX0_tell 32 = .ok (.ifCond .eq 7, 3) := by decide +kernel
theorem dX0_tell_35 : decode cX0_tell 35 = .ok (.iconst 1, 1) := by decide +kernel
theorem dX0_tell_36 : decode cX0_tell 36 = .ok (.goto 4, 3) := by decide +kernel
theorem dX0_tell_39 : decode cX0_tell 39 = .ok (.iconst 0, 1) := by decide +kernel
theorem dX0_tell_40 : decode cX0_tell 40 = .ok (.ireturn, 1) := by decide +kernel
theorem dX0_tell_41 : decode cX0_tell 41 = .ok (.iload_n 1, 1) := by decide +kernel
theorem dX0_tell_42 : decode cX0_tell 42 = .ok (.tableswitch 59 0 4 #[34, 39, 44, 49, 54], 34) := by decide +kernel
theorem dX0_tell_76 : decode cX0_tell 76 = .ok (.aload_n 0, 1) := by decide +kernel
theorem dX0_tell_77 : decode cX0_tell 77 = .ok (.getfield 27, 3) := by decide +kernel
theorem dX0_tell_80 : decode cX0_tell 80 = .ok (.ireturn, 1) := by decide +kernel
theorem dX0_tell_81 : decode cX0_tell 81 = .ok (.aload_n 0, 1) := by decide +kernel
theorem dX0_tell_82 : decode cX0_tell 82 = .ok (.getfield 31, 3) := by decide +kernel
theorem dX0_tell_85 : decode cX0_tell 85 = .ok (.ireturn, 1) := by decide +kernel
theorem dX0_tell_86 : decode cX0_tell 86 = .ok (.aload_n 0, 1) := by decide +kernel
theorem dX0_tell_87 : decode cX0_tell 87 = .ok (.getfield 34, 3) := by decide +kernel
theorem dX0_tell_90 : decode cX0_tell 90 = .ok (.ireturn, 1) := by decide +kernel
theorem dX0_tell_91 : decode cX0_tell 91 = .ok (.aload_n 0, 1) := by decide +kernel
theorem dX0_tell_92 : decode cX0_tell 92 = .ok (.getfield 41, 3) := by decide +kernel
theorem dX0_tell_95 : decode cX0_tell 95 = .ok (.ireturn, 1) := by decide +kernel
theorem dX0_tell_96 : decode cX0_tell 96 = .ok (.aload_n 0, 1) := by decide +kernel
theorem dX0_tell_97 : decode cX0_tell 97 = .ok (.getfield 44, 3) := by decide +kernel
theorem dX0_tell_100 : decode cX0_tell 100 = .ok (.ireturn, 1) := by decide +kernel
theorem dX0_tell_101 : decode cX0_tell 101 = .ok (.iload_n 1, 1) := by decide +kernel
theorem dX0_tell_102 : decode cX0_tell 102 = .ok (.bipush 10, 2) := by decide +kernel
theorem dX0_tell_104 : decode cX0_tell 104 = .ok (.if_icmp .ge 7, 3) := by decide +kernel
theorem dX0_tell_107 : decode cX0_tell 107 = .ok (.iconst (-1), 1) := by decide +kernel
theorem dX0_tell_108 : decode cX0_tell 108 = .ok (.goto 15, 3) := by decide +kernel
theorem dX0_tell_111 : decode cX0_tell 111 = .ok (.aload_n 0, 1) := by decide +kernel
theorem dX0_tell_112 : decode cX0_tell 112 = .ok (.iload_n 1, 1) := by decide +kernel
theorem dX0_tell_113 : decode cX0_tell 113 = .ok (.bipush 10, 2) := by decide +kernel
theorem dX0_tell_115 : decode cX0_tell 115 = .ok (.idiv, 1) := by decide +kernel
theorem dX0_tell_116 : decode cX0_tell 116 = .ok (.iload_n 1, 1) := by decide +kernel
theorem dX0_tell_117 : decode cX0_tell 117 = .ok (.bipush 10, 2) := by decide +kernel
theorem dX0_tell_119 : decode cX0_tell 119 = .ok (.irem, 1) := by decide +kernel
theorem dX0_tell_120 : decode cX0_tell 120 = .ok (.invokevirtual 92, 3) := by decide +kernel
theorem dX0_tell_123 : decode cX0_tell 123 = .ok (.ireturn, 1) := by decide +kernel
theorem dX0_tellOne_0 : decode cX0_tellOne 0 = .ok (.iload_n 1, 1) := by decide +kernel
theorem dX0_tellOne_1 : decode cX0_tellOne 1 = .ok (.tableswitch 135 1 5 #[35, 51, 70, 93, 112], 35) := by decide +kernel
theorem dX0_tellOne_36 : decode cX0_tellOne 36 = .ok (.iload_n 2, 1) := by decide +kernel
theorem dX0_tellOne_37 : decode cX0_tellOne 37 = .ok (.iconst 4, 1) := by decide +kernel
theorem dX0_tellOne_38 : decode cX0_tellOne 38 = .ok (.if_icmp .ge 12, 3) := by decide +kernel
theorem dX0_tellOne_41 : decode cX0_tellOne 41 = .ok (.aload_n 0, 1) := by decide +kernel
theorem dX0_tellOne_42 : decode cX0_tellOne 42 = .ok (.getfield 24, 3) := by decide +kernel
theorem dX0_tellOne_45 : decode cX0_tellOne 45 = .ok (.iload_n 2, 1) := by decide +kernel
theorem dX0_tellOne_46 : decode cX0_tellOne 46 = .ok (.iaload, 1) := by decide +kernel
theorem dX0_tellOne_47 : decode cX0_tellOne 47 = .ok (.goto 4, 3) := by decide +kernel
theorem dX0_tellOne_50 : decode cX0_tellOne 50 = .ok (.iconst (-1), 1) := by decide +kernel
theorem dX0_tellOne_51 : decode cX0_tellOne 51 = .ok (.ireturn, 1) := by decide +kernel
theorem dX0_tellOne_52 : decode cX0_tellOne 52 = .ok (.aload_n 0, 1) := by decide +kernel
theorem dX0_tellOne_53 : decode cX0_tellOne 53 = .ok (.iload_n 2, 1) := by decide +kernel
theorem dX0_tellOne_54 : decode cX0_tellOne 54 = .ok (.invokevirtual 95, 3) := by decide +kernel
theorem dX0_tellOne_57 : decode cX0_tellOne 57 = .ok (.ifCond .eq 12, 3) := by decide +kernel
theorem dX0_tellOne_60 : decode cX0_tellOne 60 = .ok (.aload_n 0, 1) := by decide +kernel
theorem dX0_tellOne_61 : decode cX0_tellOne 61 = .ok (.getfield 9, 3) := by decide +kernel
theorem dX0_tellOne_64 : decode cX0_tellOne 64 = .ok (.iload_n 2, 1) := by decide +kernel
theorem dX0_tellOne_65 : decode cX0_tellOne 65 = .ok (.iaload, 1) := by decide +kernel
theorem dX0_tellOne_66 : decode cX0_tellOne 66 = .ok (.goto 4, 3) := by decide +kernel
theorem dX0_tellOne_69 : decode cX0_tellOne 69 = .ok (.iconst (-1), 1) := by decide +kernel
theorem dX0_tellOne_70 : decode cX0_tellOne 70 = .ok (.ireturn, 1) := by decide +kernel
theorem dX0_tellOne_71 : decode cX0_tellOne 71 = .ok (.aload_n 0, 1) := by decide +kernel
theorem dX0_tellOne_72 : decode cX0_tellOne 72 = .ok (.iload_n 2, 1) := by decide +kernel
theorem dX0_tellOne_73 : decode cX0_tellOne 73 = .ok (.invokevirtual 95, 3) := by decide +kernel
theorem dX0_tellOne_76 : decode cX0_tellOne 76 = .ok (.ifCond .eq 16, 3) := by decide +kernel
theorem dX0_tellOne_79 : decode cX0_tellOne 79 = .ok (.aload_n 0, 1) := by decide +kernel
theorem dX0_tellOne_80 : decode cX0_tellOne 80 = .ok (.aload_n 0, 1) := by decide +kernel
theorem dX0_tellOne_81 : decode cX0_tellOne 81 = .ok (.getfield 15, 3) := by decide +kernel
theorem dX0_tellOne_84 : decode cX0_tellOne 84 = .ok (.iload_n 2, 1) := by decide +kernel
theorem dX0_tellOne_85 : decode cX0_tellOne 85 = .ok (.iaload, 1) := by decide +kernel
theorem dX0_tellOne_86 : decode cX0_tellOne 86 = .ok (.invokevirtual 99, 3) := by decide +kernel
theorem dX0_tellOne_89 : decode cX0_tellOne 89 = .ok (.goto 4, 3) := by decide +kernel
theorem dX0_tellOne_92 : decode cX0_tellOne 92 = .ok (.iconst (-1), 1) := by decide +kernel
theorem dX0_tellOne_93 : decode cX0_tellOne 93 = .ok (.ireturn, 1) := by decide +kernel
theorem dX0_tellOne_94 : decode cX0_tellOne 94 = .ok (.aload_n 0, 1) := by decide +kernel
theorem dX0_tellOne_95 : decode cX0_tellOne 95 = .ok (.iload_n 2, 1) := by decide +kernel
theorem dX0_tellOne_96 : decode cX0_tellOne 96 = .ok (.invokevirtual 102, 3) := by decide +kernel
theorem dX0_tellOne_99 : decode cX0_tellOne 99 = .ok (.ifCond .eq 12, 3) := by decide +kernel
theorem dX0_tellOne_102 : decode cX0_tellOne 102 = .ok (.aload_n 0, 1) := by decide +kernel
theorem dX0_tellOne_103 : decode cX0_tellOne 103 = .ok (.getfield 18, 3) := by decide +kernel
theorem dX0_tellOne_106 : decode cX0_tellOne 106 = .ok (.iload_n 2, 1) := by decide +kernel
theorem dX0_tellOne_107 : decode cX0_tellOne 107 = .ok (.iaload, 1) := by decide +kernel
theorem dX0_tellOne_108 : decode cX0_tellOne 108 = .ok (.goto 4, 3) := by decide +kernel
theorem dX0_tellOne_111 : decode cX0_tellOne 111 = .ok (.iconst (-1), 1) := by decide +kernel
theorem dX0_tellOne_112 : decode cX0_tellOne 112 = .ok (.ireturn, 1) := by decide +kernel
theorem dX0_tellOne_113 : decode cX0_tellOne 113 = .ok (.aload_n 0, 1) := by decide +kernel
theorem dX0_tellOne_114 : decode cX0_tellOne 114 = .ok (.iload_n 2, 1) := by decide +kernel
theorem dX0_tellOne_115 : decode cX0_tellOne 115 = .ok (.invokevirtual 102, 3) := by decide +kernel
theorem dX0_tellOne_118 : decode cX0_tellOne 118 = .ok (.ifCond .eq 16, 3) := by decide +kernel
theorem dX0_tellOne_121 : decode cX0_tellOne 121 = .ok (.aload_n 0, 1) := by decide +kernel
theorem dX0_tellOne_122 : decode cX0_tellOne 122 = .ok (.aload_n 0, 1) := by decide +kernel
theorem dX0_tellOne_123 : decode cX0_tellOne 123 = .ok (.getfield 21, 3) := by decide +kernel
theorem dX0_tellOne_126 : decode cX0_tellOne 126 = .ok (.iload_n 2, 1) := by decide +kernel
theorem dX0_tellOne_127 : decode cX0_tellOne 127 = .ok (.iaload, 1) := by decide +kernel
theorem dX0_tellOne_128 : decode cX0_tellOne 128 = .ok (.invokevirtual 99, 3) := by decide +kernel
theorem dX0_tellOne_131 : decode cX0_tellOne 131 = .ok (.goto 4, 3) := by decide +kernel
theorem dX0_tellOne_134 : decode cX0_tellOne 134 = .ok (.iconst (-1), 1) := by decide +kernel
theorem dX0_tellOne_135 : decode cX0_tellOne 135 = .ok (.ireturn, 1) := by decide +kernel
theorem dX0_tellOne_136 : decode cX0_tellOne 136 = .ok (.iconst (-1), 1) := by decide +kernel
theorem dX0_tellOne_137 : decode cX0_tellOne 137 = .ok (.ireturn, 1) := by decide +kernel
theorem dX0_peopleLeftOf_0 : decode cX0_peopleLeftOf 0 = .ok (.iconst 0, 1) := by decide +kernel
theorem dX0_peopleLeftOf_1 : decode cX0_peopleLeftOf 1 = .ok (.istore_n 2, 1) := by decide +kernel
theorem dX0_peopleLeftOf_2 : decode cX0_peopleLeftOf 2 = .ok (.iconst 0, 1) := by decide +kernel
theorem dX0_peopleLeftOf_3 : decode cX0_peopleLeftOf 3 = .ok (.istore_n 3, 1) := by decide +kernel
theorem dX0_peopleLeftOf_4 : decode cX0_peopleLeftOf 4 = .ok (.iload_n 3, 1) := by decide +kernel
theorem dX0_peopleLeftOf_5 : decode cX0_peopleLeftOf 5 = .ok (.aload_n 0, 1) := by decide +kernel
theorem dX0_peopleLeftOf_6 : decode cX0_peopleLeftOf 6 = .ok (.getfield 44, 3) := by decide +kernel
theorem dX0_peopleLeftOf_9 : decode cX0_peopleLeftOf 9 = .ok (.if_icmp .ge 25, 3) := by decide +kernel
theorem dX0_peopleLeftOf_12 : decode cX0_peopleLeftOf 12 = .ok (.aload_n 0, 1) := by decide +kernel
theorem dX0_peopleLeftOf_13 : decode cX0_peopleLeftOf 13 = .ok (.getfield 21, 3) := by decide +kernel
theorem dX0_peopleLeftOf_16 : decode cX0_peopleLeftOf 16 = .ok (.iload_n 3, 1) := by decide +kernel
theorem dX0_peopleLeftOf_17 : decode cX0_peopleLeftOf 17 = .ok (.iaload, 1) := by decide +kernel
theorem dX0_peopleLeftOf_18 : decode cX0_peopleLeftOf 18 = .ok (.bipush 8, 2) := by decide +kernel
theorem dX0_peopleLeftOf_20 : decode cX0_peopleLeftOf 20 = .ok (.irem, 1) := by decide +kernel
theorem dX0_peopleLeftOf_21 : decode cX0_peopleLeftOf 21 = .ok (.iload_n 1, 1) := by decide +kernel
theorem dX0_peopleLeftOf_22 : decode cX0_peopleLeftOf 22 = .ok (.if_icmp .ge 6, 3) := by decide +kernel
theorem dX0_peopleLeftOf_25 : decode cX0_peopleLeftOf 25 = .ok (.iinc 2 1, 3) := by decide +kernel
theorem dX0_peopleLeftOf_28 : decode cX0_peopleLeftOf 28 = .ok (.iinc 3 1, 3) := by decide +kernel
theorem dX0_peopleLeftOf_31 : decode cX0_peopleLeftOf 31 = .ok (.goto (-27), 3) := by decide +kernel
theorem dX0_peopleLeftOf_34 : decode cX0_peopleLeftOf 34 = .ok (.iload_n 2, 1) := by decide +kernel
theorem dX0_peopleLeftOf_35 : decode cX0_peopleLeftOf 35 = .ok (.ireturn, 1) := by decide +kernel
theorem dX0_fairestColumn_0 : decode cX0_fairestColumn 0 = .ok (.iconst 0, 1) := by decide +kernel
theorem dX0_fairestColumn_1 : decode cX0_fairestColumn 1 = .ok (.istore_n 1, 1) := by decide +kernel
theorem dX0_fairestColumn_2 : decode cX0_fairestColumn 2 = .ok (.aload_n 0, 1) := by decide +kernel
theorem dX0_fairestColumn_3 : decode cX0_fairestColumn 3 = .ok (.getfield 44, 3) := by decide +kernel
theorem dX0_fairestColumn_6 : decode cX0_fairestColumn 6 = .ok (.iconst 1, 1) := by decide +kernel
theorem dX0_fairestColumn_7 : decode cX0_fairestColumn 7 = .ok (.iadd, 1) := by decide +kernel
theorem dX0_fairestColumn_8 : decode cX0_fairestColumn 8 = .ok (.istore_n 2, 1) := by decide +kernel
theorem dX0_fairestColumn_9 : decode cX0_fairestColumn 9 = .ok (.iconst 0, 1) := by decide +kernel
theorem dX0_fairestColumn_10 : decode cX0_fairestColumn 10 = .ok (.istore_n 3, 1) := by decide +kernel
theorem dX0_fairestColumn_11 : decode cX0_fairestColumn 11 = .ok (.iload_n 3, 1) := by decide +kernel
theorem dX0_fairestColumn_12 : decode cX0_fairestColumn 12 = .ok (.aload_n 0, 1) := by decide +kernel
theorem dX0_fairestColumn_13 : decode cX0_fairestColumn 13 = .ok (.getfield 27, 3) := by decide +kernel
theorem dX0_fairestColumn_16 : decode cX0_fairestColumn 16 = .ok (.if_icmp .gt 37, 3) := by decide +kernel
theorem dX0_fairestColumn_19 : decode cX0_fairestColumn 19 = .ok (.aload_n 0, 1) := by decide +kernel
theorem dX0_fairestColumn_20 : decode cX0_fairestColumn 20 = .ok (.getfield 44, 3) := by decide +kernel
theorem dX0_fairestColumn_23 : decode cX0_fairestColumn 23 = .ok (.iconst 2, 1) := by decide +kernel
theorem dX0_fairestColumn_24 : decode cX0_fairestColumn 24 = .ok (.aload_n 0, 1) := by decide +kernel
theorem dX0_fairestColumn_25 : decode cX0_fairestColumn 25 = .ok (.iload_n 3, 1) := by decide +kernel
theorem dX0_fairestColumn_26 : decode cX0_fairestColumn 26 = .ok (.invokevirtual 105, 3) := by decide +kernel
theorem dX0_fairestColumn_29 : decode cX0_fairestColumn 29 = .ok (.imul, 1) := by decide +kernel
theorem dX0_fairestColumn_30 : decode cX0_fairestColumn 30 = .ok (.isub, 1) := by decide +kernel
theorem dX0_fairestColumn_31 : decode cX0_fairestColumn 31 = .ok (.invokestatic 108, 3) := by decide +kernel
theorem dX0_fairestColumn_34 : decode cX0_fairestColumn 34 = .ok (.istore 4, 2) := by decide +kernel
theorem dX0_fairestColumn_36 : decode cX0_fairestColumn 36 = .ok (.iload 4, 2) := by decide +kernel
theorem dX0_fairestColumn_38 : decode cX0_fairestColumn 38 = .ok (.iload_n 2, 1) := by decide +kernel
theorem dX0_fairestColumn_39 : decode cX0_fairestColumn 39 = .ok (.if_icmp .ge 8, 3) := by decide +kernel
theorem dX0_fairestColumn_42 : decode cX0_fairestColumn 42 = .ok (.iload 4, 2) := by decide +kernel
theorem dX0_fairestColumn_44 : decode cX0_fairestColumn 44 = .ok (.istore_n 2, 1) := by decide +kernel
theorem dX0_fairestColumn_45 : decode cX0_fairestColumn 45 = .ok (.iload_n 3, 1) := by decide +kernel
theorem dX0_fairestColumn_46 : decode cX0_fairestColumn 46 = .ok (.istore_n 1, 1) := by decide +kernel
theorem dX0_fairestColumn_47 : decode cX0_fairestColumn 47 = .ok (.iinc 3 1, 3) := by decide +kernel
theorem dX0_fairestColumn_50 : decode cX0_fairestColumn 50 = .ok (.goto (-39), 3) := by decide +kernel
theorem dX0_fairestColumn_53 : decode cX0_fairestColumn 53 = .ok (.iload_n 1, 1) := by decide +kernel
theorem dX0_fairestColumn_54 : decode cX0_fairestColumn 54 = .ok (.ireturn, 1) := by decide +kernel
theorem dX0_longestLine_0 : decode cX0_longestLine 0 = .ok (.iconst 0, 1) := by decide +kernel
theorem dX0_longestLine_1 : decode cX0_longestLine 1 = .ok (.istore_n 1, 1) := by decide +kernel
theorem dX0_longestLine_2 : decode cX0_longestLine 2 = .ok (.iconst 0, 1) := by decide +kernel
theorem dX0_longestLine_3 : decode cX0_longestLine 3 = .ok (.istore_n 2, 1) := by decide +kernel
theorem dX0_longestLine_4 : decode cX0_longestLine 4 = .ok (.iload_n 2, 1) := by decide +kernel
theorem dX0_longestLine_5 : decode cX0_longestLine 5 = .ok (.bipush 8, 2) := by decide +kernel
theorem dX0_longestLine_7 : decode cX0_longestLine 7 = .ok (.if_icmp .ge 89, 3) := by decide +kernel
theorem dX0_longestLine_10 : decode cX0_longestLine 10 = .ok (.iconst 0, 1) := by decide +kernel
theorem dX0_longestLine_11 : decode cX0_longestLine 11 = .ok (.istore_n 3, 1) := by decide +kernel
theorem dX0_longestLine_12 : decode cX0_longestLine 12 = .ok (.iconst 0, 1) := by decide +kernel
theorem dX0_longestLine_13 : decode cX0_longestLine 13 = .ok (.istore 4, 2) := by decide +kernel
theorem dX0_longestLine_15 : decode cX0_longestLine 15 = .ok (.iconst 0, 1) := by decide +kernel
theorem dX0_longestLine_16 : decode cX0_longestLine 16 = .ok (.istore 5, 2) := by decide +kernel
theorem dX0_longestLine_18 : decode cX0_longestLine 18 = .ok (.iload 5, 2) := by decide +kernel
theorem dX0_longestLine_20 : decode cX0_longestLine 20 = .ok (.aload_n 0, 1) := by decide +kernel
theorem dX0_longestLine_21 : decode cX0_longestLine 21 = .ok (.getfield 44, 3) := by decide +kernel
theorem dX0_longestLine_24 : decode cX0_longestLine 24 = .ok (.if_icmp .ge 55, 3) := by decide +kernel
theorem dX0_longestLine_27 : decode cX0_longestLine 27 = .ok (.iload_n 3, 1) := by decide +kernel
theorem dX0_longestLine_28 : decode cX0_longestLine 28 = .ok (.aload_n 0, 1) := by decide +kernel
theorem dX0_longestLine_29 : decode cX0_longestLine 29 = .ok (.getfield 21, 3) := by decide +kernel
theorem dX0_longestLine_32 : decode cX0_longestLine 32 = .ok (.iload 5, 2) := by decide +kernel
theorem dX0_longestLine_34 : decode cX0_longestLine 34 = .ok (.iaload, 1) := by decide +kernel
theorem dX0_longestLine_35 : decode cX0_longestLine 35 = .ok (.bipush 8, 2) := by decide +kernel
theorem dX0_longestLine_37 : decode cX0_longestLine 37 = .ok (.idiv, 1) := by decide +kernel
theorem dX0_longestLine_38 : decode cX0_longestLine 38 = .ok (.iload_n 2, 1) := by decide +kernel
theorem dX0_longestLine_39 : decode cX0_longestLine 39 = .ok (.if_icmp .ne 7, 3) := by decide +kernel
theorem dX0_longestLine_42 : decode cX0_longestLine 42 = .ok (.iconst 1, 1) := by decide +kernel
theorem dX0_longestLine_43 : decode cX0_longestLine 43 = .ok (.goto 4, 3) := by decide +kernel
theorem dX0_longestLine_46 : decode cX0_longestLine 46 = .ok (.iconst 0, 1) := by decide +kernel
theorem dX0_longestLine_47 : decode cX0_longestLine 47 = .ok (.iadd, 1) := by decide +kernel
theorem dX0_longestLine_48 : decode cX0_longestLine 48 = .ok (.istore_n 3, 1) := by decide +kernel
theorem dX0_longestLine_49 : decode cX0_longestLine 49 = .ok (.iload 4, 2) := by decide +kernel
theorem dX0_longestLine_51 : decode cX0_longestLine 51 = .ok (.aload_n 0, 1) := by decide +kernel
theorem dX0_longestLine_52 : decode cX0_longestLine 52 = .ok (.getfield 21, 3) := by decide +kernel
theorem dX0_longestLine_55 : decode cX0_longestLine 55 = .ok (.iload 5, 2) := by decide +kernel
theorem dX0_longestLine_57 : decode cX0_longestLine 57 = .ok (.iaload, 1) := by decide +kernel
theorem dX0_longestLine_58 : decode cX0_longestLine 58 = .ok (.bipush 8, 2) := by decide +kernel
theorem dX0_longestLine_60 : decode cX0_longestLine 60 = .ok (.irem, 1) := by decide +kernel
theorem dX0_longestLine_61 : decode cX0_longestLine 61 = .ok (.iload_n 2, 1) := by decide +kernel
theorem dX0_longestLine_62 : decode cX0_longestLine 62 = .ok (.if_icmp .ne 7, 3) := by decide +kernel
theorem dX0_longestLine_65 : decode cX0_longestLine 65 = .ok (.iconst 1, 1) := by decide +kernel
theorem dX0_longestLine_66 : decode cX0_longestLine 66 = .ok (.goto 4, 3) := by decide +kernel
theorem dX0_longestLine_69 : decode cX0_longestLine 69 = .ok (.iconst 0, 1) := by decide +kernel
theorem dX0_longestLine_70 : decode cX0_longestLine 70 = .ok (.iadd, 1) := by decide +kernel
theorem dX0_longestLine_71 : decode cX0_longestLine 71 = .ok (.istore 4, 2) := by decide +kernel
theorem dX0_longestLine_73 : decode cX0_longestLine 73 = .ok (.iinc 5 1, 3) := by decide +kernel
theorem dX0_longestLine_76 : decode cX0_longestLine 76 = .ok (.goto (-58), 3) := by decide +kernel
theorem dX0_longestLine_79 : decode cX0_longestLine 79 = .ok (.iload_n 1, 1) := by decide +kernel
theorem dX0_longestLine_80 : decode cX0_longestLine 80 = .ok (.iload_n 3, 1) := by decide +kernel
theorem dX0_longestLine_81 : decode cX0_longestLine 81 = .ok (.iload 4, 2) := by decide +kernel
theorem dX0_longestLine_83 : decode cX0_longestLine 83 = .ok (.invokestatic 113, 3) := by decide +kernel
theorem dX0_longestLine_86 : decode cX0_longestLine 86 = .ok (.invokestatic 113, 3) := by decide +kernel
theorem dX0_longestLine_89 : decode cX0_longestLine 89 = .ok (.istore_n 1, 1) := by decide +kernel
theorem dX0_longestLine_90 : decode cX0_longestLine 90 = .ok (.iinc 2 1, 3) := by decide +kernel
theorem dX0_longestLine_93 : decode cX0_longestLine 93 = .ok (.goto (-89), 3) := by decide +kernel
theorem dX0_longestLine_96 : decode cX0_longestLine 96 = .ok (.iload_n 1, 1) := by decide +kernel
theorem dX0_longestLine_97 : decode cX0_longestLine 97 = .ok (.ireturn, 1) := by decide +kernel
theorem dX1_init_0 : decode cX1_init 0 = .ok (.aload_n 0, 1) := by decide +kernel
theorem dX1_init_1 : decode cX1_init 1 = .ok (.invokespecial 3, 3) := by decide +kernel
theorem dX1_init_4 : decode cX1_init 4 = .ok (.aload_n 0, 1) := by decide +kernel
theorem dX1_init_5 : decode cX1_init 5 = .ok (.new 9, 3) := by decide +kernel
theorem dX1_init_8 : decode cX1_init 8 = .ok (.dup, 1) := by decide +kernel
theorem dX1_init_9 : decode cX1_init 9 = .ok (.invokespecial 11, 3) := by decide +kernel
theorem dX1_init_12 : decode cX1_init 12 = .ok (.putfield 12, 3) := by decide +kernel
theorem dX1_init_15 : decode cX1_init 15 = .ok (.aload_n 0, 1) := by decide +kernel
theorem dX1_init_16 : decode cX1_init 16 = .ok (.bipush 6, 2) := by decide +kernel
theorem dX1_init_18 : decode cX1_init 18 = .ok (.newarray .long, 2) := by decide +kernel
theorem dX1_init_20 : decode cX1_init 20 = .ok (.putfield 18, 3) := by decide +kernel
theorem dX1_init_23 : decode cX1_init 23 = .ok (.aload_n 0, 1) := by decide +kernel
theorem dX1_init_24 : decode cX1_init 24 = .ok (.bipush 64, 2) := by decide +kernel
theorem dX1_init_26 : decode cX1_init 26 = .ok (.newarray .int, 2) := by decide +kernel
theorem dX1_init_28 : decode cX1_init 28 = .ok (.putfield 22, 3) := by decide +kernel
theorem dX1_init_31 : decode cX1_init 31 = .ok (.aload_n 0, 1) := by decide +kernel
theorem dX1_init_32 : decode cX1_init 32 = .ok (.bipush 64, 2) := by decide +kernel
theorem dX1_init_34 : decode cX1_init 34 = .ok (.newarray .long, 2) := by decide +kernel
theorem dX1_init_36 : decode cX1_init 36 = .ok (.putfield 26, 3) := by decide +kernel
theorem dX1_init_39 : decode cX1_init 39 = .ok (.return_, 1) := by decide +kernel
theorem dX1_listen_0 : decode cX1_listen 0 = .ok (.aload_n 0, 1) := by decide +kernel
theorem dX1_listen_1 : decode cX1_listen 1 = .ok (.getfield 22, 3) := by decide +kernel
theorem dX1_listen_4 : decode cX1_listen 4 = .ok (.iconst 0, 1) := by decide +kernel
theorem dX1_listen_5 : decode cX1_listen 5 = .ok (.invokestatic 29, 3) := by decide +kernel
theorem dX1_listen_8 : decode cX1_listen 8 = .ok (.iconst 0, 1) := by decide +kernel
theorem dX1_listen_9 : decode cX1_listen 9 = .ok (.istore_n 2, 1) := by decide +kernel
theorem dX1_listen_10 : decode cX1_listen 10 = .ok (.iload_n 2, 1) := by decide +kernel
theorem dX1_listen_11 : decode cX1_listen 11 = .ok (.aload_n 1, 1) := by decide +kernel
theorem dX1_listen_12 : decode cX1_listen 12 = .ok (.getfield 35, 3) := by decide +kernel
theorem dX1_listen_15 : decode cX1_listen 15 = .ok (.if_icmp .ge 73, 3) := by decide +kernel
theorem dX1_listen_18 : decode cX1_listen 18 = .ok (.aload_n 0, 1) := by decide +kernel
theorem dX1_listen_19 : decode cX1_listen 19 = .ok (.getfield 18, 3) := by decide +kernel
theorem dX1_listen_22 : decode cX1_listen 22 = .ok (.iload_n 2, 1) := by decide +kernel
theorem dX1_listen_23 : decode cX1_listen 23 = .ok (.aload_n 0, 1) := by decide +kernel
theorem dX1_listen_24 : decode cX1_listen 24 = .ok (.getfield 12, 3) := by decide +kernel
theorem dX1_listen_27 : decode cX1_listen 27 = .ok (.aload_n 1, 1) := by decide +kernel
theorem dX1_listen_28 : decode cX1_listen 28 = .ok (.aload_n 1, 1) := by decide +kernel
theorem dX1_listen_29 : decode cX1_listen 29 = .ok (.getfield 41, 3) := by decide +kernel
theorem dX1_listen_32 : decode cX1_listen 32 = .ok (.iload_n 2, 1) := by decide +kernel
theorem dX1_listen_33 : decode cX1_listen 33 = .ok (.iaload, 1) := by decide +kernel
theorem dX1_listen_34 : decode cX1_listen 34 = .ok (.aload_n 1, 1) := by decide +kernel
theorem dX1_listen_35 : decode cX1_listen 35 = .ok (.iload_n 2, 1) := by decide +kernel
theorem dX1_listen_36 : decode cX1_listen 36 = .ok (.invokevirtual 44, 3) := by decide +kernel
theorem dX1_listen_39 : decode cX1_listen 39 = .ok (.invokevirtual 48, 3) := by decide +kernel
theorem dX1_listen_42 : decode cX1_listen 42 = .ok (.lastore, 1) := by decide +kernel
theorem dX1_listen_43 : decode cX1_listen 43 = .ok (.iconst 0, 1) := by decide +kernel
theorem dX1_listen_44 : decode cX1_listen 44 = .ok (.istore_n 3, 1) := by decide +kernel
theorem dX1_listen_45 : decode cX1_listen 45 = .ok (.iload_n 3, 1) := by decide +kernel
theorem dX1_listen_46 : decode cX1_listen 46 = .ok (.bipush 64, 2) := by decide +kernel
theorem dX1_listen_48 : decode cX1_listen 48 = .ok (.if_icmp .ge 34, 3) := by decide +kernel
theorem dX1_listen_51 : decode cX1_listen 51 = .ok (.aload_n 0, 1) := by decide +kernel
theorem dX1_listen_52 : decode cX1_listen 52 = .ok (.getfield 18, 3) := by decide +kernel
theorem dX1_listen_55 : decode cX1_listen 55 = .ok (.iload_n 2, 1) := by decide +kernel
theorem dX1_listen_56 : decode cX1_listen 56 = .ok (.laload, 1) := by decide +kernel
theorem dX1_listen_57 : decode cX1_listen 57 = .ok (.iload_n 3, 1) := by decide +kernel
theorem dX1_listen_58 : decode cX1_listen 58 = .ok (.invokestatic 52, 3) := by decide +kernel
theorem dX1_listen_61 : decode cX1_listen 61 = .ok (.ifCond .eq 15, 3) := by decide +kernel
theorem dX1_listen_64 : decode cX1_listen 64 = .ok (.aload_n 0, 1) := by decide +kernel
theorem dX1_listen_65 : decode cX1_listen 65 = .ok (.getfield 22, 3) := by decide +kernel
theorem dX1_listen_68 : decode cX1_listen 68 = .ok (.iload_n 3, 1) := by decide +kernel
theorem dX1_listen_69 : decode cX1_listen 69 = .ok (.dup2, 1) := by decide +kernel
theorem dX1_listen_70 : decode cX1_listen 70 = .ok (.iaload, 1) := by decide +kernel
theorem dX1_listen_71 : decode cX1_listen 71 = .ok (.iconst 1, 1) := by decide +kernel
theorem dX1_listen_72 : decode cX1_listen 72 = .ok (.iload_n 2, 1) := by decide +kernel
theorem dX1_listen_73 : decode cX1_listen 73 = .ok (.ishl, 1) := by decide +kernel
theorem dX1_listen_74 : decode cX1_listen 74 = .ok (.ior, 1) := by decide +kernel
theorem dX1_listen_75 : decode cX1_listen 75 = .ok (.iastore, 1) := by decide +kernel
theorem dX1_listen_76 : decode cX1_listen 76 = .ok (.iinc 3 1, 3) := by decide +kernel
theorem dX1_listen_79 : decode cX1_listen 79 = .ok (.goto (-34), 3) := by decide +kernel
theorem dX1_listen_82 : decode cX1_listen 82 = .ok (.iinc 2 1, 3) := by decide +kernel
theorem dX1_listen_85 : decode cX1_listen 85 = .ok (.goto (-75), 3) := by decide +kernel
theorem dX1_listen_88 : decode cX1_listen 88 = .ok (.return_, 1) := by decide +kernel
theorem dX1_heardOfSet_0 : decode cX1_heardOfSet 0 = .ok (.lconst 0, 1) := by decide +kernel
theorem dX1_heardOfSet_1 : decode cX1_heardOfSet 1 = .ok (.lstore_n 3, 1) := by decide +kernel
theorem dX1_heardOfSet_2 : decode cX1_heardOfSet 2 = .ok (.iconst 0, 1) := by decide +kernel
theorem dX1_heardOfSet_3 : decode cX1_heardOfSet 3 = .ok (.istore 5, 2) := by decide +kernel
theorem dX1_heardOfSet_5 : decode cX1_heardOfSet 5 = .ok (.iload 5, 2) := by decide +kernel
theorem dX1_heardOfSet_7 : decode cX1_heardOfSet 7 = .ok (.aload_n 1, 1) := by decide +kernel
theorem dX1_heardOfSet_8 : decode cX1_heardOfSet 8 = .ok (.getfield 35, 3) := by decide +kernel
theorem dX1_heardOfSet_11 : decode cX1_heardOfSet 11 = .ok (.if_icmp .ge 28, 3) := by decide +kernel
theorem dX1_heardOfSet_14 : decode cX1_heardOfSet 14 = .ok (.iload_n 2, 1) := by decide +kernel
theorem dX1_heardOfSet_15 : decode cX1_heardOfSet 15 = .ok (.iload 5, 2) := by decide +kernel
theorem dX1_heardOfSet_17 : decode cX1_heardOfSet 17 = .ok (.ishr, 1) := by decide +kernel
theorem dX1_heardOfSet_18 : decode cX1_heardOfSet 18 = .ok (.iconst 1, 1) := by decide +kernel
theorem dX1_heardOfSet_19 : decode cX1_heardOfSet 19 = .ok (.iand, 1) := by decide +kernel
theorem dX1_heardOfSet_20 : decode cX1_heardOfSet 20 = .ok (.ifCond .eq 13, 3) := by decide +kernel
theorem dX1_heardOfSet_23 : decode cX1_heardOfSet 23 = .ok (.lload_n 3, 1) := by decide +kernel
theorem dX1_heardOfSet_24 : decode cX1_heardOfSet 24 = .ok (.aload_n 0, 1) := by decide +kernel
theorem dX1_heardOfSet_25 : decode cX1_heardOfSet 25 = .ok (.getfield 18, 3) := by decide +kernel
theorem dX1_heardOfSet_28 : decode cX1_heardOfSet 28 = .ok (.iload 5, 2) := by decide +kernel
theorem dX1_heardOfSet_30 : decode cX1_heardOfSet 30 = .ok (.laload, 1) := by decide +kernel
theorem dX1_heardOfSet_31 : decode cX1_heardOfSet 31 = .ok (.lor, 1) := by decide +kernel
theorem dX1_heardOfSet_32 : decode cX1_heardOfSet 32 = .ok (.lstore_n 3, 1) := by decide +kernel
theorem dX1_heardOfSet_33 : decode cX1_heardOfSet 33 = .ok (.iinc 5 1, 3) := by decide +kernel
theorem dX1_heardOfSet_36 : decode cX1_heardOfSet 36 = .ok (.goto (-31), 3) := by decide +kernel
theorem dX1_heardOfSet_39 : decode cX1_heardOfSet 39 = .ok (.lload_n 3, 1) := by decide +kernel
theorem dX1_heardOfSet_40 : decode cX1_heardOfSet 40 = .ok (.lreturn, 1) := by decide +kernel
theorem dX1_fewestPlayers_0 : decode cX1_fewestPlayers 0 = .ok (.iconst 1, 1) := by decide +kernel
theorem dX1_fewestPlayers_1 : decode cX1_fewestPlayers 1 = .ok (.aload_n 1, 1) := by decide +kernel
theorem dX1_fewestPlayers_2 : decode cX1_fewestPlayers 2 = .ok (.getfield 35, 3) := by decide +kernel
theorem dX1_fewestPlayers_5 : decode cX1_fewestPlayers 5 = .ok (.ishl, 1) := by decide +kernel
theorem dX1_fewestPlayers_6 : decode cX1_fewestPlayers 6 = .ok (.iconst 1, 1) := by decide +kernel
theorem dX1_fewestPlayers_7 : decode cX1_fewestPlayers 7 = .ok (.isub, 1) := by decide +kernel
theorem dX1_fewestPlayers_8 : decode cX1_fewestPlayers 8 = .ok (.istore_n 2, 1) := by decide +kernel
theorem dX1_fewestPlayers_9 : decode cX1_fewestPlayers 9 = .ok (.aload_n 1, 1) := by decide +kernel
theorem dX1_fewestPlayers_10 : decode cX1_fewestPlayers 10 = .ok (.invokevirtual 56, 3) := by decide +kernel
theorem dX1_fewestPlayers_13 : decode cX1_fewestPlayers 13 = .ok (.lstore_n 3, 1) := by decide +kernel
theorem dX1_fewestPlayers_14 : decode cX1_fewestPlayers 14 = .ok (.aload_n 0, 1) := by decide +kernel
theorem dX1_fewestPlayers_15 : decode cX1_fewestPlayers 15 = .ok (.aload_n 1, 1) := by decide +kernel
theorem dX1_fewestPlayers_16 : decode cX1_fewestPlayers 16 = .ok (.iload_n 2, 1) := by decide +kernel
theorem dX1_fewestPlayers_17 : decode cX1_fewestPlayers 17 = .ok (.invokevirtual 60, 3) := by decide +kernel
theorem dX1_fewestPlayers_20 : decode cX1_fewestPlayers 20 = .ok (.lload_n 3, 1) := by decide +kernel
theorem dX1_fewestPlayers_21 : decode cX1_fewestPlayers 21 = .ok (.land, 1) := by decide +kernel
theorem dX1_fewestPlayers_22 : decode cX1_fewestPlayers 22 = .ok (.lstore 5, 2) := by decide +kernel
theorem dX1_fewestPlayers_24 : decode cX1_fewestPlayers 24 = .ok (.iload_n 2, 1) := by decide +kernel
theorem dX1_fewestPlayers_25 : decode cX1_fewestPlayers 25 = .ok (.istore 7, 2) := by decide +kernel
theorem dX1_fewestPlayers_27 : decode cX1_fewestPlayers 27 = .ok (.iload_n 2, 1) := by decide +kernel
theorem dX1_fewestPlayers_28 : decode cX1_fewestPlayers 28 = .ok (.istore 8, 2) := by decide +kernel
theorem dX1_fewestPlayers_30 : decode cX1_fewestPlayers 30 = .ok (.iload 8, 2) := by decide +kernel
theorem dX1_fewestPlayers_32 : decode cX1_fewestPlayers 32 = .ok (.ifCond .lt 53, 3) := by decide +kernel
theorem dX1_fewestPlayers_35 : decode cX1_fewestPlayers 35 = .ok (.iload 8, 2) := by decide +kernel
theorem dX1_fewestPlayers_37 : decode cX1_fewestPlayers 37 = .ok (.invokestatic 64, 3) := by decide +kernel
theorem dX1_fewestPlayers_40 : decode cX1_fewestPlayers 40 = .ok (.iload 7, 2) := by decide +kernel
theorem dX1_fewestPlayers_42 : decode cX1_fewestPlayers 42 = .ok (.invokestatic 64, 3) := by decide +kernel
theorem dX1_fewestPlayers_45 : decode cX1_fewestPlayers 45 = .ok (.if_icmp .gt 7, 3) := by decide +kernel
theorem dX1_fewestPlayers_48 : decode cX1_fewestPlayers 48 = .ok (.iconst 1, 1) := by decide +kernel
theorem dX1_fewestPlayers_49 : decode cX1_fewestPlayers 49 = .ok (.goto 4, 3) := by decide +kernel
theorem dX1_fewestPlayers_52 : decode cX1_fewestPlayers 52 = .ok (.iconst 0, 1) := by decide +kernel
theorem dX1_fewestPlayers_53 : decode cX1_fewestPlayers 53 = .ok (.istore 9, 2) := by decide +kernel
theorem dX1_fewestPlayers_55 : decode cX1_fewestPlayers 55 = .ok (.iload 9, 2) := by decide +kernel
theorem dX1_fewestPlayers_57 : decode cX1_fewestPlayers 57 = .ok (.ifCond .eq 22, 3) := by decide +kernel
theorem dX1_fewestPlayers_60 : decode cX1_fewestPlayers 60 = .ok (.aload_n 0, 1) := by decide +kernel
theorem dX1_fewestPlayers_61 : decode cX1_fewestPlayers 61 = .ok (.aload_n 1, 1) := by decide +kernel
theorem dX1_fewestPlayers_62 : decode cX1_fewestPlayers 62 = .ok (.iload 8, 2) := by decide +kernel
theorem dX1_fewestPlayers_64 : decode cX1_fewestPlayers 64 = .ok (.invokevirtual 60, 3) := by decide +kernel
theorem dX1_fewestPlayers_67 : decode cX1_fewestPlayers 67 = .ok (.lload_n 3, 1) := by decide +kernel
theorem dX1_fewestPlayers_68 : decode cX1_fewestPlayers 68 = .ok (.land, 1) := by decide +kernel
theorem dX1_fewestPlayers_69 : decode cX1_fewestPlayers 69 = .ok (.lload 5, 2) := by decide +kernel
theorem dX1_fewestPlayers_71 : decode cX1_fewestPlayers 71 = .ok (.lcmp, 1) := by decide +kernel
theorem dX1_fewestPlayers_72 : decode cX1_fewestPlayers 72 = .ok (.ifCond .ne 7, 3) := by decide +kernel
theorem dX1_fewestPlayers_75 : decode cX1_fewestPlayers 75 = .ok (.iload 8, 2) := by decide +kernel
theorem dX1_fewestPlayers_77 : decode cX1_fewestPlayers 77 = .ok (.istore 7, 2) := by decide +kernel
theorem dX1_fewestPlayers_79 : decode cX1_fewestPlayers 79 = .ok (.iinc 8 (-1), 3) := by decide +kernel
theorem dX1_fewestPlayers_82 : decode cX1_fewestPlayers 82 = .ok (.goto (-52), 3) := by decide +kernel
theorem dX1_fewestPlayers_85 : decode cX1_fewestPlayers 85 = .ok (.iload 7, 2) := by decide +kernel
theorem dX1_fewestPlayers_87 : decode cX1_fewestPlayers 87 = .ok (.ireturn, 1) := by decide +kernel
theorem dX1_bestPlaces_0 : decode cX1_bestPlaces 0 = .ok (.aload_n 1, 1) := by decide +kernel
theorem dX1_bestPlaces_1 : decode cX1_bestPlaces 1 = .ok (.invokevirtual 56, 3) := by decide +kernel
theorem dX1_bestPlaces_4 : decode cX1_bestPlaces 4 = .ok (.lstore 5, 2) := by decide +kernel
theorem dX1_bestPlaces_6 : decode cX1_bestPlaces 6 = .ok (.lload 5, 2) := by decide +kernel
theorem dX1_bestPlaces_8 : decode cX1_bestPlaces 8 = .ok (.aload_n 0, 1) := by decide +kernel
theorem dX1_bestPlaces_9 : decode cX1_bestPlaces 9 = .ok (.aload_n 1, 1) := by decide +kernel
theorem dX1_bestPlaces_10 : decode cX1_bestPlaces 10 = .ok (.iconst 1, 1) := by decide +kernel
theorem dX1_bestPlaces_11 : decode cX1_bestPlaces 11 = .ok (.aload_n 1, 1) := by decide +kernel
theorem dX1_bestPlaces_12 : decode cX1_bestPlaces 12 = .ok (.getfield 35, 3) := by decide +kernel
theorem dX1_bestPlaces_15 : decode cX1_bestPlaces 15 = .ok (.ishl, 1) := by decide +kernel
theorem dX1_bestPlaces_16 : decode cX1_bestPlaces 16 = .ok (.iconst 1, 1) := by decide +kernel
theorem dX1_bestPlaces_17 : decode cX1_bestPlaces 17 = .ok (.isub, 1) := by decide +kernel
theorem dX1_bestPlaces_18 : decode cX1_bestPlaces 18 = .ok (.invokevirtual 60, 3) := by decide +kernel
theorem dX1_bestPlaces_21 : decode cX1_bestPlaces 21 = .ok (.ldc2_w 69, 3) := by decide +kernel
theorem dX1_bestPlaces_24 : decode cX1_bestPlaces 24 = .ok (.lxor, 1) := by decide +kernel
theorem dX1_bestPlaces_25 : decode cX1_bestPlaces 25 = .ok (.land, 1) := by decide +kernel
theorem dX1_bestPlaces_26 : decode cX1_bestPlaces 26 = .ok (.lstore 7, 2) := by decide +kernel
theorem dX1_bestPlaces_28 : decode cX1_bestPlaces 28 = .ok (.iconst 0, 1) := by decide +kernel
theorem dX1_bestPlaces_29 : decode cX1_bestPlaces 29 = .ok (.istore 9, 2) := by decide +kernel
theorem dX1_bestPlaces_31 : decode cX1_bestPlaces 31 = .ok (.iload 9, 2) := by decide +kernel
theorem dX1_bestPlaces_33 : decode cX1_bestPlaces 33 = .ok (.bipush 64, 2) := by decide +kernel
theorem dX1_bestPlaces_35 : decode cX1_bestPlaces 35 = .ok (.if_icmp .ge 44, 3) := by decide +kernel
theorem dX1_bestPlaces_38 : decode cX1_bestPlaces 38 = .ok (.aload_n 0, 1) := by decide +kernel
theorem dX1_bestPlaces_39 : decode cX1_bestPlaces 39 = .ok (.getfield 26, 3) := by decide +kernel
theorem dX1_bestPlaces_42 : decode cX1_bestPlaces 42 = .ok (.iload 9, 2) := by decide +kernel
theorem dX1_bestPlaces_44 : decode cX1_bestPlaces 44 = .ok (.lload 5, 2) := by decide +kernel
theorem dX1_bestPlaces_46 : decode cX1_bestPlaces 46 = .ok (.iload 9, 2) := by decide +kernel
theorem dX1_bestPlaces_48 : decode cX1_bestPlaces 48 = .ok (.invokestatic 52, 3) := by decide +kernel
theorem dX1_bestPlaces_51 : decode cX1_bestPlaces 51 = .ok (.ifCond .eq 20, 3) := by decide +kernel
theorem dX1_bestPlaces_54 : decode cX1_bestPlaces 54 = .ok (.aload_n 0, 1) := by decide +kernel
theorem dX1_bestPlaces_55 : decode cX1_bestPlaces 55 = .ok (.getfield 12, 3) := by decide +kernel
theorem dX1_bestPlaces_58 : decode cX1_bestPlaces 58 = .ok (.aload_n 1, 1) := by decide +kernel
theorem dX1_bestPlaces_59 : decode cX1_bestPlaces 59 = .ok (.iload 9, 2) := by decide +kernel
theorem dX1_bestPlaces_61 : decode cX1_bestPlaces 61 = .ok (.iload_n 2, 1) := by decide +kernel
theorem dX1_bestPlaces_62 : decode cX1_bestPlaces 62 = .ok (.invokevirtual 48, 3) := by decide +kernel
theorem dX1_bestPlaces_65 : decode cX1_bestPlaces 65 = .ok (.lload 7, 2) := by decide +kernel
theorem dX1_bestPlaces_67 : decode cX1_bestPlaces 67 = .ok (.land, 1) := by decide +kernel
theorem dX1_bestPlaces_68 : decode cX1_bestPlaces 68 = .ok (.goto 4, 3) := by decide +kernel
theorem dX1_bestPlaces_71 : decode cX1_bestPlaces 71 = .ok (.lconst 0, 1) := by decide +kernel
theorem dX1_bestPlaces_72 : decode cX1_bestPlaces 72 = .ok (.lastore, 1) := by decide +kernel
theorem dX1_bestPlaces_73 : decode cX1_bestPlaces 73 = .ok (.iinc 9 1, 3) := by decide +kernel
theorem dX1_bestPlaces_76 : decode cX1_bestPlaces 76 = .ok (.goto (-45), 3) := by decide +kernel
theorem dX1_bestPlaces_79 : decode cX1_bestPlaces 79 = .ok (.aload_n 0, 1) := by decide +kernel
theorem dX1_bestPlaces_80 : decode cX1_bestPlaces 80 = .ok (.iconst (-1), 1) := by decide +kernel
theorem dX1_bestPlaces_81 : decode cX1_bestPlaces 81 = .ok (.putfield 71, 3) := by decide +kernel
theorem dX1_bestPlaces_84 : decode cX1_bestPlaces 84 = .ok (.aload_n 0, 1) := by decide +kernel
theorem dX1_bestPlaces_85 : decode cX1_bestPlaces 85 = .ok (.iconst (-1), 1) := by decide +kernel
theorem dX1_bestPlaces_86 : decode cX1_bestPlaces 86 = .ok (.putfield 74, 3) := by decide +kernel
theorem dX1_bestPlaces_89 : decode cX1_bestPlaces 89 = .ok (.aload_n 0, 1) := by decide +kernel
theorem dX1_bestPlaces_90 : decode cX1_bestPlaces 90 = .ok (.iconst (-1), 1) := by decide +kernel
theorem dX1_bestPlaces_91 : decode cX1_bestPlaces 91 = .ok (.putfield 77, 3) := by decide +kernel
theorem dX1_bestPlaces_94 : decode cX1_bestPlaces 94 = .ok (.iconst 0, 1) := by decide +kernel
theorem dX1_bestPlaces_95 : decode cX1_bestPlaces 95 = .ok (.istore 9, 2) := by decide +kernel
theorem dX1_bestPlaces_97 : decode cX1_bestPlaces 97 = .ok (.iload 9, 2) := by decide +kernel
theorem dX1_bestPlaces_99 : decode cX1_bestPlaces 99 = .ok (.bipush 64, 2) := by decide +kernel
theorem dX1_bestPlaces_101 : decode cX1_bestPlaces 101 = .ok (.if_icmp .ge 28, 3) := by decide +kernel
theorem dX1_bestPlaces_104 : decode cX1_bestPlaces 104 = .ok (.lload 5, 2) := by decide +kernel
theorem dX1_bestPlaces_106 : decode cX1_bestPlaces 106 = .ok (.iload 9, 2) := by decide +kernel
theorem dX1_bestPlaces_108 : decode cX1_bestPlaces 108 = .ok (.invokestatic 52, 3) := by decide +kernel
theorem dX1_bestPlaces_111 : decode cX1_bestPlaces 111 = .ok (.ifCond .eq 12, 3) := by decide +kernel
theorem dX1_bestPlaces_114 : decode cX1_bestPlaces 114 = .ok (.aload_n 0, 1) := by decide +kernel
theorem dX1_bestPlaces_115 : decode cX1_bestPlaces 115 = .ok (.lload 5, 2) := by decide +kernel
theorem dX1_bestPlaces_117 : decode cX1_bestPlaces 117 = .ok (.iload 9, 2) := by decide +kernel
theorem dX1_bestPlaces_119 : decode cX1_bestPlaces 119 = .ok (.iload_n 3, 1) := by decide +kernel
theorem dX1_bestPlaces_120 : decode cX1_bestPlaces 120 = .ok (.invokevirtual 80, 3) := by decide +kernel
theorem dX1_bestPlaces_123 : decode cX1_bestPlaces 123 = .ok (.iinc 9 1, 3) := by decide +kernel
theorem dX1_bestPlaces_126 : decode cX1_bestPlaces 126 = .ok (.goto (-29), 3) := by decide +kernel
theorem dX1_bestPlaces_129 : decode cX1_bestPlaces 129 = .ok (.iload 4, 2) := by decide +kernel
theorem dX1_bestPlaces_131 : decode cX1_bestPlaces 131 = .ok (.lookupswitch 39 #[(0, 25), (1, 30)], 25) := by decide +kernel
theorem dX1_bestPlaces_156 : decode cX1_bestPlaces 156 = .ok (.aload_n 0, 1) := by decide +kernel
theorem dX1_bestPlaces_157 : decode cX1_bestPlaces 157 = .ok (.getfield 77, 3) := by decide +kernel
theorem dX1_bestPlaces_160 : decode cX1_bestPlaces 160 = .ok (.ireturn, 1) := by decide +kernel
theorem dX1_bestPlaces_161 : decode cX1_bestPlaces 161 = .ok (.aload_n 1, 1) := by decide +kernel
theorem dX1_bestPlaces_162 : decode cX1_bestPlaces 162 = .ok (.aload_n 0, 1) := by decide +kernel
theorem dX1_bestPlaces_163 : decode cX1_bestPlaces 163 = .ok (.getfield 71, 3) := by decide +kernel
theorem dX1_bestPlaces_166 : decode cX1_bestPlaces 166 = .ok (.invokevirtual 84, 3) := by decide +kernel
theorem dX1_bestPlaces_169 : decode cX1_bestPlaces 169 = .ok (.ireturn, 1) := by decide +kernel
theorem dX1_bestPlaces_170 : decode cX1_bestPlaces 170 = .ok (.aload_n 1, 1) := by decide +kernel
theorem dX1_bestPlaces_171 : decode cX1_bestPlaces 171 = .ok (.aload_n 0, 1) := by decide +kernel
theorem dX1_bestPlaces_172 : decode cX1_bestPlaces 172 = .ok (.getfield 74, 3) := by decide +kernel
theorem dX1_bestPlaces_175 : decode cX1_bestPlaces 175 = .ok (.invokevirtual 84, 3) := by decide +kernel
theorem dX1_bestPlaces_178 : decode cX1_bestPlaces 178 = .ok (.ireturn, 1) := by decide +kernel
theorem dX1_tryPlaces_0 : decode cX1_tryPlaces 0 = .ok (.iload 4, 2) := by decide +kernel
theorem dX1_tryPlaces_2 : decode cX1_tryPlaces 2 = .ok (.iconst 1, 1) := by decide +kernel
theorem dX1_tryPlaces_3 : decode cX1_tryPlaces 3 = .ok (.if_icmp .ne 19, 3) := by decide +kernel
theorem dX1_tryPlaces_6 : decode cX1_tryPlaces 6 = .ok (.aload_n 0, 1) := by decide +kernel
theorem dX1_tryPlaces_7 : decode cX1_tryPlaces 7 = .ok (.aload_n 0, 1) := by decide +kernel
theorem dX1_tryPlaces_8 : decode cX1_tryPlaces 8 = .ok (.getfield 26, 3) := by decide +kernel
theorem dX1_tryPlaces_11 : decode cX1_tryPlaces 11 = .ok (.iload_n 3, 1) := by decide +kernel
theorem dX1_tryPlaces_12 : decode cX1_tryPlaces 12 = .ok (.laload, 1) := by decide +kernel
theorem dX1_tryPlaces_13 : decode cX1_tryPlaces 13 = .ok (.invokestatic 87, 3) := by decide +kernel
theorem dX1_tryPlaces_16 : decode cX1_tryPlaces 16 = .ok (.iload_n 3, 1) := by decide +kernel
theorem dX1_tryPlaces_17 : decode cX1_tryPlaces 17 = .ok (.iconst (-1), 1) := by decide +kernel
theorem dX1_tryPlaces_18 : decode cX1_tryPlaces 18 = .ok (.invokevirtual 92, 3) := by decide +kernel
theorem dX1_tryPlaces_21 : decode cX1_tryPlaces 21 = .ok (.return_, 1) := by decide +kernel
theorem dX1_tryPlaces_22 : decode cX1_tryPlaces 22 = .ok (.iload_n 3, 1) := by decide +kernel
theorem dX1_tryPlaces_23 : decode cX1_tryPlaces 23 = .ok (.iconst 1, 1) := by decide +kernel
theorem dX1_tryPlaces_24 : decode cX1_tryPlaces 24 = .ok (.iadd, 1) := by decide +kernel
theorem dX1_tryPlaces_25 : decode cX1_tryPlaces 25 = .ok (.istore 5, 2) := by decide +kernel
theorem dX1_tryPlaces_27 : decode cX1_tryPlaces 27 = .ok (.iload 5, 2) := by decide +kernel
theorem dX1_tryPlaces_29 : decode cX1_tryPlaces 29 = .ok (.bipush 64, 2) := by decide +kernel
theorem dX1_tryPlaces_31 : decode cX1_tryPlaces 31 = .ok (.if_icmp .ge 42, 3) := by decide +kernel
theorem dX1_tryPlaces_34 : decode cX1_tryPlaces 34 = .ok (.lload_n 1, 1) := by decide +kernel
theorem dX1_tryPlaces_35 : decode cX1_tryPlaces 35 = .ok (.iload 5, 2) := by decide +kernel
theorem dX1_tryPlaces_37 : decode cX1_tryPlaces 37 = .ok (.invokestatic 52, 3) := by decide +kernel
theorem dX1_tryPlaces_40 : decode cX1_tryPlaces 40 = .ok (.ifCond .eq 27, 3) := by decide +kernel
theorem dX1_tryPlaces_43 : decode cX1_tryPlaces 43 = .ok (.aload_n 0, 1) := by decide +kernel
theorem dX1_tryPlaces_44 : decode cX1_tryPlaces 44 = .ok (.aload_n 0, 1) := by decide +kernel
theorem dX1_tryPlaces_45 : decode cX1_tryPlaces 45 = .ok (.getfield 26, 3) := by decide +kernel
theorem dX1_tryPlaces_48 : decode cX1_tryPlaces 48 = .ok (.iload_n 3, 1) := by decide +kernel
theorem dX1_tryPlaces_49 : decode cX1_tryPlaces 49 = .ok (.laload, 1) := by decide +kernel
theorem dX1_tryPlaces_50 : decode cX1_tryPlaces 50 = .ok (.aload_n 0, 1) := by decide +kernel
theorem dX1_tryPlaces_51 : decode cX1_tryPlaces 51 = .ok (.getfield 26, 3) := by decide +kernel
theorem dX1_tryPlaces_54 : decode cX1_tryPlaces 54 = .ok (.iload 5, 2) := by decide +kernel
theorem dX1_tryPlaces_56 : decode cX1_tryPlaces 56 = .ok (.laload, 1) := by decide +kernel
theorem dX1_tryPlaces_57 : decode cX1_tryPlaces 57 = .ok (.lor, 1) := by decide +kernel
theorem dX1_tryPlaces_58 : decode cX1_tryPlaces 58 = .ok (.invokestatic 87, 3) := by decide +kernel
theorem dX1_tryPlaces_61 : decode cX1_tryPlaces 61 = .ok (.iload_n 3, 1) := by decide +kernel
theorem dX1_tryPlaces_62 : decode cX1_tryPlaces 62 = .ok (.iload 5, 2) := by decide +kernel
theorem dX1_tryPlaces_64 : decode cX1_tryPlaces 64 = .ok (.invokevirtual 92, 3) := by decide +kernel
theorem dX1_tryPlaces_67 : decode cX1_tryPlaces 67 = .ok (.iinc 5 1, 3) := by decide +kernel
theorem dX1_tryPlaces_70 : decode cX1_tryPlaces 70 = .ok (.goto (-43), 3) := by decide +kernel
theorem dX1_tryPlaces_73 : decode cX1_tryPlaces 73 = .ok (.return_, 1) := by decide +kernel
theorem dX1_keepIfMore_0 : decode cX1_keepIfMore 0 = .ok (.iload_n 1, 1) := by decide +kernel
theorem dX1_keepIfMore_1 : decode cX1_keepIfMore 1 = .ok (.aload_n 0, 1) := by decide +kernel
theorem dX1_keepIfMore_2 : decode cX1_keepIfMore 2 = .ok (.getfield 77, 3) := by decide +kernel
theorem dX1_keepIfMore_5 : decode cX1_keepIfMore 5 = .ok (.if_icmp .le 18, 3) := by decide +kernel
theorem dX1_keepIfMore_8 : decode cX1_keepIfMore 8 = .ok (.aload_n 0, 1) := by decide +kernel
theorem dX1_keepIfMore_9 : decode cX1_keepIfMore 9 = .ok (.iload_n 1, 1) := by decide +kernel
theorem dX1_keepIfMore_10 : decode cX1_keepIfMore 10 = .ok (.putfield 77, 3) := by decide +kernel
theorem dX1_keepIfMore_13 : decode cX1_keepIfMore 13 = .ok (.aload_n 0, 1) := by decide +kernel
theorem dX1_keepIfMore_14 : decode cX1_keepIfMore 14 = .ok (.iload_n 2, 1) := by decide +kernel
theorem dX1_keepIfMore_15 : decode cX1_keepIfMore 15 = .ok (.putfield 71, 3) := by decide +kernel
theorem dX1_keepIfMore_18 : decode cX1_keepIfMore 18 = .ok (.aload_n 0, 1) := by decide +kernel
theorem dX1_keepIfMore_19 : decode cX1_keepIfMore 19 = .ok (.iload_n 3, 1) := by decide +kernel
theorem dX1_keepIfMore_20 : decode cX1_keepIfMore 20 = .ok (.putfield 74, 3) := by decide +kernel
theorem dX1_keepIfMore_23 : decode cX1_keepIfMore 23 = .ok (.return_, 1) := by decide +kernel
theorem dX1_loudest_0 : decode cX1_loudest 0 = .ok (.aload_n 1, 1) := by decide +kernel
theorem dX1_loudest_1 : decode cX1_loudest 1 = .ok (.invokevirtual 96, 3) := by decide +kernel
theorem dX1_loudest_4 : decode cX1_loudest 4 = .ok (.lstore_n 3, 1) := by decide +kernel
theorem dX1_loudest_5 : decode cX1_loudest 5 = .ok (.iconst 0, 1) := by decide +kernel
theorem dX1_loudest_6 : decode cX1_loudest 6 = .ok (.istore 5, 2) := by decide +kernel
theorem dX1_loudest_8 : decode cX1_loudest 8 = .ok (.iconst (-1), 1) := by decide +kernel
theorem dX1_loudest_9 : decode cX1_loudest 9 = .ok (.istore 6, 2) := by decide +kernel
theorem dX1_loudest_11 : decode cX1_loudest 11 = .ok (.iconst 0, 1) := by decide +kernel
theorem dX1_loudest_12 : decode cX1_loudest 12 = .ok (.istore 7, 2) := by decide +kernel
theorem dX1_loudest_14 : decode cX1_loudest 14 = .ok (.iload 7, 2) := by decide +kernel
theorem dX1_loudest_16 : decode cX1_loudest 16 = .ok (.bipush 64, 2) := by decide +kernel
theorem dX1_loudest_18 : decode cX1_loudest 18 = .ok (.if_icmp .ge 45, 3) := by decide +kernel
theorem dX1_loudest_21 : decode cX1_loudest 21 = .ok (.aload_n 0, 1) := by decide +kernel
theorem dX1_loudest_22 : decode cX1_loudest 22 = .ok (.getfield 22, 3) := by decide +kernel
theorem dX1_loudest_25 : decode cX1_loudest 25 = .ok (.iload 7, 2) := by decide +kernel
theorem dX1_loudest_27 : decode cX1_loudest 27 = .ok (.iaload, 1) := by decide +kernel
theorem dX1_loudest_28 : decode cX1_loudest 28 = .ok (.invokestatic 64, 3) := by decide +kernel
theorem dX1_loudest_31 : decode cX1_loudest 31 = .ok (.istore 8, 2) := by decide +kernel
theorem dX1_loudest_33 : decode cX1_loudest 33 = .ok (.lload_n 3, 1) := by decide +kernel
theorem dX1_loudest_34 : decode cX1_loudest 34 = .ok (.iload 7, 2) := by decide +kernel
theorem dX1_loudest_36 : decode cX1_loudest 36 = .ok (.invokestatic 52, 3) := by decide +kernel
theorem dX1_loudest_39 : decode cX1_loudest 39 = .ok (.ifCond .eq 18, 3) := by decide +kernel
theorem dX1_loudest_42 : decode cX1_loudest 42 = .ok (.iload 8, 2) := by decide +kernel
theorem dX1_loudest_44 : decode cX1_loudest 44 = .ok (.iload 6, 2) := by decide +kernel
theorem dX1_loudest_46 : decode cX1_loudest 46 = .ok (.if_icmp .le 11, 3) := by decide +kernel
theorem dX1_loudest_49 : decode cX1_loudest 49 = .ok (.iload 8, 2) := by decide +kernel
theorem dX1_loudest_51 : decode cX1_loudest 51 = .ok (.istore 6, 2) := by decide +kernel
theorem dX1_loudest_53 : decode cX1_loudest 53 = .ok (.iload 7, 2) := by decide +kernel
theorem dX1_loudest_55 : decode cX1_loudest 55 = .ok (.istore 5, 2) := by decide +kernel
theorem dX1_loudest_57 : decode cX1_loudest 57 = .ok (.iinc 7 1, 3) := by decide +kernel
theorem dX1_loudest_60 : decode cX1_loudest 60 = .ok (.goto (-46), 3) := by decide +kernel
theorem dX1_loudest_63 : decode cX1_loudest 63 = .ok (.iload_n 2, 1) := by decide +kernel
theorem dX1_loudest_64 : decode cX1_loudest 64 = .ok (.ifCond .eq 8, 3) := by decide +kernel
theorem dX1_loudest_67 : decode cX1_loudest 67 = .ok (.iload 6, 2) := by decide +kernel
theorem dX1_loudest_69 : decode cX1_loudest 69 = .ok (.goto 9, 3) := by decide +kernel
theorem dX1_loudest_72 : decode cX1_loudest 72 = .ok (.aload_n 1, 1) := by decide +kernel
theorem dX1_loudest_73 : decode cX1_loudest 73 = .ok (.iload 5, 2) := by decide +kernel
theorem dX1_loudest_75 : decode cX1_loudest 75 = .ok (.invokevirtual 84, 3) := by decide +kernel
theorem dX1_loudest_78 : decode cX1_loudest 78 = .ok (.ireturn, 1) := by decide +kernel
theorem dX1_whoHearsNothing_0 : decode cX1_whoHearsNothing 0 = .ok (.iconst 0, 1) := by decide +kernel
theorem dX1_whoHearsNothing_1 : decode cX1_whoHearsNothing 1 = .ok (.istore_n 2, 1) := by decide +kernel
theorem dX1_whoHearsNothing_2 : decode cX1_whoHearsNothing 2 = .ok (.iconst 0, 1) := by decide +kernel
theorem dX1_whoHearsNothing_3 : decode cX1_whoHearsNothing 3 = .ok (.istore_n 3, 1) := by decide +kernel
theorem dX1_whoHearsNothing_4 : decode cX1_whoHearsNothing 4 = .ok (.iload_n 3, 1) := by decide +kernel
theorem dX1_whoHearsNothing_5 : decode cX1_whoHearsNothing 5 = .ok (.aload_n 1, 1) := by decide +kernel
theorem dX1_whoHearsNothing_6 : decode cX1_whoHearsNothing 6 = .ok (.getfield 99, 3) := by decide +kernel
theorem dX1_whoHearsNothing_9 : decode cX1_whoHearsNothing 9 = .ok (.if_icmp .ge 29, 3) := by decide +kernel
theorem dX1_whoHearsNothing_12 : decode cX1_whoHearsNothing 12 = .ok (.aload_n 0, 1) := by decide +kernel
theorem dX1_whoHearsNothing_13 : decode cX1_whoHearsNothing 13 = .ok (.getfield 22, 3) := by decide +kernel
theorem dX1_whoHearsNothing_16 : decode cX1_whoHearsNothing 16 = .ok (.aload_n 1, 1) := by decide +kernel
theorem dX1_whoHearsNothing_17 : decode cX1_whoHearsNothing 17 = .ok (.getfield 102, 3) := by decide +kernel
theorem dX1_whoHearsNothing_20 : decode cX1_whoHearsNothing 20 = .ok (.iload_n 3, 1) := by decide +kernel
theorem dX1_whoHearsNothing_21 : decode cX1_whoHearsNothing 21 = .ok (.iaload, 1) := by decide +kernel
theorem dX1_whoHearsNothing_22 : decode cX1_whoHearsNothing 22 = .ok (.iaload, 1) := by decide +kernel
theorem dX1_whoHearsNothing_23 : decode cX1_whoHearsNothing 23 = .ok (.ifCond .ne 9, 3) := by decide +kernel
theorem dX1_whoHearsNothing_26 : decode cX1_whoHearsNothing 26 = .ok (.iload_n 2, 1) := by decide +kernel
theorem dX1_whoHearsNothing_27 : decode cX1_whoHearsNothing 27 = .ok (.iconst 1, 1) := by decide +kernel
theorem dX1_whoHearsNothing_28 : decode cX1_whoHearsNothing 28 = .ok (.iload_n 3, 1) := by decide +kernel
theorem dX1_whoHearsNothing_29 : decode cX1_whoHearsNothing 29 = .ok (.ishl, 1) := by decide +kernel
theorem dX1_whoHearsNothing_30 : decode cX1_whoHearsNothing 30 = .ok (.ior, 1) := by decide +kernel
theorem dX1_whoHearsNothing_31 : decode cX1_whoHearsNothing 31 = .ok (.istore_n 2, 1) := by decide +kernel
theorem dX1_whoHearsNothing_32 : decode cX1_whoHearsNothing 32 = .ok (.iinc 3 1, 3) := by decide +kernel
theorem dX1_whoHearsNothing_35 : decode cX1_whoHearsNothing 35 = .ok (.goto (-31), 3) := by decide +kernel
theorem dX1_whoHearsNothing_38 : decode cX1_whoHearsNothing 38 = .ok (.iload_n 2, 1) := by decide +kernel
theorem dX1_whoHearsNothing_39 : decode cX1_whoHearsNothing 39 = .ok (.ireturn, 1) := by decide +kernel
theorem dX1_whoPlayed_0 : decode cX1_whoPlayed 0 = .ok (.aload_n 0, 1) := by decide +kernel
theorem dX1_whoPlayed_1 : decode cX1_whoPlayed 1 = .ok (.aload_n 1, 1) := by decide +kernel
theorem dX1_whoPlayed_2 : decode cX1_whoPlayed 2 = .ok (.aload_n 2, 1) := by decide +kernel
theorem dX1_whoPlayed_3 : decode cX1_whoPlayed 3 = .ok (.invokevirtual 105, 3) := by decide +kernel
theorem dX1_whoPlayed_6 : decode cX1_whoPlayed 6 = .ok (.lstore 4, 2) := by decide +kernel
theorem dX1_whoPlayed_8 : decode cX1_whoPlayed 8 = .ok (.lload 4, 2) := by decide +kernel
theorem dX1_whoPlayed_10 : decode cX1_whoPlayed 10 = .ok (.invokestatic 87, 3) := by decide +kernel
theorem dX1_whoPlayed_13 : decode cX1_whoPlayed 13 = .ok (.istore 6, 2) := by decide +kernel
theorem dX1_whoPlayed_15 : decode cX1_whoPlayed 15 = .ok (.iload_n 3, 1) := by decide +kernel
theorem dX1_whoPlayed_16 : decode cX1_whoPlayed 16 = .ok (.tableswitch 71 0 2 #[28, 31, 48], 28) := by decide +kernel
theorem dX1_whoPlayed_44 : decode cX1_whoPlayed 44 = .ok (.iload 6, 2) := by decide +kernel
theorem dX1_whoPlayed_46 : decode cX1_whoPlayed 46 = .ok (.ireturn, 1) := by decide +kernel
theorem dX1_whoPlayed_47 : decode cX1_whoPlayed 47 = .ok (.iload 6, 2) := by decide +kernel
theorem dX1_whoPlayed_49 : decode cX1_whoPlayed 49 = .ok (.ifCond .ne 7, 3) := by decide +kernel
theorem dX1_whoPlayed_52 : decode cX1_whoPlayed 52 = .ok (.iconst (-1), 1) := by decide +kernel
theorem dX1_whoPlayed_53 : decode cX1_whoPlayed 53 = .ok (.goto 10, 3) := by decide +kernel
theorem dX1_whoPlayed_56 : decode cX1_whoPlayed 56 = .ok (.aload_n 0, 1) := by decide +kernel
theorem dX1_whoPlayed_57 : decode cX1_whoPlayed 57 = .ok (.aload_n 1, 1) := by decide +kernel
theorem dX1_whoPlayed_58 : decode cX1_whoPlayed 58 = .ok (.lload 4, 2) := by decide +kernel
theorem dX1_whoPlayed_60 : decode cX1_whoPlayed 60 = .ok (.invokevirtual 109, 3) := by decide +kernel
theorem dX1_whoPlayed_63 : decode cX1_whoPlayed 63 = .ok (.ireturn, 1) := by decide +kernel
theorem dX1_whoPlayed_64 : decode cX1_whoPlayed 64 = .ok (.iload 6, 2) := by decide +kernel
theorem dX1_whoPlayed_66 : decode cX1_whoPlayed 66 = .ok (.ifCond .ne 7, 3) := by decide +kernel
theorem dX1_whoPlayed_69 : decode cX1_whoPlayed 69 = .ok (.iconst (-1), 1) := by decide +kernel
theorem dX1_whoPlayed_70 : decode cX1_whoPlayed 70 = .ok (.goto 16, 3) := by decide +kernel
theorem dX1_whoPlayed_73 : decode cX1_whoPlayed 73 = .ok (.aload_n 1, 1) := by decide +kernel
theorem dX1_whoPlayed_74 : decode cX1_whoPlayed 74 = .ok (.aload_n 0, 1) := by decide +kernel
theorem dX1_whoPlayed_75 : decode cX1_whoPlayed 75 = .ok (.aload_n 1, 1) := by decide +kernel
theorem dX1_whoPlayed_76 : decode cX1_whoPlayed 76 = .ok (.lload 4, 2) := by decide +kernel
theorem dX1_whoPlayed_78 : decode cX1_whoPlayed 78 = .ok (.iload 6, 2) := by decide +kernel
theorem dX1_whoPlayed_80 : decode cX1_whoPlayed 80 = .ok (.invokevirtual 113, 3) := by decide +kernel
theorem dX1_whoPlayed_83 : decode cX1_whoPlayed 83 = .ok (.invokevirtual 84, 3) := by decide +kernel
theorem dX1_whoPlayed_86 : decode cX1_whoPlayed 86 = .ok (.ireturn, 1) := by decide +kernel
theorem dX1_whoPlayed_87 : decode cX1_whoPlayed 87 = .ok (.iload_n 3, 1) := by decide +kernel
theorem dX1_whoPlayed_88 : decode cX1_whoPlayed 88 = .ok (.bipush 10, 2) := by decide +kernel
theorem dX1_whoPlayed_90 : decode cX1_whoPlayed 90 = .ok (.if_icmp .lt 25, 3) := by decide +kernel
theorem dX1_whoPlayed_93 : decode cX1_whoPlayed 93 = .ok (.iload_n 3, 1) := by decide +kernel
theorem dX1_whoPlayed_94 : decode cX1_whoPlayed 94 = .ok (.bipush 10, 2) := by decide +kernel
theorem dX1_whoPlayed_96 : decode cX1_whoPlayed 96 = .ok (.isub, 1) := by decide +kernel
theorem dX1_whoPlayed_97 : decode cX1_whoPlayed 97 = .ok (.iload 6, 2) := by decide +kernel
theorem dX1_whoPlayed_99 : decode cX1_whoPlayed 99 = .ok (.if_icmp .ge 16, 3) := by decide +kernel
theorem dX1_whoPlayed_102 : decode cX1_whoPlayed 102 = .ok (.aload_n 0, 1) := by decide +kernel
theorem dX1_whoPlayed_103 : decode cX1_whoPlayed 103 = .ok (.lload 4, 2) := by decide +kernel
theorem dX1_whoPlayed_105 : decode cX1_whoPlayed 105 = .ok (.iload_n 3, 1) := by decide +kernel
theorem dX1_whoPlayed_106 : decode cX1_whoPlayed 106 = .ok (.bipush 10, 2) := by decide +kernel
theorem dX1_whoPlayed_108 : decode cX1_whoPlayed 108 = .ok (.isub, 1) := by decide +kernel
theorem dX1_whoPlayed_109 : decode cX1_whoPlayed 109 = .ok (.invokevirtual 117, 3) := by decide +kernel
theorem dX1_whoPlayed_112 : decode cX1_whoPlayed 112 = .ok (.goto 5, 3) := by decide +kernel
theorem dX1_whoPlayed_115 : decode cX1_whoPlayed 115 = .ok (.bipush (-2), 2) := by decide +kernel
theorem dX1_whoPlayed_117 : decode cX1_whoPlayed 117 = .ok (.ireturn, 1) := by decide +kernel
theorem dX1_setsSeen_0 : decode cX1_setsSeen 0 = .ok (.lconst 0, 1) := by decide +kernel
theorem dX1_setsSeen_1 : decode cX1_setsSeen 1 = .ok (.lstore_n 3, 1) := by decide +kernel
theorem dX1_setsSeen_2 : decode cX1_setsSeen 2 = .ok (.iconst 0, 1) := by decide +kernel
theorem dX1_setsSeen_3 : decode cX1_setsSeen 3 = .ok (.istore 5, 2) := by decide +kernel
theorem dX1_setsSeen_5 : decode cX1_setsSeen 5 = .ok (.iload 5, 2) := by decide +kernel
theorem dX1_setsSeen_7 : decode cX1_setsSeen 7 = .ok (.iconst 1, 1) := by decide +kernel
theorem dX1_setsSeen_8 : decode cX1_setsSeen 8 = .ok (.aload_n 1, 1) := by decide +kernel
theorem dX1_setsSeen_9 : decode cX1_setsSeen 9 = .ok (.getfield 35, 3) := by decide +kernel
theorem dX1_setsSeen_12 : decode cX1_setsSeen 12 = .ok (.ishl, 1) := by decide +kernel
theorem dX1_setsSeen_13 : decode cX1_setsSeen 13 = .ok (.if_icmp .ge 26, 3) := by decide +kernel
theorem dX1_setsSeen_16 : decode cX1_setsSeen 16 = .ok (.aload_n 0, 1) := by decide +kernel
theorem dX1_setsSeen_17 : decode cX1_setsSeen 17 = .ok (.iload 5, 2) := by decide +kernel
theorem dX1_setsSeen_19 : decode cX1_setsSeen 19 = .ok (.aload_n 2, 1) := by decide +kernel
theorem dX1_setsSeen_20 : decode cX1_setsSeen 20 = .ok (.invokevirtual 121, 3) := by decide +kernel
theorem dX1_setsSeen_23 : decode cX1_setsSeen 23 = .ok (.ifCond .eq 10, 3) := by decide +kernel
theorem dX1_setsSeen_26 : decode cX1_setsSeen 26 = .ok (.lload_n 3, 1) := by decide +kernel
theorem dX1_setsSeen_27 : decode cX1_setsSeen 27 = .ok (.lconst 1, 1) := by decide +kernel
theorem dX1_setsSeen_28 : decode cX1_setsSeen 28 = .ok (.iload 5, 2) := by decide +kernel
theorem dX1_setsSeen_30 : decode cX1_setsSeen 30 = .ok (.lshl, 1) := by decide +kernel
theorem dX1_setsSeen_31 : decode cX1_setsSeen 31 = .ok (.lor, 1) := by decide +kernel
theorem dX1_setsSeen_32 : decode cX1_setsSeen 32 = .ok (.lstore_n 3, 1) := by decide +kernel
theorem dX1_setsSeen_33 : decode cX1_setsSeen 33 = .ok (.iinc 5 1, 3) := by decide +kernel
theorem dX1_setsSeen_36 : decode cX1_setsSeen 36 = .ok (.goto (-31), 3) := by decide +kernel
theorem dX1_setsSeen_39 : decode cX1_setsSeen 39 = .ok (.lload_n 3, 1) := by decide +kernel
theorem dX1_setsSeen_40 : decode cX1_setsSeen 40 = .ok (.lreturn, 1) := by decide +kernel
theorem dX1_agrees_0 : decode cX1_agrees 0 = .ok (.iconst 0, 1) := by decide +kernel
theorem dX1_agrees_1 : decode cX1_agrees 1 = .ok (.istore_n 3, 1) := by decide +kernel
theorem dX1_agrees_2 : decode cX1_agrees 2 = .ok (.iload_n 3, 1) := by decide +kernel
theorem dX1_agrees_3 : decode cX1_agrees 3 = .ok (.aload_n 2, 1) := by decide +kernel
theorem dX1_agrees_4 : decode cX1_agrees 4 = .ok (.getfield 125, 3) := by decide +kernel
theorem dX1_agrees_7 : decode cX1_agrees 7 = .ok (.if_icmp .ge 42, 3) := by decide +kernel
theorem dX1_agrees_10 : decode cX1_agrees 10 = .ok (.aload_n 0, 1) := by decide +kernel
theorem dX1_agrees_11 : decode cX1_agrees 11 = .ok (.iload_n 1, 1) := by decide +kernel
theorem dX1_agrees_12 : decode cX1_agrees 12 = .ok (.aload_n 2, 1) := by decide +kernel
theorem dX1_agrees_13 : decode cX1_agrees 13 = .ok (.iload_n 3, 1) := by decide +kernel
theorem dX1_agrees_14 : decode cX1_agrees 14 = .ok (.invokevirtual 130, 3) := by decide +kernel
theorem dX1_agrees_17 : decode cX1_agrees 17 = .ok (.invokevirtual 133, 3) := by decide +kernel
theorem dX1_agrees_20 : decode cX1_agrees 20 = .ok (.ifCond .eq 7, 3) := by decide +kernel
theorem dX1_agrees_23 : decode cX1_agrees 23 = .ok (.iconst 1, 1) := by decide +kernel
theorem dX1_agrees_24 : decode cX1_agrees 24 = .ok (.goto 4, 3) := by decide +kernel
theorem dX1_agrees_27 : decode cX1_agrees 27 = .ok (.iconst 0, 1) := by decide +kernel
theorem dX1_agrees_28 : decode cX1_agrees 28 = .ok (.istore 4, 2) := by decide +kernel
theorem dX1_agrees_30 : decode cX1_agrees 30 = .ok (.iload 4, 2) := by decide +kernel
theorem dX1_agrees_32 : decode cX1_agrees 32 = .ok (.aload_n 2, 1) := by decide +kernel
theorem dX1_agrees_33 : decode cX1_agrees 33 = .ok (.getfield 137, 3) := by decide +kernel
theorem dX1_agrees_36 : decode cX1_agrees 36 = .ok (.iload_n 3, 1) := by decide +kernel
theorem dX1_agrees_37 : decode cX1_agrees 37 = .ok (.iaload, 1) := by decide +kernel
theorem dX1_agrees_38 : decode cX1_agrees 38 = .ok (.if_icmp .eq 5, 3) := by decide +kernel
theorem dX1_agrees_41 : decode cX1_agrees 41 = .ok (.iconst 0, 1) := by decide +kernel
theorem dX1_agrees_42 : decode cX1_agrees 42 = .ok (.ireturn, 1) := by decide +kernel
theorem dX1_agrees_43 : decode cX1_agrees 43 = .ok (.iinc 3 1, 3) := by decide +kernel
theorem dX1_agrees_46 : decode cX1_agrees 46 = .ok (.goto (-44), 3) := by decide +kernel
theorem dX1_agrees_49 : decode cX1_agrees 49 = .ok (.iconst 1, 1) := by decide +kernel
theorem dX1_agrees_50 : decode cX1_agrees 50 = .ok (.ireturn, 1) := by decide +kernel
theorem dX1_isLoud_0 : decode cX1_isLoud 0 = .ok (.aload_n 0, 1) := by decide +kernel
theorem dX1_isLoud_1 : decode cX1_isLoud 1 = .ok (.getfield 22, 3) := by decide +kernel
theorem dX1_isLoud_4 : decode cX1_isLoud 4 = .ok (.iload_n 2, 1) := by decide +kernel
theorem dX1_isLoud_5 : decode cX1_isLoud 5 = .ok (.iaload, 1) := by decide +kernel
theorem dX1_isLoud_6 : decode cX1_isLoud 6 = .ok (.iload_n 1, 1) := by decide +kernel
theorem dX1_isLoud_7 : decode cX1_isLoud 7 = .ok (.iand, 1) := by decide +kernel
theorem dX1_isLoud_8 : decode cX1_isLoud 8 = .ok (.ifCond .eq 7, 3) := by decide +kernel
theorem dX1_isLoud_11 : decode cX1_isLoud 11 = .ok (.iconst 1, 1) := by decide +kernel
theorem dX1_isLoud_12 : decode cX1_isLoud 12 = .ok (.goto 4, 3) := by decide +kernel
theorem dX1_isLoud_15 : decode cX1_isLoud 15 = .ok (.iconst 0, 1) := by decide +kernel
theorem dX1_isLoud_16 : decode cX1_isLoud 16 = .ok (.ireturn, 1) := by decide +kernel
theorem dX1_inAll_0 : decode cX1_inAll 0 = .ok (.iconst 1, 1) := by decide +kernel
theorem dX1_inAll_1 : decode cX1_inAll 1 = .ok (.aload_n 1, 1) := by decide +kernel
theorem dX1_inAll_2 : decode cX1_inAll 2 = .ok (.getfield 35, 3) := by decide +kernel
theorem dX1_inAll_5 : decode cX1_inAll 5 = .ok (.ishl, 1) := by decide +kernel
theorem dX1_inAll_6 : decode cX1_inAll 6 = .ok (.iconst 1, 1) := by decide +kernel
theorem dX1_inAll_7 : decode cX1_inAll 7 = .ok (.isub, 1) := by decide +kernel
theorem dX1_inAll_8 : decode cX1_inAll 8 = .ok (.istore 4, 2) := by decide +kernel
theorem dX1_inAll_10 : decode cX1_inAll 10 = .ok (.iconst 0, 1) := by decide +kernel
theorem dX1_inAll_11 : decode cX1_inAll 11 = .ok (.istore 5, 2) := by decide +kernel
theorem dX1_inAll_13 : decode cX1_inAll 13 = .ok (.iload 5, 2) := by decide +kernel
theorem dX1_inAll_15 : decode cX1_inAll 15 = .ok (.iconst 1, 1) := by decide +kernel
theorem dX1_inAll_16 : decode cX1_inAll 16 = .ok (.aload_n 1, 1) := by decide +kernel
theorem dX1_inAll_17 : decode cX1_inAll 17 = .ok (.getfield 35, 3) := by decide +kernel
theorem dX1_inAll_20 : decode cX1_inAll 20 = .ok (.ishl, 1) := by decide +kernel
theorem dX1_inAll_21 : decode cX1_inAll 21 = .ok (.if_icmp .ge 25, 3) := by decide +kernel
theorem dX1_inAll_24 : decode cX1_inAll 24 = .ok (.lload_n 2, 1) := by decide +kernel
theorem dX1_inAll_25 : decode cX1_inAll 25 = .ok (.iload 5, 2) := by decide +kernel
theorem dX1_inAll_27 : decode cX1_inAll 27 = .ok (.invokestatic 52, 3) := by decide +kernel
theorem dX1_inAll_30 : decode cX1_inAll 30 = .ok (.ifCond .eq 10, 3) := by decide +kernel
theorem dX1_inAll_33 : decode cX1_inAll 33 = .ok (.iload 4, 2) := by decide +kernel
theorem dX1_inAll_35 : decode cX1_inAll 35 = .ok (.iload 5, 2) := by decide +kernel
theorem dX1_inAll_37 : decode cX1_inAll 37 = .ok (.iand, 1) := by decide +kernel
theorem dX1_inAll_38 : decode cX1_inAll 38 = .ok (.istore 4, 2) := by decide +kernel
theorem dX1_inAll_40 : decode cX1_inAll 40 = .ok (.iinc 5 1, 3) := by decide +kernel
theorem dX1_inAll_43 : decode cX1_inAll 43 = .ok (.goto (-30), 3) := by decide +kernel
theorem dX1_inAll_46 : decode cX1_inAll 46 = .ok (.iload 4, 2) := by decide +kernel
theorem dX1_inAll_48 : decode cX1_inAll 48 = .ok (.ireturn, 1) := by decide +kernel
theorem dX1_kthOf_0 : decode cX1_kthOf 0 = .ok (.lload_n 1, 1) := by decide +kernel
theorem dX1_kthOf_1 : decode cX1_kthOf 1 = .ok (.lstore 4, 2) := by decide +kernel
theorem dX1_kthOf_3 : decode cX1_kthOf 3 = .ok (.iconst 0, 1) := by decide +kernel
theorem dX1_kthOf_4 : decode cX1_kthOf 4 = .ok (.istore 6, 2) := by decide +kernel
theorem dX1_kthOf_6 : decode cX1_kthOf 6 = .ok (.iload 6, 2) := by decide +kernel
theorem dX1_kthOf_8 : decode cX1_kthOf 8 = .ok (.iload_n 3, 1) := by decide +kernel
theorem dX1_kthOf_9 : decode cX1_kthOf 9 = .ok (.if_icmp .ge 18, 3) := by decide +kernel
theorem dX1_kthOf_12 : decode cX1_kthOf 12 = .ok (.lload 4, 2) := by decide +kernel
theorem dX1_kthOf_14 : decode cX1_kthOf 14 = .ok (.lload 4, 2) := by decide +kernel
theorem dX1_kthOf_16 : decode cX1_kthOf 16 = .ok (.lconst 1, 1) := by decide +kernel
theorem dX1_kthOf_17 : decode cX1_kthOf 17 = .ok (.lsub, 1) := by decide +kernel
theorem dX1_kthOf_18 : decode cX1_kthOf 18 = .ok (.land, 1) := by decide +kernel
theorem dX1_kthOf_19 : decode cX1_kthOf 19 = .ok (.lstore 4, 2) := by decide +kernel
theorem dX1_kthOf_21 : decode cX1_kthOf 21 = .ok (.iinc 6 1, 3) := by decide +kernel
theorem dX1_kthOf_24 : decode cX1_kthOf 24 = .ok (.goto (-18), 3) := by decide +kernel
theorem dX1_kthOf_27 : decode cX1_kthOf 27 = .ok (.lload 4, 2) := by decide +kernel
theorem dX1_kthOf_29 : decode cX1_kthOf 29 = .ok (.invokestatic 140, 3) := by decide +kernel
theorem dX1_kthOf_32 : decode cX1_kthOf 32 = .ok (.ireturn, 1) := by decide +kernel
theorem dX1_bestToListen_0 : decode cX1_bestToListen 0 = .ok (.aload_n 1, 1) := by decide +kernel
theorem dX1_bestToListen_1 : decode cX1_bestToListen 1 = .ok (.invokevirtual 96, 3) := by decide +kernel
theorem dX1_bestToListen_4 : decode cX1_bestToListen 4 = .ok (.lstore 5, 2) := by decide +kernel
theorem dX1_bestToListen_6 : decode cX1_bestToListen 6 = .ok (.iconst 0, 1) := by decide +kernel
theorem dX1_bestToListen_7 : decode cX1_bestToListen 7 = .ok (.istore 7, 2) := by decide +kernel
theorem dX1_bestToListen_9 : decode cX1_bestToListen 9 = .ok (.iload 4, 2) := by decide +kernel
theorem dX1_bestToListen_11 : decode cX1_bestToListen 11 = .ok (.iconst 1, 1) := by decide +kernel
theorem dX1_bestToListen_12 : decode cX1_bestToListen 12 = .ok (.iadd, 1) := by decide +kernel
theorem dX1_bestToListen_13 : decode cX1_bestToListen 13 = .ok (.istore 8, 2) := by decide +kernel
theorem dX1_bestToListen_15 : decode cX1_bestToListen 15 = .ok (.iconst 0, 1) := by decide +kernel
theorem dX1_bestToListen_16 : decode cX1_bestToListen 16 = .ok (.istore 9, 2) := by decide +kernel
theorem dX1_bestToListen_18 : decode cX1_bestToListen 18 = .ok (.iload 9, 2) := by decide +kernel
theorem dX1_bestToListen_20 : decode cX1_bestToListen 20 = .ok (.bipush 64, 2) := by decide +kernel
theorem dX1_bestToListen_22 : decode cX1_bestToListen 22 = .ok (.if_icmp .ge 55, 3) := by decide +kernel
theorem dX1_bestToListen_25 : decode cX1_bestToListen 25 = .ok (.lload 5, 2) := by decide +kernel
theorem dX1_bestToListen_27 : decode cX1_bestToListen 27 = .ok (.iload 9, 2) := by decide +kernel
theorem dX1_bestToListen_29 : decode cX1_bestToListen 29 = .ok (.invokestatic 52, 3) := by decide +kernel
theorem dX1_bestToListen_32 : decode cX1_bestToListen 32 = .ok (.ifCond .eq 39, 3) := by decide +kernel
theorem dX1_bestToListen_35 : decode cX1_bestToListen 35 = .ok (.aload_n 0, 1) := by decide +kernel
theorem dX1_bestToListen_36 : decode cX1_bestToListen 36 = .ok (.lload_n 2, 1) := by decide +kernel
theorem dX1_bestToListen_37 : decode cX1_bestToListen 37 = .ok (.iload 9, 2) := by decide +kernel
theorem dX1_bestToListen_39 : decode cX1_bestToListen 39 = .ok (.invokevirtual 143, 3) := by decide +kernel
theorem dX1_bestToListen_42 : decode cX1_bestToListen 42 = .ok (.istore 10, 2) := by decide +kernel
theorem dX1_bestToListen_44 : decode cX1_bestToListen 44 = .ok (.iload 10, 2) := by decide +kernel
theorem dX1_bestToListen_46 : decode cX1_bestToListen 46 = .ok (.iload 4, 2) := by decide +kernel
theorem dX1_bestToListen_48 : decode cX1_bestToListen 48 = .ok (.iload 10, 2) := by decide +kernel
theorem dX1_bestToListen_50 : decode cX1_bestToListen 50 = .ok (.isub, 1) := by decide +kernel
theorem dX1_bestToListen_51 : decode cX1_bestToListen 51 = .ok (.invokestatic 146, 3) := by decide +kernel
theorem dX1_bestToListen_54 : decode cX1_bestToListen 54 = .ok (.istore 11, 2) := by decide +kernel
theorem dX1_bestToListen_56 : decode cX1_bestToListen 56 = .ok (.iload 11, 2) := by decide +kernel
theorem dX1_bestToListen_58 : decode cX1_bestToListen 58 = .ok (.iload 8, 2) := by decide +kernel
theorem dX1_bestToListen_60 : decode cX1_bestToListen 60 = .ok (.if_icmp .ge 11, 3) := by decide +kernel
theorem dX1_bestToListen_63 : decode cX1_bestToListen 63 = .ok (.iload 11, 2) := by decide +kernel
theorem dX1_bestToListen_65 : decode cX1_bestToListen 65 = .ok (.istore 8, 2) := by decide +kernel
theorem dX1_bestToListen_67 : decode cX1_bestToListen 67 = .ok (.iload 9, 2) := by decide +kernel
theorem dX1_bestToListen_69 : decode cX1_bestToListen 69 = .ok (.istore 7, 2) := by decide +kernel
theorem dX1_bestToListen_71 : decode cX1_bestToListen 71 = .ok (.iinc 9 1, 3) := by decide +kernel
theorem dX1_bestToListen_74 : decode cX1_bestToListen 74 = .ok (.goto (-56), 3) := by decide +kernel
theorem dX1_bestToListen_77 : decode cX1_bestToListen 77 = .ok (.iload 7, 2) := by decide +kernel
theorem dX1_bestToListen_79 : decode cX1_bestToListen 79 = .ok (.ireturn, 1) := by decide +kernel
theorem dX1_howManyLoud_0 : decode cX1_howManyLoud 0 = .ok (.iconst 0, 1) := by decide +kernel
theorem dX1_howManyLoud_1 : decode cX1_howManyLoud 1 = .ok (.istore 4, 2) := by decide +kernel
theorem dX1_howManyLoud_3 : decode cX1_howManyLoud 3 = .ok (.iconst 0, 1) := by decide +kernel
theorem dX1_howManyLoud_4 : decode cX1_howManyLoud 4 = .ok (.istore 5, 2) := by decide +kernel
theorem dX1_howManyLoud_6 : decode cX1_howManyLoud 6 = .ok (.iload 5, 2) := by decide +kernel
theorem dX1_howManyLoud_8 : decode cX1_howManyLoud 8 = .ok (.bipush 64, 2) := by decide +kernel
theorem dX1_howManyLoud_10 : decode cX1_howManyLoud 10 = .ok (.if_icmp .ge 31, 3) := by decide +kernel
theorem dX1_howManyLoud_13 : decode cX1_howManyLoud 13 = .ok (.lload_n 1, 1) := by decide +kernel
theorem dX1_howManyLoud_14 : decode cX1_howManyLoud 14 = .ok (.iload 5, 2) := by decide +kernel
theorem dX1_howManyLoud_16 : decode cX1_howManyLoud 16 = .ok (.invokestatic 52, 3) := by decide +kernel
theorem dX1_howManyLoud_19 : decode cX1_howManyLoud 19 = .ok (.ifCond .eq 16, 3) := by decide +kernel
theorem dX1_howManyLoud_22 : decode cX1_howManyLoud 22 = .ok (.aload_n 0, 1) := by decide +kernel
theorem dX1_howManyLoud_23 : decode cX1_howManyLoud 23 = .ok (.iload 5, 2) := by decide +kernel
theorem dX1_howManyLoud_25 : decode cX1_howManyLoud 25 = .ok (.iload_n 3, 1) := by decide +kernel
theorem dX1_howManyLoud_26 : decode cX1_howManyLoud 26 = .ok (.invokevirtual 133, 3) := by decide +kernel
theorem dX1_howManyLoud_29 : decode cX1_howManyLoud 29 = .ok (.ifCond .eq 6, 3) := by decide +kernel
theorem dX1_howManyLoud_32 : decode cX1_howManyLoud 32 = .ok (.iinc 4 1, 3) := by decide +kernel
theorem dX1_howManyLoud_35 : decode cX1_howManyLoud 35 = .ok (.iinc 5 1, 3) := by decide +kernel
theorem dX1_howManyLoud_38 : decode cX1_howManyLoud 38 = .ok (.goto (-32), 3) := by decide +kernel
theorem dX1_howManyLoud_41 : decode cX1_howManyLoud 41 = .ok (.iload 4, 2) := by decide +kernel
theorem dX1_howManyLoud_43 : decode cX1_howManyLoud 43 = .ok (.ireturn, 1) := by decide +kernel
theorem dX2_init_0 : decode cX2_init 0 = .ok (.aload_n 0, 1) := by decide +kernel
theorem dX2_init_1 : decode cX2_init 1 = .ok (.invokespecial 3, 3) := by decide +kernel
theorem dX2_init_4 : decode cX2_init 4 = .ok (.aload_n 0, 1) := by decide +kernel
theorem dX2_init_5 : decode cX2_init 5 = .ok (.sipush 4096, 3) := by decide +kernel
theorem dX2_init_8 : decode cX2_init 8 = .ok (.newarray .int, 2) := by decide +kernel
theorem dX2_init_10 : decode cX2_init 10 = .ok (.putfield 9, 3) := by decide +kernel
theorem dX2_init_13 : decode cX2_init 13 = .ok (.aload_n 0, 1) := by decide +kernel
theorem dX2_init_14 : decode cX2_init 14 = .ok (.sipush 4096, 3) := by decide +kernel
theorem dX2_init_17 : decode cX2_init 17 = .ok (.newarray .int, 2) := by decide +kernel
theorem dX2_init_19 : decode cX2_init 19 = .ok (.putfield 15, 3) := by decide +kernel
theorem dX2_init_22 : decode cX2_init 22 = .ok (.aload_n 0, 1) := by decide +kernel
theorem dX2_init_23 : decode cX2_init 23 = .ok (.sipush 4096, 3) := by decide +kernel
theorem dX2_init_26 : decode cX2_init 26 = .ok (.newarray .int, 2) := by decide +kernel
theorem dX2_init_28 : decode cX2_init 28 = .ok (.putfield 18, 3) := by decide +kernel
theorem dX2_init_31 : decode cX2_init 31 = .ok (.aload_n 0, 1) := by decide +kernel
theorem dX2_init_32 : decode cX2_init 32 = .ok (.sipush 256, 3) := by decide +kernel
theorem dX2_init_35 : decode cX2_init 35 = .ok (.newarray .int, 2) := by decide +kernel
theorem dX2_init_37 : decode cX2_init 37 = .ok (.putfield 21, 3) := by decide +kernel
theorem dX2_init_40 : decode cX2_init 40 = .ok (.aload_n 0, 1) := by decide +kernel
theorem dX2_init_41 : decode cX2_init 41 = .ok (.bipush 64, 2) := by decide +kernel
theorem dX2_init_43 : decode cX2_init 43 = .ok (.newarray .long, 2) := by decide +kernel
theorem dX2_init_45 : decode cX2_init 45 = .ok (.putfield 24, 3) := by decide +kernel
theorem dX2_init_48 : decode cX2_init 48 = .ok (.aload_n 0, 1) := by decide +kernel
theorem dX2_init_49 : decode cX2_init 49 = .ok (.bipush 64, 2) := by decide +kernel
theorem dX2_init_51 : decode cX2_init 51 = .ok (.newarray .long, 2) := by decide +kernel
theorem dX2_init_53 : decode cX2_init 53 = .ok (.putfield 28, 3) := by decide +kernel
theorem dX2_init_56 : decode cX2_init 56 = .ok (.return_, 1) := by decide +kernel
theorem dX2_layWays_0 : decode cX2_layWays 0 = .ok (.iconst 0, 1) := by decide +kernel
theorem dX2_layWays_1 : decode cX2_layWays 1 = .ok (.istore 5, 2) := by decide +kernel
theorem dX2_layWays_3 : decode cX2_layWays 3 = .ok (.iload 5, 2) := by decide +kernel
theorem dX2_layWays_5 : decode cX2_layWays 5 = .ok (.bipush 64, 2) := by decide +kernel
theorem dX2_layWays_7 : decode cX2_layWays 7 = .ok (.if_icmp .ge 72, 3) := by decide +kernel
theorem dX2_layWays_10 : decode cX2_layWays 10 = .ok (.iconst 0, 1) := by decide +kernel
theorem dX2_layWays_11 : decode cX2_layWays 11 = .ok (.istore 6, 2) := by decide +kernel
theorem dX2_layWays_13 : decode cX2_layWays 13 = .ok (.iload 6, 2) := by decide +kernel
theorem dX2_layWays_15 : decode cX2_layWays 15 = .ok (.iconst 4, 1) := by decide +kernel
theorem dX2_layWays_16 : decode cX2_layWays 16 = .ok (.if_icmp .ge 57, 3) := by decide +kernel
theorem dX2_layWays_19 : decode cX2_layWays 19 = .ok (.lload_n 3, 1) := by decide +kernel
theorem dX2_layWays_20 : decode cX2_layWays 20 = .ok (.iload 5, 2) := by decide +kernel
theorem dX2_layWays_22 : decode cX2_layWays 22 = .ok (.invokestatic 31, 3) := by decide +kernel
theorem dX2_layWays_25 : decode cX2_layWays 25 = .ok (.ifCond .eq 14, 3) := by decide +kernel
theorem dX2_layWays_28 : decode cX2_layWays 28 = .ok (.iload 5, 2) := by decide +kernel
theorem dX2_layWays_30 : decode cX2_layWays 30 = .ok (.iload 6, 2) := by decide +kernel
theorem dX2_layWays_32 : decode cX2_layWays 32 = .ok (.lload_n 1, 1) := by decide +kernel
theorem dX2_layWays_33 : decode cX2_layWays 33 = .ok (.invokestatic 35, 3) := by decide +kernel
theorem dX2_layWays_36 : decode cX2_layWays 36 = .ok (.goto 4, 3) := by decide +kernel
theorem dX2_layWays_39 : decode cX2_layWays 39 = .ok (.iconst (-1), 1) := by decide +kernel
theorem dX2_layWays_40 : decode cX2_layWays 40 = .ok (.istore 7, 2) := by decide +kernel
theorem dX2_layWays_42 : decode cX2_layWays 42 = .ok (.aload_n 0, 1) := by decide +kernel
theorem dX2_layWays_43 : decode cX2_layWays 43 = .ok (.getfield 21, 3) := by decide +kernel
theorem dX2_layWays_46 : decode cX2_layWays 46 = .ok (.iload 5, 2) := by decide +kernel
theorem dX2_layWays_48 : decode cX2_layWays 48 = .ok (.iconst 4, 1) := by decide +kernel
theorem dX2_layWays_49 : decode cX2_layWays 49 = .ok (.imul, 1) := by decide +kernel
theorem dX2_layWays_50 : decode cX2_layWays 50 = .ok (.iload 6, 2) := by decide +kernel
theorem dX2_layWays_52 : decode cX2_layWays 52 = .ok (.iadd, 1) := by decide +kernel
theorem dX2_layWays_53 : decode cX2_layWays 53 = .ok (.iload 7, 2) := by decide +kernel
theorem dX2_layWays_55 : decode cX2_layWays 55 = .ok (.iconst (-1), 1) := by decide +kernel
theorem dX2_layWays_56 : decode cX2_layWays 56 = .ok (.if_icmp .ne 8, 3) := by decide +kernel
theorem dX2_layWays_59 : decode cX2_layWays 59 = .ok (.iload 5, 2) := by decide +kernel
theorem dX2_layWays_61 : decode cX2_layWays 61 = .ok (.goto 5, 3) := by decide +kernel
theorem dX2_layWays_64 : decode cX2_layWays 64 = .ok (.iload 7, 2) := by decide +kernel
theorem dX2_layWays_66 : decode cX2_layWays 66 = .ok (.iastore, 1) := by decide +kernel
theorem dX2_layWays_67 : decode cX2_layWays 67 = .ok (.iinc 6 1, 3) := by decide +kernel
theorem dX2_layWays_70 : decode cX2_layWays 70 = .ok (.goto (-57), 3) := by decide +kernel
theorem dX2_layWays_73 : decode cX2_layWays 73 = .ok (.iinc 5 1, 3) := by decide +kernel
theorem dX2_layWays_76 : decode cX2_layWays 76 = .ok (.goto (-73), 3) := by decide +kernel
theorem dX2_layWays_79 : decode cX2_layWays 79 = .ok (.return_, 1) := by decide +kernel
theorem dX2_fewestMarches_0 : decode cX2_fewestMarches 0 = .ok (.aload_n 0, 1) := by decide +kernel
theorem dX2_fewestMarches_1 : decode cX2_fewestMarches 1 = .ok (.getfield 15, 3) := by decide +kernel
theorem dX2_fewestMarches_4 : decode cX2_fewestMarches 4 = .ok (.iconst (-1), 1) := by decide +kernel
theorem dX2_fewestMarches_5 : decode cX2_fewestMarches 5 = .ok (.invokestatic 39, 3) := by decide +kernel
theorem dX2_fewestMarches_8 : decode cX2_fewestMarches 8 = .ok (.iload_n 1, 1) := by decide +kernel
theorem dX2_fewestMarches_9 : decode cX2_fewestMarches 9 = .ok (.bipush 64, 2) := by decide +kernel
theorem dX2_fewestMarches_11 : decode cX2_fewestMarches 11 = .ok (.imul, 1) := by decide +kernel
theorem dX2_fewestMarches_12 : decode cX2_fewestMarches 12 = .ok (.iload_n 2, 1) := by decide +kernel
theorem dX2_fewestMarches_13 : decode cX2_fewestMarches 13 = .ok (.iadd, 1) := by decide +kernel
theorem dX2_fewestMarches_14 : decode cX2_fewestMarches 14 = .ok (.istore 4, 2) := by decide +kernel
theorem dX2_fewestMarches_16 : decode cX2_fewestMarches 16 = .ok (.aload_n 0, 1) := by decide +kernel
theorem dX2_fewestMarches_17 : decode cX2_fewestMarches 17 = .ok (.getfield 15, 3) := by decide +kernel
theorem dX2_fewestMarches_20 : decode cX2_fewestMarches 20 = .ok (.iload 4, 2) := by decide +kernel
theorem dX2_fewestMarches_22 : decode cX2_fewestMarches 22 = .ok (.iconst 0, 1) := by decide +kernel
theorem dX2_fewestMarches_23 : decode cX2_fewestMarches 23 = .ok (.iastore, 1) := by decide +kernel
theorem dX2_fewestMarches_24 : decode cX2_fewestMarches 24 = .ok (.aload_n 0, 1) := by decide +kernel
theorem dX2_fewestMarches_25 : decode cX2_fewestMarches 25 = .ok (.getfield 18, 3) := by decide +kernel
theorem dX2_fewestMarches_28 : decode cX2_fewestMarches 28 = .ok (.iload 4, 2) := by decide +kernel
theorem dX2_fewestMarches_30 : decode cX2_fewestMarches 30 = .ok (.iconst (-1), 1) := by decide +kernel
theorem dX2_fewestMarches_31 : decode cX2_fewestMarches 31 = .ok (.iastore, 1) := by decide +kernel
theorem dX2_fewestMarches_32 : decode cX2_fewestMarches 32 = .ok (.aload_n 0, 1) := by decide +kernel
theorem dX2_fewestMarches_33 : decode cX2_fewestMarches 33 = .ok (.getfield 9, 3) := by decide +kernel
theorem dX2_fewestMarches_36 : decode cX2_fewestMarches 36 = .ok (.iconst 0, 1) := by decide +kernel
theorem dX2_fewestMarches_37 : decode cX2_fewestMarches 37 = .ok (.iload 4, 2) := by decide +kernel
theorem dX2_fewestMarches_39 : decode cX2_fewestMarches 39 = .ok (.iastore, 1) := by decide +kernel
theorem dX2_fewestMarches_40 : decode cX2_fewestMarches 40 = .ok (.iconst 1, 1) := by decide +kernel
theorem dX2_fewestMarches_41 : decode cX2_fewestMarches 41 = .ok (.istore 5, 2) := by decide +kernel
theorem dX2_fewestMarches_43 : decode cX2_fewestMarches 43 = .ok (.iconst 0, 1) := by decide +kernel
theorem dX2_fewestMarches_44 : decode cX2_fewestMarches 44 = .ok (.istore 6, 2) := by decide +kernel
theorem dX2_fewestMarches_46 : decode cX2_fewestMarches 46 = .ok (.iload 6, 2) := by decide +kernel
theorem dX2_fewestMarches_48 : decode cX2_fewestMarches 48 = .ok (.iload 5, 2) := by decide +kernel
theorem dX2_fewestMarches_50 : decode cX2_fewestMarches 50 = .ok (.if_icmp .ge 191, 3) := by decide +kernel
theorem dX2_fewestMarches_53 : decode cX2_fewestMarches 53 = .ok (.iload 6, 2) := by decide +kernel
theorem dX2_fewestMarches_55 : decode cX2_fewestMarches 55 = .ok (.aload_n 0, 1) := by decide +kernel
theorem dX2_fewestMarches_56 : decode cX2_fewestMarches 56 = .ok (.getfield 9, 3) := by decide +kernel
theorem dX2_fewestMarches_59 : decode cX2_fewestMarches 59 = .ok (.arraylength, 1) := by decide +kernel
theorem dX2_fewestMarches_60 : decode cX2_fewestMarches 60 = .ok (.if_icmp .ge 181, 3) := by decide +kernel
theorem dX2_fewestMarches_63 : decode cX2_fewestMarches 63 = .ok (.aload_n 0, 1) := by decide +kernel
theorem dX2_fewestMarches_64 : decode cX2_fewestMarches 64 = .ok (.getfield 9, 3) := by decide +kernel
theorem dX2_fewestMarches_67 : decode cX2_fewestMarches 67 = .ok (.iload 6, 2) := by decide +kernel
theorem dX2_fewestMarches_69 : decode cX2_fewestMarches 69 = .ok (.iaload, 1) := by decide +kernel
theorem dX2_fewestMarches_70 : decode cX2_fewestMarches 70 = .ok (.istore 7, 2) := by decide +kernel
theorem dX2_fewestMarches_72 : decode cX2_fewestMarches 72 = .ok (.iload 7, 2) := by decide +kernel
theorem dX2_fewestMarches_74 : decode cX2_fewestMarches 74 = .ok (.bipush 64, 2) := by decide +kernel
theorem dX2_fewestMarches_76 : decode cX2_fewestMarches 76 = .ok (.idiv, 1) := by decide +kernel
theorem dX2_fewestMarches_77 : decode cX2_fewestMarches 77 = .ok (.istore 8, 2) := by decide +kernel
theorem dX2_fewestMarches_79 : decode cX2_fewestMarches 79 = .ok (.iload 7, 2) := by decide +kernel
theorem dX2_fewestMarches_81 : decode cX2_fewestMarches 81 = .ok (.bipush 64, 2) := by decide +kernel
theorem dX2_fewestMarches_83 : decode cX2_fewestMarches 83 = .ok (.irem, 1) := by decide +kernel
theorem dX2_fewestMarches_84 : decode cX2_fewestMarches 84 = .ok (.istore 9, 2) := by decide +kernel
theorem dX2_fewestMarches_86 : decode cX2_fewestMarches 86 = .ok (.iload 8, 2) := by decide +kernel
theorem dX2_fewestMarches_88 : decode cX2_fewestMarches 88 = .ok (.iload 9, 2) := by decide +kernel
theorem dX2_fewestMarches_90 : decode cX2_fewestMarches 90 = .ok (.if_icmp .ne 25, 3) := by decide +kernel
theorem dX2_fewestMarches_93 : decode cX2_fewestMarches 93 = .ok (.iload_n 3, 1) := by decide +kernel
theorem dX2_fewestMarches_94 : decode cX2_fewestMarches 94 = .ok (.ifCond .eq 13, 3) := by decide +kernel
theorem dX2_fewestMarches_97 : decode cX2_fewestMarches 97 = .ok (.aload_n 0, 1) := by decide +kernel
theorem dX2_fewestMarches_98 : decode cX2_fewestMarches 98 = .ok (.getfield 18, 3) := by decide +kernel
theorem dX2_fewestMarches_101 : decode cX2_fewestMarches 101 = .ok (.iload 7, 2) := by decide +kernel
theorem dX2_fewestMarches_103 : decode cX2_fewestMarches 103 = .ok (.iaload, 1) := by decide +kernel
theorem dX2_fewestMarches_104 : decode cX2_fewestMarches 104 = .ok (.goto 10, 3) := by decide +kernel
theorem dX2_fewestMarches_107 : decode cX2_fewestMarches 107 = .ok (.aload_n 0, 1) := by decide +kernel
theorem dX2_fewestMarches_108 : decode cX2_fewestMarches 108 = .ok (.getfield 15, 3) := by decide +kernel
theorem dX2_fewestMarches_111 : decode cX2_fewestMarches 111 = .ok (.iload 7, 2) := by decide +kernel
theorem dX2_fewestMarches_113 : decode cX2_fewestMarches 113 = .ok (.iaload, 1) := by decide +kernel
theorem dX2_fewestMarches_114 : decode cX2_fewestMarches 114 = .ok (.ireturn, 1) := by decide +kernel
theorem dX2_fewestMarches_115 : decode cX2_fewestMarches 115 = .ok (.iconst 0, 1) := by decide +kernel
theorem dX2_fewestMarches_116 : decode cX2_fewestMarches 116 = .ok (.istore 10, 2) := by decide +kernel
theorem dX2_fewestMarches_118 : decode cX2_fewestMarches 118 = .ok (.iload 10, 2) := by decide +kernel
theorem dX2_fewestMarches_120 : decode cX2_fewestMarches 120 = .ok (.iconst 4, 1) := by decide +kernel
theorem dX2_fewestMarches_121 : decode cX2_fewestMarches 121 = .ok (.if_icmp .ge 114, 3) := by decide +kernel
theorem dX2_fewestMarches_124 : decode cX2_fewestMarches 124 = .ok (.aload_n 0, 1) := by decide +kernel
theorem dX2_fewestMarches_125 : decode cX2_fewestMarches 125 = .ok (.getfield 21, 3) := by decide +kernel
theorem dX2_fewestMarches_128 : decode cX2_fewestMarches 128 = .ok (.iload 8, 2) := by decide +kernel
theorem dX2_fewestMarches_130 : decode cX2_fewestMarches 130 = .ok (.iconst 4, 1) := by decide +kernel
theorem dX2_fewestMarches_131 : decode cX2_fewestMarches 131 = .ok (.imul, 1) := by decide +kernel
theorem dX2_fewestMarches_132 : decode cX2_fewestMarches 132 = .ok (.iload 10, 2) := by decide +kernel
theorem dX2_fewestMarches_134 : decode cX2_fewestMarches 134 = .ok (.iadd, 1) := by decide +kernel
theorem dX2_fewestMarches_135 : decode cX2_fewestMarches 135 = .ok (.iaload, 1) := by decide +kernel
theorem dX2_fewestMarches_136 : decode cX2_fewestMarches 136 = .ok (.bipush 64, 2) := by decide +kernel
theorem dX2_fewestMarches_138 : decode cX2_fewestMarches 138 = .ok (.imul, 1) := by decide +kernel
theorem dX2_fewestMarches_139 : decode cX2_fewestMarches 139 = .ok (.aload_n 0, 1) := by decide +kernel
theorem dX2_fewestMarches_140 : decode cX2_fewestMarches 140 = .ok (.getfield 21, 3) := by decide +kernel
theorem dX2_fewestMarches_143 : decode cX2_fewestMarches 143 = .ok (.iload 9, 2) := by decide +kernel
theorem dX2_fewestMarches_145 : decode cX2_fewestMarches 145 = .ok (.iconst 4, 1) := by decide +kernel
theorem dX2_fewestMarches_146 : decode cX2_fewestMarches 146 = .ok (.imul, 1) := by decide +kernel
theorem dX2_fewestMarches_147 : decode cX2_fewestMarches 147 = .ok (.iload 10, 2) := by decide +kernel
theorem dX2_fewestMarches_149 : decode cX2_fewestMarches 149 = .ok (.iadd, 1) := by decide +kernel
theorem dX2_fewestMarches_150 : decode cX2_fewestMarches 150 = .ok (.iaload, 1) := by decide +kernel
theorem dX2_fewestMarches_151 : decode cX2_fewestMarches 151 = .ok (.iadd, 1) := by decide +kernel
theorem dX2_fewestMarches_152 : decode cX2_fewestMarches 152 = .ok (.istore 11, 2) := by decide +kernel
theorem dX2_fewestMarches_154 : decode cX2_fewestMarches 154 = .ok (.aload_n 0, 1) := by decide +kernel
theorem dX2_fewestMarches_155 : decode cX2_fewestMarches 155 = .ok (.getfield 15, 3) := by decide +kernel
theorem dX2_fewestMarches_158 : decode cX2_fewestMarches 158 = .ok (.iload 11, 2) := by decide +kernel
theorem dX2_fewestMarches_160 : decode cX2_fewestMarches 160 = .ok (.iaload, 1) := by decide +kernel
theorem dX2_fewestMarches_161 : decode cX2_fewestMarches 161 = .ok (.iconst (-1), 1) := by decide +kernel
theorem dX2_fewestMarches_162 : decode cX2_fewestMarches 162 = .ok (.if_icmp .ne 67, 3) := by decide +kernel
theorem dX2_fewestMarches_165 : decode cX2_fewestMarches 165 = .ok (.iload 5, 2) := by decide +kernel
theorem dX2_fewestMarches_167 : decode cX2_fewestMarches 167 = .ok (.aload_n 0, 1) := by decide +kernel
theorem dX2_fewestMarches_168 : decode cX2_fewestMarches 168 = .ok (.getfield 9, 3) := by decide +kernel
theorem dX2_fewestMarches_171 : decode cX2_fewestMarches 171 = .ok (.arraylength, 1) := by decide +kernel
theorem dX2_fewestMarches_172 : decode cX2_fewestMarches 172 = .ok (.if_icmp .ge 57, 3) := by decide +kernel
theorem dX2_fewestMarches_175 : decode cX2_fewestMarches 175 = .ok (.aload_n 0, 1) := by decide +kernel
theorem dX2_fewestMarches_176 : decode cX2_fewestMarches 176 = .ok (.getfield 15, 3) := by decide +kernel
theorem dX2_fewestMarches_179 : decode cX2_fewestMarches 179 = .ok (.iload 11, 2) := by decide +kernel
theorem dX2_fewestMarches_181 : decode cX2_fewestMarches 181 = .ok (.aload_n 0, 1) := by decide +kernel
theorem dX2_fewestMarches_182 : decode cX2_fewestMarches 182 = .ok (.getfield 15, 3) := by decide +kernel
theorem dX2_fewestMarches_185 : decode cX2_fewestMarches 185 = .ok (.iload 7, 2) := by decide +kernel
theorem dX2_fewestMarches_187 : decode cX2_fewestMarches 187 = .ok (.iaload, 1) := by decide +kernel
theorem dX2_fewestMarches_188 : decode cX2_fewestMarches 188 = .ok (.iconst 1, 1) := by decide +kernel
theorem dX2_fewestMarches_189 : decode cX2_fewestMarches 189 = .ok (.iadd, 1) := by decide +kernel
theorem dX2_fewestMarches_190 : decode cX2_fewestMarches 190 = .ok (.iastore, 1) := by decide +kernel
theorem dX2_fewestMarches_191 : decode cX2_fewestMarches 191 = .ok (.aload_n 0, 1) := by decide +kernel
theorem dX2_fewestMarches_192 : decode cX2_fewestMarches 192 = .ok (.getfield 18, 3) := by decide +kernel
theorem dX2_fewestMarches_195 : decode cX2_fewestMarches 195 = .ok (.iload 11, 2) := by decide +kernel
theorem dX2_fewestMarches_197 : decode cX2_fewestMarches 197 = .ok (.iload 7, 2) := by decide +kernel
theorem dX2_fewestMarches_199 : decode cX2_fewestMarches 199 = .ok (.iload 4, 2) := by decide +kernel
theorem dX2_fewestMarches_201 : decode cX2_fewestMarches 201 = .ok (.if_icmp .ne 8, 3) := by decide +kernel
theorem dX2_fewestMarches_204 : decode cX2_fewestMarches 204 = .ok (.iload 10, 2) := by decide +kernel
theorem dX2_fewestMarches_206 : decode cX2_fewestMarches 206 = .ok (.goto 10, 3) := by decide +kernel
theorem dX2_fewestMarches_209 : decode cX2_fewestMarches 209 = .ok (.aload_n 0, 1) := by decide +kernel
theorem dX2_fewestMarches_210 : decode cX2_fewestMarches 210 = .ok (.getfield 18, 3) := by decide +kernel
theorem dX2_fewestMarches_213 : decode cX2_fewestMarches 213 = .ok (.iload 7, 2) := by decide +kernel
theorem dX2_fewestMarches_215 : decode cX2_fewestMarches 215 = .ok (.iaload, 1) := by decide +kernel
theorem dX2_fewestMarches_216 : decode cX2_fewestMarches 216 = .ok (.iastore, 1) := by decide +kernel
theorem dX2_fewestMarches_217 : decode cX2_fewestMarches 217 = .ok (.aload_n 0, 1) := by decide +kernel
theorem dX2_fewestMarches_218 : decode cX2_fewestMarches 218 = .ok (.getfield 9, 3) := by decide +kernel
theorem dX2_fewestMarches_221 : decode cX2_fewestMarches 221 = .ok (.iload 5, 2) := by decide +kernel
theorem dX2_fewestMarches_223 : decode cX2_fewestMarches 223 = .ok (.iload 11, 2) := by decide +kernel
theorem dX2_fewestMarches_225 : decode cX2_fewestMarches 225 = .ok (.iastore, 1) := by decide +kernel
theorem dX2_fewestMarches_226 : decode cX2_fewestMarches 226 = .ok (.iinc 5 1, 3) := by decide +kernel
theorem dX2_fewestMarches_229 : decode cX2_fewestMarches 229 = .ok (.iinc 10 1, 3) := by decide +kernel
theorem dX2_fewestMarches_232 : decode cX2_fewestMarches 232 = .ok (.goto (-114), 3) := by decide +kernel
theorem dX2_fewestMarches_235 : decode cX2_fewestMarches 235 = .ok (.iinc 6 1, 3) := by decide +kernel
theorem dX2_fewestMarches_238 : decode cX2_fewestMarches 238 = .ok (.goto (-192), 3) := by decide +kernel
theorem dX2_fewestMarches_241 : decode cX2_fewestMarches 241 = .ok (.iconst (-1), 1) := by decide +kernel
theorem dX2_fewestMarches_242 : decode cX2_fewestMarches 242 = .ok (.ireturn, 1) := by decide +kernel
theorem dX2_turnsToCatch_0 : decode cX2_turnsToCatch 0 = .ok (.iconst 0, 1) := by decide +kernel
theorem dX2_turnsToCatch_1 : decode cX2_turnsToCatch 1 = .ok (.istore 5, 2) := by decide +kernel
theorem dX2_turnsToCatch_3 : decode cX2_turnsToCatch 3 = .ok (.iload 5, 2) := by decide +kernel
theorem dX2_turnsToCatch_5 : decode cX2_turnsToCatch 5 = .ok (.bipush 64, 2) := by decide +kernel
theorem dX2_turnsToCatch_7 : decode cX2_turnsToCatch 7 = .ok (.if_icmp .ge 21, 3) := by decide +kernel
theorem dX2_turnsToCatch_10 : decode cX2_turnsToCatch 10 = .ok (.aload_n 0, 1) := by decide +kernel
theorem dX2_turnsToCatch_11 : decode cX2_turnsToCatch 11 = .ok (.getfield 24, 3) := by decide +kernel
theorem dX2_turnsToCatch_14 : decode cX2_turnsToCatch 14 = .ok (.iload 5, 2) := by decide +kernel
theorem dX2_turnsToCatch_16 : decode cX2_turnsToCatch 16 = .ok (.iload 5, 2) := by decide +kernel
theorem dX2_turnsToCatch_18 : decode cX2_turnsToCatch 18 = .ok (.invokestatic 45, 3) := by decide +kernel
theorem dX2_turnsToCatch_21 : decode cX2_turnsToCatch 21 = .ok (.lastore, 1) := by decide +kernel
theorem dX2_turnsToCatch_22 : decode cX2_turnsToCatch 22 = .ok (.iinc 5 1, 3) := by decide +kernel
theorem dX2_turnsToCatch_25 : decode cX2_turnsToCatch 25 = .ok (.goto (-22), 3) := by decide +kernel
theorem dX2_turnsToCatch_28 : decode cX2_turnsToCatch 28 = .ok (.iconst 0, 1) := by decide +kernel
theorem dX2_turnsToCatch_29 : decode cX2_turnsToCatch 29 = .ok (.istore 5, 2) := by decide +kernel
theorem dX2_turnsToCatch_31 : decode cX2_turnsToCatch 31 = .ok (.iload 5, 2) := by decide +kernel
theorem dX2_turnsToCatch_33 : decode cX2_turnsToCatch 33 = .ok (.sipush 4096, 3) := by decide +kernel
theorem dX2_turnsToCatch_36 : decode cX2_turnsToCatch 36 = .ok (.if_icmp .gt 36, 3) := by decide +kernel
theorem dX2_turnsToCatch_39 : decode cX2_turnsToCatch 39 = .ok (.aload_n 0, 1) := by decide +kernel
theorem dX2_turnsToCatch_40 : decode cX2_turnsToCatch 40 = .ok (.getfield 24, 3) := by decide +kernel
theorem dX2_turnsToCatch_43 : decode cX2_turnsToCatch 43 = .ok (.iload_n 3, 1) := by decide +kernel
theorem dX2_turnsToCatch_44 : decode cX2_turnsToCatch 44 = .ok (.laload, 1) := by decide +kernel
theorem dX2_turnsToCatch_45 : decode cX2_turnsToCatch 45 = .ok (.iload 4, 2) := by decide +kernel
theorem dX2_turnsToCatch_47 : decode cX2_turnsToCatch 47 = .ok (.invokestatic 31, 3) := by decide +kernel
theorem dX2_turnsToCatch_50 : decode cX2_turnsToCatch 50 = .ok (.ifCond .eq 6, 3) := by decide +kernel
theorem dX2_turnsToCatch_53 : decode cX2_turnsToCatch 53 = .ok (.iload 5, 2) := by decide +kernel
theorem dX2_turnsToCatch_55 : decode cX2_turnsToCatch 55 = .ok (.ireturn, 1) := by decide +kernel
theorem dX2_turnsToCatch_56 : decode cX2_turnsToCatch 56 = .ok (.aload_n 0, 1) := by decide +kernel
theorem dX2_turnsToCatch_57 : decode cX2_turnsToCatch 57 = .ok (.lload_n 1, 1) := by decide +kernel
theorem dX2_turnsToCatch_58 : decode cX2_turnsToCatch 58 = .ok (.invokevirtual 49, 3) := by decide +kernel
theorem dX2_turnsToCatch_61 : decode cX2_turnsToCatch 61 = .ok (.ifCond .ne 5, 3) := by decide +kernel
theorem dX2_turnsToCatch_64 : decode cX2_turnsToCatch 64 = .ok (.iconst (-1), 1) := by decide +kernel
theorem dX2_turnsToCatch_65 : decode cX2_turnsToCatch 65 = .ok (.ireturn, 1) := by decide +kernel
theorem dX2_turnsToCatch_66 : decode cX2_turnsToCatch 66 = .ok (.iinc 5 1, 3) := by decide +kernel
theorem dX2_turnsToCatch_69 : decode cX2_turnsToCatch 69 = .ok (.goto (-38), 3) := by decide +kernel
theorem dX2_turnsToCatch_72 : decode cX2_turnsToCatch 72 = .ok (.iconst (-1), 1) := by decide +kernel
theorem dX2_turnsToCatch_73 : decode cX2_turnsToCatch 73 = .ok (.ireturn, 1) := by decide +kernel
theorem dX2_addTurn_0 : decode cX2_addTurn 0 = .ok (.iconst 0, 1) := by decide +kernel
theorem dX2_addTurn_1 : decode cX2_addTurn 1 = .ok (.istore_n 3, 1) := by decide +kernel
theorem dX2_addTurn_2 : decode cX2_addTurn 2 = .ok (.iload_n 3, 1) := by decide +kernel
theorem dX2_addTurn_3 : decode cX2_addTurn 3 = .ok (.bipush 64, 2) := by decide +kernel
theorem dX2_addTurn_5 : decode cX2_addTurn 5 = .ok (.if_icmp .ge 46, 3) := by decide +kernel
theorem dX2_addTurn_8 : decode cX2_addTurn 8 = .ok (.lload_n 1, 1) := by decide +kernel
theorem dX2_addTurn_9 : decode cX2_addTurn 9 = .ok (.aload_n 0, 1) := by decide +kernel
theorem dX2_addTurn_10 : decode cX2_addTurn 10 = .ok (.getfield 24, 3) := by decide +kernel
theorem dX2_addTurn_13 : decode cX2_addTurn 13 = .ok (.iload_n 3, 1) := by decide +kernel
theorem dX2_addTurn_14 : decode cX2_addTurn 14 = .ok (.laload, 1) := by decide +kernel
theorem dX2_addTurn_15 : decode cX2_addTurn 15 = .ok (.ldc2_w 53, 3) := by decide +kernel
theorem dX2_addTurn_18 : decode cX2_addTurn 18 = .ok (.lxor, 1) := by decide +kernel
theorem dX2_addTurn_19 : decode cX2_addTurn 19 = .ok (.land, 1) := by decide +kernel
theorem dX2_addTurn_20 : decode cX2_addTurn 20 = .ok (.lload_n 1, 1) := by decide +kernel
theorem dX2_addTurn_21 : decode cX2_addTurn 21 = .ok (.invokestatic 55, 3) := by decide +kernel
theorem dX2_addTurn_24 : decode cX2_addTurn 24 = .ok (.lstore 4, 2) := by decide +kernel
theorem dX2_addTurn_26 : decode cX2_addTurn 26 = .ok (.aload_n 0, 1) := by decide +kernel
theorem dX2_addTurn_27 : decode cX2_addTurn 27 = .ok (.getfield 28, 3) := by decide +kernel
theorem dX2_addTurn_30 : decode cX2_addTurn 30 = .ok (.iload_n 3, 1) := by decide +kernel
theorem dX2_addTurn_31 : decode cX2_addTurn 31 = .ok (.lload_n 1, 1) := by decide +kernel
theorem dX2_addTurn_32 : decode cX2_addTurn 32 = .ok (.lload 4, 2) := by decide +kernel
theorem dX2_addTurn_34 : decode cX2_addTurn 34 = .ok (.ldc2_w 53, 3) := by decide +kernel
theorem dX2_addTurn_37 : decode cX2_addTurn 37 = .ok (.lxor, 1) := by decide +kernel
theorem dX2_addTurn_38 : decode cX2_addTurn 38 = .ok (.land, 1) := by decide +kernel
theorem dX2_addTurn_39 : decode cX2_addTurn 39 = .ok (.iload_n 3, 1) := by decide +kernel
theorem dX2_addTurn_40 : decode cX2_addTurn 40 = .ok (.invokestatic 45, 3) := by decide +kernel
theorem dX2_addTurn_43 : decode cX2_addTurn 43 = .ok (.lor, 1) := by decide +kernel
theorem dX2_addTurn_44 : decode cX2_addTurn 44 = .ok (.lastore, 1) := by decide +kernel
theorem dX2_addTurn_45 : decode cX2_addTurn 45 = .ok (.iinc 3 1, 3) := by decide +kernel
theorem dX2_addTurn_48 : decode cX2_addTurn 48 = .ok (.goto (-46), 3) := by decide +kernel
theorem dX2_addTurn_51 : decode cX2_addTurn 51 = .ok (.iconst 0, 1) := by decide +kernel
theorem dX2_addTurn_52 : decode cX2_addTurn 52 = .ok (.istore_n 3, 1) := by decide +kernel
theorem dX2_addTurn_53 : decode cX2_addTurn 53 = .ok (.iconst 0, 1) := by decide +kernel
theorem dX2_addTurn_54 : decode cX2_addTurn 54 = .ok (.istore 4, 2) := by decide +kernel
theorem dX2_addTurn_56 : decode cX2_addTurn 56 = .ok (.iload 4, 2) := by decide +kernel
theorem dX2_addTurn_58 : decode cX2_addTurn 58 = .ok (.bipush 64, 2) := by decide +kernel
theorem dX2_addTurn_60 : decode cX2_addTurn 60 = .ok (.if_icmp .ge 57, 3) := by decide +kernel
theorem dX2_addTurn_63 : decode cX2_addTurn 63 = .ok (.lload_n 1, 1) := by decide +kernel
theorem dX2_addTurn_64 : decode cX2_addTurn 64 = .ok (.iload 4, 2) := by decide +kernel
theorem dX2_addTurn_66 : decode cX2_addTurn 66 = .ok (.invokestatic 31, 3) := by decide +kernel
theorem dX2_addTurn_69 : decode cX2_addTurn 69 = .ok (.ifCond .eq 42, 3) := by decide +kernel
theorem dX2_addTurn_72 : decode cX2_addTurn 72 = .ok (.aload_n 0, 1) := by decide +kernel
theorem dX2_addTurn_73 : decode cX2_addTurn 73 = .ok (.lload_n 1, 1) := by decide +kernel
theorem dX2_addTurn_74 : decode cX2_addTurn 74 = .ok (.iload 4, 2) := by decide +kernel
theorem dX2_addTurn_76 : decode cX2_addTurn 76 = .ok (.invokevirtual 59, 3) := by decide +kernel
theorem dX2_addTurn_79 : decode cX2_addTurn 79 = .ok (.lstore 5, 2) := by decide +kernel
theorem dX2_addTurn_81 : decode cX2_addTurn 81 = .ok (.iload_n 3, 1) := by decide +kernel
theorem dX2_addTurn_82 : decode cX2_addTurn 82 = .ok (.lload 5, 2) := by decide +kernel
theorem dX2_addTurn_84 : decode cX2_addTurn 84 = .ok (.aload_n 0, 1) := by decide +kernel
theorem dX2_addTurn_85 : decode cX2_addTurn 85 = .ok (.getfield 24, 3) := by decide +kernel
theorem dX2_addTurn_88 : decode cX2_addTurn 88 = .ok (.iload 4, 2) := by decide +kernel
theorem dX2_addTurn_90 : decode cX2_addTurn 90 = .ok (.laload, 1) := by decide +kernel
theorem dX2_addTurn_91 : decode cX2_addTurn 91 = .ok (.lcmp, 1) := by decide +kernel
theorem dX2_addTurn_92 : decode cX2_addTurn 92 = .ok (.ifCond .eq 7, 3) := by decide +kernel
theorem dX2_addTurn_95 : decode cX2_addTurn 95 = .ok (.iconst 1, 1) := by decide +kernel
theorem dX2_addTurn_96 : decode cX2_addTurn 96 = .ok (.goto 4, 3) := by decide +kernel
theorem dX2_addTurn_99 : decode cX2_addTurn 99 = .ok (.iconst 0, 1) := by decide +kernel
theorem dX2_addTurn_100 : decode cX2_addTurn 100 = .ok (.ior, 1) := by decide +kernel
theorem dX2_addTurn_101 : decode cX2_addTurn 101 = .ok (.istore_n 3, 1) := by decide +kernel
theorem dX2_addTurn_102 : decode cX2_addTurn 102 = .ok (.aload_n 0, 1) := by decide +kernel
theorem dX2_addTurn_103 : decode cX2_addTurn 103 = .ok (.getfield 24, 3) := by decide +kernel
theorem dX2_addTurn_106 : decode cX2_addTurn 106 = .ok (.iload 4, 2) := by decide +kernel
theorem dX2_addTurn_108 : decode cX2_addTurn 108 = .ok (.lload 5, 2) := by decide +kernel
theorem dX2_addTurn_110 : decode cX2_addTurn 110 = .ok (.lastore, 1) := by decide +kernel
theorem dX2_addTurn_111 : decode cX2_addTurn 111 = .ok (.iinc 4 1, 3) := by decide +kernel
theorem dX2_addTurn_114 : decode cX2_addTurn 114 = .ok (.goto (-58), 3) := by decide +kernel
theorem dX2_addTurn_117 : decode cX2_addTurn 117 = .ok (.iload_n 3, 1) := by decide +kernel
theorem dX2_addTurn_118 : decode cX2_addTurn 118 = .ok (.ireturn, 1) := by decide +kernel
theorem dX2_heldAround_0 : decode cX2_heldAround 0 = .ok (.aload_n 0, 1) := by decide +kernel
theorem dX2_heldAround_1 : decode cX2_heldAround 1 = .ok (.getfield 28, 3) := by decide +kernel
theorem dX2_heldAround_4 : decode cX2_heldAround 4 = .ok (.iload_n 3, 1) := by decide +kernel
theorem dX2_heldAround_5 : decode cX2_heldAround 5 = .ok (.laload, 1) := by decide +kernel
theorem dX2_heldAround_6 : decode cX2_heldAround 6 = .ok (.lstore 4, 2) := by decide +kernel
theorem dX2_heldAround_8 : decode cX2_heldAround 8 = .ok (.iconst 0, 1) := by decide +kernel
theorem dX2_heldAround_9 : decode cX2_heldAround 9 = .ok (.istore 6, 2) := by decide +kernel
theorem dX2_heldAround_11 : decode cX2_heldAround 11 = .ok (.iload 6, 2) := by decide +kernel
theorem dX2_heldAround_13 : decode cX2_heldAround 13 = .ok (.iconst 4, 1) := by decide +kernel
theorem dX2_heldAround_14 : decode cX2_heldAround 14 = .ok (.if_icmp .ge 36, 3) := by decide +kernel
theorem dX2_heldAround_17 : decode cX2_heldAround 17 = .ok (.iload_n 3, 1) := by decide +kernel
theorem dX2_heldAround_18 : decode cX2_heldAround 18 = .ok (.iload 6, 2) := by decide +kernel
theorem dX2_heldAround_20 : decode cX2_heldAround 20 = .ok (.lload_n 1, 1) := by decide +kernel
theorem dX2_heldAround_21 : decode cX2_heldAround 21 = .ok (.invokestatic 35, 3) := by decide +kernel
theorem dX2_heldAround_24 : decode cX2_heldAround 24 = .ok (.istore 7, 2) := by decide +kernel
theorem dX2_heldAround_26 : decode cX2_heldAround 26 = .ok (.iload 7, 2) := by decide +kernel
theorem dX2_heldAround_28 : decode cX2_heldAround 28 = .ok (.iconst (-1), 1) := by decide +kernel
theorem dX2_heldAround_29 : decode cX2_heldAround 29 = .ok (.if_icmp .eq 15, 3) := by decide +kernel
theorem dX2_heldAround_32 : decode cX2_heldAround 32 = .ok (.lload 4, 2) := by decide +kernel
theorem dX2_heldAround_34 : decode cX2_heldAround 34 = .ok (.aload_n 0, 1) := by decide +kernel
theorem dX2_heldAround_35 : decode cX2_heldAround 35 = .ok (.getfield 28, 3) := by decide +kernel
theorem dX2_heldAround_38 : decode cX2_heldAround 38 = .ok (.iload 7, 2) := by decide +kernel
theorem dX2_heldAround_40 : decode cX2_heldAround 40 = .ok (.laload, 1) := by decide +kernel
theorem dX2_heldAround_41 : decode cX2_heldAround 41 = .ok (.lor, 1) := by decide +kernel
theorem dX2_heldAround_42 : decode cX2_heldAround 42 = .ok (.lstore 4, 2) := by decide +kernel
theorem dX2_heldAround_44 : decode cX2_heldAround 44 = .ok (.iinc 6 1, 3) := by decide +kernel
theorem dX2_heldAround_47 : decode cX2_heldAround 47 = .ok (.goto (-36), 3) := by decide +kernel
theorem dX2_heldAround_50 : decode cX2_heldAround 50 = .ok (.lload 4, 2) := by decide +kernel
theorem dX2_heldAround_52 : decode cX2_heldAround 52 = .ok (.lreturn, 1) := by decide +kernel
theorem dX3_init_0 : decode cX3_init 0 = .ok (.aload_n 0, 1) := by decide +kernel
theorem dX3_init_1 : decode cX3_init 1 = .ok (.invokespecial 3, 3) := by decide +kernel
theorem dX3_init_4 : decode cX3_init 4 = .ok (.aload_n 0, 1) := by decide +kernel
theorem dX3_init_5 : decode cX3_init 5 = .ok (.new 9, 3) := by decide +kernel
theorem dX3_init_8 : decode cX3_init 8 = .ok (.dup, 1) := by decide +kernel
theorem dX3_init_9 : decode cX3_init 9 = .ok (.invokespecial 11, 3) := by decide +kernel
theorem dX3_init_12 : decode cX3_init 12 = .ok (.putfield 12, 3) := by decide +kernel
theorem dX3_init_15 : decode cX3_init 15 = .ok (.aload_n 0, 1) := by decide +kernel
theorem dX3_init_16 : decode cX3_init 16 = .ok (.bipush 6, 2) := by decide +kernel
theorem dX3_init_18 : decode cX3_init 18 = .ok (.newarray .int, 2) := by decide +kernel
theorem dX3_init_20 : decode cX3_init 20 = .ok (.putfield 18, 3) := by decide +kernel
theorem dX3_init_23 : decode cX3_init 23 = .ok (.aload_n 0, 1) := by decide +kernel
theorem dX3_init_24 : decode cX3_init 24 = .ok (.bipush 6, 2) := by decide +kernel
theorem dX3_init_26 : decode cX3_init 26 = .ok (.newarray .int, 2) := by decide +kernel
theorem dX3_init_28 : decode cX3_init 28 = .ok (.putfield 22, 3) := by decide +kernel
theorem dX3_init_31 : decode cX3_init 31 = .ok (.aload_n 0, 1) := by decide +kernel
theorem dX3_init_32 : decode cX3_init 32 = .ok (.bipush 6, 2) := by decide +kernel
theorem dX3_init_34 : decode cX3_init 34 = .ok (.newarray .int, 2) := by decide +kernel
theorem dX3_init_36 : decode cX3_init 36 = .ok (.putfield 25, 3) := by decide +kernel
theorem dX3_init_39 : decode cX3_init 39 = .ok (.aload_n 0, 1) := by decide +kernel
theorem dX3_init_40 : decode cX3_init 40 = .ok (.bipush 6, 2) := by decide +kernel
theorem dX3_init_42 : decode cX3_init 42 = .ok (.newarray .int, 2) := by decide +kernel
theorem dX3_init_44 : decode cX3_init 44 = .ok (.putfield 28, 3) := by decide +kernel
theorem dX3_init_47 : decode cX3_init 47 = .ok (.return_, 1) := by decide +kernel
theorem dX3_begin_0 : decode cX3_begin 0 = .ok (.aload_n 1, 1) := by decide +kernel
theorem dX3_begin_1 : decode cX3_begin 1 = .ok (.getfield 31, 3) := by decide +kernel
theorem dX3_begin_4 : decode cX3_begin 4 = .ok (.iconst 0, 1) := by decide +kernel
theorem dX3_begin_5 : decode cX3_begin 5 = .ok (.aload_n 0, 1) := by decide +kernel
theorem dX3_begin_6 : decode cX3_begin 6 = .ok (.getfield 18, 3) := by decide +kernel
theorem dX3_begin_9 : decode cX3_begin 9 = .ok (.iconst 0, 1) := by decide +kernel
theorem dX3_begin_10 : decode cX3_begin 10 = .ok (.bipush 6, 2) := by decide +kernel
theorem dX3_begin_12 : decode cX3_begin 12 = .ok (.invokestatic 34, 3) := by decide +kernel
theorem dX3_begin_15 : decode cX3_begin 15 = .ok (.aload_n 1, 1) := by decide +kernel
theorem dX3_begin_16 : decode cX3_begin 16 = .ok (.getfield 40, 3) := by decide +kernel
theorem dX3_begin_19 : decode cX3_begin 19 = .ok (.iconst 0, 1) := by decide +kernel
theorem dX3_begin_20 : decode cX3_begin 20 = .ok (.aload_n 0, 1) := by decide +kernel
theorem dX3_begin_21 : decode cX3_begin 21 = .ok (.getfield 22, 3) := by decide +kernel
theorem dX3_begin_24 : decode cX3_begin 24 = .ok (.iconst 0, 1) := by decide +kernel
theorem dX3_begin_25 : decode cX3_begin 25 = .ok (.bipush 6, 2) := by decide +kernel
theorem dX3_begin_27 : decode cX3_begin 27 = .ok (.invokestatic 34, 3) := by decide +kernel
theorem dX3_begin_30 : decode cX3_begin 30 = .ok (.aload_n 0, 1) := by decide +kernel
theorem dX3_begin_31 : decode cX3_begin 31 = .ok (.getfield 25, 3) := by decide +kernel
theorem dX3_begin_34 : decode cX3_begin 34 = .ok (.iconst (-1), 1) := by decide +kernel
theorem dX3_begin_35 : decode cX3_begin 35 = .ok (.invokestatic 41, 3) := by decide +kernel
theorem dX3_begin_38 : decode cX3_begin 38 = .ok (.aload_n 0, 1) := by decide +kernel
theorem dX3_begin_39 : decode cX3_begin 39 = .ok (.getfield 28, 3) := by decide +kernel
theorem dX3_begin_42 : decode cX3_begin 42 = .ok (.iconst 0, 1) := by decide +kernel
theorem dX3_begin_43 : decode cX3_begin 43 = .ok (.invokestatic 41, 3) := by decide +kernel
theorem dX3_begin_46 : decode cX3_begin 46 = .ok (.aload_n 0, 1) := by decide +kernel
theorem dX3_begin_47 : decode cX3_begin 47 = .ok (.iconst 0, 1) := by decide +kernel
theorem dX3_begin_48 : decode cX3_begin 48 = .ok (.putfield 47, 3) := by decide +kernel
theorem dX3_begin_51 : decode cX3_begin 51 = .ok (.aload_n 0, 1) := by decide +kernel
theorem dX3_begin_52 : decode cX3_begin 52 = .ok (.iconst 0, 1) := by decide +kernel
theorem dX3_begin_53 : decode cX3_begin 53 = .ok (.putfield 51, 3) := by decide +kernel
theorem dX3_begin_56 : decode cX3_begin 56 = .ok (.aload_n 0, 1) := by decide +kernel
theorem dX3_begin_57 : decode cX3_begin 57 = .ok (.iconst 0, 1) := by decide +kernel
theorem dX3_begin_58 : decode cX3_begin 58 = .ok (.putfield 54, 3) := by decide +kernel
theorem dX3_begin_61 : decode cX3_begin 61 = .ok (.return_, 1) := by decide +kernel
theorem dX3_playNight_0 : decode cX3_playNight 0 = .ok (.aload_n 0, 1) := by decide +kernel
theorem dX3_playNight_1 : decode cX3_playNight 1 = .ok (.aload_n 1, 1) := by decide +kernel
theorem dX3_playNight_2 : decode cX3_playNight 2 = .ok (.invokevirtual 57, 3) := by decide +kernel
theorem dX3_playNight_5 : decode cX3_playNight 5 = .ok (.iconst 0, 1) := by decide +kernel
theorem dX3_playNight_6 : decode cX3_playNight 6 = .ok (.istore 4, 2) := by decide +kernel
theorem dX3_playNight_8 : decode cX3_playNight 8 = .ok (.iload 4, 2) := by decide +kernel
theorem dX3_playNight_10 : decode cX3_playNight 10 = .ok (.iload_n 3, 1) := by decide +kernel
theorem dX3_playNight_11 : decode cX3_playNight 11 = .ok (.if_icmp .ge 50, 3) := by decide +kernel
theorem dX3_playNight_14 : decode cX3_playNight 14 = .ok (.iload 4, 2) := by decide +kernel
theorem dX3_playNight_16 : decode cX3_playNight 16 = .ok (.aload_n 2, 1) := by decide +kernel
theorem dX3_playNight_17 : decode cX3_playNight 17 = .ok (.getfield 61, 3) := by decide +kernel
theorem dX3_playNight_20 : decode cX3_playNight 20 = .ok (.if_icmp .ge 41, 3) := by decide +kernel
theorem dX3_playNight_23 : decode cX3_playNight 23 = .ok (.aload_n 0, 1) := by decide +kernel
theorem dX3_playNight_24 : decode cX3_playNight 24 = .ok (.aload_n 1, 1) := by decide +kernel
theorem dX3_playNight_25 : decode cX3_playNight 25 = .ok (.aload_n 2, 1) := by decide +kernel
theorem dX3_playNight_26 : decode cX3_playNight 26 = .ok (.getfield 66, 3) := by decide +kernel
theorem dX3_playNight_29 : decode cX3_playNight 29 = .ok (.iload 4, 2) := by decide +kernel
theorem dX3_playNight_31 : decode cX3_playNight 31 = .ok (.iaload, 1) := by decide +kernel
theorem dX3_playNight_32 : decode cX3_playNight 32 = .ok (.aload_n 2, 1) := by decide +kernel
theorem dX3_playNight_33 : decode cX3_playNight 33 = .ok (.getfield 69, 3) := by decide +kernel
theorem dX3_playNight_36 : decode cX3_playNight 36 = .ok (.iload 4, 2) := by decide +kernel
theorem dX3_playNight_38 : decode cX3_playNight 38 = .ok (.iaload, 1) := by decide +kernel
theorem dX3_playNight_39 : decode cX3_playNight 39 = .ok (.aload_n 2, 1) := by decide +kernel
theorem dX3_playNight_40 : decode cX3_playNight 40 = .ok (.getfield 72, 3) := by decide +kernel
theorem dX3_playNight_43 : decode cX3_playNight 43 = .ok (.iload 4, 2) := by decide +kernel
theorem dX3_playNight_45 : decode cX3_playNight 45 = .ok (.iaload, 1) := by decide +kernel
theorem dX3_playNight_46 : decode cX3_playNight 46 = .ok (.invokevirtual 75, 3) := by decide +kernel
theorem dX3_playNight_49 : decode cX3_playNight 49 = .ok (.ifCond .ne 6, 3) := by decide +kernel
theorem dX3_playNight_52 : decode cX3_playNight 52 = .ok (.iload 4, 2) := by decide +kernel
theorem dX3_playNight_54 : decode cX3_playNight 54 = .ok (.ireturn, 1) := by decide +kernel
theorem dX3_playNight_55 : decode cX3_playNight 55 = .ok (.iinc 4 1, 3) := by decide +kernel
theorem dX3_playNight_58 : decode cX3_playNight 58 = .ok (.goto (-50), 3) := by decide +kernel
theorem dX3_playNight_61 : decode cX3_playNight 61 = .ok (.iload_n 3, 1) := by decide +kernel
theorem dX3_playNight_62 : decode cX3_playNight 62 = .ok (.ireturn, 1) := by decide +kernel
theorem dX3_playOneDrawn_0 : decode cX3_playOneDrawn 0 = .ok (.iload_n 2, 1) := by decide +kernel
theorem dX3_playOneDrawn_1 : decode cX3_playOneDrawn 1 = .ok (.invokestatic 79, 3) := by decide +kernel
theorem dX3_playOneDrawn_4 : decode cX3_playOneDrawn 4 = .ok (.istore_n 3, 1) := by decide +kernel
theorem dX3_playOneDrawn_5 : decode cX3_playOneDrawn 5 = .ok (.iload_n 3, 1) := by decide +kernel
theorem dX3_playOneDrawn_6 : decode cX3_playOneDrawn 6 = .ok (.bipush 8, 2) := by decide +kernel
theorem dX3_playOneDrawn_8 : decode cX3_playOneDrawn 8 = .ok (.invokestatic 83, 3) := by decide +kernel
theorem dX3_playOneDrawn_11 : decode cX3_playOneDrawn 11 = .ok (.istore 4, 2) := by decide +kernel
theorem dX3_playOneDrawn_13 : decode cX3_playOneDrawn 13 = .ok (.iload 4, 2) := by decide +kernel
theorem dX3_playOneDrawn_15 : decode cX3_playOneDrawn 15 = .ok (.iconst 3, 1) := by decide +kernel
theorem dX3_playOneDrawn_16 : decode cX3_playOneDrawn 16 = .ok (.if_icmp .le 10, 3) := by decide +kernel
theorem dX3_playOneDrawn_19 : decode cX3_playOneDrawn 19 = .ok (.iload 4, 2) := by decide +kernel
theorem dX3_playOneDrawn_21 : decode cX3_playOneDrawn 21 = .ok (.iconst 1, 1) := by decide +kernel
theorem dX3_playOneDrawn_22 : decode cX3_playOneDrawn 22 = .ok (.isub, 1) := by decide +kernel
theorem dX3_playOneDrawn_23 : decode cX3_playOneDrawn 23 = .ok (.goto 5, 3) := by decide +kernel
theorem dX3_playOneDrawn_26 : decode cX3_playOneDrawn 26 = .ok (.iload 4, 2) := by decide +kernel
theorem dX3_playOneDrawn_28 : decode cX3_playOneDrawn 28 = .ok (.istore 5, 2) := by decide +kernel
theorem dX3_playOneDrawn_30 : decode cX3_playOneDrawn 30 = .ok (.iload 5, 2) := by decide +kernel
theorem dX3_playOneDrawn_32 : decode cX3_playOneDrawn 32 = .ok (.bipush 6, 2) := by decide +kernel
theorem dX3_playOneDrawn_34 : decode cX3_playOneDrawn 34 = .ok (.if_icmp .ne 15, 3) := by decide +kernel
theorem dX3_playOneDrawn_37 : decode cX3_playOneDrawn 37 = .ok (.aload_n 0, 1) := by decide +kernel
theorem dX3_playOneDrawn_38 : decode cX3_playOneDrawn 38 = .ok (.aload_n 1, 1) := by decide +kernel
theorem dX3_playOneDrawn_39 : decode cX3_playOneDrawn 39 = .ok (.iload 5, 2) := by decide +kernel
theorem dX3_playOneDrawn_41 : decode cX3_playOneDrawn 41 = .ok (.iconst (-1), 1) := by decide +kernel
theorem dX3_playOneDrawn_42 : decode cX3_playOneDrawn 42 = .ok (.iconst (-1), 1) := by decide +kernel
theorem dX3_playOneDrawn_43 : decode cX3_playOneDrawn 43 = .ok (.invokevirtual 75, 3) := by decide +kernel
theorem dX3_playOneDrawn_46 : decode cX3_playOneDrawn 46 = .ok (.pop, 1) := by decide +kernel
theorem dX3_playOneDrawn_47 : decode cX3_playOneDrawn 47 = .ok (.iload_n 3, 1) := by decide +kernel
theorem dX3_playOneDrawn_48 : decode cX3_playOneDrawn 48 = .ok (.ireturn, 1) := by decide +kernel
theorem dX3_playOneDrawn_49 : decode cX3_playOneDrawn 49 = .ok (.iload 5, 2) := by decide +kernel
theorem dX3_playOneDrawn_51 : decode cX3_playOneDrawn 51 = .ok (.iconst 4, 1) := by decide +kernel
theorem dX3_playOneDrawn_52 : decode cX3_playOneDrawn 52 = .ok (.if_icmp .ne 10, 3) := by decide +kernel
theorem dX3_playOneDrawn_55 : decode cX3_playOneDrawn 55 = .ok (.aload_n 1, 1) := by decide +kernel
theorem dX3_playOneDrawn_56 : decode cX3_playOneDrawn 56 = .ok (.getfield 87, 3) := by decide +kernel
theorem dX3_playOneDrawn_59 : decode cX3_playOneDrawn 59 = .ok (.goto 7, 3) := by decide +kernel
theorem dX3_playOneDrawn_62 : decode cX3_playOneDrawn 62 = .ok (.aload_n 1, 1) := by decide +kernel
theorem dX3_playOneDrawn_63 : decode cX3_playOneDrawn 63 = .ok (.getfield 90, 3) := by decide +kernel
theorem dX3_playOneDrawn_66 : decode cX3_playOneDrawn 66 = .ok (.istore 6, 2) := by decide +kernel
theorem dX3_playOneDrawn_68 : decode cX3_playOneDrawn 68 = .ok (.iload 6, 2) := by decide +kernel
theorem dX3_playOneDrawn_70 : decode cX3_playOneDrawn 70 = .ok (.ifCond .ne 5, 3) := by decide +kernel
theorem dX3_playOneDrawn_73 : decode cX3_playOneDrawn 73 = .ok (.iload_n 3, 1) := by decide +kernel
theorem dX3_playOneDrawn_74 : decode cX3_playOneDrawn 74 = .ok (.ireturn, 1) := by decide +kernel
theorem dX3_playOneDrawn_75 : decode cX3_playOneDrawn 75 = .ok (.iload_n 3, 1) := by decide +kernel
theorem dX3_playOneDrawn_76 : decode cX3_playOneDrawn 76 = .ok (.invokestatic 79, 3) := by decide +kernel
theorem dX3_playOneDrawn_79 : decode cX3_playOneDrawn 79 = .ok (.istore_n 3, 1) := by decide +kernel
theorem dX3_playOneDrawn_80 : decode cX3_playOneDrawn 80 = .ok (.iload_n 3, 1) := by decide +kernel
theorem dX3_playOneDrawn_81 : decode cX3_playOneDrawn 81 = .ok (.iload 6, 2) := by decide +kernel
theorem dX3_playOneDrawn_83 : decode cX3_playOneDrawn 83 = .ok (.invokestatic 83, 3) := by decide +kernel
theorem dX3_playOneDrawn_86 : decode cX3_playOneDrawn 86 = .ok (.istore 7, 2) := by decide +kernel
theorem dX3_playOneDrawn_88 : decode cX3_playOneDrawn 88 = .ok (.iconst (-1), 1) := by decide +kernel
theorem dX3_playOneDrawn_89 : decode cX3_playOneDrawn 89 = .ok (.istore 8, 2) := by decide +kernel
theorem dX3_playOneDrawn_91 : decode cX3_playOneDrawn 91 = .ok (.iload 5, 2) := by decide +kernel
theorem dX3_playOneDrawn_93 : decode cX3_playOneDrawn 93 = .ok (.iconst 3, 1) := by decide +kernel
theorem dX3_playOneDrawn_94 : decode cX3_playOneDrawn 94 = .ok (.if_icmp .lt 15, 3) := by decide +kernel
theorem dX3_playOneDrawn_97 : decode cX3_playOneDrawn 97 = .ok (.iload_n 3, 1) := by decide +kernel
theorem dX3_playOneDrawn_98 : decode cX3_playOneDrawn 98 = .ok (.invokestatic 79, 3) := by decide +kernel
theorem dX3_playOneDrawn_101 : decode cX3_playOneDrawn 101 = .ok (.istore_n 3, 1) := by decide +kernel
theorem dX3_playOneDrawn_102 : decode cX3_playOneDrawn 102 = .ok (.iload_n 3, 1) := by decide +kernel
theorem dX3_playOneDrawn_103 : decode cX3_playOneDrawn 103 = .ok (.iconst 4, 1) := by decide +kernel
theorem dX3_playOneDrawn_104 : decode cX3_playOneDrawn 104 = .ok (.invokestatic 83, 3) := by decide +kernel
theorem dX3_playOneDrawn_107 : decode cX3_playOneDrawn 107 = .ok (.istore 8, 2) := by decide +kernel
theorem dX3_playOneDrawn_109 : decode cX3_playOneDrawn 109 = .ok (.aload_n 0, 1) := by decide +kernel
theorem dX3_playOneDrawn_110 : decode cX3_playOneDrawn 110 = .ok (.aload_n 1, 1) := by decide +kernel
theorem dX3_playOneDrawn_111 : decode cX3_playOneDrawn 111 = .ok (.iload 5, 2) := by decide +kernel
theorem dX3_playOneDrawn_113 : decode cX3_playOneDrawn 113 = .ok (.iload 7, 2) := by decide +kernel
theorem dX3_playOneDrawn_115 : decode cX3_playOneDrawn 115 = .ok (.iload 8, 2) := by decide +kernel
theorem dX3_playOneDrawn_117 : decode cX3_playOneDrawn 117 = .ok (.invokevirtual 75, 3) := by decide +kernel
theorem dX3_playOneDrawn_120 : decode cX3_playOneDrawn 120 = .ok (.pop, 1) := by decide +kernel
theorem dX3_playOneDrawn_121 : decode cX3_playOneDrawn 121 = .ok (.iload_n 3, 1) := by decide +kernel
theorem dX3_playOneDrawn_122 : decode cX3_playOneDrawn 122 = .ok (.ireturn, 1) := by decide +kernel
theorem dX3_nextSeed_0 : decode cX3_nextSeed 0 = .ok (.iload_n 0, 1) := by decide +kernel
theorem dX3_nextSeed_1 : decode cX3_nextSeed 1 = .ok (.ldc 93, 2) := by decide +kernel
theorem dX3_nextSeed_3 : decode cX3_nextSeed 3 = .ok (.imul, 1) := by decide +kernel
theorem dX3_nextSeed_4 : decode cX3_nextSeed 4 = .ok (.sipush 12345, 3) := by decide +kernel
theorem dX3_nextSeed_7 : decode cX3_nextSeed 7 = .ok (.iadd, 1) := by decide +kernel
theorem dX3_nextSeed_8 : decode cX3_nextSeed 8 = .ok (.ireturn, 1) := by decide +kernel
theorem dX3_drawnBelow_0 : decode cX3_drawnBelow 0 = .ok (.iload_n 1, 1) := by decide +kernel
theorem dX3_drawnBelow_1 : decode cX3_drawnBelow 1 = .ok (.iconst 1, 1) := by decide +kernel
theorem dX3_drawnBelow_2 : decode cX3_drawnBelow 2 = .ok (.if_icmp .ge 7, 3) := by decide +kernel
theorem dX3_drawnBelow_5 : decode cX3_drawnBelow 5 = .ok (.iconst 0, 1) := by decide +kernel
theorem dX3_drawnBelow_6 : decode cX3_drawnBelow 6 = .ok (.goto 9, 3) := by decide +kernel
theorem dX3_drawnBelow_9 : decode cX3_drawnBelow 9 = .ok (.iload_n 0, 1) := by decide +kernel
theorem dX3_drawnBelow_10 : decode cX3_drawnBelow 10 = .ok (.bipush 16, 2) := by decide +kernel
theorem dX3_drawnBelow_12 : decode cX3_drawnBelow 12 = .ok (.iushr, 1) := by decide +kernel
theorem dX3_drawnBelow_13 : decode cX3_drawnBelow 13 = .ok (.iload_n 1, 1) := by decide +kernel
theorem dX3_drawnBelow_14 : decode cX3_drawnBelow 14 = .ok (.irem, 1) := by decide +kernel
theorem dX3_drawnBelow_15 : decode cX3_drawnBelow 15 = .ok (.ireturn, 1) := by decide +kernel
theorem dX3_act_0 : decode cX3_act 0 = .ok (.iload_n 2, 1) := by decide +kernel
theorem dX3_act_1 : decode cX3_act 1 = .ok (.tableswitch 107 4 6 #[37, 76, 27], 27) := by decide +kernel
theorem dX3_act_28 : decode cX3_act 28 = .ok (.aload_n 0, 1) := by decide +kernel
theorem dX3_act_29 : decode cX3_act 29 = .ok (.getfield 25, 3) := by decide +kernel
theorem dX3_act_32 : decode cX3_act 32 = .ok (.iconst (-1), 1) := by decide +kernel
theorem dX3_act_33 : decode cX3_act 33 = .ok (.invokestatic 41, 3) := by decide +kernel
theorem dX3_act_36 : decode cX3_act 36 = .ok (.iconst 1, 1) := by decide +kernel
theorem dX3_act_37 : decode cX3_act 37 = .ok (.ireturn, 1) := by decide +kernel
theorem dX3_act_38 : decode cX3_act 38 = .ok (.aload_n 1, 1) := by decide +kernel
theorem dX3_act_39 : decode cX3_act 39 = .ok (.iload_n 3, 1) := by decide +kernel
theorem dX3_act_40 : decode cX3_act 40 = .ok (.invokevirtual 94, 3) := by decide +kernel
theorem dX3_act_43 : decode cX3_act 43 = .ok (.ifCond .eq 32, 3) := by decide +kernel
theorem dX3_act_46 : decode cX3_act 46 = .ok (.aload_n 0, 1) := by decide +kernel
theorem dX3_act_47 : decode cX3_act 47 = .ok (.iload_n 3, 1) := by decide +kernel
theorem dX3_act_48 : decode cX3_act 48 = .ok (.invokevirtual 98, 3) := by decide +kernel
theorem dX3_act_51 : decode cX3_act 51 = .ok (.ifCond .eq 24, 3) := by decide +kernel
theorem dX3_act_54 : decode cX3_act 54 = .ok (.aload_n 0, 1) := by decide +kernel
theorem dX3_act_55 : decode cX3_act 55 = .ok (.getfield 22, 3) := by decide +kernel
theorem dX3_act_58 : decode cX3_act 58 = .ok (.iload_n 3, 1) := by decide +kernel
theorem dX3_act_59 : decode cX3_act 59 = .ok (.iload 4, 2) := by decide +kernel
theorem dX3_act_61 : decode cX3_act 61 = .ok (.aload_n 1, 1) := by decide +kernel
theorem dX3_act_62 : decode cX3_act 62 = .ok (.invokevirtual 101, 3) := by decide +kernel
theorem dX3_act_65 : decode cX3_act 65 = .ok (.invokestatic 105, 3) := by decide +kernel
theorem dX3_act_68 : decode cX3_act 68 = .ok (.ifCond .eq 7, 3) := by decide +kernel
theorem dX3_act_71 : decode cX3_act 71 = .ok (.iconst 1, 1) := by decide +kernel
theorem dX3_act_72 : decode cX3_act 72 = .ok (.goto 4, 3) := by decide +kernel
theorem dX3_act_75 : decode cX3_act 75 = .ok (.iconst 0, 1) := by decide +kernel
theorem dX3_act_76 : decode cX3_act 76 = .ok (.ireturn, 1) := by decide +kernel
theorem dX3_act_77 : decode cX3_act 77 = .ok (.aload_n 1, 1) := by decide +kernel
theorem dX3_act_78 : decode cX3_act 78 = .ok (.iload_n 3, 1) := by decide +kernel
theorem dX3_act_79 : decode cX3_act 79 = .ok (.invokevirtual 109, 3) := by decide +kernel
theorem dX3_act_82 : decode cX3_act 82 = .ok (.ifCond .eq 24, 3) := by decide +kernel
theorem dX3_act_85 : decode cX3_act 85 = .ok (.aload_n 0, 1) := by decide +kernel
theorem dX3_act_86 : decode cX3_act 86 = .ok (.getfield 18, 3) := by decide +kernel
theorem dX3_act_89 : decode cX3_act 89 = .ok (.iload_n 3, 1) := by decide +kernel
theorem dX3_act_90 : decode cX3_act 90 = .ok (.iload 4, 2) := by decide +kernel
theorem dX3_act_92 : decode cX3_act 92 = .ok (.aload_n 1, 1) := by decide +kernel
theorem dX3_act_93 : decode cX3_act 93 = .ok (.invokevirtual 101, 3) := by decide +kernel
theorem dX3_act_96 : decode cX3_act 96 = .ok (.invokestatic 105, 3) := by decide +kernel
theorem dX3_act_99 : decode cX3_act 99 = .ok (.ifCond .eq 7, 3) := by decide +kernel
theorem dX3_act_102 : decode cX3_act 102 = .ok (.iconst 1, 1) := by decide +kernel
theorem dX3_act_103 : decode cX3_act 103 = .ok (.goto 4, 3) := by decide +kernel
theorem dX3_act_106 : decode cX3_act 106 = .ok (.iconst 0, 1) := by decide +kernel
theorem dX3_act_107 : decode cX3_act 107 = .ok (.ireturn, 1) := by decide +kernel
theorem dX3_act_108 : decode cX3_act 108 = .ok (.aload_n 1, 1) := by decide +kernel
theorem dX3_act_109 : decode cX3_act 109 = .ok (.iload_n 3, 1) := by decide +kernel
theorem dX3_act_110 : decode cX3_act 110 = .ok (.invokevirtual 109, 3) := by decide +kernel
theorem dX3_act_113 : decode cX3_act 113 = .ok (.ifCond .ne 5, 3) := by decide +kernel
theorem dX3_act_116 : decode cX3_act 116 = .ok (.iconst 0, 1) := by decide +kernel
theorem dX3_act_117 : decode cX3_act 117 = .ok (.ireturn, 1) := by decide +kernel
theorem dX3_act_118 : decode cX3_act 118 = .ok (.aload_n 0, 1) := by decide +kernel
theorem dX3_act_119 : decode cX3_act 119 = .ok (.aload_n 1, 1) := by decide +kernel
theorem dX3_act_120 : decode cX3_act 120 = .ok (.iload_n 2, 1) := by decide +kernel
theorem dX3_act_121 : decode cX3_act 121 = .ok (.iload_n 3, 1) := by decide +kernel
theorem dX3_act_122 : decode cX3_act 122 = .ok (.iload 4, 2) := by decide +kernel
theorem dX3_act_124 : decode cX3_act 124 = .ok (.invokevirtual 112, 3) := by decide +kernel
theorem dX3_act_127 : decode cX3_act 127 = .ok (.iconst 1, 1) := by decide +kernel
theorem dX3_act_128 : decode cX3_act 128 = .ok (.ireturn, 1) := by decide +kernel
theorem dX3_isFree_0 : decode cX3_isFree 0 = .ok (.aload_n 0, 1) := by decide +kernel
theorem dX3_isFree_1 : decode cX3_isFree 1 = .ok (.getfield 47, 3) := by decide +kernel
theorem dX3_isFree_4 : decode cX3_isFree 4 = .ok (.iload_n 1, 1) := by decide +kernel
theorem dX3_isFree_5 : decode cX3_isFree 5 = .ok (.ishr, 1) := by decide +kernel
theorem dX3_isFree_6 : decode cX3_isFree 6 = .ok (.iconst 1, 1) := by decide +kernel
theorem dX3_isFree_7 : decode cX3_isFree 7 = .ok (.iand, 1) := by decide +kernel
theorem dX3_isFree_8 : decode cX3_isFree 8 = .ok (.ifCond .ne 7, 3) := by decide +kernel
theorem dX3_isFree_11 : decode cX3_isFree 11 = .ok (.iconst 1, 1) := by decide +kernel
theorem dX3_isFree_12 : decode cX3_isFree 12 = .ok (.goto 4, 3) := by decide +kernel
theorem dX3_isFree_15 : decode cX3_isFree 15 = .ok (.iconst 0, 1) := by decide +kernel
theorem dX3_isFree_16 : decode cX3_isFree 16 = .ok (.ireturn, 1) := by decide +kernel
theorem dX3_moveOn_0 : decode cX3_moveOn 0 = .ok (.aload_n 0, 1) := by decide +kernel
theorem dX3_moveOn_1 : decode cX3_moveOn 1 = .ok (.iload_n 1, 1) := by decide +kernel
theorem dX3_moveOn_2 : decode cX3_moveOn 2 = .ok (.iaload, 1) := by decide +kernel
theorem dX3_moveOn_3 : decode cX3_moveOn 3 = .ok (.iload_n 2, 1) := by decide +kernel
theorem dX3_moveOn_4 : decode cX3_moveOn 4 = .ok (.lload_n 3, 1) := by decide +kernel
theorem dX3_moveOn_5 : decode cX3_moveOn 5 = .ok (.invokestatic 116, 3) := by decide +kernel
theorem dX3_moveOn_8 : decode cX3_moveOn 8 = .ok (.istore 5, 2) := by decide +kernel
theorem dX3_moveOn_10 : decode cX3_moveOn 10 = .ok (.iload 5, 2) := by decide +kernel
theorem dX3_moveOn_12 : decode cX3_moveOn 12 = .ok (.iconst (-1), 1) := by decide +kernel
theorem dX3_moveOn_13 : decode cX3_moveOn 13 = .ok (.if_icmp .ne 5, 3) := by decide +kernel
theorem dX3_moveOn_16 : decode cX3_moveOn 16 = .ok (.iconst 0, 1) := by decide +kernel
theorem dX3_moveOn_17 : decode cX3_moveOn 17 = .ok (.ireturn, 1) := by decide +kernel
theorem dX3_moveOn_18 : decode cX3_moveOn 18 = .ok (.aload_n 0, 1) := by decide +kernel
theorem dX3_moveOn_19 : decode cX3_moveOn 19 = .ok (.iload_n 1, 1) := by decide +kernel
theorem dX3_moveOn_20 : decode cX3_moveOn 20 = .ok (.iload 5, 2) := by decide +kernel
theorem dX3_moveOn_22 : decode cX3_moveOn 22 = .ok (.iastore, 1) := by decide +kernel
theorem dX3_moveOn_23 : decode cX3_moveOn 23 = .ok (.iconst 1, 1) := by decide +kernel
theorem dX3_moveOn_24 : decode cX3_moveOn 24 = .ok (.ireturn, 1) := by decide +kernel
theorem dX3_playCommand_0 : decode cX3_playCommand 0 = .ok (.aload_n 0, 1) := by decide +kernel
theorem dX3_playCommand_1 : decode cX3_playCommand 1 = .ok (.getfield 12, 3) := by decide +kernel
theorem dX3_playCommand_4 : decode cX3_playCommand 4 = .ok (.aload_n 1, 1) := by decide +kernel
theorem dX3_playCommand_5 : decode cX3_playCommand 5 = .ok (.aload_n 0, 1) := by decide +kernel
theorem dX3_playCommand_6 : decode cX3_playCommand 6 = .ok (.getfield 18, 3) := by decide +kernel
theorem dX3_playCommand_9 : decode cX3_playCommand 9 = .ok (.iload_n 3, 1) := by decide +kernel
theorem dX3_playCommand_10 : decode cX3_playCommand 10 = .ok (.iaload, 1) := by decide +kernel
theorem dX3_playCommand_11 : decode cX3_playCommand 11 = .ok (.aload_n 1, 1) := by decide +kernel
theorem dX3_playCommand_12 : decode cX3_playCommand 12 = .ok (.iload_n 3, 1) := by decide +kernel
theorem dX3_playCommand_13 : decode cX3_playCommand 13 = .ok (.invokevirtual 120, 3) := by decide +kernel
theorem dX3_playCommand_16 : decode cX3_playCommand 16 = .ok (.invokevirtual 123, 3) := by decide +kernel
theorem dX3_playCommand_19 : decode cX3_playCommand 19 = .ok (.lstore 5, 2) := by decide +kernel
theorem dX3_playCommand_21 : decode cX3_playCommand 21 = .ok (.aload_n 1, 1) := by decide +kernel
theorem dX3_playCommand_22 : decode cX3_playCommand 22 = .ok (.invokevirtual 101, 3) := by decide +kernel
theorem dX3_playCommand_25 : decode cX3_playCommand 25 = .ok (.lstore 7, 2) := by decide +kernel
theorem dX3_playCommand_27 : decode cX3_playCommand 27 = .ok (.iconst 0, 1) := by decide +kernel
theorem dX3_playCommand_28 : decode cX3_playCommand 28 = .ok (.istore 9, 2) := by decide +kernel
theorem dX3_playCommand_30 : decode cX3_playCommand 30 = .ok (.iload 9, 2) := by decide +kernel
theorem dX3_playCommand_32 : decode cX3_playCommand 32 = .ok (.aload_n 1, 1) := by decide +kernel
theorem dX3_playCommand_33 : decode cX3_playCommand 33 = .ok (.getfield 87, 3) := by decide +kernel
theorem dX3_playCommand_36 : decode cX3_playCommand 36 = .ok (.if_icmp .ge 129, 3) := by decide +kernel
theorem dX3_playCommand_39 : decode cX3_playCommand 39 = .ok (.aload_n 1, 1) := by decide +kernel
theorem dX3_playCommand_40 : decode cX3_playCommand 40 = .ok (.getfield 127, 3) := by decide +kernel
theorem dX3_playCommand_43 : decode cX3_playCommand 43 = .ok (.iload 9, 2) := by decide +kernel
theorem dX3_playCommand_45 : decode cX3_playCommand 45 = .ok (.iaload, 1) := by decide +kernel
theorem dX3_playCommand_46 : decode cX3_playCommand 46 = .ok (.iconst 3, 1) := by decide +kernel
theorem dX3_playCommand_47 : decode cX3_playCommand 47 = .ok (.if_icmp .eq 112, 3) := by decide +kernel
theorem dX3_playCommand_50 : decode cX3_playCommand 50 = .ok (.lload 5, 2) := by decide +kernel
theorem dX3_playCommand_52 : decode cX3_playCommand 52 = .ok (.aload_n 0, 1) := by decide +kernel
theorem dX3_playCommand_53 : decode cX3_playCommand 53 = .ok (.getfield 22, 3) := by decide +kernel
theorem dX3_playCommand_56 : decode cX3_playCommand 56 = .ok (.iload 9, 2) := by decide +kernel
theorem dX3_playCommand_58 : decode cX3_playCommand 58 = .ok (.iaload, 1) := by decide +kernel
theorem dX3_playCommand_59 : decode cX3_playCommand 59 = .ok (.invokestatic 128, 3) := by decide +kernel
theorem dX3_playCommand_62 : decode cX3_playCommand 62 = .ok (.ifCond .ne 6, 3) := by decide +kernel
theorem dX3_playCommand_65 : decode cX3_playCommand 65 = .ok (.goto 94, 3) := by decide +kernel
theorem dX3_playCommand_68 : decode cX3_playCommand 68 = .ok (.aload_n 0, 1) := by decide +kernel
theorem dX3_playCommand_69 : decode cX3_playCommand 69 = .ok (.getfield 25, 3) := by decide +kernel
theorem dX3_playCommand_72 : decode cX3_playCommand 72 = .ok (.iload 9, 2) := by decide +kernel
theorem dX3_playCommand_74 : decode cX3_playCommand 74 = .ok (.iaload, 1) := by decide +kernel
theorem dX3_playCommand_75 : decode cX3_playCommand 75 = .ok (.iload_n 2, 1) := by decide +kernel
theorem dX3_playCommand_76 : decode cX3_playCommand 76 = .ok (.if_icmp .eq 7, 3) := by decide +kernel
theorem dX3_playCommand_79 : decode cX3_playCommand 79 = .ok (.iconst 1, 1) := by decide +kernel
theorem dX3_playCommand_80 : decode cX3_playCommand 80 = .ok (.goto 4, 3) := by decide +kernel
theorem dX3_playCommand_83 : decode cX3_playCommand 83 = .ok (.iconst 0, 1) := by decide +kernel
theorem dX3_playCommand_84 : decode cX3_playCommand 84 = .ok (.istore 10, 2) := by decide +kernel
theorem dX3_playCommand_86 : decode cX3_playCommand 86 = .ok (.aload_n 1, 1) := by decide +kernel
theorem dX3_playCommand_87 : decode cX3_playCommand 87 = .ok (.getfield 127, 3) := by decide +kernel
theorem dX3_playCommand_90 : decode cX3_playCommand 90 = .ok (.iload 9, 2) := by decide +kernel
theorem dX3_playCommand_92 : decode cX3_playCommand 92 = .ok (.iaload, 1) := by decide +kernel
theorem dX3_playCommand_93 : decode cX3_playCommand 93 = .ok (.iconst 2, 1) := by decide +kernel
theorem dX3_playCommand_94 : decode cX3_playCommand 94 = .ok (.if_icmp .ne 11, 3) := by decide +kernel
theorem dX3_playCommand_97 : decode cX3_playCommand 97 = .ok (.iload_n 2, 1) := by decide +kernel
theorem dX3_playCommand_98 : decode cX3_playCommand 98 = .ok (.ifCond .ne 7, 3) := by decide +kernel
theorem dX3_playCommand_101 : decode cX3_playCommand 101 = .ok (.iconst 1, 1) := by decide +kernel
theorem dX3_playCommand_102 : decode cX3_playCommand 102 = .ok (.goto 4, 3) := by decide +kernel
theorem dX3_playCommand_105 : decode cX3_playCommand 105 = .ok (.iconst 0, 1) := by decide +kernel
theorem dX3_playCommand_106 : decode cX3_playCommand 106 = .ok (.istore 11, 2) := by decide +kernel
theorem dX3_playCommand_108 : decode cX3_playCommand 108 = .ok (.aload_n 0, 1) := by decide +kernel
theorem dX3_playCommand_109 : decode cX3_playCommand 109 = .ok (.getfield 25, 3) := by decide +kernel
theorem dX3_playCommand_112 : decode cX3_playCommand 112 = .ok (.iload 9, 2) := by decide +kernel
theorem dX3_playCommand_114 : decode cX3_playCommand 114 = .ok (.iload_n 2, 1) := by decide +kernel
theorem dX3_playCommand_115 : decode cX3_playCommand 115 = .ok (.iastore, 1) := by decide +kernel
theorem dX3_playCommand_116 : decode cX3_playCommand 116 = .ok (.aload_n 0, 1) := by decide +kernel
theorem dX3_playCommand_117 : decode cX3_playCommand 117 = .ok (.getfield 28, 3) := by decide +kernel
theorem dX3_playCommand_120 : decode cX3_playCommand 120 = .ok (.iload 9, 2) := by decide +kernel
theorem dX3_playCommand_122 : decode cX3_playCommand 122 = .ok (.dup2, 1) := by decide +kernel
theorem dX3_playCommand_123 : decode cX3_playCommand 123 = .ok (.iaload, 1) := by decide +kernel
theorem dX3_playCommand_124 : decode cX3_playCommand 124 = .ok (.iconst 1, 1) := by decide +kernel
theorem dX3_playCommand_125 : decode cX3_playCommand 125 = .ok (.iadd, 1) := by decide +kernel
theorem dX3_playCommand_126 : decode cX3_playCommand 126 = .ok (.iastore, 1) := by decide +kernel
theorem dX3_playCommand_127 : decode cX3_playCommand 127 = .ok (.iload 10, 2) := by decide +kernel
theorem dX3_playCommand_129 : decode cX3_playCommand 129 = .ok (.ifCond .eq 30, 3) := by decide +kernel
theorem dX3_playCommand_132 : decode cX3_playCommand 132 = .ok (.iload 11, 2) := by decide +kernel
theorem dX3_playCommand_134 : decode cX3_playCommand 134 = .ok (.ifCond .ne 25, 3) := by decide +kernel
theorem dX3_playCommand_137 : decode cX3_playCommand 137 = .ok (.aload_n 0, 1) := by decide +kernel
theorem dX3_playCommand_138 : decode cX3_playCommand 138 = .ok (.dup, 1) := by decide +kernel
theorem dX3_playCommand_139 : decode cX3_playCommand 139 = .ok (.getfield 54, 3) := by decide +kernel
theorem dX3_playCommand_142 : decode cX3_playCommand 142 = .ok (.iconst 1, 1) := by decide +kernel
theorem dX3_playCommand_143 : decode cX3_playCommand 143 = .ok (.iadd, 1) := by decide +kernel
theorem dX3_playCommand_144 : decode cX3_playCommand 144 = .ok (.putfield 54, 3) := by decide +kernel
theorem dX3_playCommand_147 : decode cX3_playCommand 147 = .ok (.aload_n 0, 1) := by decide +kernel
theorem dX3_playCommand_148 : decode cX3_playCommand 148 = .ok (.aload_n 1, 1) := by decide +kernel
theorem dX3_playCommand_149 : decode cX3_playCommand 149 = .ok (.iload 9, 2) := by decide +kernel
theorem dX3_playCommand_151 : decode cX3_playCommand 151 = .ok (.iload_n 2, 1) := by decide +kernel
theorem dX3_playCommand_152 : decode cX3_playCommand 152 = .ok (.iload 4, 2) := by decide +kernel
theorem dX3_playCommand_154 : decode cX3_playCommand 154 = .ok (.lload 7, 2) := by decide +kernel
theorem dX3_playCommand_156 : decode cX3_playCommand 156 = .ok (.invokevirtual 132, 3) := by decide +kernel
theorem dX3_playCommand_159 : decode cX3_playCommand 159 = .ok (.iinc 9 1, 3) := by decide +kernel
theorem dX3_playCommand_162 : decode cX3_playCommand 162 = .ok (.goto (-132), 3) := by decide +kernel
theorem dX3_playCommand_165 : decode cX3_playCommand 165 = .ok (.return_, 1) := by decide +kernel
theorem dX3_obey_0 : decode cX3_obey 0 = .ok (.iload_n 3, 1) := by decide +kernel
theorem dX3_obey_1 : decode cX3_obey 1 = .ok (.tableswitch 84 0 2 #[27, 42, 59], 27) := by decide +kernel
theorem dX3_obey_28 : decode cX3_obey 28 = .ok (.aload_n 0, 1) := by decide +kernel
theorem dX3_obey_29 : decode cX3_obey 29 = .ok (.dup, 1) := by decide +kernel
theorem dX3_obey_30 : decode cX3_obey 30 = .ok (.getfield 47, 3) := by decide +kernel
theorem dX3_obey_33 : decode cX3_obey 33 = .ok (.iconst 1, 1) := by decide +kernel
theorem dX3_obey_34 : decode cX3_obey 34 = .ok (.iload_n 2, 1) := by decide +kernel
theorem dX3_obey_35 : decode cX3_obey 35 = .ok (.ishl, 1) := by decide +kernel
theorem dX3_obey_36 : decode cX3_obey 36 = .ok (.ior, 1) := by decide +kernel
theorem dX3_obey_37 : decode cX3_obey 37 = .ok (.putfield 47, 3) := by decide +kernel
theorem dX3_obey_40 : decode cX3_obey 40 = .ok (.goto 82, 3) := by decide +kernel
theorem dX3_obey_43 : decode cX3_obey 43 = .ok (.aload_n 0, 1) := by decide +kernel
theorem dX3_obey_44 : decode cX3_obey 44 = .ok (.dup, 1) := by decide +kernel
theorem dX3_obey_45 : decode cX3_obey 45 = .ok (.getfield 47, 3) := by decide +kernel
theorem dX3_obey_48 : decode cX3_obey 48 = .ok (.iconst 1, 1) := by decide +kernel
theorem dX3_obey_49 : decode cX3_obey 49 = .ok (.iload_n 2, 1) := by decide +kernel
theorem dX3_obey_50 : decode cX3_obey 50 = .ok (.ishl, 1) := by decide +kernel
theorem dX3_obey_51 : decode cX3_obey 51 = .ok (.iconst (-1), 1) := by decide +kernel
theorem dX3_obey_52 : decode cX3_obey 52 = .ok (.ixor, 1) := by decide +kernel
theorem dX3_obey_53 : decode cX3_obey 53 = .ok (.iand, 1) := by decide +kernel
theorem dX3_obey_54 : decode cX3_obey 54 = .ok (.putfield 47, 3) := by decide +kernel
theorem dX3_obey_57 : decode cX3_obey 57 = .ok (.goto 65, 3) := by decide +kernel
theorem dX3_obey_60 : decode cX3_obey 60 = .ok (.aload_n 1, 1) := by decide +kernel
theorem dX3_obey_61 : decode cX3_obey 61 = .ok (.getfield 127, 3) := by decide +kernel
theorem dX3_obey_64 : decode cX3_obey 64 = .ok (.iload_n 2, 1) := by decide +kernel
theorem dX3_obey_65 : decode cX3_obey 65 = .ok (.iaload, 1) := by decide +kernel
theorem dX3_obey_66 : decode cX3_obey 66 = .ok (.iconst 1, 1) := by decide +kernel
theorem dX3_obey_67 : decode cX3_obey 67 = .ok (.if_icmp .ne 55, 3) := by decide +kernel
theorem dX3_obey_70 : decode cX3_obey 70 = .ok (.aload_n 0, 1) := by decide +kernel
theorem dX3_obey_71 : decode cX3_obey 71 = .ok (.dup, 1) := by decide +kernel
theorem dX3_obey_72 : decode cX3_obey 72 = .ok (.getfield 51, 3) := by decide +kernel
theorem dX3_obey_75 : decode cX3_obey 75 = .ok (.iconst 1, 1) := by decide +kernel
theorem dX3_obey_76 : decode cX3_obey 76 = .ok (.iload_n 2, 1) := by decide +kernel
theorem dX3_obey_77 : decode cX3_obey 77 = .ok (.ishl, 1) := by decide +kernel
theorem dX3_obey_78 : decode cX3_obey 78 = .ok (.ior, 1) := by decide +kernel
theorem dX3_obey_79 : decode cX3_obey 79 = .ok (.putfield 51, 3) := by decide +kernel
theorem dX3_obey_82 : decode cX3_obey 82 = .ok (.goto 40, 3) := by decide +kernel
theorem dX3_obey_85 : decode cX3_obey 85 = .ok (.aload_n 0, 1) := by decide +kernel
theorem dX3_obey_86 : decode cX3_obey 86 = .ok (.getfield 22, 3) := by decide +kernel
theorem dX3_obey_89 : decode cX3_obey 89 = .ok (.iload_n 2, 1) := by decide +kernel
theorem dX3_obey_90 : decode cX3_obey 90 = .ok (.iaload, 1) := by decide +kernel
theorem dX3_obey_91 : decode cX3_obey 91 = .ok (.iload 4, 2) := by decide +kernel
theorem dX3_obey_93 : decode cX3_obey 93 = .ok (.lload 5, 2) := by decide +kernel
theorem dX3_obey_95 : decode cX3_obey 95 = .ok (.invokestatic 116, 3) := by decide +kernel
theorem dX3_obey_98 : decode cX3_obey 98 = .ok (.istore 7, 2) := by decide +kernel
theorem dX3_obey_100 : decode cX3_obey 100 = .ok (.aload_n 0, 1) := by decide +kernel
theorem dX3_obey_101 : decode cX3_obey 101 = .ok (.iload_n 2, 1) := by decide +kernel
theorem dX3_obey_102 : decode cX3_obey 102 = .ok (.invokevirtual 98, 3) := by decide +kernel
theorem dX3_obey_105 : decode cX3_obey 105 = .ok (.ifCond .eq 17, 3) := by decide +kernel
theorem dX3_obey_108 : decode cX3_obey 108 = .ok (.iload 7, 2) := by decide +kernel
theorem dX3_obey_110 : decode cX3_obey 110 = .ok (.iconst (-1), 1) := by decide +kernel
theorem dX3_obey_111 : decode cX3_obey 111 = .ok (.if_icmp .eq 11, 3) := by decide +kernel
theorem dX3_obey_114 : decode cX3_obey 114 = .ok (.aload_n 0, 1) := by decide +kernel
theorem dX3_obey_115 : decode cX3_obey 115 = .ok (.getfield 22, 3) := by decide +kernel
theorem dX3_obey_118 : decode cX3_obey 118 = .ok (.iload_n 2, 1) := by decide +kernel
theorem dX3_obey_119 : decode cX3_obey 119 = .ok (.iload 7, 2) := by decide +kernel
theorem dX3_obey_121 : decode cX3_obey 121 = .ok (.iastore, 1) := by decide +kernel
theorem dX3_obey_122 : decode cX3_obey 122 = .ok (.return_, 1) := by decide +kernel
theorem dX3_tell_0 : decode cX3_tell 0 = .ok (.iload_n 2, 1) := by decide +kernel
theorem dX3_tell_1 : decode cX3_tell 1 = .ok (.tableswitch 42 0 2 #[27, 32, 37], 27) := by decide +kernel
theorem dX3_tell_28 : decode cX3_tell 28 = .ok (.aload_n 0, 1) := by decide +kernel
theorem dX3_tell_29 : decode cX3_tell 29 = .ok (.getfield 47, 3) := by decide +kernel
theorem dX3_tell_32 : decode cX3_tell 32 = .ok (.ireturn, 1) := by decide +kernel
theorem dX3_tell_33 : decode cX3_tell 33 = .ok (.aload_n 0, 1) := by decide +kernel
theorem dX3_tell_34 : decode cX3_tell 34 = .ok (.getfield 51, 3) := by decide +kernel
theorem dX3_tell_37 : decode cX3_tell 37 = .ok (.ireturn, 1) := by decide +kernel
theorem dX3_tell_38 : decode cX3_tell 38 = .ok (.aload_n 0, 1) := by decide +kernel
theorem dX3_tell_39 : decode cX3_tell 39 = .ok (.getfield 54, 3) := by decide +kernel
theorem dX3_tell_42 : decode cX3_tell 42 = .ok (.ireturn, 1) := by decide +kernel
theorem dX3_tell_43 : decode cX3_tell 43 = .ok (.iload_n 2, 1) := by decide +kernel
theorem dX3_tell_44 : decode cX3_tell 44 = .ok (.bipush 10, 2) := by decide +kernel
theorem dX3_tell_46 : decode cX3_tell 46 = .ok (.if_icmp .ge 6, 3) := by decide +kernel
theorem dX3_tell_49 : decode cX3_tell 49 = .ok (.bipush (-2), 2) := by decide +kernel
theorem dX3_tell_51 : decode cX3_tell 51 = .ok (.ireturn, 1) := by decide +kernel
theorem dX3_tell_52 : decode cX3_tell 52 = .ok (.iload_n 2, 1) := by decide +kernel
theorem dX3_tell_53 : decode cX3_tell 53 = .ok (.bipush 10, 2) := by decide +kernel
theorem dX3_tell_55 : decode cX3_tell 55 = .ok (.idiv, 1) := by decide +kernel
theorem dX3_tell_56 : decode cX3_tell 56 = .ok (.istore_n 3, 1) := by decide +kernel
theorem dX3_tell_57 : decode cX3_tell 57 = .ok (.iload_n 2, 1) := by decide +kernel
theorem dX3_tell_58 : decode cX3_tell 58 = .ok (.bipush 10, 2) := by decide +kernel
theorem dX3_tell_60 : decode cX3_tell 60 = .ok (.irem, 1) := by decide +kernel
theorem dX3_tell_61 : decode cX3_tell 61 = .ok (.istore 4, 2) := by decide +kernel
theorem dX3_tell_63 : decode cX3_tell 63 = .ok (.iload_n 3, 1) := by decide +kernel
theorem dX3_tell_64 : decode cX3_tell 64 = .ok (.iconst 4, 1) := by decide +kernel
theorem dX3_tell_65 : decode cX3_tell 65 = .ok (.if_icmp .ne 29, 3) := by decide +kernel
theorem dX3_tell_68 : decode cX3_tell 68 = .ok (.aload_n 1, 1) := by decide +kernel
theorem dX3_tell_69 : decode cX3_tell 69 = .ok (.iload 4, 2) := by decide +kernel
theorem dX3_tell_71 : decode cX3_tell 71 = .ok (.invokevirtual 109, 3) := by decide +kernel
theorem dX3_tell_74 : decode cX3_tell 74 = .ok (.ifCond .eq 17, 3) := by decide +kernel
theorem dX3_tell_77 : decode cX3_tell 77 = .ok (.aload_n 1, 1) := by decide +kernel
theorem dX3_tell_78 : decode cX3_tell 78 = .ok (.aload_n 0, 1) := by decide +kernel
theorem dX3_tell_79 : decode cX3_tell 79 = .ok (.getfield 18, 3) := by decide +kernel
theorem dX3_tell_82 : decode cX3_tell 82 = .ok (.iload 4, 2) := by decide +kernel
theorem dX3_tell_84 : decode cX3_tell 84 = .ok (.iaload, 1) := by decide +kernel
theorem dX3_tell_85 : decode cX3_tell 85 = .ok (.invokevirtual 136, 3) := by decide +kernel
theorem dX3_tell_88 : decode cX3_tell 88 = .ok (.goto 5, 3) := by decide +kernel
theorem dX3_tell_91 : decode cX3_tell 91 = .ok (.bipush (-2), 2) := by decide +kernel
theorem dX3_tell_93 : decode cX3_tell 93 = .ok (.ireturn, 1) := by decide +kernel
theorem dX3_tell_94 : decode cX3_tell 94 = .ok (.aload_n 1, 1) := by decide +kernel
theorem dX3_tell_95 : decode cX3_tell 95 = .ok (.iload 4, 2) := by decide +kernel
theorem dX3_tell_97 : decode cX3_tell 97 = .ok (.invokevirtual 94, 3) := by decide +kernel
theorem dX3_tell_100 : decode cX3_tell 100 = .ok (.ifCond .ne 6, 3) := by decide +kernel
theorem dX3_tell_103 : decode cX3_tell 103 = .ok (.bipush (-2), 2) := by decide +kernel
theorem dX3_tell_105 : decode cX3_tell 105 = .ok (.ireturn, 1) := by decide +kernel
theorem dX3_tell_106 : decode cX3_tell 106 = .ok (.iload_n 3, 1) := by decide +kernel
theorem dX3_tell_107 : decode cX3_tell 107 = .ok (.tableswitch 53 1 3 #[25, 37, 45], 25) := by decide +kernel
theorem dX3_tell_132 : decode cX3_tell 132 = .ok (.aload_n 1, 1) := by decide +kernel
theorem dX3_tell_133 : decode cX3_tell 133 = .ok (.aload_n 0, 1) := by decide +kernel
theorem dX3_tell_134 : decode cX3_tell 134 = .ok (.getfield 22, 3) := by decide +kernel
theorem dX3_tell_137 : decode cX3_tell 137 = .ok (.iload 4, 2) := by decide +kernel
theorem dX3_tell_139 : decode cX3_tell 139 = .ok (.iaload, 1) := by decide +kernel
theorem dX3_tell_140 : decode cX3_tell 140 = .ok (.invokevirtual 136, 3) := by decide +kernel
theorem dX3_tell_143 : decode cX3_tell 143 = .ok (.ireturn, 1) := by decide +kernel
theorem dX3_tell_144 : decode cX3_tell 144 = .ok (.aload_n 0, 1) := by decide +kernel
theorem dX3_tell_145 : decode cX3_tell 145 = .ok (.getfield 25, 3) := by decide +kernel
theorem dX3_tell_148 : decode cX3_tell 148 = .ok (.iload 4, 2) := by decide +kernel
theorem dX3_tell_150 : decode cX3_tell 150 = .ok (.iaload, 1) := by decide +kernel
theorem dX3_tell_151 : decode cX3_tell 151 = .ok (.ireturn, 1) := by decide +kernel
theorem dX3_tell_152 : decode cX3_tell 152 = .ok (.aload_n 0, 1) := by decide +kernel
theorem dX3_tell_153 : decode cX3_tell 153 = .ok (.getfield 28, 3) := by decide +kernel
theorem dX3_tell_156 : decode cX3_tell 156 = .ok (.iload 4, 2) := by decide +kernel
theorem dX3_tell_158 : decode cX3_tell 158 = .ok (.iaload, 1) := by decide +kernel
theorem dX3_tell_159 : decode cX3_tell 159 = .ok (.ireturn, 1) := by decide +kernel
theorem dX3_tell_160 : decode cX3_tell 160 = .ok (.bipush (-2), 2) := by decide +kernel
theorem dX3_tell_162 : decode cX3_tell 162 = .ok (.ireturn, 1) := by decide +kernel
theorem dX4_init_0 : decode cX4_init 0 = .ok (.aload_n 0, 1) := by decide +kernel
theorem dX4_init_1 : decode cX4_init 1 = .ok (.invokespecial 3, 3) := by decide +kernel
theorem dX4_init_4 : decode cX4_init 4 = .ok (.aload_n 0, 1) := by decide +kernel
theorem dX4_init_5 : decode cX4_init 5 = .ok (.sipush 228, 3) := by decide +kernel
theorem dX4_init_8 : decode cX4_init 8 = .ok (.newarray .int, 2) := by decide +kernel
theorem dX4_init_10 : decode cX4_init 10 = .ok (.putfield 11, 3) := by decide +kernel
theorem dX4_init_13 : decode cX4_init 13 = .ok (.aload_n 0, 1) := by decide +kernel
theorem dX4_init_14 : decode cX4_init 14 = .ok (.sipush 228, 3) := by decide +kernel
theorem dX4_init_17 : decode cX4_init 17 = .ok (.newarray .int, 2) := by decide +kernel
theorem dX4_init_19 : decode cX4_init 19 = .ok (.putfield 15, 3) := by decide +kernel
theorem dX4_init_22 : decode cX4_init 22 = .ok (.aload_n 0, 1) := by decide +kernel
theorem dX4_init_23 : decode cX4_init 23 = .ok (.sipush 3705, 3) := by decide +kernel
theorem dX4_init_26 : decode cX4_init 26 = .ok (.newarray .int, 2) := by decide +kernel
theorem dX4_init_28 : decode cX4_init 28 = .ok (.putfield 18, 3) := by decide +kernel
theorem dX4_init_31 : decode cX4_init 31 = .ok (.sipush 625, 3) := by decide +kernel
theorem dX4_init_34 : decode cX4_init 34 = .ok (.newarray .int, 2) := by decide +kernel
theorem dX4_init_36 : decode cX4_init 36 = .ok (.astore_n 1, 1) := by decide +kernel
theorem dX4_init_37 : decode cX4_init 37 = .ok (.aload_n 1, 1) := by decide +kernel
theorem dX4_init_38 : decode cX4_init 38 = .ok (.iconst (-1), 1) := by decide +kernel
theorem dX4_init_39 : decode cX4_init 39 = .ok (.invokestatic 21, 3) := by decide +kernel
theorem dX4_init_42 : decode cX4_init 42 = .ok (.aload_n 1, 1) := by decide +kernel
theorem dX4_init_43 : decode cX4_init 43 = .ok (.iconst 0, 1) := by decide +kernel
theorem dX4_init_44 : decode cX4_init 44 = .ok (.iconst 0, 1) := by decide +kernel
theorem dX4_init_45 : decode cX4_init 45 = .ok (.iastore, 1) := by decide +kernel
theorem dX4_init_46 : decode cX4_init 46 = .ok (.aload_n 0, 1) := by decide +kernel
theorem dX4_init_47 : decode cX4_init 47 = .ok (.iconst 1, 1) := by decide +kernel
theorem dX4_init_48 : decode cX4_init 48 = .ok (.putfield 27, 3) := by decide +kernel
theorem dX4_init_51 : decode cX4_init 51 = .ok (.iconst 0, 1) := by decide +kernel
theorem dX4_init_52 : decode cX4_init 52 = .ok (.istore_n 2, 1) := by decide +kernel
theorem dX4_init_53 : decode cX4_init 53 = .ok (.iload_n 2, 1) := by decide +kernel
theorem dX4_init_54 : decode cX4_init 54 = .ok (.aload_n 0, 1) := by decide +kernel
theorem dX4_init_55 : decode cX4_init 55 = .ok (.getfield 27, 3) := by decide +kernel
theorem dX4_init_58 : decode cX4_init 58 = .ok (.if_icmp .ge 85, 3) := by decide +kernel
theorem dX4_init_61 : decode cX4_init 61 = .ok (.iload_n 2, 1) := by decide +kernel
theorem dX4_init_62 : decode cX4_init 62 = .ok (.bipush 57, 2) := by decide +kernel
theorem dX4_init_64 : decode cX4_init 64 = .ok (.if_icmp .ge 79, 3) := by decide +kernel
theorem dX4_init_67 : decode cX4_init 67 = .ok (.iconst 0, 1) := by decide +kernel
theorem dX4_init_68 : decode cX4_init 68 = .ok (.istore_n 3, 1) := by decide +kernel
theorem dX4_init_69 : decode cX4_init 69 = .ok (.iload_n 3, 1) := by decide +kernel
theorem dX4_init_70 : decode cX4_init 70 = .ok (.iconst 4, 1) := by decide +kernel
theorem dX4_init_71 : decode cX4_init 71 = .ok (.if_icmp .ge 66, 3) := by decide +kernel
theorem dX4_init_74 : decode cX4_init 74 = .ok (.aload_n 0, 1) := by decide +kernel
theorem dX4_init_75 : decode cX4_init 75 = .ok (.iload_n 2, 1) := by decide +kernel
theorem dX4_init_76 : decode cX4_init 76 = .ok (.iload_n 3, 1) := by decide +kernel
theorem dX4_init_77 : decode cX4_init 77 = .ok (.invokevirtual 31, 3) := by decide +kernel
theorem dX4_init_80 : decode cX4_init 80 = .ok (.istore 4, 2) := by decide +kernel
theorem dX4_init_82 : decode cX4_init 82 = .ok (.aload_n 1, 1) := by decide +kernel
theorem dX4_init_83 : decode cX4_init 83 = .ok (.iload 4, 2) := by decide +kernel
theorem dX4_init_85 : decode cX4_init 85 = .ok (.iaload, 1) := by decide +kernel
theorem dX4_init_86 : decode cX4_init 86 = .ok (.iconst (-1), 1) := by decide +kernel
theorem dX4_init_87 : decode cX4_init 87 = .ok (.if_icmp .ne 26, 3) := by decide +kernel
theorem dX4_init_90 : decode cX4_init 90 = .ok (.aload_n 0, 1) := by decide +kernel
theorem dX4_init_91 : decode cX4_init 91 = .ok (.getfield 27, 3) := by decide +kernel
theorem dX4_init_94 : decode cX4_init 94 = .ok (.bipush 57, 2) := by decide +kernel
theorem dX4_init_96 : decode cX4_init 96 = .ok (.if_icmp .ge 17, 3) := by decide +kernel
theorem dX4_init_99 : decode cX4_init 99 = .ok (.aload_n 1, 1) := by decide +kernel
theorem dX4_init_100 : decode cX4_init 100 = .ok (.iload 4, 2) := by decide +kernel
theorem dX4_init_102 : decode cX4_init 102 = .ok (.aload_n 0, 1) := by decide +kernel
theorem dX4_init_103 : decode cX4_init 103 = .ok (.getfield 27, 3) := by decide +kernel
theorem dX4_init_106 : decode cX4_init 106 = .ok (.iastore, 1) := by decide +kernel
theorem dX4_init_107 : decode cX4_init 107 = .ok (.aload_n 0, 1) := by decide +kernel
theorem dX4_init_108 : decode cX4_init 108 = .ok (.iload 4, 2) := by decide +kernel
theorem dX4_init_110 : decode cX4_init 110 = .ok (.invokevirtual 35, 3) := by decide +kernel
theorem dX4_init_113 : decode cX4_init 113 = .ok (.aload_n 0, 1) := by decide +kernel
theorem dX4_init_114 : decode cX4_init 114 = .ok (.getfield 15, 3) := by decide +kernel
theorem dX4_init_117 : decode cX4_init 117 = .ok (.iload_n 2, 1) := by decide +kernel
theorem dX4_init_118 : decode cX4_init 118 = .ok (.iconst 4, 1) := by decide +kernel
theorem dX4_init_119 : decode cX4_init 119 = .ok (.imul, 1) := by decide +kernel
theorem dX4_init_120 : decode cX4_init 120 = .ok (.iload_n 3, 1) := by decide +kernel
theorem dX4_init_121 : decode cX4_init 121 = .ok (.iadd, 1) := by decide +kernel
theorem dX4_init_122 : decode cX4_init 122 = .ok (.iconst 0, 1) := by decide +kernel
theorem dX4_init_123 : decode cX4_init 123 = .ok (.aload_n 1, 1) := by decide +kernel
theorem dX4_init_124 : decode cX4_init 124 = .ok (.iload 4, 2) := by decide +kernel
theorem dX4_init_126 : decode cX4_init 126 = .ok (.iaload, 1) := by decide +kernel
theorem dX4_init_127 : decode cX4_init 127 = .ok (.invokestatic 39, 3) := by decide +kernel
theorem dX4_init_130 : decode cX4_init 130 = .ok (.iastore, 1) := by decide +kernel
theorem dX4_init_131 : decode cX4_init 131 = .ok (.iinc 3 1, 3) := by decide +kernel
theorem dX4_init_134 : decode cX4_init 134 = .ok (.goto (-65), 3) := by decide +kernel
theorem dX4_init_137 : decode cX4_init 137 = .ok (.iinc 2 1, 3) := by decide +kernel
theorem dX4_init_140 : decode cX4_init 140 = .ok (.goto (-87), 3) := by decide +kernel
theorem dX4_init_143 : decode cX4_init 143 = .ok (.return_, 1) := by decide +kernel
theorem dX4_addWay_0 : decode cX4_addWay 0 = .ok (.iload_n 1, 1) := by decide +kernel
theorem dX4_addWay_1 : decode cX4_addWay 1 = .ok (.istore_n 2, 1) := by decide +kernel
theorem dX4_addWay_2 : decode cX4_addWay 2 = .ok (.iconst 0, 1) := by decide +kernel
theorem dX4_addWay_3 : decode cX4_addWay 3 = .ok (.istore_n 3, 1) := by decide +kernel
theorem dX4_addWay_4 : decode cX4_addWay 4 = .ok (.iload_n 3, 1) := by decide +kernel
theorem dX4_addWay_5 : decode cX4_addWay 5 = .ok (.iconst 4, 1) := by decide +kernel
theorem dX4_addWay_6 : decode cX4_addWay 6 = .ok (.if_icmp .ge 29, 3) := by decide +kernel
theorem dX4_addWay_9 : decode cX4_addWay 9 = .ok (.aload_n 0, 1) := by decide +kernel
theorem dX4_addWay_10 : decode cX4_addWay 10 = .ok (.getfield 11, 3) := by decide +kernel
theorem dX4_addWay_13 : decode cX4_addWay 13 = .ok (.aload_n 0, 1) := by decide +kernel
theorem dX4_addWay_14 : decode cX4_addWay 14 = .ok (.getfield 27, 3) := by decide +kernel
theorem dX4_addWay_17 : decode cX4_addWay 17 = .ok (.iconst 4, 1) := by decide +kernel
theorem dX4_addWay_18 : decode cX4_addWay 18 = .ok (.imul, 1) := by decide +kernel
theorem dX4_addWay_19 : decode cX4_addWay 19 = .ok (.iload_n 3, 1) := by decide +kernel
theorem dX4_addWay_20 : decode cX4_addWay 20 = .ok (.iadd, 1) := by decide +kernel
theorem dX4_addWay_21 : decode cX4_addWay 21 = .ok (.iload_n 2, 1) := by decide +kernel
theorem dX4_addWay_22 : decode cX4_addWay 22 = .ok (.iconst 5, 1) := by decide +kernel
theorem dX4_addWay_23 : decode cX4_addWay 23 = .ok (.irem, 1) := by decide +kernel
theorem dX4_addWay_24 : decode cX4_addWay 24 = .ok (.iastore, 1) := by decide +kernel
theorem dX4_addWay_25 : decode cX4_addWay 25 = .ok (.iload_n 2, 1) := by decide +kernel
theorem dX4_addWay_26 : decode cX4_addWay 26 = .ok (.iconst 5, 1) := by decide +kernel
theorem dX4_addWay_27 : decode cX4_addWay 27 = .ok (.idiv, 1) := by decide +kernel
theorem dX4_addWay_28 : decode cX4_addWay 28 = .ok (.istore_n 2, 1) := by decide +kernel
theorem dX4_addWay_29 : decode cX4_addWay 29 = .ok (.iinc 3 1, 3) := by decide +kernel
theorem dX4_addWay_32 : decode cX4_addWay 32 = .ok (.goto (-28), 3) := by decide +kernel
theorem dX4_addWay_35 : decode cX4_addWay 35 = .ok (.aload_n 0, 1) := by decide +kernel
theorem dX4_addWay_36 : decode cX4_addWay 36 = .ok (.dup, 1) := by decide +kernel
theorem dX4_addWay_37 : decode cX4_addWay 37 = .ok (.getfield 27, 3) := by decide +kernel
theorem dX4_addWay_40 : decode cX4_addWay 40 = .ok (.iconst 1, 1) := by decide +kernel
theorem dX4_addWay_41 : decode cX4_addWay 41 = .ok (.iadd, 1) := by decide +kernel
theorem dX4_addWay_42 : decode cX4_addWay 42 = .ok (.putfield 27, 3) := by decide +kernel
theorem dX4_addWay_45 : decode cX4_addWay 45 = .ok (.return_, 1) := by decide +kernel
theorem dX4_codeAfter_0 : decode cX4_codeAfter 0 = .ok (.iconst 0, 1) := by decide +kernel
theorem dX4_codeAfter_1 : decode cX4_codeAfter 1 = .ok (.istore_n 3, 1) := by decide +kernel
theorem dX4_codeAfter_2 : decode cX4_codeAfter 2 = .ok (.iconst 3, 1) := by decide +kernel
theorem dX4_codeAfter_3 : decode cX4_codeAfter 3 = .ok (.istore 4, 2) := by decide +kernel
theorem dX4_codeAfter_5 : decode cX4_codeAfter 5 = .ok (.iload 4, 2) := by decide +kernel
theorem dX4_codeAfter_7 : decode cX4_codeAfter 7 = .ok (.ifCond .lt 56, 3) := by decide +kernel
theorem dX4_codeAfter_10 : decode cX4_codeAfter 10 = .ok (.aload_n 0, 1) := by decide +kernel
theorem dX4_codeAfter_11 : decode cX4_codeAfter 11 = .ok (.getfield 11, 3) := by decide +kernel
theorem dX4_codeAfter_14 : decode cX4_codeAfter 14 = .ok (.iload_n 1, 1) := by decide +kernel
theorem dX4_codeAfter_15 : decode cX4_codeAfter 15 = .ok (.iconst 4, 1) := by decide +kernel
theorem dX4_codeAfter_16 : decode cX4_codeAfter 16 = .ok (.imul, 1) := by decide +kernel
theorem dX4_codeAfter_17 : decode cX4_codeAfter 17 = .ok (.iload 4, 2) := by decide +kernel
theorem dX4_codeAfter_19 : decode cX4_codeAfter 19 = .ok (.iadd, 1) := by decide +kernel
theorem dX4_codeAfter_20 : decode cX4_codeAfter 20 = .ok (.iaload, 1) := by decide +kernel
theorem dX4_codeAfter_21 : decode cX4_codeAfter 21 = .ok (.istore 5, 2) := by decide +kernel
theorem dX4_codeAfter_23 : decode cX4_codeAfter 23 = .ok (.iload 4, 2) := by decide +kernel
theorem dX4_codeAfter_25 : decode cX4_codeAfter 25 = .ok (.iload_n 2, 1) := by decide +kernel
theorem dX4_codeAfter_26 : decode cX4_codeAfter 26 = .ok (.if_icmp .ne 14, 3) := by decide +kernel
theorem dX4_codeAfter_29 : decode cX4_codeAfter 29 = .ok (.iconst 4, 1) := by decide +kernel
theorem dX4_codeAfter_30 : decode cX4_codeAfter 30 = .ok (.iload 5, 2) := by decide +kernel
theorem dX4_codeAfter_32 : decode cX4_codeAfter 32 = .ok (.iconst 1, 1) := by decide +kernel
theorem dX4_codeAfter_33 : decode cX4_codeAfter 33 = .ok (.iadd, 1) := by decide +kernel
theorem dX4_codeAfter_34 : decode cX4_codeAfter 34 = .ok (.invokestatic 44, 3) := by decide +kernel
theorem dX4_codeAfter_37 : decode cX4_codeAfter 37 = .ok (.goto 11, 3) := by decide +kernel
theorem dX4_codeAfter_40 : decode cX4_codeAfter 40 = .ok (.iconst 0, 1) := by decide +kernel
theorem dX4_codeAfter_41 : decode cX4_codeAfter 41 = .ok (.iload 5, 2) := by decide +kernel
theorem dX4_codeAfter_43 : decode cX4_codeAfter 43 = .ok (.iconst 1, 1) := by decide +kernel
theorem dX4_codeAfter_44 : decode cX4_codeAfter 44 = .ok (.isub, 1) := by decide +kernel
theorem dX4_codeAfter_45 : decode cX4_codeAfter 45 = .ok (.invokestatic 39, 3) := by decide +kernel
theorem dX4_codeAfter_48 : decode cX4_codeAfter 48 = .ok (.istore 6, 2) := by decide +kernel
theorem dX4_codeAfter_50 : decode cX4_codeAfter 50 = .ok (.iconst 5, 1) := by decide +kernel
theorem dX4_codeAfter_51 : decode cX4_codeAfter 51 = .ok (.iload_n 3, 1) := by decide +kernel
theorem dX4_codeAfter_52 : decode cX4_codeAfter 52 = .ok (.imul, 1) := by decide +kernel
theorem dX4_codeAfter_53 : decode cX4_codeAfter 53 = .ok (.iload 6, 2) := by decide +kernel
theorem dX4_codeAfter_55 : decode cX4_codeAfter 55 = .ok (.iadd, 1) := by decide +kernel
theorem dX4_codeAfter_56 : decode cX4_codeAfter 56 = .ok (.istore_n 3, 1) := by decide +kernel
theorem dX4_codeAfter_57 : decode cX4_codeAfter 57 = .ok (.iinc 4 (-1), 3) := by decide +kernel
theorem dX4_codeAfter_60 : decode cX4_codeAfter 60 = .ok (.goto (-55), 3) := by decide +kernel
theorem dX4_codeAfter_63 : decode cX4_codeAfter 63 = .ok (.iload_n 3, 1) := by decide +kernel
theorem dX4_codeAfter_64 : decode cX4_codeAfter 64 = .ok (.ireturn, 1) := by decide +kernel
theorem dX4_plan_0 : decode cX4_plan 0 = .ok (.iconst 0, 1) := by decide +kernel
theorem dX4_plan_1 : decode cX4_plan 1 = .ok (.istore 4, 2) := by decide +kernel
theorem dX4_plan_3 : decode cX4_plan 3 = .ok (.iload 4, 2) := by decide +kernel
theorem dX4_plan_5 : decode cX4_plan 5 = .ok (.bipush 57, 2) := by decide +kernel
theorem dX4_plan_7 : decode cX4_plan 7 = .ok (.if_icmp .ge 38, 3) := by decide +kernel
theorem dX4_plan_10 : decode cX4_plan 10 = .ok (.iconst 0, 1) := by decide +kernel
theorem dX4_plan_11 : decode cX4_plan 11 = .ok (.istore 5, 2) := by decide +kernel
theorem dX4_plan_13 : decode cX4_plan 13 = .ok (.iload 5, 2) := by decide +kernel
theorem dX4_plan_15 : decode cX4_plan 15 = .ok (.iconst 5, 1) := by decide +kernel
theorem dX4_plan_16 : decode cX4_plan 16 = .ok (.if_icmp .ge 23, 3) := by decide +kernel
theorem dX4_plan_19 : decode cX4_plan 19 = .ok (.aload_n 0, 1) := by decide +kernel
theorem dX4_plan_20 : decode cX4_plan 20 = .ok (.getfield 18, 3) := by decide +kernel
theorem dX4_plan_23 : decode cX4_plan 23 = .ok (.iconst 0, 1) := by decide +kernel
theorem dX4_plan_24 : decode cX4_plan 24 = .ok (.iload 4, 2) := by decide +kernel
theorem dX4_plan_26 : decode cX4_plan 26 = .ok (.iload 5, 2) := by decide +kernel
theorem dX4_plan_28 : decode cX4_plan 28 = .ok (.invokestatic 47, 3) := by decide +kernel
theorem dX4_plan_31 : decode cX4_plan 31 = .ok (.iconst 0, 1) := by decide +kernel
theorem dX4_plan_32 : decode cX4_plan 32 = .ok (.iastore, 1) := by decide +kernel
theorem dX4_plan_33 : decode cX4_plan 33 = .ok (.iinc 5 1, 3) := by decide +kernel
theorem dX4_plan_36 : decode cX4_plan 36 = .ok (.goto (-23), 3) := by decide +kernel
theorem dX4_plan_39 : decode cX4_plan 39 = .ok (.iinc 4 1, 3) := by decide +kernel
theorem dX4_plan_42 : decode cX4_plan 42 = .ok (.goto (-39), 3) := by decide +kernel
theorem dX4_plan_45 : decode cX4_plan 45 = .ok (.iconst 1, 1) := by decide +kernel
theorem dX4_plan_46 : decode cX4_plan 46 = .ok (.istore 4, 2) := by decide +kernel
theorem dX4_plan_48 : decode cX4_plan 48 = .ok (.iload 4, 2) := by decide +kernel
theorem dX4_plan_50 : decode cX4_plan 50 = .ok (.iload_n 2, 1) := by decide +kernel
theorem dX4_plan_51 : decode cX4_plan 51 = .ok (.if_icmp .gt 81, 3) := by decide +kernel
theorem dX4_plan_54 : decode cX4_plan 54 = .ok (.iload 4, 2) := by decide +kernel
theorem dX4_plan_56 : decode cX4_plan 56 = .ok (.bipush 12, 2) := by decide +kernel
theorem dX4_plan_58 : decode cX4_plan 58 = .ok (.if_icmp .gt 74, 3) := by decide +kernel
theorem dX4_plan_61 : decode cX4_plan 61 = .ok (.iconst 0, 1) := by decide +kernel
theorem dX4_plan_62 : decode cX4_plan 62 = .ok (.istore 5, 2) := by decide +kernel
theorem dX4_plan_64 : decode cX4_plan 64 = .ok (.iload 5, 2) := by decide +kernel
theorem dX4_plan_66 : decode cX4_plan 66 = .ok (.bipush 57, 2) := by decide +kernel
theorem dX4_plan_68 : decode cX4_plan 68 = .ok (.if_icmp .ge 58, 3) := by decide +kernel
theorem dX4_plan_71 : decode cX4_plan 71 = .ok (.iload_n 3, 1) := by decide +kernel
theorem dX4_plan_72 : decode cX4_plan 72 = .ok (.ifCond .eq 7, 3) := by decide +kernel
theorem dX4_plan_75 : decode cX4_plan 75 = .ok (.iconst 0, 1) := by decide +kernel
theorem dX4_plan_76 : decode cX4_plan 76 = .ok (.goto 4, 3) := by decide +kernel
theorem dX4_plan_79 : decode cX4_plan 79 = .ok (.iconst 4, 1) := by decide +kernel
theorem dX4_plan_80 : decode cX4_plan 80 = .ok (.istore 6, 2) := by decide +kernel
theorem dX4_plan_82 : decode cX4_plan 82 = .ok (.iload 6, 2) := by decide +kernel
theorem dX4_plan_84 : decode cX4_plan 84 = .ok (.iconst 5, 1) := by decide +kernel
theorem dX4_plan_85 : decode cX4_plan 85 = .ok (.if_icmp .ge 35, 3) := by decide +kernel
theorem dX4_plan_88 : decode cX4_plan 88 = .ok (.aload_n 0, 1) := by decide +kernel
theorem dX4_plan_89 : decode cX4_plan 89 = .ok (.getfield 18, 3) := by decide +kernel
theorem dX4_plan_92 : decode cX4_plan 92 = .ok (.iload 4, 2) := by decide +kernel
theorem dX4_plan_94 : decode cX4_plan 94 = .ok (.iload 5, 2) := by decide +kernel
theorem dX4_plan_96 : decode cX4_plan 96 = .ok (.iload 6, 2) := by decide +kernel
theorem dX4_plan_98 : decode cX4_plan 98 = .ok (.invokestatic 47, 3) := by decide +kernel
theorem dX4_plan_101 : decode cX4_plan 101 = .ok (.aload_n 0, 1) := by decide +kernel
theorem dX4_plan_102 : decode cX4_plan 102 = .ok (.aload_n 1, 1) := by decide +kernel
theorem dX4_plan_103 : decode cX4_plan 103 = .ok (.iload 4, 2) := by decide +kernel
theorem dX4_plan_105 : decode cX4_plan 105 = .ok (.iload 5, 2) := by decide +kernel
theorem dX4_plan_107 : decode cX4_plan 107 = .ok (.iload 6, 2) := by decide +kernel
theorem dX4_plan_109 : decode cX4_plan 109 = .ok (.iload_n 3, 1) := by decide +kernel
theorem dX4_plan_110 : decode cX4_plan 110 = .ok (.invokevirtual 51, 3) := by decide +kernel
theorem dX4_plan_113 : decode cX4_plan 113 = .ok (.iastore, 1) := by decide +kernel
theorem dX4_plan_114 : decode cX4_plan 114 = .ok (.iinc 6 1, 3) := by decide +kernel
theorem dX4_plan_117 : decode cX4_plan 117 = .ok (.goto (-35), 3) := by decide +kernel
theorem dX4_plan_120 : decode cX4_plan 120 = .ok (.iinc 5 1, 3) := by decide +kernel
theorem dX4_plan_123 : decode cX4_plan 123 = .ok (.goto (-59), 3) := by decide +kernel
theorem dX4_plan_126 : decode cX4_plan 126 = .ok (.iinc 4 1, 3) := by decide +kernel
theorem dX4_plan_129 : decode cX4_plan 129 = .ok (.goto (-81), 3) := by decide +kernel
theorem dX4_plan_132 : decode cX4_plan 132 = .ok (.return_, 1) := by decide +kernel
theorem dX4_indexOf_0 : decode cX4_indexOf 0 = .ok (.iload_n 0, 1) := by decide +kernel
theorem dX4_indexOf_1 : decode cX4_indexOf 1 = .ok (.bipush 57, 2) := by decide +kernel
theorem dX4_indexOf_3 : decode cX4_indexOf 3 = .ok (.imul, 1) := by decide +kernel
theorem dX4_indexOf_4 : decode cX4_indexOf 4 = .ok (.iload_n 1, 1) := by decide +kernel
theorem dX4_indexOf_5 : decode cX4_indexOf 5 = .ok (.iadd, 1) := by decide +kernel
theorem dX4_indexOf_6 : decode cX4_indexOf 6 = .ok (.iconst 5, 1) := by decide +kernel
theorem dX4_indexOf_7 : decode cX4_indexOf 7 = .ok (.imul, 1) := by decide +kernel
theorem dX4_indexOf_8 : decode cX4_indexOf 8 = .ok (.iload_n 2, 1) := by decide +kernel
theorem dX4_indexOf_9 : decode cX4_indexOf 9 = .ok (.iadd, 1) := by decide +kernel
theorem dX4_indexOf_10 : decode cX4_indexOf 10 = .ok (.ireturn, 1) := by decide +kernel
theorem dX4_bestOf_0 : decode cX4_bestOf 0 = .ok (.iconst 0, 1) := by decide +kernel
theorem dX4_bestOf_1 : decode cX4_bestOf 1 = .ok (.istore 6, 2) := by decide +kernel
theorem dX4_bestOf_3 : decode cX4_bestOf 3 = .ok (.iconst 0, 1) := by decide +kernel
theorem dX4_bestOf_4 : decode cX4_bestOf 4 = .ok (.istore 7, 2) := by decide +kernel
theorem dX4_bestOf_6 : decode cX4_bestOf 6 = .ok (.iload 7, 2) := by decide +kernel
theorem dX4_bestOf_8 : decode cX4_bestOf 8 = .ok (.iconst 4, 1) := by decide +kernel
theorem dX4_bestOf_9 : decode cX4_bestOf 9 = .ok (.if_icmp .ge 34, 3) := by decide +kernel
theorem dX4_bestOf_12 : decode cX4_bestOf 12 = .ok (.iload 7, 2) := by decide +kernel
theorem dX4_bestOf_14 : decode cX4_bestOf 14 = .ok (.iload 4, 2) := by decide +kernel
theorem dX4_bestOf_16 : decode cX4_bestOf 16 = .ok (.if_icmp .eq 21, 3) := by decide +kernel
theorem dX4_bestOf_19 : decode cX4_bestOf 19 = .ok (.iload 6, 2) := by decide +kernel
theorem dX4_bestOf_21 : decode cX4_bestOf 21 = .ok (.aload_n 0, 1) := by decide +kernel
theorem dX4_bestOf_22 : decode cX4_bestOf 22 = .ok (.aload_n 1, 1) := by decide +kernel
theorem dX4_bestOf_23 : decode cX4_bestOf 23 = .ok (.iload_n 2, 1) := by decide +kernel
theorem dX4_bestOf_24 : decode cX4_bestOf 24 = .ok (.iload_n 3, 1) := by decide +kernel
theorem dX4_bestOf_25 : decode cX4_bestOf 25 = .ok (.iload 7, 2) := by decide +kernel
theorem dX4_bestOf_27 : decode cX4_bestOf 27 = .ok (.iload 5, 2) := by decide +kernel
theorem dX4_bestOf_29 : decode cX4_bestOf 29 = .ok (.invokevirtual 55, 3) := by decide +kernel
theorem dX4_bestOf_32 : decode cX4_bestOf 32 = .ok (.invokestatic 39, 3) := by decide +kernel
theorem dX4_bestOf_35 : decode cX4_bestOf 35 = .ok (.istore 6, 2) := by decide +kernel
theorem dX4_bestOf_37 : decode cX4_bestOf 37 = .ok (.iinc 7 1, 3) := by decide +kernel
theorem dX4_bestOf_40 : decode cX4_bestOf 40 = .ok (.goto (-34), 3) := by decide +kernel
theorem dX4_bestOf_43 : decode cX4_bestOf 43 = .ok (.iload 6, 2) := by decide +kernel
theorem dX4_bestOf_45 : decode cX4_bestOf 45 = .ok (.ireturn, 1) := by decide +kernel
theorem dX4_brings_0 : decode cX4_brings 0 = .ok (.iconst 0, 1) := by decide +kernel
theorem dX4_brings_1 : decode cX4_brings 1 = .ok (.aload_n 1, 1) := by decide +kernel
theorem dX4_brings_2 : decode cX4_brings 2 = .ok (.iload 4, 2) := by decide +kernel
theorem dX4_brings_4 : decode cX4_brings 4 = .ok (.iaload, 1) := by decide +kernel
theorem dX4_brings_5 : decode cX4_brings 5 = .ok (.aload_n 0, 1) := by decide +kernel
theorem dX4_brings_6 : decode cX4_brings 6 = .ok (.getfield 11, 3) := by decide +kernel
theorem dX4_brings_9 : decode cX4_brings 9 = .ok (.iload_n 3, 1) := by decide +kernel
theorem dX4_brings_10 : decode cX4_brings 10 = .ok (.iconst 4, 1) := by decide +kernel
theorem dX4_brings_11 : decode cX4_brings 11 = .ok (.imul, 1) := by decide +kernel
theorem dX4_brings_12 : decode cX4_brings 12 = .ok (.iload 4, 2) := by decide +kernel
theorem dX4_brings_14 : decode cX4_brings 14 = .ok (.iadd, 1) := by decide +kernel
theorem dX4_brings_15 : decode cX4_brings 15 = .ok (.iaload, 1) := by decide +kernel
theorem dX4_brings_16 : decode cX4_brings 16 = .ok (.isub, 1) := by decide +kernel
theorem dX4_brings_17 : decode cX4_brings 17 = .ok (.invokestatic 39, 3) := by decide +kernel
theorem dX4_brings_20 : decode cX4_brings 20 = .ok (.istore 6, 2) := by decide +kernel
theorem dX4_brings_22 : decode cX4_brings 22 = .ok (.iload 6, 2) := by decide +kernel
theorem dX4_brings_24 : decode cX4_brings 24 = .ok (.aload_n 0, 1) := by decide +kernel
theorem dX4_brings_25 : decode cX4_brings 25 = .ok (.getfield 18, 3) := by decide +kernel
theorem dX4_brings_28 : decode cX4_brings 28 = .ok (.iload_n 2, 1) := by decide +kernel
theorem dX4_brings_29 : decode cX4_brings 29 = .ok (.iconst 1, 1) := by decide +kernel
theorem dX4_brings_30 : decode cX4_brings 30 = .ok (.isub, 1) := by decide +kernel
theorem dX4_brings_31 : decode cX4_brings 31 = .ok (.aload_n 0, 1) := by decide +kernel
theorem dX4_brings_32 : decode cX4_brings 32 = .ok (.getfield 15, 3) := by decide +kernel
theorem dX4_brings_35 : decode cX4_brings 35 = .ok (.iload_n 3, 1) := by decide +kernel
theorem dX4_brings_36 : decode cX4_brings 36 = .ok (.iconst 4, 1) := by decide +kernel
theorem dX4_brings_37 : decode cX4_brings 37 = .ok (.imul, 1) := by decide +kernel
theorem dX4_brings_38 : decode cX4_brings 38 = .ok (.iload 4, 2) := by decide +kernel
theorem dX4_brings_40 : decode cX4_brings 40 = .ok (.iadd, 1) := by decide +kernel
theorem dX4_brings_41 : decode cX4_brings 41 = .ok (.iaload, 1) := by decide +kernel
theorem dX4_brings_42 : decode cX4_brings 42 = .ok (.iload 5, 2) := by decide +kernel
theorem dX4_brings_44 : decode cX4_brings 44 = .ok (.ifCond .eq 8, 3) := by decide +kernel
theorem dX4_brings_47 : decode cX4_brings 47 = .ok (.iload 4, 2) := by decide +kernel
theorem dX4_brings_49 : decode cX4_brings 49 = .ok (.goto 4, 3) := by decide +kernel
theorem dX4_brings_52 : decode cX4_brings 52 = .ok (.iconst 4, 1) := by decide +kernel
theorem dX4_brings_53 : decode cX4_brings 53 = .ok (.invokestatic 47, 3) := by decide +kernel
theorem dX4_brings_56 : decode cX4_brings 56 = .ok (.iaload, 1) := by decide +kernel
theorem dX4_brings_57 : decode cX4_brings 57 = .ok (.iadd, 1) := by decide +kernel
theorem dX4_brings_58 : decode cX4_brings 58 = .ok (.ireturn, 1) := by decide +kernel
theorem dX4_mostOf_0 : decode cX4_mostOf 0 = .ok (.aload_n 0, 1) := by decide +kernel
theorem dX4_mostOf_1 : decode cX4_mostOf 1 = .ok (.getfield 18, 3) := by decide +kernel
theorem dX4_mostOf_4 : decode cX4_mostOf 4 = .ok (.iload_n 1, 1) := by decide +kernel
theorem dX4_mostOf_5 : decode cX4_mostOf 5 = .ok (.iconst 0, 1) := by decide +kernel
theorem dX4_mostOf_6 : decode cX4_mostOf 6 = .ok (.iconst 4, 1) := by decide +kernel
theorem dX4_mostOf_7 : decode cX4_mostOf 7 = .ok (.invokestatic 47, 3) := by decide +kernel
theorem dX4_mostOf_10 : decode cX4_mostOf 10 = .ok (.iaload, 1) := by decide +kernel
theorem dX4_mostOf_11 : decode cX4_mostOf 11 = .ok (.ireturn, 1) := by decide +kernel
theorem dX4_commandAt_0 : decode cX4_commandAt 0 = .ok (.iconst 0, 1) := by decide +kernel
theorem dX4_commandAt_1 : decode cX4_commandAt 1 = .ok (.istore 4, 2) := by decide +kernel
theorem dX4_commandAt_3 : decode cX4_commandAt 3 = .ok (.iconst (-1), 1) := by decide +kernel
theorem dX4_commandAt_4 : decode cX4_commandAt 4 = .ok (.istore 5, 2) := by decide +kernel
theorem dX4_commandAt_6 : decode cX4_commandAt 6 = .ok (.iconst 0, 1) := by decide +kernel
theorem dX4_commandAt_7 : decode cX4_commandAt 7 = .ok (.istore 6, 2) := by decide +kernel
theorem dX4_commandAt_9 : decode cX4_commandAt 9 = .ok (.iload 6, 2) := by decide +kernel
theorem dX4_commandAt_11 : decode cX4_commandAt 11 = .ok (.iload_n 3, 1) := by decide +kernel
theorem dX4_commandAt_12 : decode cX4_commandAt 12 = .ok (.if_icmp .gt 46, 3) := by decide +kernel
theorem dX4_commandAt_15 : decode cX4_commandAt 15 = .ok (.iload 6, 2) := by decide +kernel
theorem dX4_commandAt_17 : decode cX4_commandAt 17 = .ok (.iload_n 2, 1) := by decide +kernel
theorem dX4_commandAt_18 : decode cX4_commandAt 18 = .ok (.if_icmp .ge 40, 3) := by decide +kernel
theorem dX4_commandAt_21 : decode cX4_commandAt 21 = .ok (.iload_n 2, 1) := by decide +kernel
theorem dX4_commandAt_22 : decode cX4_commandAt 22 = .ok (.iload 6, 2) := by decide +kernel
theorem dX4_commandAt_24 : decode cX4_commandAt 24 = .ok (.isub, 1) := by decide +kernel
theorem dX4_commandAt_25 : decode cX4_commandAt 25 = .ok (.istore 7, 2) := by decide +kernel
theorem dX4_commandAt_27 : decode cX4_commandAt 27 = .ok (.aload_n 0, 1) := by decide +kernel
theorem dX4_commandAt_28 : decode cX4_commandAt 28 = .ok (.aload_n 1, 1) := by decide +kernel
theorem dX4_commandAt_29 : decode cX4_commandAt 29 = .ok (.iload 7, 2) := by decide +kernel
theorem dX4_commandAt_31 : decode cX4_commandAt 31 = .ok (.iload 4, 2) := by decide +kernel
theorem dX4_commandAt_33 : decode cX4_commandAt 33 = .ok (.invokevirtual 58, 3) := by decide +kernel
theorem dX4_commandAt_36 : decode cX4_commandAt 36 = .ok (.istore 5, 2) := by decide +kernel
theorem dX4_commandAt_38 : decode cX4_commandAt 38 = .ok (.aload_n 0, 1) := by decide +kernel
theorem dX4_commandAt_39 : decode cX4_commandAt 39 = .ok (.getfield 15, 3) := by decide +kernel
theorem dX4_commandAt_42 : decode cX4_commandAt 42 = .ok (.iload 4, 2) := by decide +kernel
theorem dX4_commandAt_44 : decode cX4_commandAt 44 = .ok (.iconst 4, 1) := by decide +kernel
theorem dX4_commandAt_45 : decode cX4_commandAt 45 = .ok (.imul, 1) := by decide +kernel
theorem dX4_commandAt_46 : decode cX4_commandAt 46 = .ok (.iload 5, 2) := by decide +kernel
theorem dX4_commandAt_48 : decode cX4_commandAt 48 = .ok (.iadd, 1) := by decide +kernel
theorem dX4_commandAt_49 : decode cX4_commandAt 49 = .ok (.iaload, 1) := by decide +kernel
theorem dX4_commandAt_50 : decode cX4_commandAt 50 = .ok (.istore 4, 2) := by decide +kernel
theorem dX4_commandAt_52 : decode cX4_commandAt 52 = .ok (.iinc 6 1, 3) := by decide +kernel
theorem dX4_commandAt_55 : decode cX4_commandAt 55 = .ok (.goto (-46), 3) := by decide +kernel
theorem dX4_commandAt_58 : decode cX4_commandAt 58 = .ok (.iload 5, 2) := by decide +kernel
theorem dX4_commandAt_60 : decode cX4_commandAt 60 = .ok (.ireturn, 1) := by decide +kernel
theorem dX4_firstBest_0 : decode cX4_firstBest 0 = .ok (.iconst 0, 1) := by decide +kernel
theorem dX4_firstBest_1 : decode cX4_firstBest 1 = .ok (.istore 4, 2) := by decide +kernel
theorem dX4_firstBest_3 : decode cX4_firstBest 3 = .ok (.iload 4, 2) := by decide +kernel
theorem dX4_firstBest_5 : decode cX4_firstBest 5 = .ok (.iconst 4, 1) := by decide +kernel
theorem dX4_firstBest_6 : decode cX4_firstBest 6 = .ok (.if_icmp .ge 36, 3) := by decide +kernel
theorem dX4_firstBest_9 : decode cX4_firstBest 9 = .ok (.aload_n 0, 1) := by decide +kernel
theorem dX4_firstBest_10 : decode cX4_firstBest 10 = .ok (.aload_n 1, 1) := by decide +kernel
theorem dX4_firstBest_11 : decode cX4_firstBest 11 = .ok (.iload_n 2, 1) := by decide +kernel
theorem dX4_firstBest_12 : decode cX4_firstBest 12 = .ok (.iload_n 3, 1) := by decide +kernel
theorem dX4_firstBest_13 : decode cX4_firstBest 13 = .ok (.iload 4, 2) := by decide +kernel
theorem dX4_firstBest_15 : decode cX4_firstBest 15 = .ok (.iconst 0, 1) := by decide +kernel
theorem dX4_firstBest_16 : decode cX4_firstBest 16 = .ok (.invokevirtual 55, 3) := by decide +kernel
theorem dX4_firstBest_19 : decode cX4_firstBest 19 = .ok (.aload_n 0, 1) := by decide +kernel
theorem dX4_firstBest_20 : decode cX4_firstBest 20 = .ok (.getfield 18, 3) := by decide +kernel
theorem dX4_firstBest_23 : decode cX4_firstBest 23 = .ok (.iload_n 2, 1) := by decide +kernel
theorem dX4_firstBest_24 : decode cX4_firstBest 24 = .ok (.iload_n 3, 1) := by decide +kernel
theorem dX4_firstBest_25 : decode cX4_firstBest 25 = .ok (.iconst 4, 1) := by decide +kernel
theorem dX4_firstBest_26 : decode cX4_firstBest 26 = .ok (.invokestatic 47, 3) := by decide +kernel
theorem dX4_firstBest_29 : decode cX4_firstBest 29 = .ok (.iaload, 1) := by decide +kernel
theorem dX4_firstBest_30 : decode cX4_firstBest 30 = .ok (.if_icmp .ne 6, 3) := by decide +kernel
theorem dX4_firstBest_33 : decode cX4_firstBest 33 = .ok (.iload 4, 2) := by decide +kernel
theorem dX4_firstBest_35 : decode cX4_firstBest 35 = .ok (.ireturn, 1) := by decide +kernel
theorem dX4_firstBest_36 : decode cX4_firstBest 36 = .ok (.iinc 4 1, 3) := by decide +kernel
theorem dX4_firstBest_39 : decode cX4_firstBest 39 = .ok (.goto (-36), 3) := by decide +kernel
theorem dX4_firstBest_42 : decode cX4_firstBest 42 = .ok (.iconst 0, 1) := by decide +kernel
theorem dX4_firstBest_43 : decode cX4_firstBest 43 = .ok (.ireturn, 1) := by decide +kernel
theorem dX5_init_0 : decode cX5_init 0 = .ok (.aload_n 0, 1) := by decide +kernel
theorem dX5_init_1 : decode cX5_init 1 = .ok (.invokespecial 3, 3) := by decide +kernel
theorem dX5_init_4 : decode cX5_init 4 = .ok (.aload_n 0, 1) := by decide +kernel
theorem dX5_init_5 : decode cX5_init 5 = .ok (.sipush 600, 3) := by decide +kernel
theorem dX5_init_8 : decode cX5_init 8 = .ok (.newarray .byte, 2) := by decide +kernel
theorem dX5_init_10 : decode cX5_init 10 = .ok (.putfield 9, 3) := by decide +kernel
theorem dX5_init_13 : decode cX5_init 13 = .ok (.aload_n 0, 1) := by decide +kernel
theorem dX5_init_14 : decode cX5_init 14 = .ok (.new 15, 3) := by decide +kernel
theorem dX5_init_17 : decode cX5_init 17 = .ok (.dup, 1) := by decide +kernel
theorem dX5_init_18 : decode cX5_init 18 = .ok (.invokespecial 17, 3) := by decide +kernel
theorem dX5_init_21 : decode cX5_init 21 = .ok (.putfield 18, 3) := by decide +kernel
theorem dX5_init_24 : decode cX5_init 24 = .ok (.aload_n 0, 1) := by decide +kernel
theorem dX5_init_25 : decode cX5_init 25 = .ok (.new 22, 3) := by decide +kernel
theorem dX5_init_28 : decode cX5_init 28 = .ok (.dup, 1) := by decide +kernel
theorem dX5_init_29 : decode cX5_init 29 = .ok (.invokespecial 24, 3) := by decide +kernel
theorem dX5_init_32 : decode cX5_init 32 = .ok (.putfield 25, 3) := by decide +kernel
theorem dX5_init_35 : decode cX5_init 35 = .ok (.aload_n 0, 1) := by decide +kernel
theorem dX5_init_36 : decode cX5_init 36 = .ok (.new 29, 3) := by decide +kernel
theorem dX5_init_39 : decode cX5_init 39 = .ok (.dup, 1) := by decide +kernel
theorem dX5_init_40 : decode cX5_init 40 = .ok (.invokespecial 31, 3) := by decide +kernel
theorem dX5_init_43 : decode cX5_init 43 = .ok (.putfield 32, 3) := by decide +kernel
theorem dX5_init_46 : decode cX5_init 46 = .ok (.return_, 1) := by decide +kernel
theorem dX5_read_0 : decode cX5_read 0 = .ok (.aload_n 0, 1) := by decide +kernel
theorem dX5_read_1 : decode cX5_read 1 = .ok (.iconst 0, 1) := by decide +kernel
theorem dX5_read_2 : decode cX5_read 2 = .ok (.iload_n 3, 1) := by decide +kernel
theorem dX5_read_3 : decode cX5_read 3 = .ok (.aload_n 2, 1) := by decide +kernel
theorem dX5_read_4 : decode cX5_read 4 = .ok (.arraylength, 1) := by decide +kernel
theorem dX5_read_5 : decode cX5_read 5 = .ok (.sipush 600, 3) := by decide +kernel
theorem dX5_read_8 : decode cX5_read 8 = .ok (.invokestatic 36, 3) := by decide +kernel
theorem dX5_read_11 : decode cX5_read 11 = .ok (.invokestatic 36, 3) := by decide +kernel
theorem dX5_read_14 : decode cX5_read 14 = .ok (.invokestatic 42, 3) := by decide +kernel
theorem dX5_read_17 : decode cX5_read 17 = .ok (.putfield 45, 3) := by decide +kernel
theorem dX5_read_20 : decode cX5_read 20 = .ok (.aload_n 2, 1) := by decide +kernel
theorem dX5_read_21 : decode cX5_read 21 = .ok (.iconst 0, 1) := by decide +kernel
theorem dX5_read_22 : decode cX5_read 22 = .ok (.aload_n 0, 1) := by decide +kernel
theorem dX5_read_23 : decode cX5_read 23 = .ok (.getfield 9, 3) := by decide +kernel
theorem dX5_read_26 : decode cX5_read 26 = .ok (.iconst 0, 1) := by decide +kernel
theorem dX5_read_27 : decode cX5_read 27 = .ok (.aload_n 0, 1) := by decide +kernel
theorem dX5_read_28 : decode cX5_read 28 = .ok (.getfield 45, 3) := by decide +kernel
theorem dX5_read_31 : decode cX5_read 31 = .ok (.invokestatic 49, 3) := by decide +kernel
theorem dX5_read_34 : decode cX5_read 34 = .ok (.aload_n 0, 1) := by decide +kernel
theorem dX5_read_35 : decode cX5_read 35 = .ok (.iconst 0, 1) := by decide +kernel
theorem dX5_read_36 : decode cX5_read 36 = .ok (.putfield 55, 3) := by decide +kernel
theorem dX5_read_39 : decode cX5_read 39 = .ok (.aload_n 0, 1) := by decide +kernel
theorem dX5_read_40 : decode cX5_read 40 = .ok (.iconst 0, 1) := by decide +kernel
theorem dX5_read_41 : decode cX5_read 41 = .ok (.putfield 58, 3) := by decide +kernel
theorem dX5_read_44 : decode cX5_read 44 = .ok (.aload_n 0, 1) := by decide +kernel
theorem dX5_read_45 : decode cX5_read 45 = .ok (.iconst (-1), 1) := by decide +kernel
theorem dX5_read_46 : decode cX5_read 46 = .ok (.putfield 61, 3) := by decide +kernel
theorem dX5_read_49 : decode cX5_read 49 = .ok (.aload_n 0, 1) := by decide +kernel
theorem dX5_read_50 : decode cX5_read 50 = .ok (.getfield 18, 3) := by decide +kernel
theorem dX5_read_53 : decode cX5_read 53 = .ok (.invokevirtual 64, 3) := by decide +kernel
theorem dX5_read_56 : decode cX5_read 56 = .ok (.aload_n 0, 1) := by decide +kernel
theorem dX5_read_57 : decode cX5_read 57 = .ok (.getfield 25, 3) := by decide +kernel
theorem dX5_read_60 : decode cX5_read 60 = .ok (.iconst 0, 1) := by decide +kernel
theorem dX5_read_61 : decode cX5_read 61 = .ok (.putfield 67, 3) := by decide +kernel
theorem dX5_read_64 : decode cX5_read 64 = .ok (.aload_n 0, 1) := by decide +kernel
theorem dX5_read_65 : decode cX5_read 65 = .ok (.getfield 32, 3) := by decide +kernel
theorem dX5_read_68 : decode cX5_read 68 = .ok (.invokevirtual 70, 3) := by decide +kernel
theorem dX5_read_71 : decode cX5_read 71 = .ok (.aload_n 0, 1) := by decide +kernel
theorem dX5_read_72 : decode cX5_read 72 = .ok (.invokevirtual 71, 3) := by decide +kernel
theorem dX5_read_75 : decode cX5_read 75 = .ok (.iconst 0, 1) := by decide +kernel
theorem dX5_read_76 : decode cX5_read 76 = .ok (.istore 4, 2) := by decide +kernel
theorem dX5_read_78 : decode cX5_read 78 = .ok (.iload 4, 2) := by decide +kernel
theorem dX5_read_80 : decode cX5_read 80 = .ok (.sipush 600, 3) := by decide +kernel
theorem dX5_read_83 : decode cX5_read 83 = .ok (.if_icmp .gt 80, 3) := by decide +kernel
theorem dX5_read_86 : decode cX5_read 86 = .ok (.aload_n 0, 1) := by decide +kernel
theorem dX5_read_87 : decode cX5_read 87 = .ok (.getfield 74, 3) := by decide +kernel
theorem dX5_read_90 : decode cX5_read 90 = .ok (.ifCond .eq 73, 3) := by decide +kernel
theorem dX5_read_93 : decode cX5_read 93 = .ok (.aload_n 0, 1) := by decide +kernel
theorem dX5_read_94 : decode cX5_read 94 = .ok (.getfield 58, 3) := by decide +kernel
theorem dX5_read_97 : decode cX5_read 97 = .ok (.iconst 1, 1) := by decide +kernel
theorem dX5_read_98 : decode cX5_read 98 = .ok (.if_icmp .eq 65, 3) := by decide +kernel
theorem dX5_read_101 : decode cX5_read 101 = .ok (.iload_n 1, 1) := by decide +kernel
theorem dX5_read_102 : decode cX5_read 102 = .ok (.tableswitch 47 0 2 #[26, 33, 40], 26) := by decide +kernel
theorem dX5_read_128 : decode cX5_read 128 = .ok (.aload_n 0, 1) := by decide +kernel
theorem dX5_read_129 : decode cX5_read 129 = .ok (.invokevirtual 77, 3) := by decide +kernel
theorem dX5_read_132 : decode cX5_read 132 = .ok (.goto 21, 3) := by decide +kernel
theorem dX5_read_135 : decode cX5_read 135 = .ok (.aload_n 0, 1) := by decide +kernel
theorem dX5_read_136 : decode cX5_read 136 = .ok (.invokevirtual 80, 3) := by decide +kernel
theorem dX5_read_139 : decode cX5_read 139 = .ok (.goto 14, 3) := by decide +kernel
theorem dX5_read_142 : decode cX5_read 142 = .ok (.aload_n 0, 1) := by decide +kernel
theorem dX5_read_143 : decode cX5_read 143 = .ok (.invokevirtual 83, 3) := by decide +kernel
theorem dX5_read_146 : decode cX5_read 146 = .ok (.goto 7, 3) := by decide +kernel
theorem dX5_read_149 : decode cX5_read 149 = .ok (.aload_n 0, 1) := by decide +kernel
theorem dX5_read_150 : decode cX5_read 150 = .ok (.invokevirtual 86, 3) := by decide +kernel
theorem dX5_read_153 : decode cX5_read 153 = .ok (.aload_n 0, 1) := by decide +kernel
theorem dX5_read_154 : decode cX5_read 154 = .ok (.invokevirtual 89, 3) := by decide +kernel
theorem dX5_read_157 : decode cX5_read 157 = .ok (.iinc 4 1, 3) := by decide +kernel
theorem dX5_read_160 : decode cX5_read 160 = .ok (.goto (-82), 3) := by decide +kernel
theorem dX5_read_163 : decode cX5_read 163 = .ok (.aload_n 0, 1) := by decide +kernel
theorem dX5_read_164 : decode cX5_read 164 = .ok (.getfield 58, 3) := by decide +kernel
theorem dX5_read_167 : decode cX5_read 167 = .ok (.ifCond .ne 8, 3) := by decide +kernel
theorem dX5_read_170 : decode cX5_read 170 = .ok (.aload_n 0, 1) := by decide +kernel
theorem dX5_read_171 : decode cX5_read 171 = .ok (.iload_n 1, 1) := by decide +kernel
theorem dX5_read_172 : decode cX5_read 172 = .ok (.invokevirtual 92, 3) := by decide +kernel
theorem dX5_read_175 : decode cX5_read 175 = .ok (.return_, 1) := by decide +kernel
theorem dX5_readCityLine_0 : decode cX5_readCityLine 0 = .ok (.aload_n 0, 1) := by decide +kernel
theorem dX5_readCityLine_1 : decode cX5_readCityLine 1 = .ok (.getfield 96, 3) := by decide +kernel
theorem dX5_readCityLine_4 : decode cX5_readCityLine 4 = .ok (.istore_n 1, 1) := by decide +kernel
theorem dX5_readCityLine_5 : decode cX5_readCityLine 5 = .ok (.aload_n 0, 1) := by decide +kernel
theorem dX5_readCityLine_6 : decode cX5_readCityLine 6 = .ok (.ldc 99, 2) := by decide +kernel
theorem dX5_readCityLine_8 : decode cX5_readCityLine 8 = .ok (.invokevirtual 101, 3) := by decide +kernel
theorem dX5_readCityLine_11 : decode cX5_readCityLine 11 = .ok (.istore_n 2, 1) := by decide +kernel
theorem dX5_readCityLine_12 : decode cX5_readCityLine 12 = .ok (.iload_n 2, 1) := by decide +kernel
theorem dX5_readCityLine_13 : decode cX5_readCityLine 13 = .ok (.lookupswitch 100 #[(-1, 43), (9, 46), (10, 77), (11, 93)], 43) := by decide +kernel
theorem dX5_readCityLine_56 : decode cX5_readCityLine 56 = .ok (.goto 63, 3) := by decide +kernel
theorem dX5_readCityLine_59 : decode cX5_readCityLine 59 = .ok (.aload_n 0, 1) := by decide +kernel
theorem dX5_readCityLine_60 : decode cX5_readCityLine 60 = .ok (.getfield 18, 3) := by decide +kernel
theorem dX5_readCityLine_63 : decode cX5_readCityLine 63 = .ok (.aload_n 0, 1) := by decide +kernel
theorem dX5_readCityLine_64 : decode cX5_readCityLine 64 = .ok (.iconst 2, 1) := by decide +kernel
theorem dX5_readCityLine_65 : decode cX5_readCityLine 65 = .ok (.bipush 8, 2) := by decide +kernel
theorem dX5_readCityLine_67 : decode cX5_readCityLine 67 = .ok (.invokevirtual 105, 3) := by decide +kernel
theorem dX5_readCityLine_70 : decode cX5_readCityLine 70 = .ok (.putfield 108, 3) := by decide +kernel
theorem dX5_readCityLine_73 : decode cX5_readCityLine 73 = .ok (.aload_n 0, 1) := by decide +kernel
theorem dX5_readCityLine_74 : decode cX5_readCityLine 74 = .ok (.getfield 18, 3) := by decide +kernel
theorem dX5_readCityLine_77 : decode cX5_readCityLine 77 = .ok (.aload_n 0, 1) := by decide +kernel
theorem dX5_readCityLine_78 : decode cX5_readCityLine 78 = .ok (.iconst 2, 1) := by decide +kernel
theorem dX5_readCityLine_79 : decode cX5_readCityLine 79 = .ok (.bipush 8, 2) := by decide +kernel
theorem dX5_readCityLine_81 : decode cX5_readCityLine 81 = .ok (.invokevirtual 105, 3) := by decide +kernel
theorem dX5_readCityLine_84 : decode cX5_readCityLine 84 = .ok (.putfield 111, 3) := by decide +kernel
theorem dX5_readCityLine_87 : decode cX5_readCityLine 87 = .ok (.goto 32, 3) := by decide +kernel
theorem dX5_readCityLine_90 : decode cX5_readCityLine 90 = .ok (.aload_n 0, 1) := by decide +kernel
theorem dX5_readCityLine_91 : decode cX5_readCityLine 91 = .ok (.getfield 18, 3) := by decide +kernel
theorem dX5_readCityLine_94 : decode cX5_readCityLine 94 = .ok (.aload_n 0, 1) := by decide +kernel
theorem dX5_readCityLine_95 : decode cX5_readCityLine 95 = .ok (.iconst 0, 1) := by decide +kernel
theorem dX5_readCityLine_96 : decode cX5_readCityLine 96 = .ok (.iconst 4, 1) := by decide +kernel
theorem dX5_readCityLine_97 : decode cX5_readCityLine 97 = .ok (.invokevirtual 105, 3) := by decide +kernel
theorem dX5_readCityLine_100 : decode cX5_readCityLine 100 = .ok (.putfield 114, 3) := by decide +kernel
theorem dX5_readCityLine_103 : decode cX5_readCityLine 103 = .ok (.goto 16, 3) := by decide +kernel
theorem dX5_readCityLine_106 : decode cX5_readCityLine 106 = .ok (.aload_n 0, 1) := by decide +kernel
theorem dX5_readCityLine_107 : decode cX5_readCityLine 107 = .ok (.invokevirtual 117, 3) := by decide +kernel
theorem dX5_readCityLine_110 : decode cX5_readCityLine 110 = .ok (.goto 9, 3) := by decide +kernel
theorem dX5_readCityLine_113 : decode cX5_readCityLine 113 = .ok (.aload_n 0, 1) := by decide +kernel
theorem dX5_readCityLine_114 : decode cX5_readCityLine 114 = .ok (.iload_n 2, 1) := by decide +kernel
theorem dX5_readCityLine_115 : decode cX5_readCityLine 115 = .ok (.iload_n 1, 1) := by decide +kernel
theorem dX5_readCityLine_116 : decode cX5_readCityLine 116 = .ok (.invokevirtual 120, 3) := by decide +kernel
theorem dX5_readCityLine_119 : decode cX5_readCityLine 119 = .ok (.return_, 1) := by decide +kernel
theorem dX5_readValue_0 : decode cX5_readValue 0 = .ok (.aload_n 0, 1) := by decide +kernel
theorem dX5_readValue_1 : decode cX5_readValue 1 = .ok (.ldc 124, 2) := by decide +kernel
theorem dX5_readValue_3 : decode cX5_readValue 3 = .ok (.invokevirtual 101, 3) := by decide +kernel
theorem dX5_readValue_6 : decode cX5_readValue 6 = .ok (.istore_n 1, 1) := by decide +kernel
theorem dX5_readValue_7 : decode cX5_readValue 7 = .ok (.aload_n 0, 1) := by decide +kernel
theorem dX5_readValue_8 : decode cX5_readValue 8 = .ok (.iconst 0, 1) := by decide +kernel
theorem dX5_readValue_9 : decode cX5_readValue 9 = .ok (.bipush 9, 2) := by decide +kernel
theorem dX5_readValue_11 : decode cX5_readValue 11 = .ok (.invokevirtual 105, 3) := by decide +kernel
theorem dX5_readValue_14 : decode cX5_readValue 14 = .ok (.istore_n 2, 1) := by decide +kernel
theorem dX5_readValue_15 : decode cX5_readValue 15 = .ok (.iload_n 1, 1) := by decide +kernel
theorem dX5_readValue_16 : decode cX5_readValue 16 = .ok (.ifCond .lt 18, 3) := by decide +kernel
theorem dX5_readValue_19 : decode cX5_readValue 19 = .ok (.iload_n 1, 1) := by decide +kernel
theorem dX5_readValue_20 : decode cX5_readValue 20 = .ok (.iconst 4, 1) := by decide +kernel
theorem dX5_readValue_21 : decode cX5_readValue 21 = .ok (.if_icmp .ge 13, 3) := by decide +kernel
theorem dX5_readValue_24 : decode cX5_readValue 24 = .ok (.aload_n 0, 1) := by decide +kernel
theorem dX5_readValue_25 : decode cX5_readValue 25 = .ok (.getfield 18, 3) := by decide +kernel
theorem dX5_readValue_28 : decode cX5_readValue 28 = .ok (.getfield 126, 3) := by decide +kernel
theorem dX5_readValue_31 : decode cX5_readValue 31 = .ok (.iload_n 1, 1) := by decide +kernel
theorem dX5_readValue_32 : decode cX5_readValue 32 = .ok (.iload_n 2, 1) := by decide +kernel
theorem dX5_readValue_33 : decode cX5_readValue 33 = .ok (.iastore, 1) := by decide +kernel
theorem dX5_readValue_34 : decode cX5_readValue 34 = .ok (.return_, 1) := by decide +kernel
theorem dX5_readPlace_0 : decode cX5_readPlace 0 = .ok (.iload_n 1, 1) := by decide +kernel
theorem dX5_readPlace_1 : decode cX5_readPlace 1 = .ok (.iconst 4, 1) := by decide +kernel
theorem dX5_readPlace_2 : decode cX5_readPlace 2 = .ok (.if_icmp .ge 7, 3) := by decide +kernel
theorem dX5_readPlace_5 : decode cX5_readPlace 5 = .ok (.iconst 1, 1) := by decide +kernel
theorem dX5_readPlace_6 : decode cX5_readPlace 6 = .ok (.goto 4, 3) := by decide +kernel
theorem dX5_readPlace_9 : decode cX5_readPlace 9 = .ok (.iconst 0, 1) := by decide +kernel
theorem dX5_readPlace_10 : decode cX5_readPlace 10 = .ok (.istore_n 3, 1) := by decide +kernel
theorem dX5_readPlace_11 : decode cX5_readPlace 11 = .ok (.iload_n 3, 1) := by decide +kernel
theorem dX5_readPlace_12 : decode cX5_readPlace 12 = .ok (.ifCond .ne 13, 3) := by decide +kernel
theorem dX5_readPlace_15 : decode cX5_readPlace 15 = .ok (.iload_n 1, 1) := by decide +kernel
theorem dX5_readPlace_16 : decode cX5_readPlace 16 = .ok (.bipush 8, 2) := by decide +kernel
theorem dX5_readPlace_18 : decode cX5_readPlace 18 = .ok (.if_icmp .ge 7, 3) := by decide +kernel
theorem dX5_readPlace_21 : decode cX5_readPlace 21 = .ok (.iconst 1, 1) := by decide +kernel
theorem dX5_readPlace_22 : decode cX5_readPlace 22 = .ok (.goto 4, 3) := by decide +kernel
theorem dX5_readPlace_25 : decode cX5_readPlace 25 = .ok (.iconst 0, 1) := by decide +kernel
theorem dX5_readPlace_26 : decode cX5_readPlace 26 = .ok (.istore 4, 2) := by decide +kernel
theorem dX5_readPlace_28 : decode cX5_readPlace 28 = .ok (.iload_n 3, 1) := by decide +kernel
theorem dX5_readPlace_29 : decode cX5_readPlace 29 = .ok (.ifCond .eq 15, 3) := by decide +kernel
theorem dX5_readPlace_32 : decode cX5_readPlace 32 = .ok (.aload_n 0, 1) := by decide +kernel
theorem dX5_readPlace_33 : decode cX5_readPlace 33 = .ok (.getfield 18, 3) := by decide +kernel
theorem dX5_readPlace_36 : decode cX5_readPlace 36 = .ok (.getfield 130, 3) := by decide +kernel
theorem dX5_readPlace_39 : decode cX5_readPlace 39 = .ok (.bipush 6, 2) := by decide +kernel
theorem dX5_readPlace_41 : decode cX5_readPlace 41 = .ok (.if_icmp .ge 20, 3) := by decide +kernel
theorem dX5_readPlace_44 : decode cX5_readPlace 44 = .ok (.iload 4, 2) := by decide +kernel
theorem dX5_readPlace_46 : decode cX5_readPlace 46 = .ok (.ifCond .eq 21, 3) := by decide +kernel
theorem dX5_readPlace_49 : decode cX5_readPlace 49 = .ok (.aload_n 0, 1) := by decide +kernel
theorem dX5_readPlace_50 : decode cX5_readPlace 50 = .ok (.getfield 18, 3) := by decide +kernel
theorem dX5_readPlace_53 : decode cX5_readPlace 53 = .ok (.getfield 133, 3) := by decide +kernel
theorem dX5_readPlace_56 : decode cX5_readPlace 56 = .ok (.bipush 6, 2) := by decide +kernel
theorem dX5_readPlace_58 : decode cX5_readPlace 58 = .ok (.if_icmp .lt 9, 3) := by decide +kernel
theorem dX5_readPlace_61 : decode cX5_readPlace 61 = .ok (.aload_n 0, 1) := by decide +kernel
theorem dX5_readPlace_62 : decode cX5_readPlace 62 = .ok (.iconst 3, 1) := by decide +kernel
theorem dX5_readPlace_63 : decode cX5_readPlace 63 = .ok (.iload_n 2, 1) := by decide +kernel
theorem dX5_readPlace_64 : decode cX5_readPlace 64 = .ok (.invokevirtual 136, 3) := by decide +kernel
theorem dX5_readPlace_67 : decode cX5_readPlace 67 = .ok (.aload_n 0, 1) := by decide +kernel
theorem dX5_readPlace_68 : decode cX5_readPlace 68 = .ok (.iconst 0, 1) := by decide +kernel
theorem dX5_readPlace_69 : decode cX5_readPlace 69 = .ok (.bipush 7, 2) := by decide +kernel
theorem dX5_readPlace_71 : decode cX5_readPlace 71 = .ok (.invokevirtual 105, 3) := by decide +kernel
theorem dX5_readPlace_74 : decode cX5_readPlace 74 = .ok (.istore 5, 2) := by decide +kernel
theorem dX5_readPlace_76 : decode cX5_readPlace 76 = .ok (.aload_n 0, 1) := by decide +kernel
theorem dX5_readPlace_77 : decode cX5_readPlace 77 = .ok (.iconst 0, 1) := by decide +kernel
theorem dX5_readPlace_78 : decode cX5_readPlace 78 = .ok (.bipush 7, 2) := by decide +kernel
theorem dX5_readPlace_80 : decode cX5_readPlace 80 = .ok (.invokevirtual 105, 3) := by decide +kernel
theorem dX5_readPlace_83 : decode cX5_readPlace 83 = .ok (.istore 6, 2) := by decide +kernel
theorem dX5_readPlace_85 : decode cX5_readPlace 85 = .ok (.iload 5, 2) := by decide +kernel
theorem dX5_readPlace_87 : decode cX5_readPlace 87 = .ok (.iload 6, 2) := by decide +kernel
theorem dX5_readPlace_89 : decode cX5_readPlace 89 = .ok (.invokestatic 139, 3) := by decide +kernel
theorem dX5_readPlace_92 : decode cX5_readPlace 92 = .ok (.istore 7, 2) := by decide +kernel
theorem dX5_readPlace_94 : decode cX5_readPlace 94 = .ok (.iload_n 3, 1) := by decide +kernel
theorem dX5_readPlace_95 : decode cX5_readPlace 95 = .ok (.ifCond .eq 16, 3) := by decide +kernel
theorem dX5_readPlace_98 : decode cX5_readPlace 98 = .ok (.aload_n 0, 1) := by decide +kernel
theorem dX5_readPlace_99 : decode cX5_readPlace 99 = .ok (.getfield 18, 3) := by decide +kernel
theorem dX5_readPlace_102 : decode cX5_readPlace 102 = .ok (.iload_n 1, 1) := by decide +kernel
theorem dX5_readPlace_103 : decode cX5_readPlace 103 = .ok (.iload 7, 2) := by decide +kernel
theorem dX5_readPlace_105 : decode cX5_readPlace 105 = .ok (.invokevirtual 142, 3) := by decide +kernel
theorem dX5_readPlace_108 : decode cX5_readPlace 108 = .ok (.goto 40, 3) := by decide +kernel
theorem dX5_readPlace_111 : decode cX5_readPlace 111 = .ok (.iload 4, 2) := by decide +kernel
theorem dX5_readPlace_113 : decode cX5_readPlace 113 = .ok (.ifCond .eq 18, 3) := by decide +kernel
theorem dX5_readPlace_116 : decode cX5_readPlace 116 = .ok (.aload_n 0, 1) := by decide +kernel
theorem dX5_readPlace_117 : decode cX5_readPlace 117 = .ok (.getfield 18, 3) := by decide +kernel
theorem dX5_readPlace_120 : decode cX5_readPlace 120 = .ok (.iload_n 1, 1) := by decide +kernel
theorem dX5_readPlace_121 : decode cX5_readPlace 121 = .ok (.iconst 4, 1) := by decide +kernel
theorem dX5_readPlace_122 : decode cX5_readPlace 122 = .ok (.isub, 1) := by decide +kernel
theorem dX5_readPlace_123 : decode cX5_readPlace 123 = .ok (.iload 7, 2) := by decide +kernel
theorem dX5_readPlace_125 : decode cX5_readPlace 125 = .ok (.invokevirtual 145, 3) := by decide +kernel
theorem dX5_readPlace_128 : decode cX5_readPlace 128 = .ok (.goto 20, 3) := by decide +kernel
theorem dX5_readPlace_131 : decode cX5_readPlace 131 = .ok (.aload_n 0, 1) := by decide +kernel
theorem dX5_readPlace_132 : decode cX5_readPlace 132 = .ok (.getfield 18, 3) := by decide +kernel
theorem dX5_readPlace_135 : decode cX5_readPlace 135 = .ok (.dup, 1) := by decide +kernel
theorem dX5_readPlace_136 : decode cX5_readPlace 136 = .ok (.getfield 148, 3) := by decide +kernel
theorem dX5_readPlace_139 : decode cX5_readPlace 139 = .ok (.iload 7, 2) := by decide +kernel
theorem dX5_readPlace_141 : decode cX5_readPlace 141 = .ok (.invokestatic 152, 3) := by decide +kernel
theorem dX5_readPlace_144 : decode cX5_readPlace 144 = .ok (.lor, 1) := by decide +kernel
theorem dX5_readPlace_145 : decode cX5_readPlace 145 = .ok (.putfield 148, 3) := by decide +kernel
theorem dX5_readPlace_148 : decode cX5_readPlace 148 = .ok (.return_, 1) := by decide +kernel
theorem dX5_readDeed_0 : decode cX5_readDeed 0 = .ok (.aload_n 0, 1) := by decide +kernel
theorem dX5_readDeed_1 : decode cX5_readDeed 1 = .ok (.getfield 96, 3) := by decide +kernel
theorem dX5_readDeed_4 : decode cX5_readDeed 4 = .ok (.istore_n 1, 1) := by decide +kernel
theorem dX5_readDeed_5 : decode cX5_readDeed 5 = .ok (.aload_n 0, 1) := by decide +kernel
theorem dX5_readDeed_6 : decode cX5_readDeed 6 = .ok (.ldc 156, 2) := by decide +kernel
theorem dX5_readDeed_8 : decode cX5_readDeed 8 = .ok (.invokevirtual 101, 3) := by decide +kernel
theorem dX5_readDeed_11 : decode cX5_readDeed 11 = .ok (.istore_n 2, 1) := by decide +kernel
theorem dX5_readDeed_12 : decode cX5_readDeed 12 = .ok (.iload_n 2, 1) := by decide +kernel
theorem dX5_readDeed_13 : decode cX5_readDeed 13 = .ok (.iconst (-1), 1) := by decide +kernel
theorem dX5_readDeed_14 : decode cX5_readDeed 14 = .ok (.if_icmp .ne 4, 3) := by decide +kernel
theorem dX5_readDeed_17 : decode cX5_readDeed 17 = .ok (.return_, 1) := by decide +kernel
theorem dX5_readDeed_18 : decode cX5_readDeed 18 = .ok (.aload_n 0, 1) := by decide +kernel
theorem dX5_readDeed_19 : decode cX5_readDeed 19 = .ok (.bipush 40, 2) := by decide +kernel
theorem dX5_readDeed_21 : decode cX5_readDeed 21 = .ok (.iload_n 1, 1) := by decide +kernel
theorem dX5_readDeed_22 : decode cX5_readDeed 22 = .ok (.invokevirtual 158, 3) := by decide +kernel
theorem dX5_readDeed_25 : decode cX5_readDeed 25 = .ok (.iconst (-1), 1) := by decide +kernel
theorem dX5_readDeed_26 : decode cX5_readDeed 26 = .ok (.istore_n 3, 1) := by decide +kernel
theorem dX5_readDeed_27 : decode cX5_readDeed 27 = .ok (.iconst (-1), 1) := by decide +kernel
theorem dX5_readDeed_28 : decode cX5_readDeed 28 = .ok (.istore 4, 2) := by decide +kernel
theorem dX5_readDeed_30 : decode cX5_readDeed 30 = .ok (.iload_n 2, 1) := by decide +kernel
theorem dX5_readDeed_31 : decode cX5_readDeed 31 = .ok (.bipush 6, 2) := by decide +kernel
theorem dX5_readDeed_33 : decode cX5_readDeed 33 = .ok (.if_icmp .eq 10, 3) := by decide +kernel
theorem dX5_readDeed_36 : decode cX5_readDeed 36 = .ok (.aload_n 0, 1) := by decide +kernel
theorem dX5_readDeed_37 : decode cX5_readDeed 37 = .ok (.iconst 0, 1) := by decide +kernel
theorem dX5_readDeed_38 : decode cX5_readDeed 38 = .ok (.iconst 5, 1) := by decide +kernel
theorem dX5_readDeed_39 : decode cX5_readDeed 39 = .ok (.invokevirtual 105, 3) := by decide +kernel
theorem dX5_readDeed_42 : decode cX5_readDeed 42 = .ok (.istore_n 3, 1) := by decide +kernel
theorem dX5_readDeed_43 : decode cX5_readDeed 43 = .ok (.iload_n 2, 1) := by decide +kernel
theorem dX5_readDeed_44 : decode cX5_readDeed 44 = .ok (.iconst 3, 1) := by decide +kernel
theorem dX5_readDeed_45 : decode cX5_readDeed 45 = .ok (.if_icmp .lt 17, 3) := by decide +kernel
theorem dX5_readDeed_48 : decode cX5_readDeed 48 = .ok (.iload_n 2, 1) := by decide +kernel
theorem dX5_readDeed_49 : decode cX5_readDeed 49 = .ok (.bipush 6, 2) := by decide +kernel
theorem dX5_readDeed_51 : decode cX5_readDeed 51 = .ok (.if_icmp .eq 11, 3) := by decide +kernel
theorem dX5_readDeed_54 : decode cX5_readDeed 54 = .ok (.aload_n 0, 1) := by decide +kernel
theorem dX5_readDeed_55 : decode cX5_readDeed 55 = .ok (.iconst 0, 1) := by decide +kernel
theorem dX5_readDeed_56 : decode cX5_readDeed 56 = .ok (.iconst 3, 1) := by decide +kernel
theorem dX5_readDeed_57 : decode cX5_readDeed 57 = .ok (.invokevirtual 105, 3) := by decide +kernel
theorem dX5_readDeed_60 : decode cX5_readDeed 60 = .ok (.istore 4, 2) := by decide +kernel
theorem dX5_readDeed_62 : decode cX5_readDeed 62 = .ok (.aload_n 0, 1) := by decide +kernel
theorem dX5_readDeed_63 : decode cX5_readDeed 63 = .ok (.getfield 25, 3) := by decide +kernel
theorem dX5_readDeed_66 : decode cX5_readDeed 66 = .ok (.iload_n 2, 1) := by decide +kernel
theorem dX5_readDeed_67 : decode cX5_readDeed 67 = .ok (.iload_n 3, 1) := by decide +kernel
theorem dX5_readDeed_68 : decode cX5_readDeed 68 = .ok (.iload 4, 2) := by decide +kernel
theorem dX5_readDeed_70 : decode cX5_readDeed 70 = .ok (.invokevirtual 161, 3) := by decide +kernel
theorem dX5_readDeed_73 : decode cX5_readDeed 73 = .ok (.return_, 1) := by decide +kernel
theorem dX5_readTrialLine_0 : decode cX5_readTrialLine 0 = .ok (.aload_n 0, 1) := by decide +kernel
theorem dX5_readTrialLine_1 : decode cX5_readTrialLine 1 = .ok (.getfield 96, 3) := by decide +kernel
theorem dX5_readTrialLine_4 : decode cX5_readTrialLine 4 = .ok (.istore_n 1, 1) := by decide +kernel
theorem dX5_readTrialLine_5 : decode cX5_readTrialLine 5 = .ok (.aload_n 0, 1) := by decide +kernel
theorem dX5_readTrialLine_6 : decode cX5_readTrialLine 6 = .ok (.ldc 165, 2) := by decide +kernel
theorem dX5_readTrialLine_8 : decode cX5_readTrialLine 8 = .ok (.invokevirtual 101, 3) := by decide +kernel
theorem dX5_readTrialLine_11 : decode cX5_readTrialLine 11 = .ok (.istore_n 2, 1) := by decide +kernel
theorem dX5_readTrialLine_12 : decode cX5_readTrialLine 12 = .ok (.iload_n 2, 1) := by decide +kernel
theorem dX5_readTrialLine_13 : decode cX5_readTrialLine 13 = .ok (.iconst (-1), 1) := by decide +kernel
theorem dX5_readTrialLine_14 : decode cX5_readTrialLine 14 = .ok (.if_icmp .ne 4, 3) := by decide +kernel
theorem dX5_readTrialLine_17 : decode cX5_readTrialLine 17 = .ok (.return_, 1) := by decide +kernel
theorem dX5_readTrialLine_18 : decode cX5_readTrialLine 18 = .ok (.iload_n 2, 1) := by decide +kernel
theorem dX5_readTrialLine_19 : decode cX5_readTrialLine 19 = .ok (.iconst 1, 1) := by decide +kernel
theorem dX5_readTrialLine_20 : decode cX5_readTrialLine 20 = .ok (.if_icmp .le 40, 3) := by decide +kernel
theorem dX5_readTrialLine_23 : decode cX5_readTrialLine 23 = .ok (.iload_n 2, 1) := by decide +kernel
theorem dX5_readTrialLine_24 : decode cX5_readTrialLine 24 = .ok (.iconst 2, 1) := by decide +kernel
theorem dX5_readTrialLine_25 : decode cX5_readTrialLine 25 = .ok (.if_icmp .ne 20, 3) := by decide +kernel
theorem dX5_readTrialLine_28 : decode cX5_readTrialLine 28 = .ok (.aload_n 0, 1) := by decide +kernel
theorem dX5_readTrialLine_29 : decode cX5_readTrialLine 29 = .ok (.getfield 32, 3) := by decide +kernel
theorem dX5_readTrialLine_32 : decode cX5_readTrialLine 32 = .ok (.aload_n 0, 1) := by decide +kernel
theorem dX5_readTrialLine_33 : decode cX5_readTrialLine 33 = .ok (.iconst 1, 1) := by decide +kernel
theorem dX5_readTrialLine_34 : decode cX5_readTrialLine 34 = .ok (.bipush 8, 2) := by decide +kernel
theorem dX5_readTrialLine_36 : decode cX5_readTrialLine 36 = .ok (.invokevirtual 105, 3) := by decide +kernel
theorem dX5_readTrialLine_39 : decode cX5_readTrialLine 39 = .ok (.putfield 167, 3) := by decide +kernel
theorem dX5_readTrialLine_42 : decode cX5_readTrialLine 42 = .ok (.goto 17, 3) := by decide +kernel
theorem dX5_readTrialLine_45 : decode cX5_readTrialLine 45 = .ok (.aload_n 0, 1) := by decide +kernel
theorem dX5_readTrialLine_46 : decode cX5_readTrialLine 46 = .ok (.getfield 32, 3) := by decide +kernel
theorem dX5_readTrialLine_49 : decode cX5_readTrialLine 49 = .ok (.aload_n 0, 1) := by decide +kernel
theorem dX5_readTrialLine_50 : decode cX5_readTrialLine 50 = .ok (.iconst 0, 1) := by decide +kernel
theorem dX5_readTrialLine_51 : decode cX5_readTrialLine 51 = .ok (.bipush 8, 2) := by decide +kernel
theorem dX5_readTrialLine_53 : decode cX5_readTrialLine 53 = .ok (.invokevirtual 105, 3) := by decide +kernel
theorem dX5_readTrialLine_56 : decode cX5_readTrialLine 56 = .ok (.putfield 170, 3) := by decide +kernel
theorem dX5_readTrialLine_59 : decode cX5_readTrialLine 59 = .ok (.return_, 1) := by decide +kernel
theorem dX5_readTrialLine_60 : decode cX5_readTrialLine 60 = .ok (.aload_n 0, 1) := by decide +kernel
theorem dX5_readTrialLine_61 : decode cX5_readTrialLine 61 = .ok (.getfield 32, 3) := by decide +kernel
theorem dX5_readTrialLine_64 : decode cX5_readTrialLine 64 = .ok (.getfield 173, 3) := by decide +kernel
theorem dX5_readTrialLine_67 : decode cX5_readTrialLine 67 = .ok (.getfield 67, 3) := by decide +kernel
theorem dX5_readTrialLine_70 : decode cX5_readTrialLine 70 = .ok (.bipush 12, 2) := by decide +kernel
theorem dX5_readTrialLine_72 : decode cX5_readTrialLine 72 = .ok (.if_icmp .lt 9, 3) := by decide +kernel
theorem dX5_readTrialLine_75 : decode cX5_readTrialLine 75 = .ok (.aload_n 0, 1) := by decide +kernel
theorem dX5_readTrialLine_76 : decode cX5_readTrialLine 76 = .ok (.iconst 3, 1) := by decide +kernel
theorem dX5_readTrialLine_77 : decode cX5_readTrialLine 77 = .ok (.iload_n 1, 1) := by decide +kernel
theorem dX5_readTrialLine_78 : decode cX5_readTrialLine 78 = .ok (.invokevirtual 136, 3) := by decide +kernel
theorem dX5_readTrialLine_81 : decode cX5_readTrialLine 81 = .ok (.aload_n 0, 1) := by decide +kernel
theorem dX5_readTrialLine_82 : decode cX5_readTrialLine 82 = .ok (.iconst 0, 1) := by decide +kernel
theorem dX5_readTrialLine_83 : decode cX5_readTrialLine 83 = .ok (.bipush 7, 2) := by decide +kernel
theorem dX5_readTrialLine_85 : decode cX5_readTrialLine 85 = .ok (.invokevirtual 105, 3) := by decide +kernel
theorem dX5_readTrialLine_88 : decode cX5_readTrialLine 88 = .ok (.istore_n 3, 1) := by decide +kernel
theorem dX5_readTrialLine_89 : decode cX5_readTrialLine 89 = .ok (.aload_n 0, 1) := by decide +kernel
theorem dX5_readTrialLine_90 : decode cX5_readTrialLine 90 = .ok (.iconst 0, 1) := by decide +kernel
theorem dX5_readTrialLine_91 : decode cX5_readTrialLine 91 = .ok (.bipush 7, 2) := by decide +kernel
theorem dX5_readTrialLine_93 : decode cX5_readTrialLine 93 = .ok (.invokevirtual 105, 3) := by decide +kernel
theorem dX5_readTrialLine_96 : decode cX5_readTrialLine 96 = .ok (.istore 4, 2) := by decide +kernel
theorem dX5_readTrialLine_98 : decode cX5_readTrialLine 98 = .ok (.aload_n 0, 1) := by decide +kernel
theorem dX5_readTrialLine_99 : decode cX5_readTrialLine 99 = .ok (.getfield 32, 3) := by decide +kernel
theorem dX5_readTrialLine_102 : decode cX5_readTrialLine 102 = .ok (.getfield 173, 3) := by decide +kernel
theorem dX5_readTrialLine_105 : decode cX5_readTrialLine 105 = .ok (.iload_n 2, 1) := by decide +kernel
theorem dX5_readTrialLine_106 : decode cX5_readTrialLine 106 = .ok (.iload_n 3, 1) := by decide +kernel
theorem dX5_readTrialLine_107 : decode cX5_readTrialLine 107 = .ok (.iload 4, 2) := by decide +kernel
theorem dX5_readTrialLine_109 : decode cX5_readTrialLine 109 = .ok (.invokevirtual 161, 3) := by decide +kernel
theorem dX5_readTrialLine_112 : decode cX5_readTrialLine 112 = .ok (.return_, 1) := by decide +kernel
theorem dX5_readFact_0 : decode cX5_readFact 0 = .ok (.aload_n 0, 1) := by decide +kernel
theorem dX5_readFact_1 : decode cX5_readFact 1 = .ok (.getfield 96, 3) := by decide +kernel
theorem dX5_readFact_4 : decode cX5_readFact 4 = .ok (.istore_n 1, 1) := by decide +kernel
theorem dX5_readFact_5 : decode cX5_readFact 5 = .ok (.aload_n 0, 1) := by decide +kernel
theorem dX5_readFact_6 : decode cX5_readFact 6 = .ok (.ldc 176, 2) := by decide +kernel
theorem dX5_readFact_8 : decode cX5_readFact 8 = .ok (.invokevirtual 101, 3) := by decide +kernel
theorem dX5_readFact_11 : decode cX5_readFact 11 = .ok (.istore_n 2, 1) := by decide +kernel
theorem dX5_readFact_12 : decode cX5_readFact 12 = .ok (.iload_n 2, 1) := by decide +kernel
theorem dX5_readFact_13 : decode cX5_readFact 13 = .ok (.iconst (-1), 1) := by decide +kernel
theorem dX5_readFact_14 : decode cX5_readFact 14 = .ok (.if_icmp .ne 4, 3) := by decide +kernel
theorem dX5_readFact_17 : decode cX5_readFact 17 = .ok (.return_, 1) := by decide +kernel
theorem dX5_readFact_18 : decode cX5_readFact 18 = .ok (.aload_n 0, 1) := by decide +kernel
theorem dX5_readFact_19 : decode cX5_readFact 19 = .ok (.bipush 10, 2) := by decide +kernel
theorem dX5_readFact_21 : decode cX5_readFact 21 = .ok (.iload_n 1, 1) := by decide +kernel
theorem dX5_readFact_22 : decode cX5_readFact 22 = .ok (.invokevirtual 158, 3) := by decide +kernel
theorem dX5_readFact_25 : decode cX5_readFact 25 = .ok (.aload_n 0, 1) := by decide +kernel
theorem dX5_readFact_26 : decode cX5_readFact 26 = .ok (.iconst 0, 1) := by decide +kernel
theorem dX5_readFact_27 : decode cX5_readFact 27 = .ok (.bipush 7, 2) := by decide +kernel
theorem dX5_readFact_29 : decode cX5_readFact 29 = .ok (.invokevirtual 105, 3) := by decide +kernel
theorem dX5_readFact_32 : decode cX5_readFact 32 = .ok (.istore_n 3, 1) := by decide +kernel
theorem dX5_readFact_33 : decode cX5_readFact 33 = .ok (.aload_n 0, 1) := by decide +kernel
theorem dX5_readFact_34 : decode cX5_readFact 34 = .ok (.iconst 0, 1) := by decide +kernel
theorem dX5_readFact_35 : decode cX5_readFact 35 = .ok (.bipush 7, 2) := by decide +kernel
theorem dX5_readFact_37 : decode cX5_readFact 37 = .ok (.invokevirtual 105, 3) := by decide +kernel
theorem dX5_readFact_40 : decode cX5_readFact 40 = .ok (.istore 4, 2) := by decide +kernel
theorem dX5_readFact_42 : decode cX5_readFact 42 = .ok (.aload_n 0, 1) := by decide +kernel
theorem dX5_readFact_43 : decode cX5_readFact 43 = .ok (.getfield 25, 3) := by decide +kernel
theorem dX5_readFact_46 : decode cX5_readFact 46 = .ok (.iload_n 2, 1) := by decide +kernel
theorem dX5_readFact_47 : decode cX5_readFact 47 = .ok (.iload_n 3, 1) := by decide +kernel
theorem dX5_readFact_48 : decode cX5_readFact 48 = .ok (.iload 4, 2) := by decide +kernel
theorem dX5_readFact_50 : decode cX5_readFact 50 = .ok (.invokevirtual 161, 3) := by decide +kernel
theorem dX5_readFact_53 : decode cX5_readFact 53 = .ok (.return_, 1) := by decide +kernel
theorem dX5_noteIfFull_0 : decode cX5_noteIfFull 0 = .ok (.aload_n 0, 1) := by decide +kernel
theorem dX5_noteIfFull_1 : decode cX5_noteIfFull 1 = .ok (.getfield 25, 3) := by decide +kernel
theorem dX5_noteIfFull_4 : decode cX5_noteIfFull 4 = .ok (.getfield 67, 3) := by decide +kernel
theorem dX5_noteIfFull_7 : decode cX5_noteIfFull 7 = .ok (.iload_n 1, 1) := by decide +kernel
theorem dX5_noteIfFull_8 : decode cX5_noteIfFull 8 = .ok (.if_icmp .lt 9, 3) := by decide +kernel
theorem dX5_noteIfFull_11 : decode cX5_noteIfFull 11 = .ok (.aload_n 0, 1) := by decide +kernel
theorem dX5_noteIfFull_12 : decode cX5_noteIfFull 12 = .ok (.iconst 3, 1) := by decide +kernel
theorem dX5_noteIfFull_13 : decode cX5_noteIfFull 13 = .ok (.iload_n 2, 1) := by decide +kernel
theorem dX5_noteIfFull_14 : decode cX5_noteIfFull 14 = .ok (.invokevirtual 136, 3) := by decide +kernel
theorem dX5_noteIfFull_17 : decode cX5_noteIfFull 17 = .ok (.return_, 1) := by decide +kernel
theorem dX5_checkWhole_0 : decode cX5_checkWhole 0 = .ok (.iload_n 1, 1) := by decide +kernel
theorem dX5_checkWhole_1 : decode cX5_checkWhole 1 = .ok (.ifCond .ne 75, 3) := by decide +kernel
theorem dX5_checkWhole_4 : decode cX5_checkWhole 4 = .ok (.aload_n 0, 1) := by decide +kernel
theorem dX5_checkWhole_5 : decode cX5_checkWhole 5 = .ok (.getfield 18, 3) := by decide +kernel
theorem dX5_checkWhole_8 : decode cX5_checkWhole 8 = .ok (.invokevirtual 178, 3) := by decide +kernel
theorem dX5_checkWhole_11 : decode cX5_checkWhole 11 = .ok (.lstore_n 2, 1) := by decide +kernel
theorem dX5_checkWhole_12 : decode cX5_checkWhole 12 = .ok (.lload_n 2, 1) := by decide +kernel
theorem dX5_checkWhole_13 : decode cX5_checkWhole 13 = .ok (.aload_n 0, 1) := by decide +kernel
theorem dX5_checkWhole_14 : decode cX5_checkWhole 14 = .ok (.getfield 18, 3) := by decide +kernel
theorem dX5_checkWhole_17 : decode cX5_checkWhole 17 = .ok (.getfield 148, 3) := by decide +kernel
theorem dX5_checkWhole_20 : decode cX5_checkWhole 20 = .ok (.lor, 1) := by decide +kernel
theorem dX5_checkWhole_21 : decode cX5_checkWhole 21 = .ok (.aload_n 0, 1) := by decide +kernel
theorem dX5_checkWhole_22 : decode cX5_checkWhole 22 = .ok (.getfield 18, 3) := by decide +kernel
theorem dX5_checkWhole_25 : decode cX5_checkWhole 25 = .ok (.invokevirtual 182, 3) := by decide +kernel
theorem dX5_checkWhole_28 : decode cX5_checkWhole 28 = .ok (.ldc2_w 185, 3) := by decide +kernel
theorem dX5_checkWhole_31 : decode cX5_checkWhole 31 = .ok (.lxor, 1) := by decide +kernel
theorem dX5_checkWhole_32 : decode cX5_checkWhole 32 = .ok (.land, 1) := by decide +kernel
theorem dX5_checkWhole_33 : decode cX5_checkWhole 33 = .ok (.lconst 0, 1) := by decide +kernel
theorem dX5_checkWhole_34 : decode cX5_checkWhole 34 = .ok (.lcmp, 1) := by decide +kernel
theorem dX5_checkWhole_35 : decode cX5_checkWhole 35 = .ok (.ifCond .eq 15, 3) := by decide +kernel
theorem dX5_checkWhole_38 : decode cX5_checkWhole 38 = .ok (.aload_n 0, 1) := by decide +kernel
theorem dX5_checkWhole_39 : decode cX5_checkWhole 39 = .ok (.iconst 4, 1) := by decide +kernel
theorem dX5_checkWhole_40 : decode cX5_checkWhole 40 = .ok (.aload_n 0, 1) := by decide +kernel
theorem dX5_checkWhole_41 : decode cX5_checkWhole 41 = .ok (.getfield 45, 3) := by decide +kernel
theorem dX5_checkWhole_44 : decode cX5_checkWhole 44 = .ok (.invokevirtual 136, 3) := by decide +kernel
theorem dX5_checkWhole_47 : decode cX5_checkWhole 47 = .ok (.goto 26, 3) := by decide +kernel
theorem dX5_checkWhole_50 : decode cX5_checkWhole 50 = .ok (.lload_n 2, 1) := by decide +kernel
theorem dX5_checkWhole_51 : decode cX5_checkWhole 51 = .ok (.aload_n 0, 1) := by decide +kernel
theorem dX5_checkWhole_52 : decode cX5_checkWhole 52 = .ok (.getfield 18, 3) := by decide +kernel
theorem dX5_checkWhole_55 : decode cX5_checkWhole 55 = .ok (.getfield 148, 3) := by decide +kernel
theorem dX5_checkWhole_58 : decode cX5_checkWhole 58 = .ok (.land, 1) := by decide +kernel
theorem dX5_checkWhole_59 : decode cX5_checkWhole 59 = .ok (.lconst 0, 1) := by decide +kernel
theorem dX5_checkWhole_60 : decode cX5_checkWhole 60 = .ok (.lcmp, 1) := by decide +kernel
theorem dX5_checkWhole_61 : decode cX5_checkWhole 61 = .ok (.ifCond .eq 12, 3) := by decide +kernel
theorem dX5_checkWhole_64 : decode cX5_checkWhole 64 = .ok (.aload_n 0, 1) := by decide +kernel
theorem dX5_checkWhole_65 : decode cX5_checkWhole 65 = .ok (.iconst 5, 1) := by decide +kernel
theorem dX5_checkWhole_66 : decode cX5_checkWhole 66 = .ok (.aload_n 0, 1) := by decide +kernel
theorem dX5_checkWhole_67 : decode cX5_checkWhole 67 = .ok (.getfield 45, 3) := by decide +kernel
theorem dX5_checkWhole_70 : decode cX5_checkWhole 70 = .ok (.invokevirtual 136, 3) := by decide +kernel
theorem dX5_checkWhole_73 : decode cX5_checkWhole 73 = .ok (.goto 27, 3) := by decide +kernel
theorem dX5_checkWhole_76 : decode cX5_checkWhole 76 = .ok (.iload_n 1, 1) := by decide +kernel
theorem dX5_checkWhole_77 : decode cX5_checkWhole 77 = .ok (.iconst 2, 1) := by decide +kernel
theorem dX5_checkWhole_78 : decode cX5_checkWhole 78 = .ok (.if_icmp .ne 22, 3) := by decide +kernel
theorem dX5_checkWhole_81 : decode cX5_checkWhole 81 = .ok (.aload_n 0, 1) := by decide +kernel
theorem dX5_checkWhole_82 : decode cX5_checkWhole 82 = .ok (.getfield 32, 3) := by decide +kernel
theorem dX5_checkWhole_85 : decode cX5_checkWhole 85 = .ok (.invokevirtual 187, 3) := by decide +kernel
theorem dX5_checkWhole_88 : decode cX5_checkWhole 88 = .ok (.ifCond .eq 12, 3) := by decide +kernel
theorem dX5_checkWhole_91 : decode cX5_checkWhole 91 = .ok (.aload_n 0, 1) := by decide +kernel
theorem dX5_checkWhole_92 : decode cX5_checkWhole 92 = .ok (.iconst 4, 1) := by decide +kernel
theorem dX5_checkWhole_93 : decode cX5_checkWhole 93 = .ok (.aload_n 0, 1) := by decide +kernel
theorem dX5_checkWhole_94 : decode cX5_checkWhole 94 = .ok (.getfield 45, 3) := by decide +kernel
theorem dX5_checkWhole_97 : decode cX5_checkWhole 97 = .ok (.invokevirtual 136, 3) := by decide +kernel
theorem dX5_checkWhole_100 : decode cX5_checkWhole 100 = .ok (.return_, 1) := by decide +kernel
theorem dX5_note_0 : decode cX5_note 0 = .ok (.aload_n 0, 1) := by decide +kernel
theorem dX5_note_1 : decode cX5_note 1 = .ok (.getfield 58, 3) := by decide +kernel
theorem dX5_note_4 : decode cX5_note 4 = .ok (.ifCond .ne 13, 3) := by decide +kernel
theorem dX5_note_7 : decode cX5_note 7 = .ok (.aload_n 0, 1) := by decide +kernel
theorem dX5_note_8 : decode cX5_note 8 = .ok (.iload_n 1, 1) := by decide +kernel
theorem dX5_note_9 : decode cX5_note 9 = .ok (.putfield 58, 3) := by decide +kernel
theorem dX5_note_12 : decode cX5_note 12 = .ok (.aload_n 0, 1) := by decide +kernel
theorem dX5_note_13 : decode cX5_note 13 = .ok (.iload_n 2, 1) := by decide +kernel
theorem dX5_note_14 : decode cX5_note 14 = .ok (.putfield 61, 3) := by decide +kernel
theorem dX5_note_17 : decode cX5_note 17 = .ok (.return_, 1) := by decide +kernel
theorem dX5_stick_0 : decode cX5_stick 0 = .ok (.aload_n 0, 1) := by decide +kernel
theorem dX5_stick_1 : decode cX5_stick 1 = .ok (.getfield 58, 3) := by decide +kernel
theorem dX5_stick_4 : decode cX5_stick 4 = .ok (.iconst 1, 1) := by decide +kernel
theorem dX5_stick_5 : decode cX5_stick 5 = .ok (.if_icmp .eq 16, 3) := by decide +kernel
theorem dX5_stick_8 : decode cX5_stick 8 = .ok (.aload_n 0, 1) := by decide +kernel
theorem dX5_stick_9 : decode cX5_stick 9 = .ok (.iconst 1, 1) := by decide +kernel
theorem dX5_stick_10 : decode cX5_stick 10 = .ok (.putfield 58, 3) := by decide +kernel
theorem dX5_stick_13 : decode cX5_stick 13 = .ok (.aload_n 0, 1) := by decide +kernel
theorem dX5_stick_14 : decode cX5_stick 14 = .ok (.aload_n 0, 1) := by decide +kernel
theorem dX5_stick_15 : decode cX5_stick 15 = .ok (.getfield 96, 3) := by decide +kernel
theorem dX5_stick_18 : decode cX5_stick 18 = .ok (.putfield 61, 3) := by decide +kernel
theorem dX5_stick_21 : decode cX5_stick 21 = .ok (.return_, 1) := by decide +kernel
theorem dX5_takeWord_0 : decode cX5_takeWord 0 = .ok (.aload_n 0, 1) := by decide +kernel
theorem dX5_takeWord_1 : decode cX5_takeWord 1 = .ok (.getfield 58, 3) := by decide +kernel
theorem dX5_takeWord_4 : decode cX5_takeWord 4 = .ok (.iconst 1, 1) := by decide +kernel
theorem dX5_takeWord_5 : decode cX5_takeWord 5 = .ok (.if_icmp .eq 19, 3) := by decide +kernel
theorem dX5_takeWord_8 : decode cX5_takeWord 8 = .ok (.aload_n 0, 1) := by decide +kernel
theorem dX5_takeWord_9 : decode cX5_takeWord 9 = .ok (.getfield 74, 3) := by decide +kernel
theorem dX5_takeWord_12 : decode cX5_takeWord 12 = .ok (.iconst 1, 1) := by decide +kernel
theorem dX5_takeWord_13 : decode cX5_takeWord 13 = .ok (.if_icmp .ne 11, 3) := by decide +kernel
theorem dX5_takeWord_16 : decode cX5_takeWord 16 = .ok (.aload_n 0, 1) := by decide +kernel
theorem dX5_takeWord_17 : decode cX5_takeWord 17 = .ok (.aload_n 1, 1) := by decide +kernel
theorem dX5_takeWord_18 : decode cX5_takeWord 18 = .ok (.invokevirtual 191, 3) := by decide +kernel
theorem dX5_takeWord_21 : decode cX5_takeWord 21 = .ok (.goto 4, 3) := by decide +kernel
theorem dX5_takeWord_24 : decode cX5_takeWord 24 = .ok (.iconst (-1), 1) := by decide +kernel
theorem dX5_takeWord_25 : decode cX5_takeWord 25 = .ok (.istore_n 2, 1) := by decide +kernel
theorem dX5_takeWord_26 : decode cX5_takeWord 26 = .ok (.iload_n 2, 1) := by decide +kernel
theorem dX5_takeWord_27 : decode cX5_takeWord 27 = .ok (.iconst (-1), 1) := by decide +kernel
theorem dX5_takeWord_28 : decode cX5_takeWord 28 = .ok (.if_icmp .ne 10, 3) := by decide +kernel
theorem dX5_takeWord_31 : decode cX5_takeWord 31 = .ok (.aload_n 0, 1) := by decide +kernel
theorem dX5_takeWord_32 : decode cX5_takeWord 32 = .ok (.invokevirtual 194, 3) := by decide +kernel
theorem dX5_takeWord_35 : decode cX5_takeWord 35 = .ok (.goto 7, 3) := by decide +kernel
theorem dX5_takeWord_38 : decode cX5_takeWord 38 = .ok (.aload_n 0, 1) := by decide +kernel
theorem dX5_takeWord_39 : decode cX5_takeWord 39 = .ok (.invokevirtual 71, 3) := by decide +kernel
theorem dX5_takeWord_42 : decode cX5_takeWord 42 = .ok (.iload_n 2, 1) := by decide +kernel
theorem dX5_takeWord_43 : decode cX5_takeWord 43 = .ok (.ireturn, 1) := by decide +kernel
theorem dX5_wordIn_0 : decode cX5_wordIn 0 = .ok (.iconst 0, 1) := by decide +kernel
theorem dX5_wordIn_1 : decode cX5_wordIn 1 = .ok (.istore_n 2, 1) := by decide +kernel
theorem dX5_wordIn_2 : decode cX5_wordIn 2 = .ok (.iconst 0, 1) := by decide +kernel
theorem dX5_wordIn_3 : decode cX5_wordIn 3 = .ok (.istore_n 3, 1) := by decide +kernel
theorem dX5_wordIn_4 : decode cX5_wordIn 4 = .ok (.iconst 0, 1) := by decide +kernel
theorem dX5_wordIn_5 : decode cX5_wordIn 5 = .ok (.istore 4, 2) := by decide +kernel
theorem dX5_wordIn_7 : decode cX5_wordIn 7 = .ok (.iload 4, 2) := by decide +kernel
theorem dX5_wordIn_9 : decode cX5_wordIn 9 = .ok (.aload_n 1, 1) := by decide +kernel
theorem dX5_wordIn_10 : decode cX5_wordIn 10 = .ok (.invokevirtual 197, 3) := by decide +kernel
theorem dX5_wordIn_13 : decode cX5_wordIn 13 = .ok (.if_icmp .ge 41, 3) := by decide +kernel
theorem dX5_wordIn_16 : decode cX5_wordIn 16 = .ok (.aload_n 1, 1) := by decide +kernel
theorem dX5_wordIn_17 : decode cX5_wordIn 17 = .ok (.iload 4, 2) := by decide +kernel
theorem dX5_wordIn_19 : decode cX5_wordIn 19 = .ok (.invokevirtual 202, 3) := by decide +kernel
theorem dX5_wordIn_22 : decode cX5_wordIn 22 = .ok (.bipush 32, 2) := by decide +kernel
theorem dX5_wordIn_24 : decode cX5_wordIn 24 = .ok (.if_icmp .ne 24, 3) := by decide +kernel
theorem dX5_wordIn_27 : decode cX5_wordIn 27 = .ok (.aload_n 0, 1) := by decide +kernel
theorem dX5_wordIn_28 : decode cX5_wordIn 28 = .ok (.aload_n 1, 1) := by decide +kernel
theorem dX5_wordIn_29 : decode cX5_wordIn 29 = .ok (.iload_n 2, 1) := by decide +kernel
theorem dX5_wordIn_30 : decode cX5_wordIn 30 = .ok (.iload 4, 2) := by decide +kernel
theorem dX5_wordIn_32 : decode cX5_wordIn 32 = .ok (.invokevirtual 206, 3) := by decide +kernel
theorem dX5_wordIn_35 : decode cX5_wordIn 35 = .ok (.ifCond .eq 5, 3) := by decide +kernel
theorem dX5_wordIn_38 : decode cX5_wordIn 38 = .ok (.iload_n 3, 1) := by decide +kernel
theorem dX5_wordIn_39 : decode cX5_wordIn 39 = .ok (.ireturn, 1) := by decide +kernel
theorem dX5_wordIn_40 : decode cX5_wordIn 40 = .ok (.iload 4, 2) := by decide +kernel
theorem dX5_wordIn_42 : decode cX5_wordIn 42 = .ok (.iconst 1, 1) := by decide +kernel
theorem dX5_wordIn_43 : decode cX5_wordIn 43 = .ok (.iadd, 1) := by decide +kernel
theorem dX5_wordIn_44 : decode cX5_wordIn 44 = .ok (.istore_n 2, 1) := by decide +kernel
theorem dX5_wordIn_45 : decode cX5_wordIn 45 = .ok (.iinc 3 1, 3) := by decide +kernel
theorem dX5_wordIn_48 : decode cX5_wordIn 48 = .ok (.iinc 4 1, 3) := by decide +kernel
theorem dX5_wordIn_51 : decode cX5_wordIn 51 = .ok (.goto (-44), 3) := by decide +kernel
theorem dX5_wordIn_54 : decode cX5_wordIn 54 = .ok (.iconst (-1), 1) := by decide +kernel
theorem dX5_wordIn_55 : decode cX5_wordIn 55 = .ok (.ireturn, 1) := by decide +kernel
theorem dX5_isToken_0 : decode cX5_isToken 0 = .ok (.iload_n 3, 1) := by decide +kernel
theorem dX5_isToken_1 : decode cX5_isToken 1 = .ok (.iload_n 2, 1) := by decide +kernel
theorem dX5_isToken_2 : decode cX5_isToken 2 = .ok (.isub, 1) := by decide +kernel
theorem dX5_isToken_3 : decode cX5_isToken 3 = .ok (.aload_n 0, 1) := by decide +kernel
theorem dX5_isToken_4 : decode cX5_isToken 4 = .ok (.getfield 55, 3) := by decide +kernel
theorem dX5_isToken_7 : decode cX5_isToken 7 = .ok (.aload_n 0, 1) := by decide +kernel
theorem dX5_isToken_8 : decode cX5_isToken 8 = .ok (.getfield 96, 3) := by decide +kernel
theorem dX5_isToken_11 : decode cX5_isToken 11 = .ok (.isub, 1) := by decide +kernel
theorem dX5_isToken_12 : decode cX5_isToken 12 = .ok (.if_icmp .eq 5, 3) := by decide +kernel
theorem dX5_isToken_15 : decode cX5_isToken 15 = .ok (.iconst 0, 1) := by decide +kernel
theorem dX5_isToken_16 : decode cX5_isToken 16 = .ok (.ireturn, 1) := by decide +kernel
theorem dX5_isToken_17 : decode cX5_isToken 17 = .ok (.iconst 0, 1) := by decide +kernel
theorem dX5_isToken_18 : decode cX5_isToken 18 = .ok (.istore 4, 2) := by decide +kernel
theorem dX5_isToken_20 : decode cX5_isToken 20 = .ok (.iload 4, 2) := by decide +kernel
theorem dX5_isToken_22 : decode cX5_isToken 22 = .ok (.iload_n 3, 1) := by decide +kernel
theorem dX5_isToken_23 : decode cX5_isToken 23 = .ok (.iload_n 2, 1) := by decide +kernel
theorem dX5_isToken_24 : decode cX5_isToken 24 = .ok (.isub, 1) := by decide +kernel
theorem dX5_isToken_25 : decode cX5_isToken 25 = .ok (.if_icmp .ge 33, 3) := by decide +kernel
theorem dX5_isToken_28 : decode cX5_isToken 28 = .ok (.aload_n 1, 1) := by decide +kernel
theorem dX5_isToken_29 : decode cX5_isToken 29 = .ok (.iload_n 2, 1) := by decide +kernel
theorem dX5_isToken_30 : decode cX5_isToken 30 = .ok (.iload 4, 2) := by decide +kernel
theorem dX5_isToken_32 : decode cX5_isToken 32 = .ok (.iadd, 1) := by decide +kernel
theorem dX5_isToken_33 : decode cX5_isToken 33 = .ok (.invokevirtual 202, 3) := by decide +kernel
theorem dX5_isToken_36 : decode cX5_isToken 36 = .ok (.aload_n 0, 1) := by decide +kernel
theorem dX5_isToken_37 : decode cX5_isToken 37 = .ok (.aload_n 0, 1) := by decide +kernel
theorem dX5_isToken_38 : decode cX5_isToken 38 = .ok (.getfield 96, 3) := by decide +kernel
theorem dX5_isToken_41 : decode cX5_isToken 41 = .ok (.iload 4, 2) := by decide +kernel
theorem dX5_isToken_43 : decode cX5_isToken 43 = .ok (.iadd, 1) := by decide +kernel
theorem dX5_isToken_44 : decode cX5_isToken 44 = .ok (.invokevirtual 210, 3) := by decide +kernel
theorem dX5_isToken_47 : decode cX5_isToken 47 = .ok (.if_icmp .eq 5, 3) := by decide +kernel
theorem dX5_isToken_50 : decode cX5_isToken 50 = .ok (.iconst 0, 1) := by decide +kernel
theorem dX5_isToken_51 : decode cX5_isToken 51 = .ok (.ireturn, 1) := by decide +kernel
theorem dX5_isToken_52 : decode cX5_isToken 52 = .ok (.iinc 4 1, 3) := by decide +kernel
theorem dX5_isToken_55 : decode cX5_isToken 55 = .ok (.goto (-35), 3) := by decide +kernel
theorem dX5_isToken_58 : decode cX5_isToken 58 = .ok (.iconst 1, 1) := by decide +kernel
theorem dX5_isToken_59 : decode cX5_isToken 59 = .ok (.ireturn, 1) := by decide +kernel
theorem dX5_takeNumber_0 : decode cX5_takeNumber 0 = .ok (.aload_n 0, 1) := by decide +kernel
theorem dX5_takeNumber_1 : decode cX5_takeNumber 1 = .ok (.getfield 58, 3) := by decide +kernel
theorem dX5_takeNumber_4 : decode cX5_takeNumber 4 = .ok (.iconst 1, 1) := by decide +kernel
theorem dX5_takeNumber_5 : decode cX5_takeNumber 5 = .ok (.if_icmp .eq 11, 3) := by decide +kernel
theorem dX5_takeNumber_8 : decode cX5_takeNumber 8 = .ok (.aload_n 0, 1) := by decide +kernel
theorem dX5_takeNumber_9 : decode cX5_takeNumber 9 = .ok (.getfield 74, 3) := by decide +kernel
theorem dX5_takeNumber_12 : decode cX5_takeNumber 12 = .ok (.iconst 2, 1) := by decide +kernel
theorem dX5_takeNumber_13 : decode cX5_takeNumber 13 = .ok (.if_icmp .eq 9, 3) := by decide +kernel
theorem dX5_takeNumber_16 : decode cX5_takeNumber 16 = .ok (.aload_n 0, 1) := by decide +kernel
theorem dX5_takeNumber_17 : decode cX5_takeNumber 17 = .ok (.invokevirtual 194, 3) := by decide +kernel
theorem dX5_takeNumber_20 : decode cX5_takeNumber 20 = .ok (.iload_n 1, 1) := by decide +kernel
theorem dX5_takeNumber_21 : decode cX5_takeNumber 21 = .ok (.ireturn, 1) := by decide +kernel
theorem dX5_takeNumber_22 : decode cX5_takeNumber 22 = .ok (.aload_n 0, 1) := by decide +kernel
theorem dX5_takeNumber_23 : decode cX5_takeNumber 23 = .ok (.getfield 214, 3) := by decide +kernel
theorem dX5_takeNumber_26 : decode cX5_takeNumber 26 = .ok (.istore_n 3, 1) := by decide +kernel
theorem dX5_takeNumber_27 : decode cX5_takeNumber 27 = .ok (.iload_n 3, 1) := by decide +kernel
theorem dX5_takeNumber_28 : decode cX5_takeNumber 28 = .ok (.iload_n 1, 1) := by decide +kernel
theorem dX5_takeNumber_29 : decode cX5_takeNumber 29 = .ok (.if_icmp .lt 8, 3) := by decide +kernel
theorem dX5_takeNumber_32 : decode cX5_takeNumber 32 = .ok (.iload_n 3, 1) := by decide +kernel
theorem dX5_takeNumber_33 : decode cX5_takeNumber 33 = .ok (.iload_n 2, 1) := by decide +kernel
theorem dX5_takeNumber_34 : decode cX5_takeNumber 34 = .ok (.if_icmp .le 14, 3) := by decide +kernel
theorem dX5_takeNumber_37 : decode cX5_takeNumber 37 = .ok (.aload_n 0, 1) := by decide +kernel
theorem dX5_takeNumber_38 : decode cX5_takeNumber 38 = .ok (.iconst 2, 1) := by decide +kernel
theorem dX5_takeNumber_39 : decode cX5_takeNumber 39 = .ok (.aload_n 0, 1) := by decide +kernel
theorem dX5_takeNumber_40 : decode cX5_takeNumber 40 = .ok (.getfield 96, 3) := by decide +kernel
theorem dX5_takeNumber_43 : decode cX5_takeNumber 43 = .ok (.invokevirtual 136, 3) := by decide +kernel
theorem dX5_takeNumber_46 : decode cX5_takeNumber 46 = .ok (.iload_n 1, 1) := by decide +kernel
theorem dX5_takeNumber_47 : decode cX5_takeNumber 47 = .ok (.istore_n 3, 1) := by decide +kernel
theorem dX5_takeNumber_48 : decode cX5_takeNumber 48 = .ok (.aload_n 0, 1) := by decide +kernel
theorem dX5_takeNumber_49 : decode cX5_takeNumber 49 = .ok (.invokevirtual 71, 3) := by decide +kernel
theorem dX5_takeNumber_52 : decode cX5_takeNumber 52 = .ok (.iload_n 3, 1) := by decide +kernel
theorem dX5_takeNumber_53 : decode cX5_takeNumber 53 = .ok (.ireturn, 1) := by decide +kernel
theorem dX5_takeSemicolon_0 : decode cX5_takeSemicolon 0 = .ok (.aload_n 0, 1) := by decide +kernel
theorem dX5_takeSemicolon_1 : decode cX5_takeSemicolon 1 = .ok (.getfield 58, 3) := by decide +kernel
theorem dX5_takeSemicolon_4 : decode cX5_takeSemicolon 4 = .ok (.iconst 1, 1) := by decide +kernel
theorem dX5_takeSemicolon_5 : decode cX5_takeSemicolon 5 = .ok (.if_icmp .eq 11, 3) := by decide +kernel
theorem dX5_takeSemicolon_8 : decode cX5_takeSemicolon 8 = .ok (.aload_n 0, 1) := by decide +kernel
theorem dX5_takeSemicolon_9 : decode cX5_takeSemicolon 9 = .ok (.getfield 74, 3) := by decide +kernel
theorem dX5_takeSemicolon_12 : decode cX5_takeSemicolon 12 = .ok (.iconst 3, 1) := by decide +kernel
theorem dX5_takeSemicolon_13 : decode cX5_takeSemicolon 13 = .ok (.if_icmp .eq 10, 3) := by decide +kernel
theorem dX5_takeSemicolon_16 : decode cX5_takeSemicolon 16 = .ok (.aload_n 0, 1) := by decide +kernel
theorem dX5_takeSemicolon_17 : decode cX5_takeSemicolon 17 = .ok (.invokevirtual 194, 3) := by decide +kernel
theorem dX5_takeSemicolon_20 : decode cX5_takeSemicolon 20 = .ok (.goto 7, 3) := by decide +kernel
theorem dX5_takeSemicolon_23 : decode cX5_takeSemicolon 23 = .ok (.aload_n 0, 1) := by decide +kernel
theorem dX5_takeSemicolon_24 : decode cX5_takeSemicolon 24 = .ok (.invokevirtual 71, 3) := by decide +kernel
theorem dX5_takeSemicolon_27 : decode cX5_takeSemicolon 27 = .ok (.return_, 1) := by decide +kernel
theorem dX5_goOn_0 : decode cX5_goOn 0 = .ok (.aload_n 0, 1) := by decide +kernel
theorem dX5_goOn_1 : decode cX5_goOn 1 = .ok (.aload_n 0, 1) := by decide +kernel
theorem dX5_goOn_2 : decode cX5_goOn 2 = .ok (.getfield 55, 3) := by decide +kernel
theorem dX5_goOn_5 : decode cX5_goOn 5 = .ok (.putfield 96, 3) := by decide +kernel
theorem dX5_goOn_8 : decode cX5_goOn 8 = .ok (.aload_n 0, 1) := by decide +kernel
theorem dX5_goOn_9 : decode cX5_goOn 9 = .ok (.getfield 96, 3) := by decide +kernel
theorem dX5_goOn_12 : decode cX5_goOn 12 = .ok (.aload_n 0, 1) := by decide +kernel
theorem dX5_goOn_13 : decode cX5_goOn 13 = .ok (.getfield 45, 3) := by decide +kernel
theorem dX5_goOn_16 : decode cX5_goOn 16 = .ok (.if_icmp .ge 30, 3) := by decide +kernel
theorem dX5_goOn_19 : decode cX5_goOn 19 = .ok (.aload_n 0, 1) := by decide +kernel
theorem dX5_goOn_20 : decode cX5_goOn 20 = .ok (.aload_n 0, 1) := by decide +kernel
theorem dX5_goOn_21 : decode cX5_goOn 21 = .ok (.getfield 96, 3) := by decide +kernel
theorem dX5_goOn_24 : decode cX5_goOn 24 = .ok (.invokevirtual 210, 3) := by decide +kernel
theorem dX5_goOn_27 : decode cX5_goOn 27 = .ok (.invokestatic 217, 3) := by decide +kernel
theorem dX5_goOn_30 : decode cX5_goOn 30 = .ok (.ifCond .eq 16, 3) := by decide +kernel
theorem dX5_goOn_33 : decode cX5_goOn 33 = .ok (.aload_n 0, 1) := by decide +kernel
theorem dX5_goOn_34 : decode cX5_goOn 34 = .ok (.dup, 1) := by decide +kernel
theorem dX5_goOn_35 : decode cX5_goOn 35 = .ok (.getfield 96, 3) := by decide +kernel
theorem dX5_goOn_38 : decode cX5_goOn 38 = .ok (.iconst 1, 1) := by decide +kernel
theorem dX5_goOn_39 : decode cX5_goOn 39 = .ok (.iadd, 1) := by decide +kernel
theorem dX5_goOn_40 : decode cX5_goOn 40 = .ok (.putfield 96, 3) := by decide +kernel
theorem dX5_goOn_43 : decode cX5_goOn 43 = .ok (.goto (-35), 3) := by decide +kernel
theorem dX5_goOn_46 : decode cX5_goOn 46 = .ok (.aload_n 0, 1) := by decide +kernel
theorem dX5_goOn_47 : decode cX5_goOn 47 = .ok (.aload_n 0, 1) := by decide +kernel
theorem dX5_goOn_48 : decode cX5_goOn 48 = .ok (.getfield 96, 3) := by decide +kernel
theorem dX5_goOn_51 : decode cX5_goOn 51 = .ok (.putfield 55, 3) := by decide +kernel
theorem dX5_goOn_54 : decode cX5_goOn 54 = .ok (.aload_n 0, 1) := by decide +kernel
theorem dX5_goOn_55 : decode cX5_goOn 55 = .ok (.getfield 96, 3) := by decide +kernel
theorem dX5_goOn_58 : decode cX5_goOn 58 = .ok (.aload_n 0, 1) := by decide +kernel
theorem dX5_goOn_59 : decode cX5_goOn 59 = .ok (.getfield 45, 3) := by decide +kernel
theorem dX5_goOn_62 : decode cX5_goOn 62 = .ok (.if_icmp .lt 9, 3) := by decide +kernel
theorem dX5_goOn_65 : decode cX5_goOn 65 = .ok (.aload_n 0, 1) := by decide +kernel
theorem dX5_goOn_66 : decode cX5_goOn 66 = .ok (.iconst 0, 1) := by decide +kernel
theorem dX5_goOn_67 : decode cX5_goOn 67 = .ok (.putfield 74, 3) := by decide +kernel
theorem dX5_goOn_70 : decode cX5_goOn 70 = .ok (.return_, 1) := by decide +kernel
theorem dX5_goOn_71 : decode cX5_goOn 71 = .ok (.aload_n 0, 1) := by decide +kernel
theorem dX5_goOn_72 : decode cX5_goOn 72 = .ok (.aload_n 0, 1) := by decide +kernel
theorem dX5_goOn_73 : decode cX5_goOn 73 = .ok (.getfield 96, 3) := by decide +kernel
theorem dX5_goOn_76 : decode cX5_goOn 76 = .ok (.invokevirtual 210, 3) := by decide +kernel
theorem dX5_goOn_79 : decode cX5_goOn 79 = .ok (.istore_n 1, 1) := by decide +kernel
theorem dX5_goOn_80 : decode cX5_goOn 80 = .ok (.aload_n 0, 1) := by decide +kernel
theorem dX5_goOn_81 : decode cX5_goOn 81 = .ok (.aload_n 0, 1) := by decide +kernel
theorem dX5_goOn_82 : decode cX5_goOn 82 = .ok (.getfield 96, 3) := by decide +kernel
theorem dX5_goOn_85 : decode cX5_goOn 85 = .ok (.iconst 1, 1) := by decide +kernel
theorem dX5_goOn_86 : decode cX5_goOn 86 = .ok (.iadd, 1) := by decide +kernel
theorem dX5_goOn_87 : decode cX5_goOn 87 = .ok (.putfield 55, 3) := by decide +kernel
theorem dX5_goOn_90 : decode cX5_goOn 90 = .ok (.iload_n 1, 1) := by decide +kernel
theorem dX5_goOn_91 : decode cX5_goOn 91 = .ok (.invokestatic 221, 3) := by decide +kernel
theorem dX5_goOn_94 : decode cX5_goOn 94 = .ok (.ifCond .eq 46, 3) := by decide +kernel
theorem dX5_goOn_97 : decode cX5_goOn 97 = .ok (.aload_n 0, 1) := by decide +kernel
theorem dX5_goOn_98 : decode cX5_goOn 98 = .ok (.iconst 1, 1) := by decide +kernel
theorem dX5_goOn_99 : decode cX5_goOn 99 = .ok (.putfield 74, 3) := by decide +kernel
theorem dX5_goOn_102 : decode cX5_goOn 102 = .ok (.aload_n 0, 1) := by decide +kernel
theorem dX5_goOn_103 : decode cX5_goOn 103 = .ok (.getfield 55, 3) := by decide +kernel
theorem dX5_goOn_106 : decode cX5_goOn 106 = .ok (.aload_n 0, 1) := by decide +kernel
theorem dX5_goOn_107 : decode cX5_goOn 107 = .ok (.getfield 45, 3) := by decide +kernel
theorem dX5_goOn_110 : decode cX5_goOn 110 = .ok (.if_icmp .ge 59, 3) := by decide +kernel
theorem dX5_goOn_113 : decode cX5_goOn 113 = .ok (.aload_n 0, 1) := by decide +kernel
theorem dX5_goOn_114 : decode cX5_goOn 114 = .ok (.aload_n 0, 1) := by decide +kernel
