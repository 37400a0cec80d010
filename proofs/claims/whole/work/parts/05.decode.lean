theorem dX7_init_0 : decode cX7_init 0 = .ok (.aload_n 0, 1) := by decide +kernel
theorem dX7_init_1 : decode cX7_init 1 = .ok (.invokespecial 1, 3) := by decide +kernel
theorem dX7_init_4 : decode cX7_init 4 = .ok (.aload_n 0, 1) := by decide +kernel
theorem dX7_init_5 : decode cX7_init 5 = .ok (.bipush 7, 2) := by decide +kernel
theorem dX7_init_7 : decode cX7_init 7 = .ok (.newarray .int, 2) := by decide +kernel
theorem dX7_init_9 : decode cX7_init 9 = .ok (.putfield 7, 3) := by decide +kernel
theorem dX7_init_12 : decode cX7_init 12 = .ok (.aload_n 0, 1) := by decide +kernel
theorem dX7_init_13 : decode cX7_init 13 = .ok (.bipush 21, 2) := by decide +kernel
theorem dX7_init_15 : decode cX7_init 15 = .ok (.newarray .int, 2) := by decide +kernel
theorem dX7_init_17 : decode cX7_init 17 = .ok (.putfield 13, 3) := by decide +kernel
theorem dX7_init_20 : decode cX7_init 20 = .ok (.aload_n 0, 1) := by decide +kernel
theorem dX7_init_21 : decode cX7_init 21 = .ok (.bipush 7, 2) := by decide +kernel
theorem dX7_init_23 : decode cX7_init 23 = .ok (.newarray .int, 2) := by decide +kernel
theorem dX7_init_25 : decode cX7_init 25 = .ok (.putfield 16, 3) := by decide +kernel
theorem dX7_init_28 : decode cX7_init 28 = .ok (.aload_n 0, 1) := by decide +kernel
theorem dX7_init_29 : decode cX7_init 29 = .ok (.bipush 7, 2) := by decide +kernel
theorem dX7_init_31 : decode cX7_init 31 = .ok (.newarray .int, 2) := by decide +kernel
theorem dX7_init_33 : decode cX7_init 33 = .ok (.putfield 19, 3) := by decide +kernel
theorem dX7_init_36 : decode cX7_init 36 = .ok (.aload_n 0, 1) := by decide +kernel
theorem dX7_init_37 : decode cX7_init 37 = .ok (.bipush 7, 2) := by decide +kernel
theorem dX7_init_39 : decode cX7_init 39 = .ok (.newarray .boolean, 2) := by decide +kernel
theorem dX7_init_41 : decode cX7_init 41 = .ok (.putfield 22, 3) := by decide +kernel
theorem dX7_init_44 : decode cX7_init 44 = .ok (.aload_n 0, 1) := by decide +kernel
theorem dX7_init_45 : decode cX7_init 45 = .ok (.bipush 7, 2) := by decide +kernel
theorem dX7_init_47 : decode cX7_init 47 = .ok (.newarray .int, 2) := by decide +kernel
theorem dX7_init_49 : decode cX7_init 49 = .ok (.putfield 26, 3) := by decide +kernel
theorem dX7_init_52 : decode cX7_init 52 = .ok (.aload_n 0, 1) := by decide +kernel
theorem dX7_init_53 : decode cX7_init 53 = .ok (.bipush 21, 2) := by decide +kernel
theorem dX7_init_55 : decode cX7_init 55 = .ok (.newarray .int, 2) := by decide +kernel
theorem dX7_init_57 : decode cX7_init 57 = .ok (.putfield 29, 3) := by decide +kernel
theorem dX7_init_60 : decode cX7_init 60 = .ok (.aload_n 0, 1) := by decide +kernel
theorem dX7_init_61 : decode cX7_init 61 = .ok (.bipush 7, 2) := by decide +kernel
theorem dX7_init_63 : decode cX7_init 63 = .ok (.newarray .int, 2) := by decide +kernel
theorem dX7_init_65 : decode cX7_init 65 = .ok (.putfield 32, 3) := by decide +kernel
theorem dX7_init_68 : decode cX7_init 68 = .ok (.aload_n 0, 1) := by decide +kernel
theorem dX7_init_69 : decode cX7_init 69 = .ok (.bipush 60, 2) := by decide +kernel
theorem dX7_init_71 : decode cX7_init 71 = .ok (.newarray .int, 2) := by decide +kernel
theorem dX7_init_73 : decode cX7_init 73 = .ok (.putfield 35, 3) := by decide +kernel
theorem dX7_init_76 : decode cX7_init 76 = .ok (.aload_n 0, 1) := by decide +kernel
theorem dX7_init_77 : decode cX7_init 77 = .ok (.bipush 60, 2) := by decide +kernel
theorem dX7_init_79 : decode cX7_init 79 = .ok (.newarray .int, 2) := by decide +kernel
theorem dX7_init_81 : decode cX7_init 81 = .ok (.putfield 38, 3) := by decide +kernel
theorem dX7_init_84 : decode cX7_init 84 = .ok (.aload_n 0, 1) := by decide +kernel
theorem dX7_init_85 : decode cX7_init 85 = .ok (.bipush 21, 2) := by decide +kernel
theorem dX7_init_87 : decode cX7_init 87 = .ok (.newarray .int, 2) := by decide +kernel
theorem dX7_init_89 : decode cX7_init 89 = .ok (.putfield 41, 3) := by decide +kernel
theorem dX7_init_92 : decode cX7_init 92 = .ok (.aload_n 0, 1) := by decide +kernel
theorem dX7_init_93 : decode cX7_init 93 = .ok (.bipush 7, 2) := by decide +kernel
theorem dX7_init_95 : decode cX7_init 95 = .ok (.newarray .int, 2) := by decide +kernel
theorem dX7_init_97 : decode cX7_init 97 = .ok (.putfield 44, 3) := by decide +kernel
theorem dX7_init_100 : decode cX7_init 100 = .ok (.aload_n 0, 1) := by decide +kernel
theorem dX7_init_101 : decode cX7_init 101 = .ok (.bipush 7, 2) := by decide +kernel
theorem dX7_init_103 : decode cX7_init 103 = .ok (.newarray .int, 2) := by decide +kernel
theorem dX7_init_105 : decode cX7_init 105 = .ok (.putfield 47, 3) := by decide +kernel
theorem dX7_init_108 : decode cX7_init 108 = .ok (.aload_n 0, 1) := by decide +kernel
theorem dX7_init_109 : decode cX7_init 109 = .ok (.bipush 7, 2) := by decide +kernel
theorem dX7_init_111 : decode cX7_init 111 = .ok (.newarray .int, 2) := by decide +kernel
theorem dX7_init_113 : decode cX7_init 113 = .ok (.putfield 50, 3) := by decide +kernel
theorem dX7_init_116 : decode cX7_init 116 = .ok (.aload_n 0, 1) := by decide +kernel
theorem dX7_init_117 : decode cX7_init 117 = .ok (.bipush 8, 2) := by decide +kernel
theorem dX7_init_119 : decode cX7_init 119 = .ok (.newarray .int, 2) := by decide +kernel
theorem dX7_init_121 : decode cX7_init 121 = .ok (.putfield 53, 3) := by decide +kernel
theorem dX7_init_124 : decode cX7_init 124 = .ok (.aload_n 0, 1) := by decide +kernel
theorem dX7_init_125 : decode cX7_init 125 = .ok (.bipush 8, 2) := by decide +kernel
theorem dX7_init_127 : decode cX7_init 127 = .ok (.newarray .int, 2) := by decide +kernel
theorem dX7_init_129 : decode cX7_init 129 = .ok (.putfield 56, 3) := by decide +kernel
theorem dX7_init_132 : decode cX7_init 132 = .ok (.aload_n 0, 1) := by decide +kernel
theorem dX7_init_133 : decode cX7_init 133 = .ok (.bipush 8, 2) := by decide +kernel
theorem dX7_init_135 : decode cX7_init 135 = .ok (.newarray .int, 2) := by decide +kernel
theorem dX7_init_137 : decode cX7_init 137 = .ok (.putfield 59, 3) := by decide +kernel
theorem dX7_init_140 : decode cX7_init 140 = .ok (.aload_n 0, 1) := by decide +kernel
theorem dX7_init_141 : decode cX7_init 141 = .ok (.bipush 8, 2) := by decide +kernel
theorem dX7_init_143 : decode cX7_init 143 = .ok (.newarray .int, 2) := by decide +kernel
theorem dX7_init_145 : decode cX7_init 145 = .ok (.putfield 62, 3) := by decide +kernel
theorem dX7_init_148 : decode cX7_init 148 = .ok (.aload_n 0, 1) := by decide +kernel
theorem dX7_init_149 : decode cX7_init 149 = .ok (.iconst 4, 1) := by decide +kernel
theorem dX7_init_150 : decode cX7_init 150 = .ok (.newarray .int, 2) := by decide +kernel
theorem dX7_init_152 : decode cX7_init 152 = .ok (.putfield 65, 3) := by decide +kernel
theorem dX7_init_155 : decode cX7_init 155 = .ok (.aload_n 0, 1) := by decide +kernel
theorem dX7_init_156 : decode cX7_init 156 = .ok (.iconst 4, 1) := by decide +kernel
theorem dX7_init_157 : decode cX7_init 157 = .ok (.newarray .int, 2) := by decide +kernel
theorem dX7_init_159 : decode cX7_init 159 = .ok (.putfield 68, 3) := by decide +kernel
theorem dX7_init_162 : decode cX7_init 162 = .ok (.aload_n 0, 1) := by decide +kernel
theorem dX7_init_163 : decode cX7_init 163 = .ok (.sipush 240, 3) := by decide +kernel
theorem dX7_init_166 : decode cX7_init 166 = .ok (.newarray .int, 2) := by decide +kernel
theorem dX7_init_168 : decode cX7_init 168 = .ok (.putfield 71, 3) := by decide +kernel
theorem dX7_init_171 : decode cX7_init 171 = .ok (.aload_n 0, 1) := by decide +kernel
theorem dX7_init_172 : decode cX7_init 172 = .ok (.bipush 60, 2) := by decide +kernel
theorem dX7_init_174 : decode cX7_init 174 = .ok (.newarray .int, 2) := by decide +kernel
theorem dX7_init_176 : decode cX7_init 176 = .ok (.putfield 74, 3) := by decide +kernel
theorem dX7_init_179 : decode cX7_init 179 = .ok (.iconst 0, 1) := by decide +kernel
theorem dX7_init_180 : decode cX7_init 180 = .ok (.istore_n 1, 1) := by decide +kernel
theorem dX7_init_181 : decode cX7_init 181 = .ok (.iload_n 1, 1) := by decide +kernel
theorem dX7_init_182 : decode cX7_init 182 = .ok (.iconst 4, 1) := by decide +kernel
theorem dX7_init_183 : decode cX7_init 183 = .ok (.if_icmp .ge 16, 3) := by decide +kernel
theorem dX7_init_186 : decode cX7_init 186 = .ok (.aload_n 0, 1) := by decide +kernel
theorem dX7_init_187 : decode cX7_init 187 = .ok (.getfield 65, 3) := by decide +kernel
theorem dX7_init_190 : decode cX7_init 190 = .ok (.iload_n 1, 1) := by decide +kernel
theorem dX7_init_191 : decode cX7_init 191 = .ok (.iconst (-1), 1) := by decide +kernel
theorem dX7_init_192 : decode cX7_init 192 = .ok (.iastore, 1) := by decide +kernel
theorem dX7_init_193 : decode cX7_init 193 = .ok (.iinc 1 1, 3) := by decide +kernel
theorem dX7_init_196 : decode cX7_init 196 = .ok (.goto (-15), 3) := by decide +kernel
theorem dX7_init_199 : decode cX7_init 199 = .ok (.return_, 1) := by decide +kernel
theorem dX7_in_0 : decode cX7_in 0 = .ok (.lload_n 0, 1) := by decide +kernel
theorem dX7_in_1 : decode cX7_in 1 = .ok (.lload_n 2, 1) := by decide +kernel
theorem dX7_in_2 : decode cX7_in 2 = .ok (.lcmp, 1) := by decide +kernel
theorem dX7_in_3 : decode cX7_in 3 = .ok (.ifCond .lt 14, 3) := by decide +kernel
theorem dX7_in_6 : decode cX7_in 6 = .ok (.lload_n 0, 1) := by decide +kernel
theorem dX7_in_7 : decode cX7_in 7 = .ok (.lload 4, 2) := by decide +kernel
theorem dX7_in_9 : decode cX7_in 9 = .ok (.lcmp, 1) := by decide +kernel
theorem dX7_in_10 : decode cX7_in 10 = .ok (.ifCond .gt 7, 3) := by decide +kernel
theorem dX7_in_13 : decode cX7_in 13 = .ok (.iconst 1, 1) := by decide +kernel
theorem dX7_in_14 : decode cX7_in 14 = .ok (.goto 4, 3) := by decide +kernel
theorem dX7_in_17 : decode cX7_in 17 = .ok (.iconst 0, 1) := by decide +kernel
theorem dX7_in_18 : decode cX7_in 18 = .ok (.ireturn, 1) := by decide +kernel
theorem dX7_nothing_0 : decode cX7_nothing 0 = .ok (.ldc2_w 77, 3) := by decide +kernel
theorem dX7_nothing_3 : decode cX7_nothing 3 = .ok (.lreturn, 1) := by decide +kernel
theorem dX7_off_0 : decode cX7_off 0 = .ok (.iload_n 0, 1) := by decide +kernel
theorem dX7_off_1 : decode cX7_off 1 = .ok (.iload_n 1, 1) := by decide +kernel
theorem dX7_off_2 : decode cX7_off 2 = .ok (.if_icmp .ge 9, 3) := by decide +kernel
theorem dX7_off_5 : decode cX7_off 5 = .ok (.iload_n 1, 1) := by decide +kernel
theorem dX7_off_6 : decode cX7_off 6 = .ok (.iload_n 0, 1) := by decide +kernel
theorem dX7_off_7 : decode cX7_off 7 = .ok (.isub, 1) := by decide +kernel
theorem dX7_off_8 : decode cX7_off 8 = .ok (.goto 6, 3) := by decide +kernel
theorem dX7_off_11 : decode cX7_off 11 = .ok (.iload_n 0, 1) := by decide +kernel
theorem dX7_off_12 : decode cX7_off 12 = .ok (.iload_n 1, 1) := by decide +kernel
theorem dX7_off_13 : decode cX7_off 13 = .ok (.isub, 1) := by decide +kernel
theorem dX7_off_14 : decode cX7_off 14 = .ok (.ireturn, 1) := by decide +kernel
theorem dX7_lesser_0 : decode cX7_lesser 0 = .ok (.iload_n 0, 1) := by decide +kernel
theorem dX7_lesser_1 : decode cX7_lesser 1 = .ok (.iload_n 1, 1) := by decide +kernel
theorem dX7_lesser_2 : decode cX7_lesser 2 = .ok (.if_icmp .ge 7, 3) := by decide +kernel
theorem dX7_lesser_5 : decode cX7_lesser 5 = .ok (.iload_n 0, 1) := by decide +kernel
theorem dX7_lesser_6 : decode cX7_lesser 6 = .ok (.goto 4, 3) := by decide +kernel
theorem dX7_lesser_9 : decode cX7_lesser 9 = .ok (.iload_n 1, 1) := by decide +kernel
theorem dX7_lesser_10 : decode cX7_lesser 10 = .ok (.ireturn, 1) := by decide +kernel
theorem dX7_told_0 : decode cX7_told 0 = .ok (.lload_n 0, 1) := by decide +kernel
theorem dX7_told_1 : decode cX7_told 1 = .ok (.lstore 5, 2) := by decide +kernel
theorem dX7_told_3 : decode cX7_told 3 = .ok (.lload_n 2, 1) := by decide +kernel
theorem dX7_told_4 : decode cX7_told 4 = .ok (.lstore 7, 2) := by decide +kernel
theorem dX7_told_6 : decode cX7_told 6 = .ok (.lload 7, 2) := by decide +kernel
theorem dX7_told_8 : decode cX7_told 8 = .ok (.lconst 0, 1) := by decide +kernel
theorem dX7_told_9 : decode cX7_told 9 = .ok (.lcmp, 1) := by decide +kernel
theorem dX7_told_10 : decode cX7_told 10 = .ok (.ifCond .eq 21, 3) := by decide +kernel
theorem dX7_told_13 : decode cX7_told 13 = .ok (.lload 5, 2) := by decide +kernel
theorem dX7_told_15 : decode cX7_told 15 = .ok (.lload 7, 2) := by decide +kernel
theorem dX7_told_17 : decode cX7_told 17 = .ok (.lrem, 1) := by decide +kernel
theorem dX7_told_18 : decode cX7_told 18 = .ok (.lstore 9, 2) := by decide +kernel
theorem dX7_told_20 : decode cX7_told 20 = .ok (.lload 7, 2) := by decide +kernel
theorem dX7_told_22 : decode cX7_told 22 = .ok (.lstore 5, 2) := by decide +kernel
theorem dX7_told_24 : decode cX7_told 24 = .ok (.lload 9, 2) := by decide +kernel
theorem dX7_told_26 : decode cX7_told 26 = .ok (.lstore 7, 2) := by decide +kernel
theorem dX7_told_28 : decode cX7_told 28 = .ok (.goto (-22), 3) := by decide +kernel
theorem dX7_told_31 : decode cX7_told 31 = .ok (.iload 4, 2) := by decide +kernel
theorem dX7_told_33 : decode cX7_told 33 = .ok (.ifCond .ne 7, 3) := by decide +kernel
theorem dX7_told_36 : decode cX7_told 36 = .ok (.lload_n 0, 1) := by decide +kernel
theorem dX7_told_37 : decode cX7_told 37 = .ok (.goto 4, 3) := by decide +kernel
theorem dX7_told_40 : decode cX7_told 40 = .ok (.lload_n 2, 1) := by decide +kernel
theorem dX7_told_41 : decode cX7_told 41 = .ok (.lload 5, 2) := by decide +kernel
theorem dX7_told_43 : decode cX7_told 43 = .ok (.ldiv, 1) := by decide +kernel
theorem dX7_told_44 : decode cX7_told 44 = .ok (.lreturn, 1) := by decide +kernel
theorem dX7_refused_0 : decode cX7_refused 0 = .ok (.aload_n 0, 1) := by decide +kernel
theorem dX7_refused_1 : decode cX7_refused 1 = .ok (.iconst 0, 1) := by decide +kernel
theorem dX7_refused_2 : decode cX7_refused 2 = .ok (.putfield 79, 3) := by decide +kernel
theorem dX7_refused_5 : decode cX7_refused 5 = .ok (.iload_n 1, 1) := by decide +kernel
theorem dX7_refused_6 : decode cX7_refused 6 = .ok (.ireturn, 1) := by decide +kernel
theorem dX7_failed_0 : decode cX7_failed 0 = .ok (.aload_n 0, 1) := by decide +kernel
theorem dX7_failed_1 : decode cX7_failed 1 = .ok (.iload_n 1, 1) := by decide +kernel
theorem dX7_failed_2 : decode cX7_failed 2 = .ok (.putfield 79, 3) := by decide +kernel
theorem dX7_failed_5 : decode cX7_failed 5 = .ok (.bipush (-10), 2) := by decide +kernel
theorem dX7_failed_7 : decode cX7_failed 7 = .ok (.iload_n 1, 1) := by decide +kernel
theorem dX7_failed_8 : decode cX7_failed 8 = .ok (.isub, 1) := by decide +kernel
theorem dX7_failed_9 : decode cX7_failed 9 = .ok (.ireturn, 1) := by decide +kernel
theorem dX7_failedLong_0 : decode cX7_failedLong 0 = .ok (.aload_n 0, 1) := by decide +kernel
theorem dX7_failedLong_1 : decode cX7_failedLong 1 = .ok (.iload_n 1, 1) := by decide +kernel
theorem dX7_failedLong_2 : decode cX7_failedLong 2 = .ok (.putfield 79, 3) := by decide +kernel
theorem dX7_failedLong_5 : decode cX7_failedLong 5 = .ok (.invokestatic 83, 3) := by decide +kernel
theorem dX7_failedLong_8 : decode cX7_failedLong 8 = .ok (.lreturn, 1) := by decide +kernel
theorem dX7_barred_0 : decode cX7_barred 0 = .ok (.iload_n 1, 1) := by decide +kernel
theorem dX7_barred_1 : decode cX7_barred 1 = .ok (.invokestatic 87, 3) := by decide +kernel
theorem dX7_barred_4 : decode cX7_barred 4 = .ok (.ifCond .eq 9, 3) := by decide +kernel
theorem dX7_barred_7 : decode cX7_barred 7 = .ok (.aload_n 0, 1) := by decide +kernel
theorem dX7_barred_8 : decode cX7_barred 8 = .ok (.iconst (-1), 1) := by decide +kernel
theorem dX7_barred_9 : decode cX7_barred 9 = .ok (.invokevirtual 91, 3) := by decide +kernel
theorem dX7_barred_12 : decode cX7_barred 12 = .ok (.ireturn, 1) := by decide +kernel
theorem dX7_barred_13 : decode cX7_barred 13 = .ok (.iload_n 2, 1) := by decide +kernel
theorem dX7_barred_14 : decode cX7_barred 14 = .ok (.i2l, 1) := by decide +kernel
theorem dX7_barred_15 : decode cX7_barred 15 = .ok (.lconst 0, 1) := by decide +kernel
theorem dX7_barred_16 : decode cX7_barred 16 = .ok (.ldc2_w 95, 3) := by decide +kernel
theorem dX7_barred_19 : decode cX7_barred 19 = .ok (.invokestatic 97, 3) := by decide +kernel
theorem dX7_barred_22 : decode cX7_barred 22 = .ok (.ifCond .eq 8, 3) := by decide +kernel
theorem dX7_barred_25 : decode cX7_barred 25 = .ok (.iload 6, 2) := by decide +kernel
theorem dX7_barred_27 : decode cX7_barred 27 = .ok (.ifCond .ne 10, 3) := by decide +kernel
theorem dX7_barred_30 : decode cX7_barred 30 = .ok (.aload_n 0, 1) := by decide +kernel
theorem dX7_barred_31 : decode cX7_barred 31 = .ok (.bipush (-2), 2) := by decide +kernel
theorem dX7_barred_33 : decode cX7_barred 33 = .ok (.invokevirtual 91, 3) := by decide +kernel
theorem dX7_barred_36 : decode cX7_barred 36 = .ok (.ireturn, 1) := by decide +kernel
theorem dX7_barred_37 : decode cX7_barred 37 = .ok (.aload_n 0, 1) := by decide +kernel
theorem dX7_barred_38 : decode cX7_barred 38 = .ok (.getfield 65, 3) := by decide +kernel
theorem dX7_barred_41 : decode cX7_barred 41 = .ok (.iload_n 1, 1) := by decide +kernel
theorem dX7_barred_42 : decode cX7_barred 42 = .ok (.iaload, 1) := by decide +kernel
theorem dX7_barred_43 : decode cX7_barred 43 = .ok (.ifCond .lt 19, 3) := by decide +kernel
theorem dX7_barred_46 : decode cX7_barred 46 = .ok (.aload_n 0, 1) := by decide +kernel
theorem dX7_barred_47 : decode cX7_barred 47 = .ok (.getfield 68, 3) := by decide +kernel
theorem dX7_barred_50 : decode cX7_barred 50 = .ok (.iload_n 1, 1) := by decide +kernel
theorem dX7_barred_51 : decode cX7_barred 51 = .ok (.iaload, 1) := by decide +kernel
theorem dX7_barred_52 : decode cX7_barred 52 = .ok (.iload_n 2, 1) := by decide +kernel
theorem dX7_barred_53 : decode cX7_barred 53 = .ok (.if_icmp .eq 9, 3) := by decide +kernel
theorem dX7_barred_56 : decode cX7_barred 56 = .ok (.aload_n 0, 1) := by decide +kernel
theorem dX7_barred_57 : decode cX7_barred 57 = .ok (.iconst 2, 1) := by decide +kernel
theorem dX7_barred_58 : decode cX7_barred 58 = .ok (.invokevirtual 101, 3) := by decide +kernel
theorem dX7_barred_61 : decode cX7_barred 61 = .ok (.ireturn, 1) := by decide +kernel
theorem dX7_barred_62 : decode cX7_barred 62 = .ok (.aload_n 0, 1) := by decide +kernel
theorem dX7_barred_63 : decode cX7_barred 63 = .ok (.getfield 65, 3) := by decide +kernel
theorem dX7_barred_66 : decode cX7_barred 66 = .ok (.iload_n 1, 1) := by decide +kernel
theorem dX7_barred_67 : decode cX7_barred 67 = .ok (.iaload, 1) := by decide +kernel
theorem dX7_barred_68 : decode cX7_barred 68 = .ok (.ifCond .ge 9, 3) := by decide +kernel
theorem dX7_barred_71 : decode cX7_barred 71 = .ok (.aload_n 0, 1) := by decide +kernel
theorem dX7_barred_72 : decode cX7_barred 72 = .ok (.iconst 1, 1) := by decide +kernel
theorem dX7_barred_73 : decode cX7_barred 73 = .ok (.invokevirtual 101, 3) := by decide +kernel
theorem dX7_barred_76 : decode cX7_barred 76 = .ok (.ireturn, 1) := by decide +kernel
theorem dX7_barred_77 : decode cX7_barred 77 = .ok (.lload 4, 2) := by decide +kernel
theorem dX7_barred_79 : decode cX7_barred 79 = .ok (.lconst 0, 1) := by decide +kernel
theorem dX7_barred_80 : decode cX7_barred 80 = .ok (.lcmp, 1) := by decide +kernel
theorem dX7_barred_81 : decode cX7_barred 81 = .ok (.ifCond .ge 9, 3) := by decide +kernel
theorem dX7_barred_84 : decode cX7_barred 84 = .ok (.aload_n 0, 1) := by decide +kernel
theorem dX7_barred_85 : decode cX7_barred 85 = .ok (.iconst 4, 1) := by decide +kernel
theorem dX7_barred_86 : decode cX7_barred 86 = .ok (.invokevirtual 101, 3) := by decide +kernel
theorem dX7_barred_89 : decode cX7_barred 89 = .ok (.ireturn, 1) := by decide +kernel
theorem dX7_barred_90 : decode cX7_barred 90 = .ok (.iload_n 3, 1) := by decide +kernel
theorem dX7_barred_91 : decode cX7_barred 91 = .ok (.lload 4, 2) := by decide +kernel
theorem dX7_barred_93 : decode cX7_barred 93 = .ok (.aload_n 0, 1) := by decide +kernel
theorem dX7_barred_94 : decode cX7_barred 94 = .ok (.getfield 65, 3) := by decide +kernel
theorem dX7_barred_97 : decode cX7_barred 97 = .ok (.iload_n 1, 1) := by decide +kernel
theorem dX7_barred_98 : decode cX7_barred 98 = .ok (.iaload, 1) := by decide +kernel
theorem dX7_barred_99 : decode cX7_barred 99 = .ok (.invokestatic 104, 3) := by decide +kernel
theorem dX7_barred_102 : decode cX7_barred 102 = .ok (.ifCond .eq 11, 3) := by decide +kernel
theorem dX7_barred_105 : decode cX7_barred 105 = .ok (.aload_n 0, 1) := by decide +kernel
theorem dX7_barred_106 : decode cX7_barred 106 = .ok (.iconst 3, 1) := by decide +kernel
theorem dX7_barred_107 : decode cX7_barred 107 = .ok (.invokevirtual 101, 3) := by decide +kernel
theorem dX7_barred_110 : decode cX7_barred 110 = .ok (.goto 4, 3) := by decide +kernel
theorem dX7_barred_113 : decode cX7_barred 113 = .ok (.iconst 0, 1) := by decide +kernel
theorem dX7_barred_114 : decode cX7_barred 114 = .ok (.ireturn, 1) := by decide +kernel
theorem dX7_noOne_0 : decode cX7_noOne 0 = .ok (.iload_n 1, 1) := by decide +kernel
theorem dX7_noOne_1 : decode cX7_noOne 1 = .ok (.i2l, 1) := by decide +kernel
theorem dX7_noOne_2 : decode cX7_noOne 2 = .ok (.lconst 0, 1) := by decide +kernel
theorem dX7_noOne_3 : decode cX7_noOne 3 = .ok (.aload_n 0, 1) := by decide +kernel
theorem dX7_noOne_4 : decode cX7_noOne 4 = .ok (.getfield 108, 3) := by decide +kernel
theorem dX7_noOne_7 : decode cX7_noOne 7 = .ok (.i2l, 1) := by decide +kernel
theorem dX7_noOne_8 : decode cX7_noOne 8 = .ok (.lconst 1, 1) := by decide +kernel
theorem dX7_noOne_9 : decode cX7_noOne 9 = .ok (.lsub, 1) := by decide +kernel
theorem dX7_noOne_10 : decode cX7_noOne 10 = .ok (.invokestatic 97, 3) := by decide +kernel
theorem dX7_noOne_13 : decode cX7_noOne 13 = .ok (.ifCond .ne 7, 3) := by decide +kernel
theorem dX7_noOne_16 : decode cX7_noOne 16 = .ok (.iconst 1, 1) := by decide +kernel
theorem dX7_noOne_17 : decode cX7_noOne 17 = .ok (.goto 4, 3) := by decide +kernel
theorem dX7_noOne_20 : decode cX7_noOne 20 = .ok (.iconst 0, 1) := by decide +kernel
theorem dX7_noOne_21 : decode cX7_noOne 21 = .ok (.ireturn, 1) := by decide +kernel
theorem dX7_isDawn_0 : decode cX7_isDawn 0 = .ok (.iload_n 0, 1) := by decide +kernel
theorem dX7_isDawn_1 : decode cX7_isDawn 1 = .ok (.i2l, 1) := by decide +kernel
theorem dX7_isDawn_2 : decode cX7_isDawn 2 = .ok (.lconst 0, 1) := by decide +kernel
theorem dX7_isDawn_3 : decode cX7_isDawn 3 = .ok (.ldc2_w 111, 3) := by decide +kernel
theorem dX7_isDawn_6 : decode cX7_isDawn 6 = .ok (.invokestatic 97, 3) := by decide +kernel
theorem dX7_isDawn_9 : decode cX7_isDawn 9 = .ok (.ireturn, 1) := by decide +kernel
theorem dX7_codeAt_0 : decode cX7_codeAt 0 = .ok (.aload_n 0, 1) := by decide +kernel
theorem dX7_codeAt_1 : decode cX7_codeAt 1 = .ok (.getfield 113, 3) := by decide +kernel
theorem dX7_codeAt_4 : decode cX7_codeAt 4 = .ok (.iload_n 2, 1) := by decide +kernel
theorem dX7_codeAt_5 : decode cX7_codeAt 5 = .ok (.if_icmp .ge 17, 3) := by decide +kernel
theorem dX7_codeAt_8 : decode cX7_codeAt 8 = .ok (.aload_n 0, 1) := by decide +kernel
theorem dX7_codeAt_9 : decode cX7_codeAt 9 = .ok (.getfield 71, 3) := by decide +kernel
theorem dX7_codeAt_12 : decode cX7_codeAt 12 = .ok (.iload_n 1, 1) := by decide +kernel
theorem dX7_codeAt_13 : decode cX7_codeAt 13 = .ok (.aload_n 0, 1) := by decide +kernel
theorem dX7_codeAt_14 : decode cX7_codeAt 14 = .ok (.getfield 113, 3) := by decide +kernel
theorem dX7_codeAt_17 : decode cX7_codeAt 17 = .ok (.iadd, 1) := by decide +kernel
theorem dX7_codeAt_18 : decode cX7_codeAt 18 = .ok (.iaload, 1) := by decide +kernel
theorem dX7_codeAt_19 : decode cX7_codeAt 19 = .ok (.goto 5, 3) := by decide +kernel
theorem dX7_codeAt_22 : decode cX7_codeAt 22 = .ok (.bipush (-9), 2) := by decide +kernel
theorem dX7_codeAt_24 : decode cX7_codeAt 24 = .ok (.ireturn, 1) := by decide +kernel
theorem dX7_figure_0 : decode cX7_figure 0 = .ok (.aload_n 0, 1) := by decide +kernel
theorem dX7_figure_1 : decode cX7_figure 1 = .ok (.iload_n 1, 1) := by decide +kernel
theorem dX7_figure_2 : decode cX7_figure 2 = .ok (.iload_n 2, 1) := by decide +kernel
theorem dX7_figure_3 : decode cX7_figure 3 = .ok (.invokevirtual 116, 3) := by decide +kernel
theorem dX7_figure_6 : decode cX7_figure 6 = .ok (.bipush 48, 2) := by decide +kernel
theorem dX7_figure_8 : decode cX7_figure 8 = .ok (.isub, 1) := by decide +kernel
theorem dX7_figure_9 : decode cX7_figure 9 = .ok (.istore 5, 2) := by decide +kernel
theorem dX7_figure_11 : decode cX7_figure 11 = .ok (.iload 5, 2) := by decide +kernel
theorem dX7_figure_13 : decode cX7_figure 13 = .ok (.i2l, 1) := by decide +kernel
theorem dX7_figure_14 : decode cX7_figure 14 = .ok (.iload_n 3, 1) := by decide +kernel
theorem dX7_figure_15 : decode cX7_figure 15 = .ok (.i2l, 1) := by decide +kernel
theorem dX7_figure_16 : decode cX7_figure 16 = .ok (.iload 4, 2) := by decide +kernel
theorem dX7_figure_18 : decode cX7_figure 18 = .ok (.i2l, 1) := by decide +kernel
theorem dX7_figure_19 : decode cX7_figure 19 = .ok (.invokestatic 97, 3) := by decide +kernel
theorem dX7_figure_22 : decode cX7_figure 22 = .ok (.istore 6, 2) := by decide +kernel
theorem dX7_figure_24 : decode cX7_figure 24 = .ok (.aload_n 0, 1) := by decide +kernel
theorem dX7_figure_25 : decode cX7_figure 25 = .ok (.dup, 1) := by decide +kernel
theorem dX7_figure_26 : decode cX7_figure 26 = .ok (.getfield 113, 3) := by decide +kernel
theorem dX7_figure_29 : decode cX7_figure 29 = .ok (.iload 6, 2) := by decide +kernel
theorem dX7_figure_31 : decode cX7_figure 31 = .ok (.ifCond .eq 7, 3) := by decide +kernel
theorem dX7_figure_34 : decode cX7_figure 34 = .ok (.iconst 1, 1) := by decide +kernel
theorem dX7_figure_35 : decode cX7_figure 35 = .ok (.goto 4, 3) := by decide +kernel
theorem dX7_figure_38 : decode cX7_figure 38 = .ok (.iconst 0, 1) := by decide +kernel
theorem dX7_figure_39 : decode cX7_figure 39 = .ok (.iadd, 1) := by decide +kernel
theorem dX7_figure_40 : decode cX7_figure 40 = .ok (.putfield 113, 3) := by decide +kernel
theorem dX7_figure_43 : decode cX7_figure 43 = .ok (.iload 6, 2) := by decide +kernel
theorem dX7_figure_45 : decode cX7_figure 45 = .ok (.ifCond .eq 8, 3) := by decide +kernel
theorem dX7_figure_48 : decode cX7_figure 48 = .ok (.iload 5, 2) := by decide +kernel
theorem dX7_figure_50 : decode cX7_figure 50 = .ok (.goto 5, 3) := by decide +kernel
theorem dX7_figure_53 : decode cX7_figure 53 = .ok (.bipush (-9), 2) := by decide +kernel
theorem dX7_figure_55 : decode cX7_figure 55 = .ok (.ireturn, 1) := by decide +kernel
theorem dX7_readsOne_0 : decode cX7_readsOne 0 = .ok (.aload_n 0, 1) := by decide +kernel
theorem dX7_readsOne_1 : decode cX7_readsOne 1 = .ok (.getfield 120, 3) := by decide +kernel
theorem dX7_readsOne_4 : decode cX7_readsOne 4 = .ok (.ifCond .le 35, 3) := by decide +kernel
theorem dX7_readsOne_7 : decode cX7_readsOne 7 = .ok (.aload_n 0, 1) := by decide +kernel
theorem dX7_readsOne_8 : decode cX7_readsOne 8 = .ok (.getfield 120, 3) := by decide +kernel
theorem dX7_readsOne_11 : decode cX7_readsOne 11 = .ok (.bipush 7, 2) := by decide +kernel
theorem dX7_readsOne_13 : decode cX7_readsOne 13 = .ok (.if_icmp .eq 14, 3) := by decide +kernel
theorem dX7_readsOne_16 : decode cX7_readsOne 16 = .ok (.aload_n 0, 1) := by decide +kernel
theorem dX7_readsOne_17 : decode cX7_readsOne 17 = .ok (.iload_n 1, 1) := by decide +kernel
theorem dX7_readsOne_18 : decode cX7_readsOne 18 = .ok (.iload_n 2, 1) := by decide +kernel
theorem dX7_readsOne_19 : decode cX7_readsOne 19 = .ok (.invokevirtual 116, 3) := by decide +kernel
theorem dX7_readsOne_22 : decode cX7_readsOne 22 = .ok (.bipush 59, 2) := by decide +kernel
theorem dX7_readsOne_24 : decode cX7_readsOne 24 = .ok (.if_icmp .eq 5, 3) := by decide +kernel
theorem dX7_readsOne_27 : decode cX7_readsOne 27 = .ok (.iconst 0, 1) := by decide +kernel
theorem dX7_readsOne_28 : decode cX7_readsOne 28 = .ok (.ireturn, 1) := by decide +kernel
theorem dX7_readsOne_29 : decode cX7_readsOne 29 = .ok (.aload_n 0, 1) := by decide +kernel
theorem dX7_readsOne_30 : decode cX7_readsOne 30 = .ok (.dup, 1) := by decide +kernel
theorem dX7_readsOne_31 : decode cX7_readsOne 31 = .ok (.getfield 113, 3) := by decide +kernel
theorem dX7_readsOne_34 : decode cX7_readsOne 34 = .ok (.iconst 1, 1) := by decide +kernel
theorem dX7_readsOne_35 : decode cX7_readsOne 35 = .ok (.iadd, 1) := by decide +kernel
theorem dX7_readsOne_36 : decode cX7_readsOne 36 = .ok (.putfield 113, 3) := by decide +kernel
theorem dX7_readsOne_39 : decode cX7_readsOne 39 = .ok (.aload_n 0, 1) := by decide +kernel
theorem dX7_readsOne_40 : decode cX7_readsOne 40 = .ok (.iload_n 1, 1) := by decide +kernel
theorem dX7_readsOne_41 : decode cX7_readsOne 41 = .ok (.iload_n 2, 1) := by decide +kernel
theorem dX7_readsOne_42 : decode cX7_readsOne 42 = .ok (.invokevirtual 116, 3) := by decide +kernel
theorem dX7_readsOne_45 : decode cX7_readsOne 45 = .ok (.istore_n 3, 1) := by decide +kernel
theorem dX7_readsOne_46 : decode cX7_readsOne 46 = .ok (.iload_n 3, 1) := by decide +kernel
theorem dX7_readsOne_47 : decode cX7_readsOne 47 = .ok (.bipush 115, 2) := by decide +kernel
theorem dX7_readsOne_49 : decode cX7_readsOne 49 = .ok (.if_icmp .eq 17, 3) := by decide +kernel
theorem dX7_readsOne_52 : decode cX7_readsOne 52 = .ok (.iload_n 3, 1) := by decide +kernel
theorem dX7_readsOne_53 : decode cX7_readsOne 53 = .ok (.bipush 98, 2) := by decide +kernel
theorem dX7_readsOne_55 : decode cX7_readsOne 55 = .ok (.if_icmp .eq 11, 3) := by decide +kernel
theorem dX7_readsOne_58 : decode cX7_readsOne 58 = .ok (.iload_n 3, 1) := by decide +kernel
theorem dX7_readsOne_59 : decode cX7_readsOne 59 = .ok (.bipush 109, 2) := by decide +kernel
theorem dX7_readsOne_61 : decode cX7_readsOne 61 = .ok (.if_icmp .eq 5, 3) := by decide +kernel
theorem dX7_readsOne_64 : decode cX7_readsOne 64 = .ok (.iconst 0, 1) := by decide +kernel
theorem dX7_readsOne_65 : decode cX7_readsOne 65 = .ok (.ireturn, 1) := by decide +kernel
theorem dX7_readsOne_66 : decode cX7_readsOne 66 = .ok (.aload_n 0, 1) := by decide +kernel
theorem dX7_readsOne_67 : decode cX7_readsOne 67 = .ok (.dup, 1) := by decide +kernel
theorem dX7_readsOne_68 : decode cX7_readsOne 68 = .ok (.getfield 113, 3) := by decide +kernel
theorem dX7_readsOne_71 : decode cX7_readsOne 71 = .ok (.iconst 1, 1) := by decide +kernel
theorem dX7_readsOne_72 : decode cX7_readsOne 72 = .ok (.iadd, 1) := by decide +kernel
theorem dX7_readsOne_73 : decode cX7_readsOne 73 = .ok (.putfield 113, 3) := by decide +kernel
theorem dX7_readsOne_76 : decode cX7_readsOne 76 = .ok (.iconst 0, 1) := by decide +kernel
theorem dX7_readsOne_77 : decode cX7_readsOne 77 = .ok (.istore 4, 2) := by decide +kernel
theorem dX7_readsOne_79 : decode cX7_readsOne 79 = .ok (.iload 4, 2) := by decide +kernel
theorem dX7_readsOne_81 : decode cX7_readsOne 81 = .ok (.iconst 3, 1) := by decide +kernel
theorem dX7_readsOne_82 : decode cX7_readsOne 82 = .ok (.if_icmp .ge 46, 3) := by decide +kernel
theorem dX7_readsOne_85 : decode cX7_readsOne 85 = .ok (.aload_n 0, 1) := by decide +kernel
theorem dX7_readsOne_86 : decode cX7_readsOne 86 = .ok (.iload_n 1, 1) := by decide +kernel
theorem dX7_readsOne_87 : decode cX7_readsOne 87 = .ok (.iload_n 2, 1) := by decide +kernel
theorem dX7_readsOne_88 : decode cX7_readsOne 88 = .ok (.iconst 1, 1) := by decide +kernel
theorem dX7_readsOne_89 : decode cX7_readsOne 89 = .ok (.bipush 9, 2) := by decide +kernel
theorem dX7_readsOne_91 : decode cX7_readsOne 91 = .ok (.invokevirtual 123, 3) := by decide +kernel
theorem dX7_readsOne_94 : decode cX7_readsOne 94 = .ok (.istore 5, 2) := by decide +kernel
theorem dX7_readsOne_96 : decode cX7_readsOne 96 = .ok (.iload 5, 2) := by decide +kernel
theorem dX7_readsOne_98 : decode cX7_readsOne 98 = .ok (.ifCond .ge 5, 3) := by decide +kernel
theorem dX7_readsOne_101 : decode cX7_readsOne 101 = .ok (.iconst 0, 1) := by decide +kernel
theorem dX7_readsOne_102 : decode cX7_readsOne 102 = .ok (.ireturn, 1) := by decide +kernel
theorem dX7_readsOne_103 : decode cX7_readsOne 103 = .ok (.aload_n 0, 1) := by decide +kernel
theorem dX7_readsOne_104 : decode cX7_readsOne 104 = .ok (.getfield 29, 3) := by decide +kernel
theorem dX7_readsOne_107 : decode cX7_readsOne 107 = .ok (.iconst 3, 1) := by decide +kernel
theorem dX7_readsOne_108 : decode cX7_readsOne 108 = .ok (.aload_n 0, 1) := by decide +kernel
theorem dX7_readsOne_109 : decode cX7_readsOne 109 = .ok (.getfield 120, 3) := by decide +kernel
theorem dX7_readsOne_112 : decode cX7_readsOne 112 = .ok (.imul, 1) := by decide +kernel
theorem dX7_readsOne_113 : decode cX7_readsOne 113 = .ok (.iload 4, 2) := by decide +kernel
theorem dX7_readsOne_115 : decode cX7_readsOne 115 = .ok (.iadd, 1) := by decide +kernel
theorem dX7_readsOne_116 : decode cX7_readsOne 116 = .ok (.bipush 10, 2) := by decide +kernel
theorem dX7_readsOne_118 : decode cX7_readsOne 118 = .ok (.iload 5, 2) := by decide +kernel
theorem dX7_readsOne_120 : decode cX7_readsOne 120 = .ok (.imul, 1) := by decide +kernel
theorem dX7_readsOne_121 : decode cX7_readsOne 121 = .ok (.iastore, 1) := by decide +kernel
theorem dX7_readsOne_122 : decode cX7_readsOne 122 = .ok (.iinc 4 1, 3) := by decide +kernel
theorem dX7_readsOne_125 : decode cX7_readsOne 125 = .ok (.goto (-46), 3) := by decide +kernel
theorem dX7_readsOne_128 : decode cX7_readsOne 128 = .ok (.aload_n 0, 1) := by decide +kernel
theorem dX7_readsOne_129 : decode cX7_readsOne 129 = .ok (.iload_n 1, 1) := by decide +kernel
theorem dX7_readsOne_130 : decode cX7_readsOne 130 = .ok (.iload_n 2, 1) := by decide +kernel
theorem dX7_readsOne_131 : decode cX7_readsOne 131 = .ok (.iconst 0, 1) := by decide +kernel
theorem dX7_readsOne_132 : decode cX7_readsOne 132 = .ok (.iconst 3, 1) := by decide +kernel
theorem dX7_readsOne_133 : decode cX7_readsOne 133 = .ok (.invokevirtual 123, 3) := by decide +kernel
theorem dX7_readsOne_136 : decode cX7_readsOne 136 = .ok (.istore 4, 2) := by decide +kernel
theorem dX7_readsOne_138 : decode cX7_readsOne 138 = .ok (.iload 4, 2) := by decide +kernel
theorem dX7_readsOne_140 : decode cX7_readsOne 140 = .ok (.ifCond .ge 5, 3) := by decide +kernel
theorem dX7_readsOne_143 : decode cX7_readsOne 143 = .ok (.iconst 0, 1) := by decide +kernel
theorem dX7_readsOne_144 : decode cX7_readsOne 144 = .ok (.ireturn, 1) := by decide +kernel
theorem dX7_readsOne_145 : decode cX7_readsOne 145 = .ok (.aload_n 0, 1) := by decide +kernel
theorem dX7_readsOne_146 : decode cX7_readsOne 146 = .ok (.getfield 32, 3) := by decide +kernel
theorem dX7_readsOne_149 : decode cX7_readsOne 149 = .ok (.aload_n 0, 1) := by decide +kernel
theorem dX7_readsOne_150 : decode cX7_readsOne 150 = .ok (.getfield 120, 3) := by decide +kernel
theorem dX7_readsOne_153 : decode cX7_readsOne 153 = .ok (.iload 4, 2) := by decide +kernel
theorem dX7_readsOne_155 : decode cX7_readsOne 155 = .ok (.iastore, 1) := by decide +kernel
theorem dX7_readsOne_156 : decode cX7_readsOne 156 = .ok (.aload_n 0, 1) := by decide +kernel
theorem dX7_readsOne_157 : decode cX7_readsOne 157 = .ok (.getfield 26, 3) := by decide +kernel
theorem dX7_readsOne_160 : decode cX7_readsOne 160 = .ok (.aload_n 0, 1) := by decide +kernel
theorem dX7_readsOne_161 : decode cX7_readsOne 161 = .ok (.getfield 120, 3) := by decide +kernel
theorem dX7_readsOne_164 : decode cX7_readsOne 164 = .ok (.iload_n 3, 1) := by decide +kernel
theorem dX7_readsOne_165 : decode cX7_readsOne 165 = .ok (.bipush 115, 2) := by decide +kernel
theorem dX7_readsOne_167 : decode cX7_readsOne 167 = .ok (.if_icmp .ne 7, 3) := by decide +kernel
theorem dX7_readsOne_170 : decode cX7_readsOne 170 = .ok (.iconst 0, 1) := by decide +kernel
theorem dX7_readsOne_171 : decode cX7_readsOne 171 = .ok (.goto 14, 3) := by decide +kernel
theorem dX7_readsOne_174 : decode cX7_readsOne 174 = .ok (.iload_n 3, 1) := by decide +kernel
theorem dX7_readsOne_175 : decode cX7_readsOne 175 = .ok (.bipush 98, 2) := by decide +kernel
theorem dX7_readsOne_177 : decode cX7_readsOne 177 = .ok (.if_icmp .ne 7, 3) := by decide +kernel
theorem dX7_readsOne_180 : decode cX7_readsOne 180 = .ok (.iconst 1, 1) := by decide +kernel
theorem dX7_readsOne_181 : decode cX7_readsOne 181 = .ok (.goto 4, 3) := by decide +kernel
theorem dX7_readsOne_184 : decode cX7_readsOne 184 = .ok (.iconst 2, 1) := by decide +kernel
theorem dX7_readsOne_185 : decode cX7_readsOne 185 = .ok (.iastore, 1) := by decide +kernel
theorem dX7_readsOne_186 : decode cX7_readsOne 186 = .ok (.aload_n 0, 1) := by decide +kernel
theorem dX7_readsOne_187 : decode cX7_readsOne 187 = .ok (.dup, 1) := by decide +kernel
theorem dX7_readsOne_188 : decode cX7_readsOne 188 = .ok (.getfield 120, 3) := by decide +kernel
theorem dX7_readsOne_191 : decode cX7_readsOne 191 = .ok (.iconst 1, 1) := by decide +kernel
theorem dX7_readsOne_192 : decode cX7_readsOne 192 = .ok (.iadd, 1) := by decide +kernel
theorem dX7_readsOne_193 : decode cX7_readsOne 193 = .ok (.putfield 120, 3) := by decide +kernel
theorem dX7_readsOne_196 : decode cX7_readsOne 196 = .ok (.iconst 1, 1) := by decide +kernel
theorem dX7_readsOne_197 : decode cX7_readsOne 197 = .ok (.ireturn, 1) := by decide +kernel
theorem dX7_readsAll_0 : decode cX7_readsAll 0 = .ok (.aload_n 0, 1) := by decide +kernel
theorem dX7_readsAll_1 : decode cX7_readsAll 1 = .ok (.iconst 0, 1) := by decide +kernel
theorem dX7_readsAll_2 : decode cX7_readsAll 2 = .ok (.putfield 113, 3) := by decide +kernel
theorem dX7_readsAll_5 : decode cX7_readsAll 5 = .ok (.aload_n 0, 1) := by decide +kernel
theorem dX7_readsAll_6 : decode cX7_readsAll 6 = .ok (.iconst 0, 1) := by decide +kernel
theorem dX7_readsAll_7 : decode cX7_readsAll 7 = .ok (.putfield 120, 3) := by decide +kernel
theorem dX7_readsAll_10 : decode cX7_readsAll 10 = .ok (.aload_n 0, 1) := by decide +kernel
theorem dX7_readsAll_11 : decode cX7_readsAll 11 = .ok (.iload_n 1, 1) := by decide +kernel
theorem dX7_readsAll_12 : decode cX7_readsAll 12 = .ok (.iload_n 2, 1) := by decide +kernel
theorem dX7_readsAll_13 : decode cX7_readsAll 13 = .ok (.invokevirtual 127, 3) := by decide +kernel
theorem dX7_readsAll_16 : decode cX7_readsAll 16 = .ok (.istore_n 3, 1) := by decide +kernel
theorem dX7_readsAll_17 : decode cX7_readsAll 17 = .ok (.iload_n 3, 1) := by decide +kernel
theorem dX7_readsAll_18 : decode cX7_readsAll 18 = .ok (.ifCond .eq 21, 3) := by decide +kernel
theorem dX7_readsAll_21 : decode cX7_readsAll 21 = .ok (.aload_n 0, 1) := by decide +kernel
theorem dX7_readsAll_22 : decode cX7_readsAll 22 = .ok (.getfield 113, 3) := by decide +kernel
theorem dX7_readsAll_25 : decode cX7_readsAll 25 = .ok (.iload_n 2, 1) := by decide +kernel
theorem dX7_readsAll_26 : decode cX7_readsAll 26 = .ok (.if_icmp .ge 13, 3) := by decide +kernel
theorem dX7_readsAll_29 : decode cX7_readsAll 29 = .ok (.aload_n 0, 1) := by decide +kernel
theorem dX7_readsAll_30 : decode cX7_readsAll 30 = .ok (.iload_n 1, 1) := by decide +kernel
theorem dX7_readsAll_31 : decode cX7_readsAll 31 = .ok (.iload_n 2, 1) := by decide +kernel
theorem dX7_readsAll_32 : decode cX7_readsAll 32 = .ok (.invokevirtual 127, 3) := by decide +kernel
theorem dX7_readsAll_35 : decode cX7_readsAll 35 = .ok (.istore_n 3, 1) := by decide +kernel
theorem dX7_readsAll_36 : decode cX7_readsAll 36 = .ok (.goto (-19), 3) := by decide +kernel
theorem dX7_readsAll_39 : decode cX7_readsAll 39 = .ok (.iload_n 3, 1) := by decide +kernel
theorem dX7_readsAll_40 : decode cX7_readsAll 40 = .ok (.ireturn, 1) := by decide +kernel
theorem dX7_statues_0 : decode cX7_statues 0 = .ok (.aload_n 0, 1) := by decide +kernel
theorem dX7_statues_1 : decode cX7_statues 1 = .ok (.iload_n 1, 1) := by decide +kernel
theorem dX7_statues_2 : decode cX7_statues 2 = .ok (.iload_n 2, 1) := by decide +kernel
theorem dX7_statues_3 : decode cX7_statues 3 = .ok (.iload_n 3, 1) := by decide +kernel
theorem dX7_statues_4 : decode cX7_statues 4 = .ok (.iload 4, 2) := by decide +kernel
theorem dX7_statues_6 : decode cX7_statues 6 = .ok (.i2l, 1) := by decide +kernel
theorem dX7_statues_7 : decode cX7_statues 7 = .ok (.iconst 1, 1) := by decide +kernel
theorem dX7_statues_8 : decode cX7_statues 8 = .ok (.invokevirtual 131, 3) := by decide +kernel
theorem dX7_statues_11 : decode cX7_statues 11 = .ok (.istore 5, 2) := by decide +kernel
theorem dX7_statues_13 : decode cX7_statues 13 = .ok (.iload 5, 2) := by decide +kernel
theorem dX7_statues_15 : decode cX7_statues 15 = .ok (.ifCond .ge 6, 3) := by decide +kernel
theorem dX7_statues_18 : decode cX7_statues 18 = .ok (.iload 5, 2) := by decide +kernel
theorem dX7_statues_20 : decode cX7_statues 20 = .ok (.ireturn, 1) := by decide +kernel
theorem dX7_statues_21 : decode cX7_statues 21 = .ok (.aload_n 0, 1) := by decide +kernel
theorem dX7_statues_22 : decode cX7_statues 22 = .ok (.bipush 60, 2) := by decide +kernel
theorem dX7_statues_24 : decode cX7_statues 24 = .ok (.iload_n 1, 1) := by decide +kernel
theorem dX7_statues_25 : decode cX7_statues 25 = .ok (.imul, 1) := by decide +kernel
theorem dX7_statues_26 : decode cX7_statues 26 = .ok (.iload_n 3, 1) := by decide +kernel
theorem dX7_statues_27 : decode cX7_statues 27 = .ok (.iadd, 1) := by decide +kernel
theorem dX7_statues_28 : decode cX7_statues 28 = .ok (.iload 4, 2) := by decide +kernel
theorem dX7_statues_30 : decode cX7_statues 30 = .ok (.invokevirtual 135, 3) := by decide +kernel
theorem dX7_statues_33 : decode cX7_statues 33 = .ok (.ifCond .ne 15, 3) := by decide +kernel
theorem dX7_statues_36 : decode cX7_statues 36 = .ok (.aload_n 0, 1) := by decide +kernel
theorem dX7_statues_37 : decode cX7_statues 37 = .ok (.bipush (-100), 2) := by decide +kernel
theorem dX7_statues_39 : decode cX7_statues 39 = .ok (.aload_n 0, 1) := by decide +kernel
theorem dX7_statues_40 : decode cX7_statues 40 = .ok (.getfield 113, 3) := by decide +kernel
theorem dX7_statues_43 : decode cX7_statues 43 = .ok (.isub, 1) := by decide +kernel
theorem dX7_statues_44 : decode cX7_statues 44 = .ok (.invokevirtual 91, 3) := by decide +kernel
theorem dX7_statues_47 : decode cX7_statues 47 = .ok (.ireturn, 1) := by decide +kernel
theorem dX7_statues_48 : decode cX7_statues 48 = .ok (.aload_n 0, 1) := by decide +kernel
theorem dX7_statues_49 : decode cX7_statues 49 = .ok (.aload_n 0, 1) := by decide +kernel
theorem dX7_statues_50 : decode cX7_statues 50 = .ok (.getfield 120, 3) := by decide +kernel
theorem dX7_statues_53 : decode cX7_statues 53 = .ok (.putfield 108, 3) := by decide +kernel
theorem dX7_statues_56 : decode cX7_statues 56 = .ok (.iconst 0, 1) := by decide +kernel
theorem dX7_statues_57 : decode cX7_statues 57 = .ok (.istore 6, 2) := by decide +kernel
theorem dX7_statues_59 : decode cX7_statues 59 = .ok (.iload 6, 2) := by decide +kernel
theorem dX7_statues_61 : decode cX7_statues 61 = .ok (.bipush 7, 2) := by decide +kernel
theorem dX7_statues_63 : decode cX7_statues 63 = .ok (.if_icmp .ge 92, 3) := by decide +kernel
theorem dX7_statues_66 : decode cX7_statues 66 = .ok (.aload_n 0, 1) := by decide +kernel
theorem dX7_statues_67 : decode cX7_statues 67 = .ok (.getfield 7, 3) := by decide +kernel
theorem dX7_statues_70 : decode cX7_statues 70 = .ok (.iload 6, 2) := by decide +kernel
theorem dX7_statues_72 : decode cX7_statues 72 = .ok (.aload_n 0, 1) := by decide +kernel
theorem dX7_statues_73 : decode cX7_statues 73 = .ok (.getfield 26, 3) := by decide +kernel
theorem dX7_statues_76 : decode cX7_statues 76 = .ok (.iload 6, 2) := by decide +kernel
theorem dX7_statues_78 : decode cX7_statues 78 = .ok (.iaload, 1) := by decide +kernel
theorem dX7_statues_79 : decode cX7_statues 79 = .ok (.iastore, 1) := by decide +kernel
theorem dX7_statues_80 : decode cX7_statues 80 = .ok (.aload_n 0, 1) := by decide +kernel
theorem dX7_statues_81 : decode cX7_statues 81 = .ok (.getfield 16, 3) := by decide +kernel
theorem dX7_statues_84 : decode cX7_statues 84 = .ok (.iload 6, 2) := by decide +kernel
theorem dX7_statues_86 : decode cX7_statues 86 = .ok (.aload_n 0, 1) := by decide +kernel
theorem dX7_statues_87 : decode cX7_statues 87 = .ok (.getfield 32, 3) := by decide +kernel
theorem dX7_statues_90 : decode cX7_statues 90 = .ok (.iload 6, 2) := by decide +kernel
theorem dX7_statues_92 : decode cX7_statues 92 = .ok (.iaload, 1) := by decide +kernel
theorem dX7_statues_93 : decode cX7_statues 93 = .ok (.iastore, 1) := by decide +kernel
theorem dX7_statues_94 : decode cX7_statues 94 = .ok (.aload_n 0, 1) := by decide +kernel
theorem dX7_statues_95 : decode cX7_statues 95 = .ok (.getfield 19, 3) := by decide +kernel
theorem dX7_statues_98 : decode cX7_statues 98 = .ok (.iload 6, 2) := by decide +kernel
theorem dX7_statues_100 : decode cX7_statues 100 = .ok (.iconst 0, 1) := by decide +kernel
theorem dX7_statues_101 : decode cX7_statues 101 = .ok (.iastore, 1) := by decide +kernel
theorem dX7_statues_102 : decode cX7_statues 102 = .ok (.aload_n 0, 1) := by decide +kernel
theorem dX7_statues_103 : decode cX7_statues 103 = .ok (.getfield 22, 3) := by decide +kernel
theorem dX7_statues_106 : decode cX7_statues 106 = .ok (.iload 6, 2) := by decide +kernel
theorem dX7_statues_108 : decode cX7_statues 108 = .ok (.iconst 0, 1) := by decide +kernel
theorem dX7_statues_109 : decode cX7_statues 109 = .ok (.bastore, 1) := by decide +kernel
theorem dX7_statues_110 : decode cX7_statues 110 = .ok (.iconst 0, 1) := by decide +kernel
theorem dX7_statues_111 : decode cX7_statues 111 = .ok (.istore 7, 2) := by decide +kernel
theorem dX7_statues_113 : decode cX7_statues 113 = .ok (.iload 7, 2) := by decide +kernel
theorem dX7_statues_115 : decode cX7_statues 115 = .ok (.iconst 3, 1) := by decide +kernel
theorem dX7_statues_116 : decode cX7_statues 116 = .ok (.if_icmp .ge 33, 3) := by decide +kernel
theorem dX7_statues_119 : decode cX7_statues 119 = .ok (.aload_n 0, 1) := by decide +kernel
theorem dX7_statues_120 : decode cX7_statues 120 = .ok (.getfield 13, 3) := by decide +kernel
theorem dX7_statues_123 : decode cX7_statues 123 = .ok (.iconst 3, 1) := by decide +kernel
theorem dX7_statues_124 : decode cX7_statues 124 = .ok (.iload 6, 2) := by decide +kernel
theorem dX7_statues_126 : decode cX7_statues 126 = .ok (.imul, 1) := by decide +kernel
theorem dX7_statues_127 : decode cX7_statues 127 = .ok (.iload 7, 2) := by decide +kernel
theorem dX7_statues_129 : decode cX7_statues 129 = .ok (.iadd, 1) := by decide +kernel
theorem dX7_statues_130 : decode cX7_statues 130 = .ok (.aload_n 0, 1) := by decide +kernel
theorem dX7_statues_131 : decode cX7_statues 131 = .ok (.getfield 29, 3) := by decide +kernel
theorem dX7_statues_134 : decode cX7_statues 134 = .ok (.iconst 3, 1) := by decide +kernel
theorem dX7_statues_135 : decode cX7_statues 135 = .ok (.iload 6, 2) := by decide +kernel
theorem dX7_statues_137 : decode cX7_statues 137 = .ok (.imul, 1) := by decide +kernel
theorem dX7_statues_138 : decode cX7_statues 138 = .ok (.iload 7, 2) := by decide +kernel
theorem dX7_statues_140 : decode cX7_statues 140 = .ok (.iadd, 1) := by decide +kernel
theorem dX7_statues_141 : decode cX7_statues 141 = .ok (.iaload, 1) := by decide +kernel
theorem dX7_statues_142 : decode cX7_statues 142 = .ok (.iastore, 1) := by decide +kernel
theorem dX7_statues_143 : decode cX7_statues 143 = .ok (.iinc 7 1, 3) := by decide +kernel
theorem dX7_statues_146 : decode cX7_statues 146 = .ok (.goto (-33), 3) := by decide +kernel
theorem dX7_statues_149 : decode cX7_statues 149 = .ok (.iinc 6 1, 3) := by decide +kernel
theorem dX7_statues_152 : decode cX7_statues 152 = .ok (.goto (-93), 3) := by decide +kernel
theorem dX7_statues_155 : decode cX7_statues 155 = .ok (.iconst 0, 1) := by decide +kernel
theorem dX7_statues_156 : decode cX7_statues 156 = .ok (.istore 6, 2) := by decide +kernel
theorem dX7_statues_158 : decode cX7_statues 158 = .ok (.iload 6, 2) := by decide +kernel
theorem dX7_statues_160 : decode cX7_statues 160 = .ok (.bipush 60, 2) := by decide +kernel
theorem dX7_statues_162 : decode cX7_statues 162 = .ok (.if_icmp .ge 25, 3) := by decide +kernel
theorem dX7_statues_165 : decode cX7_statues 165 = .ok (.aload_n 0, 1) := by decide +kernel
theorem dX7_statues_166 : decode cX7_statues 166 = .ok (.getfield 35, 3) := by decide +kernel
theorem dX7_statues_169 : decode cX7_statues 169 = .ok (.iload 6, 2) := by decide +kernel
theorem dX7_statues_171 : decode cX7_statues 171 = .ok (.iconst 0, 1) := by decide +kernel
theorem dX7_statues_172 : decode cX7_statues 172 = .ok (.iastore, 1) := by decide +kernel
theorem dX7_statues_173 : decode cX7_statues 173 = .ok (.aload_n 0, 1) := by decide +kernel
theorem dX7_statues_174 : decode cX7_statues 174 = .ok (.getfield 38, 3) := by decide +kernel
theorem dX7_statues_177 : decode cX7_statues 177 = .ok (.iload 6, 2) := by decide +kernel
theorem dX7_statues_179 : decode cX7_statues 179 = .ok (.iconst 0, 1) := by decide +kernel
theorem dX7_statues_180 : decode cX7_statues 180 = .ok (.iastore, 1) := by decide +kernel
theorem dX7_statues_181 : decode cX7_statues 181 = .ok (.iinc 6 1, 3) := by decide +kernel
theorem dX7_statues_184 : decode cX7_statues 184 = .ok (.goto (-26), 3) := by decide +kernel
theorem dX7_statues_187 : decode cX7_statues 187 = .ok (.aload_n 0, 1) := by decide +kernel
theorem dX7_statues_188 : decode cX7_statues 188 = .ok (.iconst 0, 1) := by decide +kernel
theorem dX7_statues_189 : decode cX7_statues 189 = .ok (.putfield 138, 3) := by decide +kernel
theorem dX7_statues_192 : decode cX7_statues 192 = .ok (.aload_n 0, 1) := by decide +kernel
theorem dX7_statues_193 : decode cX7_statues 193 = .ok (.iconst 0, 1) := by decide +kernel
theorem dX7_statues_194 : decode cX7_statues 194 = .ok (.putfield 141, 3) := by decide +kernel
theorem dX7_statues_197 : decode cX7_statues 197 = .ok (.aload_n 0, 1) := by decide +kernel
theorem dX7_statues_198 : decode cX7_statues 198 = .ok (.aload_n 0, 1) := by decide +kernel
theorem dX7_statues_199 : decode cX7_statues 199 = .ok (.getfield 108, 3) := by decide +kernel
theorem dX7_statues_202 : decode cX7_statues 202 = .ok (.invokevirtual 91, 3) := by decide +kernel
theorem dX7_statues_205 : decode cX7_statues 205 = .ok (.ireturn, 1) := by decide +kernel
theorem dX7_ofStatue_0 : decode cX7_ofStatue 0 = .ok (.aload_n 0, 1) := by decide +kernel
theorem dX7_ofStatue_1 : decode cX7_ofStatue 1 = .ok (.iload_n 1, 1) := by decide +kernel
theorem dX7_ofStatue_2 : decode cX7_ofStatue 2 = .ok (.invokevirtual 144, 3) := by decide +kernel
theorem dX7_ofStatue_5 : decode cX7_ofStatue 5 = .ok (.ifCond .eq 5, 3) := by decide +kernel
theorem dX7_ofStatue_8 : decode cX7_ofStatue 8 = .ok (.iconst (-1), 1) := by decide +kernel
theorem dX7_ofStatue_9 : decode cX7_ofStatue 9 = .ok (.ireturn, 1) := by decide +kernel
theorem dX7_ofStatue_10 : decode cX7_ofStatue 10 = .ok (.iload_n 2, 1) := by decide +kernel
theorem dX7_ofStatue_11 : decode cX7_ofStatue 11 = .ok (.tableswitch 88 0 6 #[41, 41, 41, 52, 59, 66, 73], 41) := by decide +kernel
theorem dX7_ofStatue_52 : decode cX7_ofStatue 52 = .ok (.aload_n 0, 1) := by decide +kernel
theorem dX7_ofStatue_53 : decode cX7_ofStatue 53 = .ok (.getfield 13, 3) := by decide +kernel
theorem dX7_ofStatue_56 : decode cX7_ofStatue 56 = .ok (.iconst 3, 1) := by decide +kernel
theorem dX7_ofStatue_57 : decode cX7_ofStatue 57 = .ok (.iload_n 1, 1) := by decide +kernel
theorem dX7_ofStatue_58 : decode cX7_ofStatue 58 = .ok (.imul, 1) := by decide +kernel
theorem dX7_ofStatue_59 : decode cX7_ofStatue 59 = .ok (.iload_n 2, 1) := by decide +kernel
theorem dX7_ofStatue_60 : decode cX7_ofStatue 60 = .ok (.iadd, 1) := by decide +kernel
theorem dX7_ofStatue_61 : decode cX7_ofStatue 61 = .ok (.iaload, 1) := by decide +kernel
theorem dX7_ofStatue_62 : decode cX7_ofStatue 62 = .ok (.ireturn, 1) := by decide +kernel
theorem dX7_ofStatue_63 : decode cX7_ofStatue 63 = .ok (.aload_n 0, 1) := by decide +kernel
theorem dX7_ofStatue_64 : decode cX7_ofStatue 64 = .ok (.getfield 7, 3) := by decide +kernel
theorem dX7_ofStatue_67 : decode cX7_ofStatue 67 = .ok (.iload_n 1, 1) := by decide +kernel
theorem dX7_ofStatue_68 : decode cX7_ofStatue 68 = .ok (.iaload, 1) := by decide +kernel
theorem dX7_ofStatue_69 : decode cX7_ofStatue 69 = .ok (.ireturn, 1) := by decide +kernel
theorem dX7_ofStatue_70 : decode cX7_ofStatue 70 = .ok (.aload_n 0, 1) := by decide +kernel
theorem dX7_ofStatue_71 : decode cX7_ofStatue 71 = .ok (.getfield 16, 3) := by decide +kernel
theorem dX7_ofStatue_74 : decode cX7_ofStatue 74 = .ok (.iload_n 1, 1) := by decide +kernel
theorem dX7_ofStatue_75 : decode cX7_ofStatue 75 = .ok (.iaload, 1) := by decide +kernel
theorem dX7_ofStatue_76 : decode cX7_ofStatue 76 = .ok (.ireturn, 1) := by decide +kernel
theorem dX7_ofStatue_77 : decode cX7_ofStatue 77 = .ok (.aload_n 0, 1) := by decide +kernel
theorem dX7_ofStatue_78 : decode cX7_ofStatue 78 = .ok (.getfield 19, 3) := by decide +kernel
theorem dX7_ofStatue_81 : decode cX7_ofStatue 81 = .ok (.iload_n 1, 1) := by decide +kernel
theorem dX7_ofStatue_82 : decode cX7_ofStatue 82 = .ok (.iaload, 1) := by decide +kernel
theorem dX7_ofStatue_83 : decode cX7_ofStatue 83 = .ok (.ireturn, 1) := by decide +kernel
theorem dX7_ofStatue_84 : decode cX7_ofStatue 84 = .ok (.aload_n 0, 1) := by decide +kernel
theorem dX7_ofStatue_85 : decode cX7_ofStatue 85 = .ok (.getfield 22, 3) := by decide +kernel
theorem dX7_ofStatue_88 : decode cX7_ofStatue 88 = .ok (.iload_n 1, 1) := by decide +kernel
theorem dX7_ofStatue_89 : decode cX7_ofStatue 89 = .ok (.baload, 1) := by decide +kernel
theorem dX7_ofStatue_90 : decode cX7_ofStatue 90 = .ok (.ifCond .eq 7, 3) := by decide +kernel
theorem dX7_ofStatue_93 : decode cX7_ofStatue 93 = .ok (.iconst 1, 1) := by decide +kernel
theorem dX7_ofStatue_94 : decode cX7_ofStatue 94 = .ok (.goto 4, 3) := by decide +kernel
theorem dX7_ofStatue_97 : decode cX7_ofStatue 97 = .ok (.iconst 0, 1) := by decide +kernel
theorem dX7_ofStatue_98 : decode cX7_ofStatue 98 = .ok (.ireturn, 1) := by decide +kernel
theorem dX7_ofStatue_99 : decode cX7_ofStatue 99 = .ok (.bipush (-2), 2) := by decide +kernel
theorem dX7_ofStatue_101 : decode cX7_ofStatue 101 = .ok (.ireturn, 1) := by decide +kernel
theorem dX7_look_0 : decode cX7_look 0 = .ok (.aload_n 0, 1) := by decide +kernel
theorem dX7_look_1 : decode cX7_look 1 = .ok (.iload_n 1, 1) := by decide +kernel
theorem dX7_look_2 : decode cX7_look 2 = .ok (.invokevirtual 144, 3) := by decide +kernel
theorem dX7_look_5 : decode cX7_look 5 = .ok (.ifCond .eq 5, 3) := by decide +kernel
theorem dX7_look_8 : decode cX7_look 8 = .ok (.iconst (-1), 1) := by decide +kernel
theorem dX7_look_9 : decode cX7_look 9 = .ok (.ireturn, 1) := by decide +kernel
theorem dX7_look_10 : decode cX7_look 10 = .ok (.iload_n 2, 1) := by decide +kernel
theorem dX7_look_11 : decode cX7_look 11 = .ok (.i2l, 1) := by decide +kernel
theorem dX7_look_12 : decode cX7_look 12 = .ok (.lconst 0, 1) := by decide +kernel
theorem dX7_look_13 : decode cX7_look 13 = .ok (.ldc2_w 147, 3) := by decide +kernel
theorem dX7_look_16 : decode cX7_look 16 = .ok (.invokestatic 97, 3) := by decide +kernel
theorem dX7_look_19 : decode cX7_look 19 = .ok (.ifCond .ne 6, 3) := by decide +kernel
theorem dX7_look_22 : decode cX7_look 22 = .ok (.bipush (-2), 2) := by decide +kernel
theorem dX7_look_24 : decode cX7_look 24 = .ok (.ireturn, 1) := by decide +kernel
theorem dX7_look_25 : decode cX7_look 25 = .ok (.aload_n 0, 1) := by decide +kernel
theorem dX7_look_26 : decode cX7_look 26 = .ok (.getfield 16, 3) := by decide +kernel
theorem dX7_look_29 : decode cX7_look 29 = .ok (.iload_n 1, 1) := by decide +kernel
theorem dX7_look_30 : decode cX7_look 30 = .ok (.iaload, 1) := by decide +kernel
theorem dX7_look_31 : decode cX7_look 31 = .ok (.istore_n 3, 1) := by decide +kernel
theorem dX7_look_32 : decode cX7_look 32 = .ok (.aload_n 0, 1) := by decide +kernel
theorem dX7_look_33 : decode cX7_look 33 = .ok (.getfield 16, 3) := by decide +kernel
theorem dX7_look_36 : decode cX7_look 36 = .ok (.iload_n 1, 1) := by decide +kernel
theorem dX7_look_37 : decode cX7_look 37 = .ok (.iload_n 2, 1) := by decide +kernel
theorem dX7_look_38 : decode cX7_look 38 = .ok (.iastore, 1) := by decide +kernel
theorem dX7_look_39 : decode cX7_look 39 = .ok (.iload_n 3, 1) := by decide +kernel
theorem dX7_look_40 : decode cX7_look 40 = .ok (.ireturn, 1) := by decide +kernel
theorem dX7_over_0 : decode cX7_over 0 = .ok (.aload_n 0, 1) := by decide +kernel
theorem dX7_over_1 : decode cX7_over 1 = .ok (.iload_n 1, 1) := by decide +kernel
theorem dX7_over_2 : decode cX7_over 2 = .ok (.invokevirtual 144, 3) := by decide +kernel
theorem dX7_over_5 : decode cX7_over 5 = .ok (.ifCond .eq 5, 3) := by decide +kernel
theorem dX7_over_8 : decode cX7_over 8 = .ok (.iconst (-1), 1) := by decide +kernel
theorem dX7_over_9 : decode cX7_over 9 = .ok (.ireturn, 1) := by decide +kernel
theorem dX7_over_10 : decode cX7_over 10 = .ok (.iload_n 2, 1) := by decide +kernel
theorem dX7_over_11 : decode cX7_over 11 = .ok (.i2l, 1) := by decide +kernel
theorem dX7_over_12 : decode cX7_over 12 = .ok (.lconst 0, 1) := by decide +kernel
theorem dX7_over_13 : decode cX7_over 13 = .ok (.ldc2_w 95, 3) := by decide +kernel
theorem dX7_over_16 : decode cX7_over 16 = .ok (.invokestatic 97, 3) := by decide +kernel
theorem dX7_over_19 : decode cX7_over 19 = .ok (.ifCond .ne 6, 3) := by decide +kernel
theorem dX7_over_22 : decode cX7_over 22 = .ok (.bipush (-2), 2) := by decide +kernel
theorem dX7_over_24 : decode cX7_over 24 = .ok (.ireturn, 1) := by decide +kernel
theorem dX7_over_25 : decode cX7_over 25 = .ok (.aload_n 0, 1) := by decide +kernel
theorem dX7_over_26 : decode cX7_over 26 = .ok (.getfield 19, 3) := by decide +kernel
theorem dX7_over_29 : decode cX7_over 29 = .ok (.iload_n 1, 1) := by decide +kernel
theorem dX7_over_30 : decode cX7_over 30 = .ok (.iaload, 1) := by decide +kernel
theorem dX7_over_31 : decode cX7_over 31 = .ok (.istore_n 3, 1) := by decide +kernel
theorem dX7_over_32 : decode cX7_over 32 = .ok (.aload_n 0, 1) := by decide +kernel
theorem dX7_over_33 : decode cX7_over 33 = .ok (.getfield 19, 3) := by decide +kernel
theorem dX7_over_36 : decode cX7_over 36 = .ok (.iload_n 1, 1) := by decide +kernel
theorem dX7_over_37 : decode cX7_over 37 = .ok (.iload_n 2, 1) := by decide +kernel
theorem dX7_over_38 : decode cX7_over 38 = .ok (.iastore, 1) := by decide +kernel
theorem dX7_over_39 : decode cX7_over 39 = .ok (.iload_n 3, 1) := by decide +kernel
theorem dX7_over_40 : decode cX7_over 40 = .ok (.ireturn, 1) := by decide +kernel
theorem dX7_fence_0 : decode cX7_fence 0 = .ok (.aload_n 0, 1) := by decide +kernel
theorem dX7_fence_1 : decode cX7_fence 1 = .ok (.iload_n 1, 1) := by decide +kernel
theorem dX7_fence_2 : decode cX7_fence 2 = .ok (.invokevirtual 144, 3) := by decide +kernel
theorem dX7_fence_5 : decode cX7_fence 5 = .ok (.ifCond .eq 5, 3) := by decide +kernel
theorem dX7_fence_8 : decode cX7_fence 8 = .ok (.iconst (-1), 1) := by decide +kernel
theorem dX7_fence_9 : decode cX7_fence 9 = .ok (.ireturn, 1) := by decide +kernel
theorem dX7_fence_10 : decode cX7_fence 10 = .ok (.aload_n 0, 1) := by decide +kernel
theorem dX7_fence_11 : decode cX7_fence 11 = .ok (.getfield 22, 3) := by decide +kernel
theorem dX7_fence_14 : decode cX7_fence 14 = .ok (.iload_n 1, 1) := by decide +kernel
theorem dX7_fence_15 : decode cX7_fence 15 = .ok (.baload, 1) := by decide +kernel
theorem dX7_fence_16 : decode cX7_fence 16 = .ok (.istore_n 3, 1) := by decide +kernel
theorem dX7_fence_17 : decode cX7_fence 17 = .ok (.aload_n 0, 1) := by decide +kernel
theorem dX7_fence_18 : decode cX7_fence 18 = .ok (.getfield 22, 3) := by decide +kernel
theorem dX7_fence_21 : decode cX7_fence 21 = .ok (.iload_n 1, 1) := by decide +kernel
theorem dX7_fence_22 : decode cX7_fence 22 = .ok (.iload_n 2, 1) := by decide +kernel
theorem dX7_fence_23 : decode cX7_fence 23 = .ok (.bastore, 1) := by decide +kernel
theorem dX7_fence_24 : decode cX7_fence 24 = .ok (.iload_n 3, 1) := by decide +kernel
theorem dX7_fence_25 : decode cX7_fence 25 = .ok (.iload_n 2, 1) := by decide +kernel
theorem dX7_fence_26 : decode cX7_fence 26 = .ok (.if_icmp .ne 7, 3) := by decide +kernel
theorem dX7_fence_29 : decode cX7_fence 29 = .ok (.iconst 0, 1) := by decide +kernel
theorem dX7_fence_30 : decode cX7_fence 30 = .ok (.goto 4, 3) := by decide +kernel
theorem dX7_fence_33 : decode cX7_fence 33 = .ok (.iconst 1, 1) := by decide +kernel
theorem dX7_fence_34 : decode cX7_fence 34 = .ok (.ireturn, 1) := by decide +kernel
theorem dX7_rain_0 : decode cX7_rain 0 = .ok (.iload_n 1, 1) := by decide +kernel
theorem dX7_rain_1 : decode cX7_rain 1 = .ok (.i2l, 1) := by decide +kernel
theorem dX7_rain_2 : decode cX7_rain 2 = .ok (.lconst 0, 1) := by decide +kernel
theorem dX7_rain_3 : decode cX7_rain 3 = .ok (.ldc2_w 149, 3) := by decide +kernel
theorem dX7_rain_6 : decode cX7_rain 6 = .ok (.invokestatic 97, 3) := by decide +kernel
theorem dX7_rain_9 : decode cX7_rain 9 = .ok (.ifCond .eq 27, 3) := by decide +kernel
theorem dX7_rain_12 : decode cX7_rain 12 = .ok (.iload_n 2, 1) := by decide +kernel
theorem dX7_rain_13 : decode cX7_rain 13 = .ok (.i2l, 1) := by decide +kernel
theorem dX7_rain_14 : decode cX7_rain 14 = .ok (.lconst 0, 1) := by decide +kernel
theorem dX7_rain_15 : decode cX7_rain 15 = .ok (.ldc2_w 151, 3) := by decide +kernel
theorem dX7_rain_18 : decode cX7_rain 18 = .ok (.invokestatic 97, 3) := by decide +kernel
theorem dX7_rain_21 : decode cX7_rain 21 = .ok (.ifCond .eq 15, 3) := by decide +kernel
theorem dX7_rain_24 : decode cX7_rain 24 = .ok (.iload_n 3, 1) := by decide +kernel
theorem dX7_rain_25 : decode cX7_rain 25 = .ok (.i2l, 1) := by decide +kernel
theorem dX7_rain_26 : decode cX7_rain 26 = .ok (.lconst 0, 1) := by decide +kernel
theorem dX7_rain_27 : decode cX7_rain 27 = .ok (.ldc2_w 147, 3) := by decide +kernel
theorem dX7_rain_30 : decode cX7_rain 30 = .ok (.invokestatic 97, 3) := by decide +kernel
theorem dX7_rain_33 : decode cX7_rain 33 = .ok (.ifCond .ne 6, 3) := by decide +kernel
theorem dX7_rain_36 : decode cX7_rain 36 = .ok (.bipush (-2), 2) := by decide +kernel
theorem dX7_rain_38 : decode cX7_rain 38 = .ok (.ireturn, 1) := by decide +kernel
theorem dX7_rain_39 : decode cX7_rain 39 = .ok (.aload_n 0, 1) := by decide +kernel
theorem dX7_rain_40 : decode cX7_rain 40 = .ok (.getfield 108, 3) := by decide +kernel
theorem dX7_rain_43 : decode cX7_rain 43 = .ok (.ifCond .ne 6, 3) := by decide +kernel
theorem dX7_rain_46 : decode cX7_rain 46 = .ok (.bipush (-3), 2) := by decide +kernel
theorem dX7_rain_48 : decode cX7_rain 48 = .ok (.ireturn, 1) := by decide +kernel
theorem dX7_rain_49 : decode cX7_rain 49 = .ok (.bipush 10, 2) := by decide +kernel
theorem dX7_rain_51 : decode cX7_rain 51 = .ok (.aload_n 0, 1) := by decide +kernel
theorem dX7_rain_52 : decode cX7_rain 52 = .ok (.getfield 35, 3) := by decide +kernel
theorem dX7_rain_55 : decode cX7_rain 55 = .ok (.iload_n 1, 1) := by decide +kernel
theorem dX7_rain_56 : decode cX7_rain 56 = .ok (.iaload, 1) := by decide +kernel
theorem dX7_rain_57 : decode cX7_rain 57 = .ok (.imul, 1) := by decide +kernel
theorem dX7_rain_58 : decode cX7_rain 58 = .ok (.aload_n 0, 1) := by decide +kernel
theorem dX7_rain_59 : decode cX7_rain 59 = .ok (.getfield 38, 3) := by decide +kernel
theorem dX7_rain_62 : decode cX7_rain 62 = .ok (.iload_n 1, 1) := by decide +kernel
theorem dX7_rain_63 : decode cX7_rain 63 = .ok (.iaload, 1) := by decide +kernel
theorem dX7_rain_64 : decode cX7_rain 64 = .ok (.iadd, 1) := by decide +kernel
theorem dX7_rain_65 : decode cX7_rain 65 = .ok (.istore 4, 2) := by decide +kernel
theorem dX7_rain_67 : decode cX7_rain 67 = .ok (.aload_n 0, 1) := by decide +kernel
theorem dX7_rain_68 : decode cX7_rain 68 = .ok (.getfield 35, 3) := by decide +kernel
theorem dX7_rain_71 : decode cX7_rain 71 = .ok (.iload_n 1, 1) := by decide +kernel
theorem dX7_rain_72 : decode cX7_rain 72 = .ok (.iload_n 2, 1) := by decide +kernel
theorem dX7_rain_73 : decode cX7_rain 73 = .ok (.iastore, 1) := by decide +kernel
theorem dX7_rain_74 : decode cX7_rain 74 = .ok (.aload_n 0, 1) := by decide +kernel
theorem dX7_rain_75 : decode cX7_rain 75 = .ok (.getfield 38, 3) := by decide +kernel
theorem dX7_rain_78 : decode cX7_rain 78 = .ok (.iload_n 1, 1) := by decide +kernel
theorem dX7_rain_79 : decode cX7_rain 79 = .ok (.iload_n 3, 1) := by decide +kernel
theorem dX7_rain_80 : decode cX7_rain 80 = .ok (.iastore, 1) := by decide +kernel
theorem dX7_rain_81 : decode cX7_rain 81 = .ok (.iload 4, 2) := by decide +kernel
theorem dX7_rain_83 : decode cX7_rain 83 = .ok (.ireturn, 1) := by decide +kernel
theorem dX7_deer_0 : decode cX7_deer 0 = .ok (.iload_n 1, 1) := by decide +kernel
theorem dX7_deer_1 : decode cX7_deer 1 = .ok (.i2l, 1) := by decide +kernel
theorem dX7_deer_2 : decode cX7_deer 2 = .ok (.lconst 0, 1) := by decide +kernel
theorem dX7_deer_3 : decode cX7_deer 3 = .ok (.ldc2_w 151, 3) := by decide +kernel
theorem dX7_deer_6 : decode cX7_deer 6 = .ok (.invokestatic 97, 3) := by decide +kernel
theorem dX7_deer_9 : decode cX7_deer 9 = .ok (.ifCond .ne 6, 3) := by decide +kernel
theorem dX7_deer_12 : decode cX7_deer 12 = .ok (.bipush (-2), 2) := by decide +kernel
theorem dX7_deer_14 : decode cX7_deer 14 = .ok (.ireturn, 1) := by decide +kernel
theorem dX7_deer_15 : decode cX7_deer 15 = .ok (.aload_n 0, 1) := by decide +kernel
theorem dX7_deer_16 : decode cX7_deer 16 = .ok (.getfield 108, 3) := by decide +kernel
theorem dX7_deer_19 : decode cX7_deer 19 = .ok (.ifCond .ne 6, 3) := by decide +kernel
theorem dX7_deer_22 : decode cX7_deer 22 = .ok (.bipush (-3), 2) := by decide +kernel
theorem dX7_deer_24 : decode cX7_deer 24 = .ok (.ireturn, 1) := by decide +kernel
theorem dX7_deer_25 : decode cX7_deer 25 = .ok (.aload_n 0, 1) := by decide +kernel
theorem dX7_deer_26 : decode cX7_deer 26 = .ok (.getfield 138, 3) := by decide +kernel
theorem dX7_deer_29 : decode cX7_deer 29 = .ok (.istore_n 2, 1) := by decide +kernel
theorem dX7_deer_30 : decode cX7_deer 30 = .ok (.aload_n 0, 1) := by decide +kernel
theorem dX7_deer_31 : decode cX7_deer 31 = .ok (.iload_n 1, 1) := by decide +kernel
theorem dX7_deer_32 : decode cX7_deer 32 = .ok (.putfield 138, 3) := by decide +kernel
theorem dX7_deer_35 : decode cX7_deer 35 = .ok (.iload_n 2, 1) := by decide +kernel
theorem dX7_deer_36 : decode cX7_deer 36 = .ok (.ireturn, 1) := by decide +kernel
theorem dX7_begin_0 : decode cX7_begin 0 = .ok (.iconst 0, 1) := by decide +kernel
theorem dX7_begin_1 : decode cX7_begin 1 = .ok (.istore_n 1, 1) := by decide +kernel
theorem dX7_begin_2 : decode cX7_begin 2 = .ok (.iload_n 1, 1) := by decide +kernel
theorem dX7_begin_3 : decode cX7_begin 3 = .ok (.bipush 21, 2) := by decide +kernel
theorem dX7_begin_5 : decode cX7_begin 5 = .ok (.if_icmp .ge 21, 3) := by decide +kernel
theorem dX7_begin_8 : decode cX7_begin 8 = .ok (.aload_n 0, 1) := by decide +kernel
theorem dX7_begin_9 : decode cX7_begin 9 = .ok (.getfield 41, 3) := by decide +kernel
theorem dX7_begin_12 : decode cX7_begin 12 = .ok (.iload_n 1, 1) := by decide +kernel
theorem dX7_begin_13 : decode cX7_begin 13 = .ok (.aload_n 0, 1) := by decide +kernel
theorem dX7_begin_14 : decode cX7_begin 14 = .ok (.getfield 13, 3) := by decide +kernel
theorem dX7_begin_17 : decode cX7_begin 17 = .ok (.iload_n 1, 1) := by decide +kernel
theorem dX7_begin_18 : decode cX7_begin 18 = .ok (.iaload, 1) := by decide +kernel
theorem dX7_begin_19 : decode cX7_begin 19 = .ok (.iastore, 1) := by decide +kernel
theorem dX7_begin_20 : decode cX7_begin 20 = .ok (.iinc 1 1, 3) := by decide +kernel
theorem dX7_begin_23 : decode cX7_begin 23 = .ok (.goto (-21), 3) := by decide +kernel
theorem dX7_begin_26 : decode cX7_begin 26 = .ok (.iconst 0, 1) := by decide +kernel
theorem dX7_begin_27 : decode cX7_begin 27 = .ok (.istore_n 1, 1) := by decide +kernel
theorem dX7_begin_28 : decode cX7_begin 28 = .ok (.iload_n 1, 1) := by decide +kernel
theorem dX7_begin_29 : decode cX7_begin 29 = .ok (.bipush 7, 2) := by decide +kernel
theorem dX7_begin_31 : decode cX7_begin 31 = .ok (.if_icmp .ge 23, 3) := by decide +kernel
theorem dX7_begin_34 : decode cX7_begin 34 = .ok (.aload_n 0, 1) := by decide +kernel
theorem dX7_begin_35 : decode cX7_begin 35 = .ok (.getfield 44, 3) := by decide +kernel
theorem dX7_begin_38 : decode cX7_begin 38 = .ok (.iload_n 1, 1) := by decide +kernel
theorem dX7_begin_39 : decode cX7_begin 39 = .ok (.iconst 0, 1) := by decide +kernel
theorem dX7_begin_40 : decode cX7_begin 40 = .ok (.iastore, 1) := by decide +kernel
theorem dX7_begin_41 : decode cX7_begin 41 = .ok (.aload_n 0, 1) := by decide +kernel
theorem dX7_begin_42 : decode cX7_begin 42 = .ok (.getfield 47, 3) := by decide +kernel
theorem dX7_begin_45 : decode cX7_begin 45 = .ok (.iload_n 1, 1) := by decide +kernel
theorem dX7_begin_46 : decode cX7_begin 46 = .ok (.iconst 0, 1) := by decide +kernel
theorem dX7_begin_47 : decode cX7_begin 47 = .ok (.iastore, 1) := by decide +kernel
theorem dX7_begin_48 : decode cX7_begin 48 = .ok (.iinc 1 1, 3) := by decide +kernel
theorem dX7_begin_51 : decode cX7_begin 51 = .ok (.goto (-23), 3) := by decide +kernel
theorem dX7_begin_54 : decode cX7_begin 54 = .ok (.return_, 1) := by decide +kernel
theorem dX7_losesBy_0 : decode cX7_losesBy 0 = .ok (.aload_n 0, 1) := by decide +kernel
theorem dX7_losesBy_1 : decode cX7_losesBy 1 = .ok (.getfield 35, 3) := by decide +kernel
theorem dX7_losesBy_4 : decode cX7_losesBy 4 = .ok (.iload_n 3, 1) := by decide +kernel
theorem dX7_losesBy_5 : decode cX7_losesBy 5 = .ok (.iaload, 1) := by decide +kernel
theorem dX7_losesBy_6 : decode cX7_losesBy 6 = .ok (.istore 4, 2) := by decide +kernel
theorem dX7_losesBy_8 : decode cX7_losesBy 8 = .ok (.iload_n 2, 1) := by decide +kernel
theorem dX7_losesBy_9 : decode cX7_losesBy 9 = .ok (.ifCond .ne 24, 3) := by decide +kernel
theorem dX7_losesBy_12 : decode cX7_losesBy 12 = .ok (.aload_n 0, 1) := by decide +kernel
theorem dX7_losesBy_13 : decode cX7_losesBy 13 = .ok (.getfield 38, 3) := by decide +kernel
theorem dX7_losesBy_16 : decode cX7_losesBy 16 = .ok (.iload_n 3, 1) := by decide +kernel
theorem dX7_losesBy_17 : decode cX7_losesBy 17 = .ok (.iaload, 1) := by decide +kernel
theorem dX7_losesBy_18 : decode cX7_losesBy 18 = .ok (.aload_n 0, 1) := by decide +kernel
theorem dX7_losesBy_19 : decode cX7_losesBy 19 = .ok (.getfield 16, 3) := by decide +kernel
theorem dX7_losesBy_22 : decode cX7_losesBy 22 = .ok (.iload_n 1, 1) := by decide +kernel
theorem dX7_losesBy_23 : decode cX7_losesBy 23 = .ok (.iaload, 1) := by decide +kernel
theorem dX7_losesBy_24 : decode cX7_losesBy 24 = .ok (.if_icmp .ne 9, 3) := by decide +kernel
theorem dX7_losesBy_27 : decode cX7_losesBy 27 = .ok (.iconst 3, 1) := by decide +kernel
theorem dX7_losesBy_28 : decode cX7_losesBy 28 = .ok (.iload 4, 2) := by decide +kernel
theorem dX7_losesBy_30 : decode cX7_losesBy 30 = .ok (.imul, 1) := by decide +kernel
theorem dX7_losesBy_31 : decode cX7_losesBy 31 = .ok (.istore 4, 2) := by decide +kernel
theorem dX7_losesBy_33 : decode cX7_losesBy 33 = .ok (.iload_n 2, 1) := by decide +kernel
theorem dX7_losesBy_34 : decode cX7_losesBy 34 = .ok (.iconst 1, 1) := by decide +kernel
theorem dX7_losesBy_35 : decode cX7_losesBy 35 = .ok (.if_icmp .ne 9, 3) := by decide +kernel
theorem dX7_losesBy_38 : decode cX7_losesBy 38 = .ok (.iconst 2, 1) := by decide +kernel
theorem dX7_losesBy_39 : decode cX7_losesBy 39 = .ok (.iload 4, 2) := by decide +kernel
theorem dX7_losesBy_41 : decode cX7_losesBy 41 = .ok (.imul, 1) := by decide +kernel
theorem dX7_losesBy_42 : decode cX7_losesBy 42 = .ok (.istore 4, 2) := by decide +kernel
theorem dX7_losesBy_44 : decode cX7_losesBy 44 = .ok (.aload_n 0, 1) := by decide +kernel
theorem dX7_losesBy_45 : decode cX7_losesBy 45 = .ok (.getfield 7, 3) := by decide +kernel
theorem dX7_losesBy_48 : decode cX7_losesBy 48 = .ok (.iload_n 1, 1) := by decide +kernel
theorem dX7_losesBy_49 : decode cX7_losesBy 49 = .ok (.iaload, 1) := by decide +kernel
theorem dX7_losesBy_50 : decode cX7_losesBy 50 = .ok (.iconst 2, 1) := by decide +kernel
theorem dX7_losesBy_51 : decode cX7_losesBy 51 = .ok (.if_icmp .ne 9, 3) := by decide +kernel
theorem dX7_losesBy_54 : decode cX7_losesBy 54 = .ok (.iload 4, 2) := by decide +kernel
theorem dX7_losesBy_56 : decode cX7_losesBy 56 = .ok (.iconst 2, 1) := by decide +kernel
theorem dX7_losesBy_57 : decode cX7_losesBy 57 = .ok (.idiv, 1) := by decide +kernel
theorem dX7_losesBy_58 : decode cX7_losesBy 58 = .ok (.istore 4, 2) := by decide +kernel
theorem dX7_losesBy_60 : decode cX7_losesBy 60 = .ok (.aload_n 0, 1) := by decide +kernel
theorem dX7_losesBy_61 : decode cX7_losesBy 61 = .ok (.getfield 19, 3) := by decide +kernel
theorem dX7_losesBy_64 : decode cX7_losesBy 64 = .ok (.iload_n 1, 1) := by decide +kernel
theorem dX7_losesBy_65 : decode cX7_losesBy 65 = .ok (.iaload, 1) := by decide +kernel
theorem dX7_losesBy_66 : decode cX7_losesBy 66 = .ok (.iconst 2, 1) := by decide +kernel
theorem dX7_losesBy_67 : decode cX7_losesBy 67 = .ok (.if_icmp .ne 7, 3) := by decide +kernel
theorem dX7_losesBy_70 : decode cX7_losesBy 70 = .ok (.iconst 0, 1) := by decide +kernel
theorem dX7_losesBy_71 : decode cX7_losesBy 71 = .ok (.goto 22, 3) := by decide +kernel
theorem dX7_losesBy_74 : decode cX7_losesBy 74 = .ok (.aload_n 0, 1) := by decide +kernel
theorem dX7_losesBy_75 : decode cX7_losesBy 75 = .ok (.getfield 19, 3) := by decide +kernel
theorem dX7_losesBy_78 : decode cX7_losesBy 78 = .ok (.iload_n 1, 1) := by decide +kernel
theorem dX7_losesBy_79 : decode cX7_losesBy 79 = .ok (.iaload, 1) := by decide +kernel
theorem dX7_losesBy_80 : decode cX7_losesBy 80 = .ok (.iconst 1, 1) := by decide +kernel
theorem dX7_losesBy_81 : decode cX7_losesBy 81 = .ok (.if_icmp .ne 10, 3) := by decide +kernel
theorem dX7_losesBy_84 : decode cX7_losesBy 84 = .ok (.iload 4, 2) := by decide +kernel
theorem dX7_losesBy_86 : decode cX7_losesBy 86 = .ok (.iconst 2, 1) := by decide +kernel
theorem dX7_losesBy_87 : decode cX7_losesBy 87 = .ok (.idiv, 1) := by decide +kernel
theorem dX7_losesBy_88 : decode cX7_losesBy 88 = .ok (.goto 5, 3) := by decide +kernel
theorem dX7_losesBy_91 : decode cX7_losesBy 91 = .ok (.iload 4, 2) := by decide +kernel
theorem dX7_losesBy_93 : decode cX7_losesBy 93 = .ok (.ireturn, 1) := by decide +kernel
theorem dX7_rainOn_0 : decode cX7_rainOn 0 = .ok (.iconst 0, 1) := by decide +kernel
theorem dX7_rainOn_1 : decode cX7_rainOn 1 = .ok (.istore_n 2, 1) := by decide +kernel
theorem dX7_rainOn_2 : decode cX7_rainOn 2 = .ok (.iload_n 2, 1) := by decide +kernel
theorem dX7_rainOn_3 : decode cX7_rainOn 3 = .ok (.aload_n 0, 1) := by decide +kernel
theorem dX7_rainOn_4 : decode cX7_rainOn 4 = .ok (.getfield 108, 3) := by decide +kernel
theorem dX7_rainOn_7 : decode cX7_rainOn 7 = .ok (.if_icmp .ge 70, 3) := by decide +kernel
theorem dX7_rainOn_10 : decode cX7_rainOn 10 = .ok (.iconst 0, 1) := by decide +kernel
theorem dX7_rainOn_11 : decode cX7_rainOn 11 = .ok (.istore_n 3, 1) := by decide +kernel
theorem dX7_rainOn_12 : decode cX7_rainOn 12 = .ok (.iload_n 3, 1) := by decide +kernel
theorem dX7_rainOn_13 : decode cX7_rainOn 13 = .ok (.iconst 3, 1) := by decide +kernel
theorem dX7_rainOn_14 : decode cX7_rainOn 14 = .ok (.if_icmp .ge 57, 3) := by decide +kernel
theorem dX7_rainOn_17 : decode cX7_rainOn 17 = .ok (.aload_n 0, 1) := by decide +kernel
theorem dX7_rainOn_18 : decode cX7_rainOn 18 = .ok (.getfield 41, 3) := by decide +kernel
theorem dX7_rainOn_21 : decode cX7_rainOn 21 = .ok (.iconst 3, 1) := by decide +kernel
theorem dX7_rainOn_22 : decode cX7_rainOn 22 = .ok (.iload_n 2, 1) := by decide +kernel
theorem dX7_rainOn_23 : decode cX7_rainOn 23 = .ok (.imul, 1) := by decide +kernel
theorem dX7_rainOn_24 : decode cX7_rainOn 24 = .ok (.iload_n 3, 1) := by decide +kernel
theorem dX7_rainOn_25 : decode cX7_rainOn 25 = .ok (.iadd, 1) := by decide +kernel
theorem dX7_rainOn_26 : decode cX7_rainOn 26 = .ok (.iaload, 1) := by decide +kernel
theorem dX7_rainOn_27 : decode cX7_rainOn 27 = .ok (.aload_n 0, 1) := by decide +kernel
theorem dX7_rainOn_28 : decode cX7_rainOn 28 = .ok (.iload_n 2, 1) := by decide +kernel
theorem dX7_rainOn_29 : decode cX7_rainOn 29 = .ok (.iload_n 3, 1) := by decide +kernel
theorem dX7_rainOn_30 : decode cX7_rainOn 30 = .ok (.iload_n 1, 1) := by decide +kernel
theorem dX7_rainOn_31 : decode cX7_rainOn 31 = .ok (.invokevirtual 153, 3) := by decide +kernel
theorem dX7_rainOn_34 : decode cX7_rainOn 34 = .ok (.invokestatic 157, 3) := by decide +kernel
theorem dX7_rainOn_37 : decode cX7_rainOn 37 = .ok (.istore 4, 2) := by decide +kernel
theorem dX7_rainOn_39 : decode cX7_rainOn 39 = .ok (.aload_n 0, 1) := by decide +kernel
theorem dX7_rainOn_40 : decode cX7_rainOn 40 = .ok (.getfield 41, 3) := by decide +kernel
theorem dX7_rainOn_43 : decode cX7_rainOn 43 = .ok (.iconst 3, 1) := by decide +kernel
theorem dX7_rainOn_44 : decode cX7_rainOn 44 = .ok (.iload_n 2, 1) := by decide +kernel
theorem dX7_rainOn_45 : decode cX7_rainOn 45 = .ok (.imul, 1) := by decide +kernel
theorem dX7_rainOn_46 : decode cX7_rainOn 46 = .ok (.iload_n 3, 1) := by decide +kernel
theorem dX7_rainOn_47 : decode cX7_rainOn 47 = .ok (.iadd, 1) := by decide +kernel
theorem dX7_rainOn_48 : decode cX7_rainOn 48 = .ok (.dup2, 1) := by decide +kernel
theorem dX7_rainOn_49 : decode cX7_rainOn 49 = .ok (.iaload, 1) := by decide +kernel
theorem dX7_rainOn_50 : decode cX7_rainOn 50 = .ok (.iload 4, 2) := by decide +kernel
theorem dX7_rainOn_52 : decode cX7_rainOn 52 = .ok (.isub, 1) := by decide +kernel
theorem dX7_rainOn_53 : decode cX7_rainOn 53 = .ok (.iastore, 1) := by decide +kernel
theorem dX7_rainOn_54 : decode cX7_rainOn 54 = .ok (.aload_n 0, 1) := by decide +kernel
theorem dX7_rainOn_55 : decode cX7_rainOn 55 = .ok (.getfield 44, 3) := by decide +kernel
theorem dX7_rainOn_58 : decode cX7_rainOn 58 = .ok (.iload_n 2, 1) := by decide +kernel
theorem dX7_rainOn_59 : decode cX7_rainOn 59 = .ok (.dup2, 1) := by decide +kernel
theorem dX7_rainOn_60 : decode cX7_rainOn 60 = .ok (.iaload, 1) := by decide +kernel
theorem dX7_rainOn_61 : decode cX7_rainOn 61 = .ok (.iload 4, 2) := by decide +kernel
theorem dX7_rainOn_63 : decode cX7_rainOn 63 = .ok (.iadd, 1) := by decide +kernel
theorem dX7_rainOn_64 : decode cX7_rainOn 64 = .ok (.iastore, 1) := by decide +kernel
theorem dX7_rainOn_65 : decode cX7_rainOn 65 = .ok (.iinc 3 1, 3) := by decide +kernel
theorem dX7_rainOn_68 : decode cX7_rainOn 68 = .ok (.goto (-56), 3) := by decide +kernel
theorem dX7_rainOn_71 : decode cX7_rainOn 71 = .ok (.iinc 2 1, 3) := by decide +kernel
theorem dX7_rainOn_74 : decode cX7_rainOn 74 = .ok (.goto (-72), 3) := by decide +kernel
theorem dX7_rainOn_77 : decode cX7_rainOn 77 = .ok (.return_, 1) := by decide +kernel
theorem dX7_canLick_0 : decode cX7_canLick 0 = .ok (.aload_n 0, 1) := by decide +kernel
theorem dX7_canLick_1 : decode cX7_canLick 1 = .ok (.getfield 41, 3) := by decide +kernel
theorem dX7_canLick_4 : decode cX7_canLick 4 = .ok (.iconst 3, 1) := by decide +kernel
theorem dX7_canLick_5 : decode cX7_canLick 5 = .ok (.iload_n 1, 1) := by decide +kernel
theorem dX7_canLick_6 : decode cX7_canLick 6 = .ok (.imul, 1) := by decide +kernel
theorem dX7_canLick_7 : decode cX7_canLick 7 = .ok (.iconst 2, 1) := by decide +kernel
theorem dX7_canLick_8 : decode cX7_canLick 8 = .ok (.iadd, 1) := by decide +kernel
theorem dX7_canLick_9 : decode cX7_canLick 9 = .ok (.iaload, 1) := by decide +kernel
theorem dX7_canLick_10 : decode cX7_canLick 10 = .ok (.istore_n 2, 1) := by decide +kernel
theorem dX7_canLick_11 : decode cX7_canLick 11 = .ok (.aload_n 0, 1) := by decide +kernel
theorem dX7_canLick_12 : decode cX7_canLick 12 = .ok (.getfield 22, 3) := by decide +kernel
theorem dX7_canLick_15 : decode cX7_canLick 15 = .ok (.iload_n 1, 1) := by decide +kernel
theorem dX7_canLick_16 : decode cX7_canLick 16 = .ok (.baload, 1) := by decide +kernel
theorem dX7_canLick_17 : decode cX7_canLick 17 = .ok (.ifCond .ne 39, 3) := by decide +kernel
theorem dX7_canLick_20 : decode cX7_canLick 20 = .ok (.aload_n 0, 1) := by decide +kernel
theorem dX7_canLick_21 : decode cX7_canLick 21 = .ok (.getfield 7, 3) := by decide +kernel
theorem dX7_canLick_24 : decode cX7_canLick 24 = .ok (.iload_n 1, 1) := by decide +kernel
theorem dX7_canLick_25 : decode cX7_canLick 25 = .ok (.iaload, 1) := by decide +kernel
theorem dX7_canLick_26 : decode cX7_canLick 26 = .ok (.ifCond .ne 10, 3) := by decide +kernel
theorem dX7_canLick_29 : decode cX7_canLick 29 = .ok (.iload_n 2, 1) := by decide +kernel
theorem dX7_canLick_30 : decode cX7_canLick 30 = .ok (.ifCond .le 26, 3) := by decide +kernel
theorem dX7_canLick_33 : decode cX7_canLick 33 = .ok (.goto 19, 3) := by decide +kernel
theorem dX7_canLick_36 : decode cX7_canLick 36 = .ok (.iconst 2, 1) := by decide +kernel
theorem dX7_canLick_37 : decode cX7_canLick 37 = .ok (.iload_n 2, 1) := by decide +kernel
theorem dX7_canLick_38 : decode cX7_canLick 38 = .ok (.imul, 1) := by decide +kernel
theorem dX7_canLick_39 : decode cX7_canLick 39 = .ok (.aload_n 0, 1) := by decide +kernel
theorem dX7_canLick_40 : decode cX7_canLick 40 = .ok (.getfield 13, 3) := by decide +kernel
theorem dX7_canLick_43 : decode cX7_canLick 43 = .ok (.iconst 3, 1) := by decide +kernel
theorem dX7_canLick_44 : decode cX7_canLick 44 = .ok (.iload_n 1, 1) := by decide +kernel
theorem dX7_canLick_45 : decode cX7_canLick 45 = .ok (.imul, 1) := by decide +kernel
theorem dX7_canLick_46 : decode cX7_canLick 46 = .ok (.iconst 2, 1) := by decide +kernel
theorem dX7_canLick_47 : decode cX7_canLick 47 = .ok (.iadd, 1) := by decide +kernel
theorem dX7_canLick_48 : decode cX7_canLick 48 = .ok (.iaload, 1) := by decide +kernel
theorem dX7_canLick_49 : decode cX7_canLick 49 = .ok (.if_icmp .le 7, 3) := by decide +kernel
theorem dX7_canLick_52 : decode cX7_canLick 52 = .ok (.iconst 1, 1) := by decide +kernel
theorem dX7_canLick_53 : decode cX7_canLick 53 = .ok (.goto 4, 3) := by decide +kernel
theorem dX7_canLick_56 : decode cX7_canLick 56 = .ok (.iconst 0, 1) := by decide +kernel
theorem dX7_canLick_57 : decode cX7_canLick 57 = .ok (.ireturn, 1) := by decide +kernel
theorem dX7_likedNow_0 : decode cX7_likedNow 0 = .ok (.bipush (-9), 2) := by decide +kernel
theorem dX7_likedNow_2 : decode cX7_likedNow 2 = .ok (.istore_n 1, 1) := by decide +kernel
theorem dX7_likedNow_3 : decode cX7_likedNow 3 = .ok (.iconst 0, 1) := by decide +kernel
theorem dX7_likedNow_4 : decode cX7_likedNow 4 = .ok (.istore_n 2, 1) := by decide +kernel
theorem dX7_likedNow_5 : decode cX7_likedNow 5 = .ok (.iload_n 2, 1) := by decide +kernel
theorem dX7_likedNow_6 : decode cX7_likedNow 6 = .ok (.aload_n 0, 1) := by decide +kernel
theorem dX7_likedNow_7 : decode cX7_likedNow 7 = .ok (.getfield 108, 3) := by decide +kernel
theorem dX7_likedNow_10 : decode cX7_likedNow 10 = .ok (.if_icmp .ge 46, 3) := by decide +kernel
theorem dX7_likedNow_13 : decode cX7_likedNow 13 = .ok (.aload_n 0, 1) := by decide +kernel
theorem dX7_likedNow_14 : decode cX7_likedNow 14 = .ok (.iload_n 2, 1) := by decide +kernel
theorem dX7_likedNow_15 : decode cX7_likedNow 15 = .ok (.invokevirtual 160, 3) := by decide +kernel
theorem dX7_likedNow_18 : decode cX7_likedNow 18 = .ok (.ifCond .eq 32, 3) := by decide +kernel
theorem dX7_likedNow_21 : decode cX7_likedNow 21 = .ok (.iload_n 1, 1) := by decide +kernel
theorem dX7_likedNow_22 : decode cX7_likedNow 22 = .ok (.ifCond .lt 26, 3) := by decide +kernel
theorem dX7_likedNow_25 : decode cX7_likedNow 25 = .ok (.aload_n 0, 1) := by decide +kernel
theorem dX7_likedNow_26 : decode cX7_likedNow 26 = .ok (.getfield 41, 3) := by decide +kernel
theorem dX7_likedNow_29 : decode cX7_likedNow 29 = .ok (.iconst 3, 1) := by decide +kernel
theorem dX7_likedNow_30 : decode cX7_likedNow 30 = .ok (.iload_n 2, 1) := by decide +kernel
theorem dX7_likedNow_31 : decode cX7_likedNow 31 = .ok (.imul, 1) := by decide +kernel
theorem dX7_likedNow_32 : decode cX7_likedNow 32 = .ok (.iconst 2, 1) := by decide +kernel
theorem dX7_likedNow_33 : decode cX7_likedNow 33 = .ok (.iadd, 1) := by decide +kernel
theorem dX7_likedNow_34 : decode cX7_likedNow 34 = .ok (.iaload, 1) := by decide +kernel
theorem dX7_likedNow_35 : decode cX7_likedNow 35 = .ok (.aload_n 0, 1) := by decide +kernel
theorem dX7_likedNow_36 : decode cX7_likedNow 36 = .ok (.getfield 41, 3) := by decide +kernel
theorem dX7_likedNow_39 : decode cX7_likedNow 39 = .ok (.iconst 3, 1) := by decide +kernel
theorem dX7_likedNow_40 : decode cX7_likedNow 40 = .ok (.iload_n 1, 1) := by decide +kernel
theorem dX7_likedNow_41 : decode cX7_likedNow 41 = .ok (.imul, 1) := by decide +kernel
theorem dX7_likedNow_42 : decode cX7_likedNow 42 = .ok (.iconst 2, 1) := by decide +kernel
theorem dX7_likedNow_43 : decode cX7_likedNow 43 = .ok (.iadd, 1) := by decide +kernel
theorem dX7_likedNow_44 : decode cX7_likedNow 44 = .ok (.iaload, 1) := by decide +kernel
theorem dX7_likedNow_45 : decode cX7_likedNow 45 = .ok (.if_icmp .le 5, 3) := by decide +kernel
theorem dX7_likedNow_48 : decode cX7_likedNow 48 = .ok (.iload_n 2, 1) := by decide +kernel
theorem dX7_likedNow_49 : decode cX7_likedNow 49 = .ok (.istore_n 1, 1) := by decide +kernel
theorem dX7_likedNow_50 : decode cX7_likedNow 50 = .ok (.iinc 2 1, 3) := by decide +kernel
theorem dX7_likedNow_53 : decode cX7_likedNow 53 = .ok (.goto (-48), 3) := by decide +kernel
theorem dX7_likedNow_56 : decode cX7_likedNow 56 = .ok (.iload_n 1, 1) := by decide +kernel
theorem dX7_likedNow_57 : decode cX7_likedNow 57 = .ok (.ireturn, 1) := by decide +kernel
theorem dX7_goDay_0 : decode cX7_goDay 0 = .ok (.aload_n 0, 1) := by decide +kernel
theorem dX7_goDay_1 : decode cX7_goDay 1 = .ok (.iload_n 1, 1) := by decide +kernel
theorem dX7_goDay_2 : decode cX7_goDay 2 = .ok (.invokevirtual 163, 3) := by decide +kernel
theorem dX7_goDay_5 : decode cX7_goDay 5 = .ok (.iconst 0, 1) := by decide +kernel
theorem dX7_goDay_6 : decode cX7_goDay 6 = .ok (.istore_n 2, 1) := by decide +kernel
theorem dX7_goDay_7 : decode cX7_goDay 7 = .ok (.iload_n 2, 1) := by decide +kernel
theorem dX7_goDay_8 : decode cX7_goDay 8 = .ok (.aload_n 0, 1) := by decide +kernel
theorem dX7_goDay_9 : decode cX7_goDay 9 = .ok (.getfield 138, 3) := by decide +kernel
theorem dX7_goDay_12 : decode cX7_goDay 12 = .ok (.if_icmp .ge 60, 3) := by decide +kernel
theorem dX7_goDay_15 : decode cX7_goDay 15 = .ok (.aload_n 0, 1) := by decide +kernel
theorem dX7_goDay_16 : decode cX7_goDay 16 = .ok (.invokevirtual 167, 3) := by decide +kernel
theorem dX7_goDay_19 : decode cX7_goDay 19 = .ok (.istore_n 3, 1) := by decide +kernel
theorem dX7_goDay_20 : decode cX7_goDay 20 = .ok (.iload_n 3, 1) := by decide +kernel
theorem dX7_goDay_21 : decode cX7_goDay 21 = .ok (.ifCond .lt 45, 3) := by decide +kernel
theorem dX7_goDay_24 : decode cX7_goDay 24 = .ok (.iconst 2, 1) := by decide +kernel
theorem dX7_goDay_25 : decode cX7_goDay 25 = .ok (.aload_n 0, 1) := by decide +kernel
theorem dX7_goDay_26 : decode cX7_goDay 26 = .ok (.getfield 41, 3) := by decide +kernel
theorem dX7_goDay_29 : decode cX7_goDay 29 = .ok (.iconst 3, 1) := by decide +kernel
theorem dX7_goDay_30 : decode cX7_goDay 30 = .ok (.iload_n 3, 1) := by decide +kernel
theorem dX7_goDay_31 : decode cX7_goDay 31 = .ok (.imul, 1) := by decide +kernel
theorem dX7_goDay_32 : decode cX7_goDay 32 = .ok (.iconst 2, 1) := by decide +kernel
theorem dX7_goDay_33 : decode cX7_goDay 33 = .ok (.iadd, 1) := by decide +kernel
theorem dX7_goDay_34 : decode cX7_goDay 34 = .ok (.iaload, 1) := by decide +kernel
theorem dX7_goDay_35 : decode cX7_goDay 35 = .ok (.invokestatic 157, 3) := by decide +kernel
theorem dX7_goDay_38 : decode cX7_goDay 38 = .ok (.istore 4, 2) := by decide +kernel
theorem dX7_goDay_40 : decode cX7_goDay 40 = .ok (.aload_n 0, 1) := by decide +kernel
theorem dX7_goDay_41 : decode cX7_goDay 41 = .ok (.getfield 41, 3) := by decide +kernel
theorem dX7_goDay_44 : decode cX7_goDay 44 = .ok (.iconst 3, 1) := by decide +kernel
theorem dX7_goDay_45 : decode cX7_goDay 45 = .ok (.iload_n 3, 1) := by decide +kernel
theorem dX7_goDay_46 : decode cX7_goDay 46 = .ok (.imul, 1) := by decide +kernel
theorem dX7_goDay_47 : decode cX7_goDay 47 = .ok (.iconst 2, 1) := by decide +kernel
theorem dX7_goDay_48 : decode cX7_goDay 48 = .ok (.iadd, 1) := by decide +kernel
theorem dX7_goDay_49 : decode cX7_goDay 49 = .ok (.dup2, 1) := by decide +kernel
theorem dX7_goDay_50 : decode cX7_goDay 50 = .ok (.iaload, 1) := by decide +kernel
theorem dX7_goDay_51 : decode cX7_goDay 51 = .ok (.iload 4, 2) := by decide +kernel
theorem dX7_goDay_53 : decode cX7_goDay 53 = .ok (.isub, 1) := by decide +kernel
theorem dX7_goDay_54 : decode cX7_goDay 54 = .ok (.iastore, 1) := by decide +kernel
theorem dX7_goDay_55 : decode cX7_goDay 55 = .ok (.aload_n 0, 1) := by decide +kernel
theorem dX7_goDay_56 : decode cX7_goDay 56 = .ok (.getfield 47, 3) := by decide +kernel
theorem dX7_goDay_59 : decode cX7_goDay 59 = .ok (.iload_n 3, 1) := by decide +kernel
theorem dX7_goDay_60 : decode cX7_goDay 60 = .ok (.dup2, 1) := by decide +kernel
theorem dX7_goDay_61 : decode cX7_goDay 61 = .ok (.iaload, 1) := by decide +kernel
theorem dX7_goDay_62 : decode cX7_goDay 62 = .ok (.iload 4, 2) := by decide +kernel
theorem dX7_goDay_64 : decode cX7_goDay 64 = .ok (.iadd, 1) := by decide +kernel
theorem dX7_goDay_65 : decode cX7_goDay 65 = .ok (.iastore, 1) := by decide +kernel
theorem dX7_goDay_66 : decode cX7_goDay 66 = .ok (.iinc 2 1, 3) := by decide +kernel
theorem dX7_goDay_69 : decode cX7_goDay 69 = .ok (.goto (-62), 3) := by decide +kernel
theorem dX7_goDay_72 : decode cX7_goDay 72 = .ok (.return_, 1) := by decide +kernel
theorem dX7_goTo_0 : decode cX7_goTo 0 = .ok (.aload_n 0, 1) := by decide +kernel
theorem dX7_goTo_1 : decode cX7_goTo 1 = .ok (.invokevirtual 171, 3) := by decide +kernel
theorem dX7_goTo_4 : decode cX7_goTo 4 = .ok (.iconst 0, 1) := by decide +kernel
theorem dX7_goTo_5 : decode cX7_goTo 5 = .ok (.istore_n 2, 1) := by decide +kernel
theorem dX7_goTo_6 : decode cX7_goTo 6 = .ok (.iload_n 2, 1) := by decide +kernel
theorem dX7_goTo_7 : decode cX7_goTo 7 = .ok (.iload_n 1, 1) := by decide +kernel
theorem dX7_goTo_8 : decode cX7_goTo 8 = .ok (.if_icmp .ge 14, 3) := by decide +kernel
theorem dX7_goTo_11 : decode cX7_goTo 11 = .ok (.aload_n 0, 1) := by decide +kernel
theorem dX7_goTo_12 : decode cX7_goTo 12 = .ok (.iload_n 2, 1) := by decide +kernel
theorem dX7_goTo_13 : decode cX7_goTo 13 = .ok (.invokevirtual 174, 3) := by decide +kernel
theorem dX7_goTo_16 : decode cX7_goTo 16 = .ok (.iinc 2 1, 3) := by decide +kernel
theorem dX7_goTo_19 : decode cX7_goTo 19 = .ok (.goto (-13), 3) := by decide +kernel
theorem dX7_goTo_22 : decode cX7_goTo 22 = .ok (.return_, 1) := by decide +kernel
theorem dX7_noPart_0 : decode cX7_noPart 0 = .ok (.iload_n 0, 1) := by decide +kernel
theorem dX7_noPart_1 : decode cX7_noPart 1 = .ok (.i2l, 1) := by decide +kernel
theorem dX7_noPart_2 : decode cX7_noPart 2 = .ok (.lconst 0, 1) := by decide +kernel
theorem dX7_noPart_3 : decode cX7_noPart 3 = .ok (.ldc2_w 95, 3) := by decide +kernel
theorem dX7_noPart_6 : decode cX7_noPart 6 = .ok (.invokestatic 97, 3) := by decide +kernel
theorem dX7_noPart_9 : decode cX7_noPart 9 = .ok (.ifCond .ne 7, 3) := by decide +kernel
theorem dX7_noPart_12 : decode cX7_noPart 12 = .ok (.iconst 1, 1) := by decide +kernel
theorem dX7_noPart_13 : decode cX7_noPart 13 = .ok (.goto 4, 3) := by decide +kernel
theorem dX7_noPart_16 : decode cX7_noPart 16 = .ok (.iconst 0, 1) := by decide +kernel
theorem dX7_noPart_17 : decode cX7_noPart 17 = .ok (.ireturn, 1) := by decide +kernel
theorem dX7_grains_0 : decode cX7_grains 0 = .ok (.aload_n 0, 1) := by decide +kernel
theorem dX7_grains_1 : decode cX7_grains 1 = .ok (.iload_n 1, 1) := by decide +kernel
theorem dX7_grains_2 : decode cX7_grains 2 = .ok (.invokevirtual 144, 3) := by decide +kernel
theorem dX7_grains_5 : decode cX7_grains 5 = .ok (.ifCond .ne 10, 3) := by decide +kernel
theorem dX7_grains_8 : decode cX7_grains 8 = .ok (.iload_n 2, 1) := by decide +kernel
theorem dX7_grains_9 : decode cX7_grains 9 = .ok (.invokestatic 177, 3) := by decide +kernel
theorem dX7_grains_12 : decode cX7_grains 12 = .ok (.ifCond .eq 5, 3) := by decide +kernel
theorem dX7_grains_15 : decode cX7_grains 15 = .ok (.iconst (-1), 1) := by decide +kernel
theorem dX7_grains_16 : decode cX7_grains 16 = .ok (.ireturn, 1) := by decide +kernel
theorem dX7_grains_17 : decode cX7_grains 17 = .ok (.iload_n 3, 1) := by decide +kernel
theorem dX7_grains_18 : decode cX7_grains 18 = .ok (.invokestatic 180, 3) := by decide +kernel
theorem dX7_grains_21 : decode cX7_grains 21 = .ok (.ifCond .ne 6, 3) := by decide +kernel
theorem dX7_grains_24 : decode cX7_grains 24 = .ok (.bipush (-2), 2) := by decide +kernel
theorem dX7_grains_26 : decode cX7_grains 26 = .ok (.ireturn, 1) := by decide +kernel
theorem dX7_grains_27 : decode cX7_grains 27 = .ok (.aload_n 0, 1) := by decide +kernel
theorem dX7_grains_28 : decode cX7_grains 28 = .ok (.iload_n 3, 1) := by decide +kernel
theorem dX7_grains_29 : decode cX7_grains 29 = .ok (.invokevirtual 183, 3) := by decide +kernel
theorem dX7_grains_32 : decode cX7_grains 32 = .ok (.aload_n 0, 1) := by decide +kernel
theorem dX7_grains_33 : decode cX7_grains 33 = .ok (.getfield 41, 3) := by decide +kernel
theorem dX7_grains_36 : decode cX7_grains 36 = .ok (.iconst 3, 1) := by decide +kernel
theorem dX7_grains_37 : decode cX7_grains 37 = .ok (.iload_n 1, 1) := by decide +kernel
theorem dX7_grains_38 : decode cX7_grains 38 = .ok (.imul, 1) := by decide +kernel
theorem dX7_grains_39 : decode cX7_grains 39 = .ok (.iload_n 2, 1) := by decide +kernel
theorem dX7_grains_40 : decode cX7_grains 40 = .ok (.iadd, 1) := by decide +kernel
theorem dX7_grains_41 : decode cX7_grains 41 = .ok (.iaload, 1) := by decide +kernel
theorem dX7_grains_42 : decode cX7_grains 42 = .ok (.ireturn, 1) := by decide +kernel
theorem dX7_lost_0 : decode cX7_lost 0 = .ok (.aload_n 0, 1) := by decide +kernel
theorem dX7_lost_1 : decode cX7_lost 1 = .ok (.iload_n 1, 1) := by decide +kernel
theorem dX7_lost_2 : decode cX7_lost 2 = .ok (.invokevirtual 144, 3) := by decide +kernel
theorem dX7_lost_5 : decode cX7_lost 5 = .ok (.ifCond .eq 5, 3) := by decide +kernel
theorem dX7_lost_8 : decode cX7_lost 8 = .ok (.iconst (-1), 1) := by decide +kernel
theorem dX7_lost_9 : decode cX7_lost 9 = .ok (.ireturn, 1) := by decide +kernel
theorem dX7_lost_10 : decode cX7_lost 10 = .ok (.iload_n 2, 1) := by decide +kernel
theorem dX7_lost_11 : decode cX7_lost 11 = .ok (.invokestatic 180, 3) := by decide +kernel
theorem dX7_lost_14 : decode cX7_lost 14 = .ok (.ifCond .eq 13, 3) := by decide +kernel
theorem dX7_lost_17 : decode cX7_lost 17 = .ok (.iload_n 3, 1) := by decide +kernel
theorem dX7_lost_18 : decode cX7_lost 18 = .ok (.i2l, 1) := by decide +kernel
theorem dX7_lost_19 : decode cX7_lost 19 = .ok (.lconst 0, 1) := by decide +kernel
theorem dX7_lost_20 : decode cX7_lost 20 = .ok (.lconst 1, 1) := by decide +kernel
theorem dX7_lost_21 : decode cX7_lost 21 = .ok (.invokestatic 97, 3) := by decide +kernel
theorem dX7_lost_24 : decode cX7_lost 24 = .ok (.ifCond .ne 6, 3) := by decide +kernel
theorem dX7_lost_27 : decode cX7_lost 27 = .ok (.bipush (-2), 2) := by decide +kernel
theorem dX7_lost_29 : decode cX7_lost 29 = .ok (.ireturn, 1) := by decide +kernel
theorem dX7_lost_30 : decode cX7_lost 30 = .ok (.aload_n 0, 1) := by decide +kernel
theorem dX7_lost_31 : decode cX7_lost 31 = .ok (.iload_n 2, 1) := by decide +kernel
theorem dX7_lost_32 : decode cX7_lost 32 = .ok (.invokevirtual 183, 3) := by decide +kernel
theorem dX7_lost_35 : decode cX7_lost 35 = .ok (.iload_n 3, 1) := by decide +kernel
theorem dX7_lost_36 : decode cX7_lost 36 = .ok (.ifCond .ne 12, 3) := by decide +kernel
theorem dX7_lost_39 : decode cX7_lost 39 = .ok (.aload_n 0, 1) := by decide +kernel
theorem dX7_lost_40 : decode cX7_lost 40 = .ok (.getfield 44, 3) := by decide +kernel
theorem dX7_lost_43 : decode cX7_lost 43 = .ok (.iload_n 1, 1) := by decide +kernel
theorem dX7_lost_44 : decode cX7_lost 44 = .ok (.iaload, 1) := by decide +kernel
theorem dX7_lost_45 : decode cX7_lost 45 = .ok (.goto 9, 3) := by decide +kernel
theorem dX7_lost_48 : decode cX7_lost 48 = .ok (.aload_n 0, 1) := by decide +kernel
theorem dX7_lost_49 : decode cX7_lost 49 = .ok (.getfield 47, 3) := by decide +kernel
theorem dX7_lost_52 : decode cX7_lost 52 = .ok (.iload_n 1, 1) := by decide +kernel
theorem dX7_lost_53 : decode cX7_lost 53 = .ok (.iaload, 1) := by decide +kernel
theorem dX7_lost_54 : decode cX7_lost 54 = .ok (.ireturn, 1) := by decide +kernel
theorem dX7_isGoneNow_0 : decode cX7_isGoneNow 0 = .ok (.iload_n 2, 1) := by decide +kernel
theorem dX7_isGoneNow_1 : decode cX7_isGoneNow 1 = .ok (.iconst 3, 1) := by decide +kernel
theorem dX7_isGoneNow_2 : decode cX7_isGoneNow 2 = .ok (.if_icmp .ge 24, 3) := by decide +kernel
theorem dX7_isGoneNow_5 : decode cX7_isGoneNow 5 = .ok (.aload_n 0, 1) := by decide +kernel
theorem dX7_isGoneNow_6 : decode cX7_isGoneNow 6 = .ok (.getfield 41, 3) := by decide +kernel
theorem dX7_isGoneNow_9 : decode cX7_isGoneNow 9 = .ok (.iconst 3, 1) := by decide +kernel
theorem dX7_isGoneNow_10 : decode cX7_isGoneNow 10 = .ok (.iload_n 1, 1) := by decide +kernel
theorem dX7_isGoneNow_11 : decode cX7_isGoneNow 11 = .ok (.imul, 1) := by decide +kernel
theorem dX7_isGoneNow_12 : decode cX7_isGoneNow 12 = .ok (.iload_n 2, 1) := by decide +kernel
theorem dX7_isGoneNow_13 : decode cX7_isGoneNow 13 = .ok (.iadd, 1) := by decide +kernel
theorem dX7_isGoneNow_14 : decode cX7_isGoneNow 14 = .ok (.iaload, 1) := by decide +kernel
theorem dX7_isGoneNow_15 : decode cX7_isGoneNow 15 = .ok (.ifCond .ne 7, 3) := by decide +kernel
theorem dX7_isGoneNow_18 : decode cX7_isGoneNow 18 = .ok (.iconst 1, 1) := by decide +kernel
theorem dX7_isGoneNow_19 : decode cX7_isGoneNow 19 = .ok (.goto 45, 3) := by decide +kernel
theorem dX7_isGoneNow_22 : decode cX7_isGoneNow 22 = .ok (.iconst 0, 1) := by decide +kernel
theorem dX7_isGoneNow_23 : decode cX7_isGoneNow 23 = .ok (.goto 41, 3) := by decide +kernel
theorem dX7_isGoneNow_26 : decode cX7_isGoneNow 26 = .ok (.aload_n 0, 1) := by decide +kernel
theorem dX7_isGoneNow_27 : decode cX7_isGoneNow 27 = .ok (.getfield 41, 3) := by decide +kernel
theorem dX7_isGoneNow_30 : decode cX7_isGoneNow 30 = .ok (.iconst 3, 1) := by decide +kernel
theorem dX7_isGoneNow_31 : decode cX7_isGoneNow 31 = .ok (.iload_n 1, 1) := by decide +kernel
theorem dX7_isGoneNow_32 : decode cX7_isGoneNow 32 = .ok (.imul, 1) := by decide +kernel
theorem dX7_isGoneNow_33 : decode cX7_isGoneNow 33 = .ok (.iaload, 1) := by decide +kernel
theorem dX7_isGoneNow_34 : decode cX7_isGoneNow 34 = .ok (.aload_n 0, 1) := by decide +kernel
theorem dX7_isGoneNow_35 : decode cX7_isGoneNow 35 = .ok (.getfield 41, 3) := by decide +kernel
theorem dX7_isGoneNow_38 : decode cX7_isGoneNow 38 = .ok (.iconst 3, 1) := by decide +kernel
theorem dX7_isGoneNow_39 : decode cX7_isGoneNow 39 = .ok (.iload_n 1, 1) := by decide +kernel
theorem dX7_isGoneNow_40 : decode cX7_isGoneNow 40 = .ok (.imul, 1) := by decide +kernel
theorem dX7_isGoneNow_41 : decode cX7_isGoneNow 41 = .ok (.iconst 1, 1) := by decide +kernel
theorem dX7_isGoneNow_42 : decode cX7_isGoneNow 42 = .ok (.iadd, 1) := by decide +kernel
theorem dX7_isGoneNow_43 : decode cX7_isGoneNow 43 = .ok (.iaload, 1) := by decide +kernel
theorem dX7_isGoneNow_44 : decode cX7_isGoneNow 44 = .ok (.iadd, 1) := by decide +kernel
theorem dX7_isGoneNow_45 : decode cX7_isGoneNow 45 = .ok (.aload_n 0, 1) := by decide +kernel
theorem dX7_isGoneNow_46 : decode cX7_isGoneNow 46 = .ok (.getfield 41, 3) := by decide +kernel
theorem dX7_isGoneNow_49 : decode cX7_isGoneNow 49 = .ok (.iconst 3, 1) := by decide +kernel
theorem dX7_isGoneNow_50 : decode cX7_isGoneNow 50 = .ok (.iload_n 1, 1) := by decide +kernel
theorem dX7_isGoneNow_51 : decode cX7_isGoneNow 51 = .ok (.imul, 1) := by decide +kernel
theorem dX7_isGoneNow_52 : decode cX7_isGoneNow 52 = .ok (.iconst 2, 1) := by decide +kernel
theorem dX7_isGoneNow_53 : decode cX7_isGoneNow 53 = .ok (.iadd, 1) := by decide +kernel
theorem dX7_isGoneNow_54 : decode cX7_isGoneNow 54 = .ok (.iaload, 1) := by decide +kernel
theorem dX7_isGoneNow_55 : decode cX7_isGoneNow 55 = .ok (.iadd, 1) := by decide +kernel
theorem dX7_isGoneNow_56 : decode cX7_isGoneNow 56 = .ok (.ifCond .ne 7, 3) := by decide +kernel
theorem dX7_isGoneNow_59 : decode cX7_isGoneNow 59 = .ok (.iconst 1, 1) := by decide +kernel
theorem dX7_isGoneNow_60 : decode cX7_isGoneNow 60 = .ok (.goto 4, 3) := by decide +kernel
theorem dX7_isGoneNow_63 : decode cX7_isGoneNow 63 = .ok (.iconst 0, 1) := by decide +kernel
theorem dX7_isGoneNow_64 : decode cX7_isGoneNow 64 = .ok (.ireturn, 1) := by decide +kernel
theorem dX7_goneAt_0 : decode cX7_goneAt 0 = .ok (.aload_n 0, 1) := by decide +kernel
theorem dX7_goneAt_1 : decode cX7_goneAt 1 = .ok (.invokevirtual 171, 3) := by decide +kernel
theorem dX7_goneAt_4 : decode cX7_goneAt 4 = .ok (.iconst 0, 1) := by decide +kernel
theorem dX7_goneAt_5 : decode cX7_goneAt 5 = .ok (.istore_n 3, 1) := by decide +kernel
theorem dX7_goneAt_6 : decode cX7_goneAt 6 = .ok (.iload_n 3, 1) := by decide +kernel
theorem dX7_goneAt_7 : decode cX7_goneAt 7 = .ok (.bipush 60, 2) := by decide +kernel
theorem dX7_goneAt_9 : decode cX7_goneAt 9 = .ok (.if_icmp .ge 27, 3) := by decide +kernel
theorem dX7_goneAt_12 : decode cX7_goneAt 12 = .ok (.aload_n 0, 1) := by decide +kernel
theorem dX7_goneAt_13 : decode cX7_goneAt 13 = .ok (.iload_n 3, 1) := by decide +kernel
theorem dX7_goneAt_14 : decode cX7_goneAt 14 = .ok (.invokevirtual 174, 3) := by decide +kernel
theorem dX7_goneAt_17 : decode cX7_goneAt 17 = .ok (.aload_n 0, 1) := by decide +kernel
theorem dX7_goneAt_18 : decode cX7_goneAt 18 = .ok (.iload_n 1, 1) := by decide +kernel
theorem dX7_goneAt_19 : decode cX7_goneAt 19 = .ok (.iload_n 2, 1) := by decide +kernel
theorem dX7_goneAt_20 : decode cX7_goneAt 20 = .ok (.invokevirtual 186, 3) := by decide +kernel
theorem dX7_goneAt_23 : decode cX7_goneAt 23 = .ok (.ifCond .eq 7, 3) := by decide +kernel
theorem dX7_goneAt_26 : decode cX7_goneAt 26 = .ok (.iload_n 3, 1) := by decide +kernel
theorem dX7_goneAt_27 : decode cX7_goneAt 27 = .ok (.iconst 1, 1) := by decide +kernel
theorem dX7_goneAt_28 : decode cX7_goneAt 28 = .ok (.iadd, 1) := by decide +kernel
theorem dX7_goneAt_29 : decode cX7_goneAt 29 = .ok (.ireturn, 1) := by decide +kernel
theorem dX7_goneAt_30 : decode cX7_goneAt 30 = .ok (.iinc 3 1, 3) := by decide +kernel
theorem dX7_goneAt_33 : decode cX7_goneAt 33 = .ok (.goto (-27), 3) := by decide +kernel
theorem dX7_goneAt_36 : decode cX7_goneAt 36 = .ok (.bipush (-9), 2) := by decide +kernel
theorem dX7_goneAt_38 : decode cX7_goneAt 38 = .ok (.ireturn, 1) := by decide +kernel
theorem dX7_gone_0 : decode cX7_gone 0 = .ok (.aload_n 0, 1) := by decide +kernel
theorem dX7_gone_1 : decode cX7_gone 1 = .ok (.iload_n 1, 1) := by decide +kernel
theorem dX7_gone_2 : decode cX7_gone 2 = .ok (.invokevirtual 144, 3) := by decide +kernel
theorem dX7_gone_5 : decode cX7_gone 5 = .ok (.ifCond .ne 15, 3) := by decide +kernel
theorem dX7_gone_8 : decode cX7_gone 8 = .ok (.iload_n 2, 1) := by decide +kernel
theorem dX7_gone_9 : decode cX7_gone 9 = .ok (.i2l, 1) := by decide +kernel
theorem dX7_gone_10 : decode cX7_gone 10 = .ok (.lconst 0, 1) := by decide +kernel
theorem dX7_gone_11 : decode cX7_gone 11 = .ok (.ldc2_w 147, 3) := by decide +kernel
theorem dX7_gone_14 : decode cX7_gone 14 = .ok (.invokestatic 97, 3) := by decide +kernel
theorem dX7_gone_17 : decode cX7_gone 17 = .ok (.ifCond .ne 7, 3) := by decide +kernel
theorem dX7_gone_20 : decode cX7_gone 20 = .ok (.iconst (-1), 1) := by decide +kernel
theorem dX7_gone_21 : decode cX7_gone 21 = .ok (.goto 9, 3) := by decide +kernel
theorem dX7_gone_24 : decode cX7_gone 24 = .ok (.aload_n 0, 1) := by decide +kernel
theorem dX7_gone_25 : decode cX7_gone 25 = .ok (.iload_n 1, 1) := by decide +kernel
theorem dX7_gone_26 : decode cX7_gone 26 = .ok (.iload_n 2, 1) := by decide +kernel
theorem dX7_gone_27 : decode cX7_gone 27 = .ok (.invokevirtual 189, 3) := by decide +kernel
theorem dX7_gone_30 : decode cX7_gone 30 = .ok (.ireturn, 1) := by decide +kernel
theorem dX7_liked_0 : decode cX7_liked 0 = .ok (.iload_n 1, 1) := by decide +kernel
theorem dX7_liked_1 : decode cX7_liked 1 = .ok (.i2l, 1) := by decide +kernel
theorem dX7_liked_2 : decode cX7_liked 2 = .ok (.lconst 0, 1) := by decide +kernel
theorem dX7_liked_3 : decode cX7_liked 3 = .ok (.ldc2_w 149, 3) := by decide +kernel
theorem dX7_liked_6 : decode cX7_liked 6 = .ok (.invokestatic 97, 3) := by decide +kernel
theorem dX7_liked_9 : decode cX7_liked 9 = .ok (.ifCond .ne 6, 3) := by decide +kernel
theorem dX7_liked_12 : decode cX7_liked 12 = .ok (.bipush (-2), 2) := by decide +kernel
theorem dX7_liked_14 : decode cX7_liked 14 = .ok (.ireturn, 1) := by decide +kernel
theorem dX7_liked_15 : decode cX7_liked 15 = .ok (.aload_n 0, 1) := by decide +kernel
theorem dX7_liked_16 : decode cX7_liked 16 = .ok (.getfield 108, 3) := by decide +kernel
theorem dX7_liked_19 : decode cX7_liked 19 = .ok (.ifCond .ne 6, 3) := by decide +kernel
theorem dX7_liked_22 : decode cX7_liked 22 = .ok (.bipush (-3), 2) := by decide +kernel
theorem dX7_liked_24 : decode cX7_liked 24 = .ok (.ireturn, 1) := by decide +kernel
theorem dX7_liked_25 : decode cX7_liked 25 = .ok (.aload_n 0, 1) := by decide +kernel
theorem dX7_liked_26 : decode cX7_liked 26 = .ok (.iload_n 1, 1) := by decide +kernel
theorem dX7_liked_27 : decode cX7_liked 27 = .ok (.invokevirtual 183, 3) := by decide +kernel
theorem dX7_liked_30 : decode cX7_liked 30 = .ok (.aload_n 0, 1) := by decide +kernel
theorem dX7_liked_31 : decode cX7_liked 31 = .ok (.iload_n 1, 1) := by decide +kernel
theorem dX7_liked_32 : decode cX7_liked 32 = .ok (.invokevirtual 163, 3) := by decide +kernel
theorem dX7_liked_35 : decode cX7_liked 35 = .ok (.aload_n 0, 1) := by decide +kernel
theorem dX7_liked_36 : decode cX7_liked 36 = .ok (.getfield 138, 3) := by decide +kernel
theorem dX7_liked_39 : decode cX7_liked 39 = .ok (.ifCond .ne 8, 3) := by decide +kernel
theorem dX7_liked_42 : decode cX7_liked 42 = .ok (.bipush (-9), 2) := by decide +kernel
theorem dX7_liked_44 : decode cX7_liked 44 = .ok (.goto 7, 3) := by decide +kernel
theorem dX7_liked_47 : decode cX7_liked 47 = .ok (.aload_n 0, 1) := by decide +kernel
theorem dX7_liked_48 : decode cX7_liked 48 = .ok (.invokevirtual 167, 3) := by decide +kernel
theorem dX7_liked_51 : decode cX7_liked 51 = .ok (.ireturn, 1) := by decide +kernel
theorem dX7_lasts_0 : decode cX7_lasts 0 = .ok (.iload_n 1, 1) := by decide +kernel
theorem dX7_lasts_1 : decode cX7_lasts 1 = .ok (.i2l, 1) := by decide +kernel
theorem dX7_lasts_2 : decode cX7_lasts 2 = .ok (.lconst 0, 1) := by decide +kernel
theorem dX7_lasts_3 : decode cX7_lasts 3 = .ok (.ldc2_w 95, 3) := by decide +kernel
theorem dX7_lasts_6 : decode cX7_lasts 6 = .ok (.invokestatic 97, 3) := by decide +kernel
theorem dX7_lasts_9 : decode cX7_lasts 9 = .ok (.ifCond .eq 10, 3) := by decide +kernel
theorem dX7_lasts_12 : decode cX7_lasts 12 = .ok (.aload_n 0, 1) := by decide +kernel
theorem dX7_lasts_13 : decode cX7_lasts 13 = .ok (.getfield 108, 3) := by decide +kernel
theorem dX7_lasts_16 : decode cX7_lasts 16 = .ok (.ifCond .ne 7, 3) := by decide +kernel
theorem dX7_lasts_19 : decode cX7_lasts 19 = .ok (.invokestatic 83, 3) := by decide +kernel
theorem dX7_lasts_22 : decode cX7_lasts 22 = .ok (.lreturn, 1) := by decide +kernel
theorem dX7_lasts_23 : decode cX7_lasts 23 = .ok (.iload_n 1, 1) := by decide +kernel
theorem dX7_lasts_24 : decode cX7_lasts 24 = .ok (.ifCond .ne 63, 3) := by decide +kernel
theorem dX7_lasts_27 : decode cX7_lasts 27 = .ok (.iconst 0, 1) := by decide +kernel
theorem dX7_lasts_28 : decode cX7_lasts 28 = .ok (.istore_n 2, 1) := by decide +kernel
theorem dX7_lasts_29 : decode cX7_lasts 29 = .ok (.iconst (-1), 1) := by decide +kernel
theorem dX7_lasts_30 : decode cX7_lasts 30 = .ok (.istore_n 3, 1) := by decide +kernel
theorem dX7_lasts_31 : decode cX7_lasts 31 = .ok (.iconst 0, 1) := by decide +kernel
theorem dX7_lasts_32 : decode cX7_lasts 32 = .ok (.istore 4, 2) := by decide +kernel
theorem dX7_lasts_34 : decode cX7_lasts 34 = .ok (.iload 4, 2) := by decide +kernel
theorem dX7_lasts_36 : decode cX7_lasts 36 = .ok (.aload_n 0, 1) := by decide +kernel
theorem dX7_lasts_37 : decode cX7_lasts 37 = .ok (.getfield 108, 3) := by decide +kernel
theorem dX7_lasts_40 : decode cX7_lasts 40 = .ok (.if_icmp .ge 44, 3) := by decide +kernel
theorem dX7_lasts_43 : decode cX7_lasts 43 = .ok (.aload_n 0, 1) := by decide +kernel
theorem dX7_lasts_44 : decode cX7_lasts 44 = .ok (.iload 4, 2) := by decide +kernel
theorem dX7_lasts_46 : decode cX7_lasts 46 = .ok (.iconst 3, 1) := by decide +kernel
theorem dX7_lasts_47 : decode cX7_lasts 47 = .ok (.invokevirtual 189, 3) := by decide +kernel
theorem dX7_lasts_50 : decode cX7_lasts 50 = .ok (.istore 5, 2) := by decide +kernel
theorem dX7_lasts_52 : decode cX7_lasts 52 = .ok (.iload 5, 2) := by decide +kernel
theorem dX7_lasts_54 : decode cX7_lasts 54 = .ok (.ifCond .ge 8, 3) := by decide +kernel
theorem dX7_lasts_57 : decode cX7_lasts 57 = .ok (.bipush 61, 2) := by decide +kernel
theorem dX7_lasts_59 : decode cX7_lasts 59 = .ok (.goto 5, 3) := by decide +kernel
theorem dX7_lasts_62 : decode cX7_lasts 62 = .ok (.iload 5, 2) := by decide +kernel
theorem dX7_lasts_64 : decode cX7_lasts 64 = .ok (.istore 5, 2) := by decide +kernel
theorem dX7_lasts_66 : decode cX7_lasts 66 = .ok (.iload 5, 2) := by decide +kernel
theorem dX7_lasts_68 : decode cX7_lasts 68 = .ok (.iload_n 3, 1) := by decide +kernel
theorem dX7_lasts_69 : decode cX7_lasts 69 = .ok (.if_icmp .le 9, 3) := by decide +kernel
theorem dX7_lasts_72 : decode cX7_lasts 72 = .ok (.iload 4, 2) := by decide +kernel
theorem dX7_lasts_74 : decode cX7_lasts 74 = .ok (.istore_n 2, 1) := by decide +kernel
theorem dX7_lasts_75 : decode cX7_lasts 75 = .ok (.iload 5, 2) := by decide +kernel
theorem dX7_lasts_77 : decode cX7_lasts 77 = .ok (.istore_n 3, 1) := by decide +kernel
theorem dX7_lasts_78 : decode cX7_lasts 78 = .ok (.iinc 4 1, 3) := by decide +kernel
theorem dX7_lasts_81 : decode cX7_lasts 81 = .ok (.goto (-47), 3) := by decide +kernel
theorem dX7_lasts_84 : decode cX7_lasts 84 = .ok (.iload_n 2, 1) := by decide +kernel
theorem dX7_lasts_85 : decode cX7_lasts 85 = .ok (.i2l, 1) := by decide +kernel
theorem dX7_lasts_86 : decode cX7_lasts 86 = .ok (.lreturn, 1) := by decide +kernel
theorem dX7_lasts_87 : decode cX7_lasts 87 = .ok (.aload_n 0, 1) := by decide +kernel
theorem dX7_lasts_88 : decode cX7_lasts 88 = .ok (.bipush 60, 2) := by decide +kernel
theorem dX7_lasts_90 : decode cX7_lasts 90 = .ok (.invokevirtual 183, 3) := by decide +kernel
theorem dX7_lasts_93 : decode cX7_lasts 93 = .ok (.lconst 0, 1) := by decide +kernel
theorem dX7_lasts_94 : decode cX7_lasts 94 = .ok (.lstore_n 2, 1) := by decide +kernel
theorem dX7_lasts_95 : decode cX7_lasts 95 = .ok (.lconst 0, 1) := by decide +kernel
theorem dX7_lasts_96 : decode cX7_lasts 96 = .ok (.lstore 4, 2) := by decide +kernel
theorem dX7_lasts_98 : decode cX7_lasts 98 = .ok (.iconst 0, 1) := by decide +kernel
theorem dX7_lasts_99 : decode cX7_lasts 99 = .ok (.istore 6, 2) := by decide +kernel
theorem dX7_lasts_101 : decode cX7_lasts 101 = .ok (.iload 6, 2) := by decide +kernel
theorem dX7_lasts_103 : decode cX7_lasts 103 = .ok (.iconst 3, 1) := by decide +kernel
theorem dX7_lasts_104 : decode cX7_lasts 104 = .ok (.aload_n 0, 1) := by decide +kernel
theorem dX7_lasts_105 : decode cX7_lasts 105 = .ok (.getfield 108, 3) := by decide +kernel
theorem dX7_lasts_108 : decode cX7_lasts 108 = .ok (.imul, 1) := by decide +kernel
theorem dX7_lasts_109 : decode cX7_lasts 109 = .ok (.if_icmp .ge 33, 3) := by decide +kernel
theorem dX7_lasts_112 : decode cX7_lasts 112 = .ok (.lload_n 2, 1) := by decide +kernel
theorem dX7_lasts_113 : decode cX7_lasts 113 = .ok (.aload_n 0, 1) := by decide +kernel
theorem dX7_lasts_114 : decode cX7_lasts 114 = .ok (.getfield 41, 3) := by decide +kernel
theorem dX7_lasts_117 : decode cX7_lasts 117 = .ok (.iload 6, 2) := by decide +kernel
theorem dX7_lasts_119 : decode cX7_lasts 119 = .ok (.iaload, 1) := by decide +kernel
theorem dX7_lasts_120 : decode cX7_lasts 120 = .ok (.i2l, 1) := by decide +kernel
theorem dX7_lasts_121 : decode cX7_lasts 121 = .ok (.ladd, 1) := by decide +kernel
theorem dX7_lasts_122 : decode cX7_lasts 122 = .ok (.lstore_n 2, 1) := by decide +kernel
theorem dX7_lasts_123 : decode cX7_lasts 123 = .ok (.lload 4, 2) := by decide +kernel
theorem dX7_lasts_125 : decode cX7_lasts 125 = .ok (.aload_n 0, 1) := by decide +kernel
theorem dX7_lasts_126 : decode cX7_lasts 126 = .ok (.getfield 13, 3) := by decide +kernel
theorem dX7_lasts_129 : decode cX7_lasts 129 = .ok (.iload 6, 2) := by decide +kernel
theorem dX7_lasts_131 : decode cX7_lasts 131 = .ok (.iaload, 1) := by decide +kernel
theorem dX7_lasts_132 : decode cX7_lasts 132 = .ok (.i2l, 1) := by decide +kernel
theorem dX7_lasts_133 : decode cX7_lasts 133 = .ok (.ladd, 1) := by decide +kernel
theorem dX7_lasts_134 : decode cX7_lasts 134 = .ok (.lstore 4, 2) := by decide +kernel
theorem dX7_lasts_136 : decode cX7_lasts 136 = .ok (.iinc 6 1, 3) := by decide +kernel
theorem dX7_lasts_139 : decode cX7_lasts 139 = .ok (.goto (-38), 3) := by decide +kernel
theorem dX7_lasts_142 : decode cX7_lasts 142 = .ok (.lload_n 2, 1) := by decide +kernel
theorem dX7_lasts_143 : decode cX7_lasts 143 = .ok (.lload 4, 2) := by decide +kernel
theorem dX7_lasts_145 : decode cX7_lasts 145 = .ok (.iload_n 1, 1) := by decide +kernel
theorem dX7_lasts_146 : decode cX7_lasts 146 = .ok (.iconst 1, 1) := by decide +kernel
theorem dX7_lasts_147 : decode cX7_lasts 147 = .ok (.isub, 1) := by decide +kernel
theorem dX7_lasts_148 : decode cX7_lasts 148 = .ok (.invokestatic 192, 3) := by decide +kernel
theorem dX7_lasts_151 : decode cX7_lasts 151 = .ok (.lreturn, 1) := by decide +kernel
theorem dX7_keepOver_0 : decode cX7_keepOver 0 = .ok (.iconst 0, 1) := by decide +kernel
theorem dX7_keepOver_1 : decode cX7_keepOver 1 = .ok (.istore_n 1, 1) := by decide +kernel
theorem dX7_keepOver_2 : decode cX7_keepOver 2 = .ok (.iload_n 1, 1) := by decide +kernel
theorem dX7_keepOver_3 : decode cX7_keepOver 3 = .ok (.bipush 7, 2) := by decide +kernel
theorem dX7_keepOver_5 : decode cX7_keepOver 5 = .ok (.if_icmp .ge 21, 3) := by decide +kernel
theorem dX7_keepOver_8 : decode cX7_keepOver 8 = .ok (.aload_n 0, 1) := by decide +kernel
theorem dX7_keepOver_9 : decode cX7_keepOver 9 = .ok (.getfield 50, 3) := by decide +kernel
theorem dX7_keepOver_12 : decode cX7_keepOver 12 = .ok (.iload_n 1, 1) := by decide +kernel
theorem dX7_keepOver_13 : decode cX7_keepOver 13 = .ok (.aload_n 0, 1) := by decide +kernel
theorem dX7_keepOver_14 : decode cX7_keepOver 14 = .ok (.getfield 19, 3) := by decide +kernel
theorem dX7_keepOver_17 : decode cX7_keepOver 17 = .ok (.iload_n 1, 1) := by decide +kernel
theorem dX7_keepOver_18 : decode cX7_keepOver 18 = .ok (.iaload, 1) := by decide +kernel
theorem dX7_keepOver_19 : decode cX7_keepOver 19 = .ok (.iastore, 1) := by decide +kernel
theorem dX7_keepOver_20 : decode cX7_keepOver 20 = .ok (.iinc 1 1, 3) := by decide +kernel
theorem dX7_keepOver_23 : decode cX7_keepOver 23 = .ok (.goto (-21), 3) := by decide +kernel
theorem dX7_keepOver_26 : decode cX7_keepOver 26 = .ok (.return_, 1) := by decide +kernel
theorem dX7_takeOver_0 : decode cX7_takeOver 0 = .ok (.iconst 0, 1) := by decide +kernel
theorem dX7_takeOver_1 : decode cX7_takeOver 1 = .ok (.istore_n 1, 1) := by decide +kernel
theorem dX7_takeOver_2 : decode cX7_takeOver 2 = .ok (.iload_n 1, 1) := by decide +kernel
theorem dX7_takeOver_3 : decode cX7_takeOver 3 = .ok (.bipush 7, 2) := by decide +kernel
theorem dX7_takeOver_5 : decode cX7_takeOver 5 = .ok (.if_icmp .ge 21, 3) := by decide +kernel
theorem dX7_takeOver_8 : decode cX7_takeOver 8 = .ok (.aload_n 0, 1) := by decide +kernel
theorem dX7_takeOver_9 : decode cX7_takeOver 9 = .ok (.getfield 19, 3) := by decide +kernel
theorem dX7_takeOver_12 : decode cX7_takeOver 12 = .ok (.iload_n 1, 1) := by decide +kernel
theorem dX7_takeOver_13 : decode cX7_takeOver 13 = .ok (.aload_n 0, 1) := by decide +kernel
theorem dX7_takeOver_14 : decode cX7_takeOver 14 = .ok (.getfield 50, 3) := by decide +kernel
theorem dX7_takeOver_17 : decode cX7_takeOver 17 = .ok (.iload_n 1, 1) := by decide +kernel
theorem dX7_takeOver_18 : decode cX7_takeOver 18 = .ok (.iaload, 1) := by decide +kernel
theorem dX7_takeOver_19 : decode cX7_takeOver 19 = .ok (.iastore, 1) := by decide +kernel
theorem dX7_takeOver_20 : decode cX7_takeOver 20 = .ok (.iinc 1 1, 3) := by decide +kernel
theorem dX7_takeOver_23 : decode cX7_takeOver 23 = .ok (.goto (-21), 3) := by decide +kernel
theorem dX7_takeOver_26 : decode cX7_takeOver 26 = .ok (.return_, 1) := by decide +kernel
theorem dX7_nosesNow_0 : decode cX7_nosesNow 0 = .ok (.iconst 0, 1) := by decide +kernel
theorem dX7_nosesNow_1 : decode cX7_nosesNow 1 = .ok (.istore_n 1, 1) := by decide +kernel
theorem dX7_nosesNow_2 : decode cX7_nosesNow 2 = .ok (.iconst 0, 1) := by decide +kernel
theorem dX7_nosesNow_3 : decode cX7_nosesNow 3 = .ok (.istore_n 2, 1) := by decide +kernel
theorem dX7_nosesNow_4 : decode cX7_nosesNow 4 = .ok (.iload_n 2, 1) := by decide +kernel
theorem dX7_nosesNow_5 : decode cX7_nosesNow 5 = .ok (.aload_n 0, 1) := by decide +kernel
theorem dX7_nosesNow_6 : decode cX7_nosesNow 6 = .ok (.getfield 108, 3) := by decide +kernel
theorem dX7_nosesNow_9 : decode cX7_nosesNow 9 = .ok (.if_icmp .ge 28, 3) := by decide +kernel
theorem dX7_nosesNow_12 : decode cX7_nosesNow 12 = .ok (.iload_n 1, 1) := by decide +kernel
theorem dX7_nosesNow_13 : decode cX7_nosesNow 13 = .ok (.aload_n 0, 1) := by decide +kernel
theorem dX7_nosesNow_14 : decode cX7_nosesNow 14 = .ok (.getfield 41, 3) := by decide +kernel
theorem dX7_nosesNow_17 : decode cX7_nosesNow 17 = .ok (.iconst 3, 1) := by decide +kernel
theorem dX7_nosesNow_18 : decode cX7_nosesNow 18 = .ok (.iload_n 2, 1) := by decide +kernel
theorem dX7_nosesNow_19 : decode cX7_nosesNow 19 = .ok (.imul, 1) := by decide +kernel
theorem dX7_nosesNow_20 : decode cX7_nosesNow 20 = .ok (.iaload, 1) := by decide +kernel
theorem dX7_nosesNow_21 : decode cX7_nosesNow 21 = .ok (.ifCond .le 7, 3) := by decide +kernel
theorem dX7_nosesNow_24 : decode cX7_nosesNow 24 = .ok (.iconst 1, 1) := by decide +kernel
theorem dX7_nosesNow_25 : decode cX7_nosesNow 25 = .ok (.goto 4, 3) := by decide +kernel
theorem dX7_nosesNow_28 : decode cX7_nosesNow 28 = .ok (.iconst 0, 1) := by decide +kernel
theorem dX7_nosesNow_29 : decode cX7_nosesNow 29 = .ok (.iadd, 1) := by decide +kernel
theorem dX7_nosesNow_30 : decode cX7_nosesNow 30 = .ok (.istore_n 1, 1) := by decide +kernel
theorem dX7_nosesNow_31 : decode cX7_nosesNow 31 = .ok (.iinc 2 1, 3) := by decide +kernel
theorem dX7_nosesNow_34 : decode cX7_nosesNow 34 = .ok (.goto (-30), 3) := by decide +kernel
theorem dX7_nosesNow_37 : decode cX7_nosesNow 37 = .ok (.iload_n 1, 1) := by decide +kernel
theorem dX7_nosesNow_38 : decode cX7_nosesNow 38 = .ok (.ireturn, 1) := by decide +kernel
theorem dX7_bits_0 : decode cX7_bits 0 = .ok (.iconst 0, 1) := by decide +kernel
theorem dX7_bits_1 : decode cX7_bits 1 = .ok (.istore_n 1, 1) := by decide +kernel
theorem dX7_bits_2 : decode cX7_bits 2 = .ok (.iload_n 0, 1) := by decide +kernel
theorem dX7_bits_3 : decode cX7_bits 3 = .ok (.istore_n 2, 1) := by decide +kernel
theorem dX7_bits_4 : decode cX7_bits 4 = .ok (.iload_n 2, 1) := by decide +kernel
theorem dX7_bits_5 : decode cX7_bits 5 = .ok (.ifCond .le 16, 3) := by decide +kernel
theorem dX7_bits_8 : decode cX7_bits 8 = .ok (.iload_n 1, 1) := by decide +kernel
theorem dX7_bits_9 : decode cX7_bits 9 = .ok (.iload_n 2, 1) := by decide +kernel
theorem dX7_bits_10 : decode cX7_bits 10 = .ok (.iconst 1, 1) := by decide +kernel
theorem dX7_bits_11 : decode cX7_bits 11 = .ok (.iand, 1) := by decide +kernel
theorem dX7_bits_12 : decode cX7_bits 12 = .ok (.iadd, 1) := by decide +kernel
theorem dX7_bits_13 : decode cX7_bits 13 = .ok (.istore_n 1, 1) := by decide +kernel
theorem dX7_bits_14 : decode cX7_bits 14 = .ok (.iload_n 2, 1) := by decide +kernel
theorem dX7_bits_15 : decode cX7_bits 15 = .ok (.iconst 1, 1) := by decide +kernel
theorem dX7_bits_16 : decode cX7_bits 16 = .ok (.ishr, 1) := by decide +kernel
theorem dX7_bits_17 : decode cX7_bits 17 = .ok (.istore_n 2, 1) := by decide +kernel
theorem dX7_bits_18 : decode cX7_bits 18 = .ok (.goto (-14), 3) := by decide +kernel
theorem dX7_bits_21 : decode cX7_bits 21 = .ok (.iload_n 1, 1) := by decide +kernel
theorem dX7_bits_22 : decode cX7_bits 22 = .ok (.ireturn, 1) := by decide +kernel
theorem dX7_umbrellas_0 : decode cX7_umbrellas 0 = .ok (.iload_n 1, 1) := by decide +kernel
theorem dX7_umbrellas_1 : decode cX7_umbrellas 1 = .ok (.i2l, 1) := by decide +kernel
theorem dX7_umbrellas_2 : decode cX7_umbrellas 2 = .ok (.lconst 0, 1) := by decide +kernel
theorem dX7_umbrellas_3 : decode cX7_umbrellas 3 = .ok (.ldc2_w 147, 3) := by decide +kernel
theorem dX7_umbrellas_6 : decode cX7_umbrellas 6 = .ok (.invokestatic 97, 3) := by decide +kernel
theorem dX7_umbrellas_9 : decode cX7_umbrellas 9 = .ok (.ifCond .eq 13, 3) := by decide +kernel
theorem dX7_umbrellas_12 : decode cX7_umbrellas 12 = .ok (.iload_n 2, 1) := by decide +kernel
theorem dX7_umbrellas_13 : decode cX7_umbrellas 13 = .ok (.i2l, 1) := by decide +kernel
theorem dX7_umbrellas_14 : decode cX7_umbrellas 14 = .ok (.lconst 0, 1) := by decide +kernel
theorem dX7_umbrellas_15 : decode cX7_umbrellas 15 = .ok (.lconst 1, 1) := by decide +kernel
theorem dX7_umbrellas_16 : decode cX7_umbrellas 16 = .ok (.invokestatic 97, 3) := by decide +kernel
theorem dX7_umbrellas_19 : decode cX7_umbrellas 19 = .ok (.ifCond .ne 6, 3) := by decide +kernel
theorem dX7_umbrellas_22 : decode cX7_umbrellas 22 = .ok (.bipush (-2), 2) := by decide +kernel
theorem dX7_umbrellas_24 : decode cX7_umbrellas 24 = .ok (.ireturn, 1) := by decide +kernel
theorem dX7_umbrellas_25 : decode cX7_umbrellas 25 = .ok (.aload_n 0, 1) := by decide +kernel
theorem dX7_umbrellas_26 : decode cX7_umbrellas 26 = .ok (.getfield 108, 3) := by decide +kernel
theorem dX7_umbrellas_29 : decode cX7_umbrellas 29 = .ok (.ifCond .ne 6, 3) := by decide +kernel
theorem dX7_umbrellas_32 : decode cX7_umbrellas 32 = .ok (.bipush (-3), 2) := by decide +kernel
theorem dX7_umbrellas_34 : decode cX7_umbrellas 34 = .ok (.ireturn, 1) := by decide +kernel
theorem dX7_umbrellas_35 : decode cX7_umbrellas 35 = .ok (.aload_n 0, 1) := by decide +kernel
theorem dX7_umbrellas_36 : decode cX7_umbrellas 36 = .ok (.invokevirtual 196, 3) := by decide +kernel
theorem dX7_umbrellas_39 : decode cX7_umbrellas 39 = .ok (.iconst (-1), 1) := by decide +kernel
theorem dX7_umbrellas_40 : decode cX7_umbrellas 40 = .ok (.istore_n 3, 1) := by decide +kernel
theorem dX7_umbrellas_41 : decode cX7_umbrellas 41 = .ok (.iconst 0, 1) := by decide +kernel
theorem dX7_umbrellas_42 : decode cX7_umbrellas 42 = .ok (.istore 4, 2) := by decide +kernel
theorem dX7_umbrellas_44 : decode cX7_umbrellas 44 = .ok (.iconst 0, 1) := by decide +kernel
theorem dX7_umbrellas_45 : decode cX7_umbrellas 45 = .ok (.istore 5, 2) := by decide +kernel
theorem dX7_umbrellas_47 : decode cX7_umbrellas 47 = .ok (.iload 5, 2) := by decide +kernel
theorem dX7_umbrellas_49 : decode cX7_umbrellas 49 = .ok (.iconst 1, 1) := by decide +kernel
theorem dX7_umbrellas_50 : decode cX7_umbrellas 50 = .ok (.aload_n 0, 1) := by decide +kernel
theorem dX7_umbrellas_51 : decode cX7_umbrellas 51 = .ok (.getfield 108, 3) := by decide +kernel
theorem dX7_umbrellas_54 : decode cX7_umbrellas 54 = .ok (.ishl, 1) := by decide +kernel
theorem dX7_umbrellas_55 : decode cX7_umbrellas 55 = .ok (.if_icmp .ge 80, 3) := by decide +kernel
theorem dX7_umbrellas_58 : decode cX7_umbrellas 58 = .ok (.iload 5, 2) := by decide +kernel
theorem dX7_umbrellas_60 : decode cX7_umbrellas 60 = .ok (.invokestatic 199, 3) := by decide +kernel
theorem dX7_umbrellas_63 : decode cX7_umbrellas 63 = .ok (.iload_n 1, 1) := by decide +kernel
theorem dX7_umbrellas_64 : decode cX7_umbrellas 64 = .ok (.aload_n 0, 1) := by decide +kernel
theorem dX7_umbrellas_65 : decode cX7_umbrellas 65 = .ok (.getfield 108, 3) := by decide +kernel
theorem dX7_umbrellas_68 : decode cX7_umbrellas 68 = .ok (.invokestatic 157, 3) := by decide +kernel
theorem dX7_umbrellas_71 : decode cX7_umbrellas 71 = .ok (.if_icmp .ne 58, 3) := by decide +kernel
theorem dX7_umbrellas_74 : decode cX7_umbrellas 74 = .ok (.iconst 0, 1) := by decide +kernel
theorem dX7_umbrellas_75 : decode cX7_umbrellas 75 = .ok (.istore 6, 2) := by decide +kernel
theorem dX7_umbrellas_77 : decode cX7_umbrellas 77 = .ok (.iload 6, 2) := by decide +kernel
theorem dX7_umbrellas_79 : decode cX7_umbrellas 79 = .ok (.aload_n 0, 1) := by decide +kernel
theorem dX7_umbrellas_80 : decode cX7_umbrellas 80 = .ok (.getfield 108, 3) := by decide +kernel
theorem dX7_umbrellas_83 : decode cX7_umbrellas 83 = .ok (.if_icmp .ge 23, 3) := by decide +kernel
theorem dX7_umbrellas_86 : decode cX7_umbrellas 86 = .ok (.aload_n 0, 1) := by decide +kernel
theorem dX7_umbrellas_87 : decode cX7_umbrellas 87 = .ok (.getfield 19, 3) := by decide +kernel
theorem dX7_umbrellas_90 : decode cX7_umbrellas 90 = .ok (.iload 6, 2) := by decide +kernel
theorem dX7_umbrellas_92 : decode cX7_umbrellas 92 = .ok (.iload 5, 2) := by decide +kernel
theorem dX7_umbrellas_94 : decode cX7_umbrellas 94 = .ok (.iload 6, 2) := by decide +kernel
theorem dX7_umbrellas_96 : decode cX7_umbrellas 96 = .ok (.ishr, 1) := by decide +kernel
theorem dX7_umbrellas_97 : decode cX7_umbrellas 97 = .ok (.iconst 1, 1) := by decide +kernel
theorem dX7_umbrellas_98 : decode cX7_umbrellas 98 = .ok (.iand, 1) := by decide +kernel
theorem dX7_umbrellas_99 : decode cX7_umbrellas 99 = .ok (.iastore, 1) := by decide +kernel
theorem dX7_umbrellas_100 : decode cX7_umbrellas 100 = .ok (.iinc 6 1, 3) := by decide +kernel
theorem dX7_umbrellas_103 : decode cX7_umbrellas 103 = .ok (.goto (-26), 3) := by decide +kernel
theorem dX7_umbrellas_106 : decode cX7_umbrellas 106 = .ok (.aload_n 0, 1) := by decide +kernel
theorem dX7_umbrellas_107 : decode cX7_umbrellas 107 = .ok (.bipush 60, 2) := by decide +kernel
theorem dX7_umbrellas_109 : decode cX7_umbrellas 109 = .ok (.invokevirtual 183, 3) := by decide +kernel
theorem dX7_umbrellas_112 : decode cX7_umbrellas 112 = .ok (.aload_n 0, 1) := by decide +kernel
theorem dX7_umbrellas_113 : decode cX7_umbrellas 113 = .ok (.invokevirtual 202, 3) := by decide +kernel
theorem dX7_umbrellas_116 : decode cX7_umbrellas 116 = .ok (.iload_n 3, 1) := by decide +kernel
theorem dX7_umbrellas_117 : decode cX7_umbrellas 117 = .ok (.if_icmp .le 12, 3) := by decide +kernel
theorem dX7_umbrellas_120 : decode cX7_umbrellas 120 = .ok (.aload_n 0, 1) := by decide +kernel
theorem dX7_umbrellas_121 : decode cX7_umbrellas 121 = .ok (.invokevirtual 202, 3) := by decide +kernel
theorem dX7_umbrellas_124 : decode cX7_umbrellas 124 = .ok (.istore_n 3, 1) := by decide +kernel
theorem dX7_umbrellas_125 : decode cX7_umbrellas 125 = .ok (.iload 5, 2) := by decide +kernel
theorem dX7_umbrellas_127 : decode cX7_umbrellas 127 = .ok (.istore 4, 2) := by decide +kernel
theorem dX7_umbrellas_129 : decode cX7_umbrellas 129 = .ok (.iinc 5 1, 3) := by decide +kernel
theorem dX7_umbrellas_132 : decode cX7_umbrellas 132 = .ok (.goto (-85), 3) := by decide +kernel
theorem dX7_umbrellas_135 : decode cX7_umbrellas 135 = .ok (.aload_n 0, 1) := by decide +kernel
theorem dX7_umbrellas_136 : decode cX7_umbrellas 136 = .ok (.invokevirtual 205, 3) := by decide +kernel
theorem dX7_umbrellas_139 : decode cX7_umbrellas 139 = .ok (.iload_n 2, 1) := by decide +kernel
theorem dX7_umbrellas_140 : decode cX7_umbrellas 140 = .ok (.ifCond .ne 8, 3) := by decide +kernel
theorem dX7_umbrellas_143 : decode cX7_umbrellas 143 = .ok (.iload 4, 2) := by decide +kernel
theorem dX7_umbrellas_145 : decode cX7_umbrellas 145 = .ok (.goto 4, 3) := by decide +kernel
theorem dX7_umbrellas_148 : decode cX7_umbrellas 148 = .ok (.iload_n 3, 1) := by decide +kernel
theorem dX7_umbrellas_149 : decode cX7_umbrellas 149 = .ok (.ireturn, 1) := by decide +kernel
theorem dX7_firstNose_0 : decode cX7_firstNose 0 = .ok (.aload_n 0, 1) := by decide +kernel
theorem dX7_firstNose_1 : decode cX7_firstNose 1 = .ok (.invokevirtual 171, 3) := by decide +kernel
theorem dX7_firstNose_4 : decode cX7_firstNose 4 = .ok (.iconst 0, 1) := by decide +kernel
theorem dX7_firstNose_5 : decode cX7_firstNose 5 = .ok (.istore_n 1, 1) := by decide +kernel
theorem dX7_firstNose_6 : decode cX7_firstNose 6 = .ok (.iload_n 1, 1) := by decide +kernel
theorem dX7_firstNose_7 : decode cX7_firstNose 7 = .ok (.bipush 60, 2) := by decide +kernel
theorem dX7_firstNose_9 : decode cX7_firstNose 9 = .ok (.if_icmp .ge 29, 3) := by decide +kernel
theorem dX7_firstNose_12 : decode cX7_firstNose 12 = .ok (.aload_n 0, 1) := by decide +kernel
theorem dX7_firstNose_13 : decode cX7_firstNose 13 = .ok (.iload_n 1, 1) := by decide +kernel
theorem dX7_firstNose_14 : decode cX7_firstNose 14 = .ok (.invokevirtual 174, 3) := by decide +kernel
theorem dX7_firstNose_17 : decode cX7_firstNose 17 = .ok (.aload_n 0, 1) := by decide +kernel
theorem dX7_firstNose_18 : decode cX7_firstNose 18 = .ok (.invokevirtual 202, 3) := by decide +kernel
theorem dX7_firstNose_21 : decode cX7_firstNose 21 = .ok (.aload_n 0, 1) := by decide +kernel
theorem dX7_firstNose_22 : decode cX7_firstNose 22 = .ok (.getfield 108, 3) := by decide +kernel
theorem dX7_firstNose_25 : decode cX7_firstNose 25 = .ok (.if_icmp .ge 7, 3) := by decide +kernel
theorem dX7_firstNose_28 : decode cX7_firstNose 28 = .ok (.iload_n 1, 1) := by decide +kernel
theorem dX7_firstNose_29 : decode cX7_firstNose 29 = .ok (.iconst 1, 1) := by decide +kernel
theorem dX7_firstNose_30 : decode cX7_firstNose 30 = .ok (.iadd, 1) := by decide +kernel
theorem dX7_firstNose_31 : decode cX7_firstNose 31 = .ok (.ireturn, 1) := by decide +kernel
theorem dX7_firstNose_32 : decode cX7_firstNose 32 = .ok (.iinc 1 1, 3) := by decide +kernel
theorem dX7_firstNose_35 : decode cX7_firstNose 35 = .ok (.goto (-29), 3) := by decide +kernel
theorem dX7_firstNose_38 : decode cX7_firstNose 38 = .ok (.bipush 61, 2) := by decide +kernel
theorem dX7_firstNose_40 : decode cX7_firstNose 40 = .ok (.ireturn, 1) := by decide +kernel
theorem dX7_turn_0 : decode cX7_turn 0 = .ok (.iload_n 1, 1) := by decide +kernel
theorem dX7_turn_1 : decode cX7_turn 1 = .ok (.i2l, 1) := by decide +kernel
theorem dX7_turn_2 : decode cX7_turn 2 = .ok (.lconst 0, 1) := by decide +kernel
theorem dX7_turn_3 : decode cX7_turn 3 = .ok (.lconst 1, 1) := by decide +kernel
theorem dX7_turn_4 : decode cX7_turn 4 = .ok (.invokestatic 97, 3) := by decide +kernel
theorem dX7_turn_7 : decode cX7_turn 7 = .ok (.ifCond .ne 6, 3) := by decide +kernel
theorem dX7_turn_10 : decode cX7_turn 10 = .ok (.bipush (-2), 2) := by decide +kernel
theorem dX7_turn_12 : decode cX7_turn 12 = .ok (.ireturn, 1) := by decide +kernel
theorem dX7_turn_13 : decode cX7_turn 13 = .ok (.aload_n 0, 1) := by decide +kernel
theorem dX7_turn_14 : decode cX7_turn 14 = .ok (.getfield 108, 3) := by decide +kernel
theorem dX7_turn_17 : decode cX7_turn 17 = .ok (.ifCond .ne 6, 3) := by decide +kernel
theorem dX7_turn_20 : decode cX7_turn 20 = .ok (.bipush (-3), 2) := by decide +kernel
theorem dX7_turn_22 : decode cX7_turn 22 = .ok (.ireturn, 1) := by decide +kernel
theorem dX7_turn_23 : decode cX7_turn 23 = .ok (.iconst 0, 1) := by decide +kernel
theorem dX7_turn_24 : decode cX7_turn 24 = .ok (.istore_n 2, 1) := by decide +kernel
theorem dX7_turn_25 : decode cX7_turn 25 = .ok (.iconst (-1), 1) := by decide +kernel
theorem dX7_turn_26 : decode cX7_turn 26 = .ok (.istore_n 3, 1) := by decide +kernel
theorem dX7_turn_27 : decode cX7_turn 27 = .ok (.iconst 0, 1) := by decide +kernel
theorem dX7_turn_28 : decode cX7_turn 28 = .ok (.istore 4, 2) := by decide +kernel
theorem dX7_turn_30 : decode cX7_turn 30 = .ok (.iload 4, 2) := by decide +kernel
theorem dX7_turn_32 : decode cX7_turn 32 = .ok (.aload_n 0, 1) := by decide +kernel
theorem dX7_turn_33 : decode cX7_turn 33 = .ok (.getfield 108, 3) := by decide +kernel
theorem dX7_turn_36 : decode cX7_turn 36 = .ok (.if_icmp .ge 75, 3) := by decide +kernel
theorem dX7_turn_39 : decode cX7_turn 39 = .ok (.aload_n 0, 1) := by decide +kernel
theorem dX7_turn_40 : decode cX7_turn 40 = .ok (.getfield 16, 3) := by decide +kernel
theorem dX7_turn_43 : decode cX7_turn 43 = .ok (.iload 4, 2) := by decide +kernel
theorem dX7_turn_45 : decode cX7_turn 45 = .ok (.iaload, 1) := by decide +kernel
theorem dX7_turn_46 : decode cX7_turn 46 = .ok (.istore 5, 2) := by decide +kernel
theorem dX7_turn_48 : decode cX7_turn 48 = .ok (.iconst 0, 1) := by decide +kernel
theorem dX7_turn_49 : decode cX7_turn 49 = .ok (.istore 6, 2) := by decide +kernel
theorem dX7_turn_51 : decode cX7_turn 51 = .ok (.iload 6, 2) := by decide +kernel
theorem dX7_turn_53 : decode cX7_turn 53 = .ok (.iconst 4, 1) := by decide +kernel
theorem dX7_turn_54 : decode cX7_turn 54 = .ok (.if_icmp .ge 42, 3) := by decide +kernel
theorem dX7_turn_57 : decode cX7_turn 57 = .ok (.aload_n 0, 1) := by decide +kernel
theorem dX7_turn_58 : decode cX7_turn 58 = .ok (.getfield 16, 3) := by decide +kernel
theorem dX7_turn_61 : decode cX7_turn 61 = .ok (.iload 4, 2) := by decide +kernel
theorem dX7_turn_63 : decode cX7_turn 63 = .ok (.iload 6, 2) := by decide +kernel
theorem dX7_turn_65 : decode cX7_turn 65 = .ok (.iastore, 1) := by decide +kernel
theorem dX7_turn_66 : decode cX7_turn 66 = .ok (.aload_n 0, 1) := by decide +kernel
theorem dX7_turn_67 : decode cX7_turn 67 = .ok (.invokevirtual 208, 3) := by decide +kernel
theorem dX7_turn_70 : decode cX7_turn 70 = .ok (.istore 7, 2) := by decide +kernel
theorem dX7_turn_72 : decode cX7_turn 72 = .ok (.iload 7, 2) := by decide +kernel
theorem dX7_turn_74 : decode cX7_turn 74 = .ok (.iload_n 3, 1) := by decide +kernel
theorem dX7_turn_75 : decode cX7_turn 75 = .ok (.if_icmp .le 15, 3) := by decide +kernel
theorem dX7_turn_78 : decode cX7_turn 78 = .ok (.bipush 10, 2) := by decide +kernel
theorem dX7_turn_80 : decode cX7_turn 80 = .ok (.iload 4, 2) := by decide +kernel
theorem dX7_turn_82 : decode cX7_turn 82 = .ok (.imul, 1) := by decide +kernel
theorem dX7_turn_83 : decode cX7_turn 83 = .ok (.iload 6, 2) := by decide +kernel
theorem dX7_turn_85 : decode cX7_turn 85 = .ok (.iadd, 1) := by decide +kernel
theorem dX7_turn_86 : decode cX7_turn 86 = .ok (.istore_n 2, 1) := by decide +kernel
theorem dX7_turn_87 : decode cX7_turn 87 = .ok (.iload 7, 2) := by decide +kernel
theorem dX7_turn_89 : decode cX7_turn 89 = .ok (.istore_n 3, 1) := by decide +kernel
theorem dX7_turn_90 : decode cX7_turn 90 = .ok (.iinc 6 1, 3) := by decide +kernel
theorem dX7_turn_93 : decode cX7_turn 93 = .ok (.goto (-42), 3) := by decide +kernel
theorem dX7_turn_96 : decode cX7_turn 96 = .ok (.aload_n 0, 1) := by decide +kernel
theorem dX7_turn_97 : decode cX7_turn 97 = .ok (.getfield 16, 3) := by decide +kernel
theorem dX7_turn_100 : decode cX7_turn 100 = .ok (.iload 4, 2) := by decide +kernel
theorem dX7_turn_102 : decode cX7_turn 102 = .ok (.iload 5, 2) := by decide +kernel
theorem dX7_turn_104 : decode cX7_turn 104 = .ok (.iastore, 1) := by decide +kernel
theorem dX7_turn_105 : decode cX7_turn 105 = .ok (.iinc 4 1, 3) := by decide +kernel
theorem dX7_turn_108 : decode cX7_turn 108 = .ok (.goto (-78), 3) := by decide +kernel
theorem dX7_turn_111 : decode cX7_turn 111 = .ok (.iload_n 1, 1) := by decide +kernel
theorem dX7_turn_112 : decode cX7_turn 112 = .ok (.ifCond .ne 7, 3) := by decide +kernel
theorem dX7_turn_115 : decode cX7_turn 115 = .ok (.iload_n 2, 1) := by decide +kernel
theorem dX7_turn_116 : decode cX7_turn 116 = .ok (.goto 4, 3) := by decide +kernel
theorem dX7_turn_119 : decode cX7_turn 119 = .ok (.iload_n 3, 1) := by decide +kernel
theorem dX7_turn_120 : decode cX7_turn 120 = .ok (.ireturn, 1) := by decide +kernel
theorem dX7_roofs_0 : decode cX7_roofs 0 = .ok (.iload_n 1, 1) := by decide +kernel
theorem dX7_roofs_1 : decode cX7_roofs 1 = .ok (.invokestatic 180, 3) := by decide +kernel
theorem dX7_roofs_4 : decode cX7_roofs 4 = .ok (.ifCond .eq 13, 3) := by decide +kernel
theorem dX7_roofs_7 : decode cX7_roofs 7 = .ok (.iload_n 2, 1) := by decide +kernel
theorem dX7_roofs_8 : decode cX7_roofs 8 = .ok (.i2l, 1) := by decide +kernel
theorem dX7_roofs_9 : decode cX7_roofs 9 = .ok (.lconst 0, 1) := by decide +kernel
theorem dX7_roofs_10 : decode cX7_roofs 10 = .ok (.lconst 1, 1) := by decide +kernel
theorem dX7_roofs_11 : decode cX7_roofs 11 = .ok (.invokestatic 97, 3) := by decide +kernel
theorem dX7_roofs_14 : decode cX7_roofs 14 = .ok (.ifCond .ne 6, 3) := by decide +kernel
theorem dX7_roofs_17 : decode cX7_roofs 17 = .ok (.bipush (-2), 2) := by decide +kernel
theorem dX7_roofs_19 : decode cX7_roofs 19 = .ok (.ireturn, 1) := by decide +kernel
theorem dX7_roofs_20 : decode cX7_roofs 20 = .ok (.aload_n 0, 1) := by decide +kernel
theorem dX7_roofs_21 : decode cX7_roofs 21 = .ok (.getfield 108, 3) := by decide +kernel
theorem dX7_roofs_24 : decode cX7_roofs 24 = .ok (.ifCond .ne 6, 3) := by decide +kernel
theorem dX7_roofs_27 : decode cX7_roofs 27 = .ok (.bipush (-3), 2) := by decide +kernel
theorem dX7_roofs_29 : decode cX7_roofs 29 = .ok (.ireturn, 1) := by decide +kernel
theorem dX7_roofs_30 : decode cX7_roofs 30 = .ok (.aload_n 0, 1) := by decide +kernel
theorem dX7_roofs_31 : decode cX7_roofs 31 = .ok (.invokevirtual 196, 3) := by decide +kernel
theorem dX7_roofs_34 : decode cX7_roofs 34 = .ok (.bipush (-9), 2) := by decide +kernel
theorem dX7_roofs_36 : decode cX7_roofs 36 = .ok (.istore_n 3, 1) := by decide +kernel
theorem dX7_roofs_37 : decode cX7_roofs 37 = .ok (.iconst 0, 1) := by decide +kernel
theorem dX7_roofs_38 : decode cX7_roofs 38 = .ok (.istore 4, 2) := by decide +kernel
theorem dX7_roofs_40 : decode cX7_roofs 40 = .ok (.iload 4, 2) := by decide +kernel
theorem dX7_roofs_42 : decode cX7_roofs 42 = .ok (.iconst 1, 1) := by decide +kernel
theorem dX7_roofs_43 : decode cX7_roofs 43 = .ok (.aload_n 0, 1) := by decide +kernel
theorem dX7_roofs_44 : decode cX7_roofs 44 = .ok (.getfield 108, 3) := by decide +kernel
theorem dX7_roofs_47 : decode cX7_roofs 47 = .ok (.ishl, 1) := by decide +kernel
theorem dX7_roofs_48 : decode cX7_roofs 48 = .ok (.if_icmp .ge 95, 3) := by decide +kernel
theorem dX7_roofs_51 : decode cX7_roofs 51 = .ok (.iload_n 3, 1) := by decide +kernel
theorem dX7_roofs_52 : decode cX7_roofs 52 = .ok (.ifCond .lt 15, 3) := by decide +kernel
theorem dX7_roofs_55 : decode cX7_roofs 55 = .ok (.iload 4, 2) := by decide +kernel
theorem dX7_roofs_57 : decode cX7_roofs 57 = .ok (.invokestatic 199, 3) := by decide +kernel
theorem dX7_roofs_60 : decode cX7_roofs 60 = .ok (.iload_n 3, 1) := by decide +kernel
theorem dX7_roofs_61 : decode cX7_roofs 61 = .ok (.invokestatic 199, 3) := by decide +kernel
theorem dX7_roofs_64 : decode cX7_roofs 64 = .ok (.if_icmp .ge 73, 3) := by decide +kernel
theorem dX7_roofs_67 : decode cX7_roofs 67 = .ok (.iconst 0, 1) := by decide +kernel
theorem dX7_roofs_68 : decode cX7_roofs 68 = .ok (.istore 5, 2) := by decide +kernel
theorem dX7_roofs_70 : decode cX7_roofs 70 = .ok (.iload 5, 2) := by decide +kernel
theorem dX7_roofs_72 : decode cX7_roofs 72 = .ok (.aload_n 0, 1) := by decide +kernel
theorem dX7_roofs_73 : decode cX7_roofs 73 = .ok (.getfield 108, 3) := by decide +kernel
theorem dX7_roofs_76 : decode cX7_roofs 76 = .ok (.if_icmp .ge 38, 3) := by decide +kernel
theorem dX7_roofs_79 : decode cX7_roofs 79 = .ok (.aload_n 0, 1) := by decide +kernel
theorem dX7_roofs_80 : decode cX7_roofs 80 = .ok (.getfield 19, 3) := by decide +kernel
theorem dX7_roofs_83 : decode cX7_roofs 83 = .ok (.iload 5, 2) := by decide +kernel
theorem dX7_roofs_85 : decode cX7_roofs 85 = .ok (.iload 4, 2) := by decide +kernel
theorem dX7_roofs_87 : decode cX7_roofs 87 = .ok (.iload 5, 2) := by decide +kernel
theorem dX7_roofs_89 : decode cX7_roofs 89 = .ok (.ishr, 1) := by decide +kernel
theorem dX7_roofs_90 : decode cX7_roofs 90 = .ok (.iconst 1, 1) := by decide +kernel
theorem dX7_roofs_91 : decode cX7_roofs 91 = .ok (.iand, 1) := by decide +kernel
theorem dX7_roofs_92 : decode cX7_roofs 92 = .ok (.iconst 1, 1) := by decide +kernel
theorem dX7_roofs_93 : decode cX7_roofs 93 = .ok (.if_icmp .ne 7, 3) := by decide +kernel
theorem dX7_roofs_96 : decode cX7_roofs 96 = .ok (.iconst 2, 1) := by decide +kernel
theorem dX7_roofs_97 : decode cX7_roofs 97 = .ok (.goto 10, 3) := by decide +kernel
theorem dX7_roofs_100 : decode cX7_roofs 100 = .ok (.aload_n 0, 1) := by decide +kernel
theorem dX7_roofs_101 : decode cX7_roofs 101 = .ok (.getfield 50, 3) := by decide +kernel
theorem dX7_roofs_104 : decode cX7_roofs 104 = .ok (.iload 5, 2) := by decide +kernel
theorem dX7_roofs_106 : decode cX7_roofs 106 = .ok (.iaload, 1) := by decide +kernel
theorem dX7_roofs_107 : decode cX7_roofs 107 = .ok (.iastore, 1) := by decide +kernel
theorem dX7_roofs_108 : decode cX7_roofs 108 = .ok (.iinc 5 1, 3) := by decide +kernel
theorem dX7_roofs_111 : decode cX7_roofs 111 = .ok (.goto (-41), 3) := by decide +kernel
theorem dX7_roofs_114 : decode cX7_roofs 114 = .ok (.aload_n 0, 1) := by decide +kernel
theorem dX7_roofs_115 : decode cX7_roofs 115 = .ok (.iload_n 1, 1) := by decide +kernel
theorem dX7_roofs_116 : decode cX7_roofs 116 = .ok (.invokevirtual 183, 3) := by decide +kernel
theorem dX7_roofs_119 : decode cX7_roofs 119 = .ok (.aload_n 0, 1) := by decide +kernel
theorem dX7_roofs_120 : decode cX7_roofs 120 = .ok (.invokevirtual 202, 3) := by decide +kernel
theorem dX7_roofs_123 : decode cX7_roofs 123 = .ok (.aload_n 0, 1) := by decide +kernel
theorem dX7_roofs_124 : decode cX7_roofs 124 = .ok (.getfield 108, 3) := by decide +kernel
theorem dX7_roofs_127 : decode cX7_roofs 127 = .ok (.if_icmp .ne 8, 3) := by decide +kernel
theorem dX7_roofs_130 : decode cX7_roofs 130 = .ok (.iload 4, 2) := by decide +kernel
theorem dX7_roofs_132 : decode cX7_roofs 132 = .ok (.goto 4, 3) := by decide +kernel
theorem dX7_roofs_135 : decode cX7_roofs 135 = .ok (.iload_n 3, 1) := by decide +kernel
theorem dX7_roofs_136 : decode cX7_roofs 136 = .ok (.istore_n 3, 1) := by decide +kernel
theorem dX7_roofs_137 : decode cX7_roofs 137 = .ok (.iinc 4 1, 3) := by decide +kernel
theorem dX7_roofs_140 : decode cX7_roofs 140 = .ok (.goto (-100), 3) := by decide +kernel
theorem dX7_roofs_143 : decode cX7_roofs 143 = .ok (.aload_n 0, 1) := by decide +kernel
theorem dX7_roofs_144 : decode cX7_roofs 144 = .ok (.invokevirtual 205, 3) := by decide +kernel
theorem dX7_roofs_147 : decode cX7_roofs 147 = .ok (.iload_n 3, 1) := by decide +kernel
theorem dX7_roofs_148 : decode cX7_roofs 148 = .ok (.ifCond .lt 7, 3) := by decide +kernel
theorem dX7_roofs_151 : decode cX7_roofs 151 = .ok (.iload_n 2, 1) := by decide +kernel
theorem dX7_roofs_152 : decode cX7_roofs 152 = .ok (.ifCond .ne 7, 3) := by decide +kernel
theorem dX7_roofs_155 : decode cX7_roofs 155 = .ok (.iload_n 3, 1) := by decide +kernel
theorem dX7_roofs_156 : decode cX7_roofs 156 = .ok (.goto 7, 3) := by decide +kernel
theorem dX7_roofs_159 : decode cX7_roofs 159 = .ok (.iload_n 3, 1) := by decide +kernel
theorem dX7_roofs_160 : decode cX7_roofs 160 = .ok (.invokestatic 199, 3) := by decide +kernel
theorem dX7_roofs_163 : decode cX7_roofs 163 = .ok (.ireturn, 1) := by decide +kernel
theorem dX7_takenFor_0 : decode cX7_takenFor 0 = .ok (.aload_n 0, 1) := by decide +kernel
theorem dX7_takenFor_1 : decode cX7_takenFor 1 = .ok (.iload_n 2, 1) := by decide +kernel
theorem dX7_takenFor_2 : decode cX7_takenFor 2 = .ok (.iload_n 3, 1) := by decide +kernel
theorem dX7_takenFor_3 : decode cX7_takenFor 3 = .ok (.iload 4, 2) := by decide +kernel
theorem dX7_takenFor_5 : decode cX7_takenFor 5 = .ok (.ldc2_w 147, 3) := by decide +kernel
theorem dX7_takenFor_8 : decode cX7_takenFor 8 = .ok (.iload_n 1, 1) := by decide +kernel
theorem dX7_takenFor_9 : decode cX7_takenFor 9 = .ok (.invokestatic 180, 3) := by decide +kernel
theorem dX7_takenFor_12 : decode cX7_takenFor 12 = .ok (.ifCond .eq 18, 3) := by decide +kernel
theorem dX7_takenFor_15 : decode cX7_takenFor 15 = .ok (.iload 5, 2) := by decide +kernel
theorem dX7_takenFor_17 : decode cX7_takenFor 17 = .ok (.i2l, 1) := by decide +kernel
theorem dX7_takenFor_18 : decode cX7_takenFor 18 = .ok (.lconst 0, 1) := by decide +kernel
theorem dX7_takenFor_19 : decode cX7_takenFor 19 = .ok (.lconst 1, 1) := by decide +kernel
theorem dX7_takenFor_20 : decode cX7_takenFor 20 = .ok (.invokestatic 97, 3) := by decide +kernel
theorem dX7_takenFor_23 : decode cX7_takenFor 23 = .ok (.ifCond .eq 7, 3) := by decide +kernel
theorem dX7_takenFor_26 : decode cX7_takenFor 26 = .ok (.iconst 1, 1) := by decide +kernel
theorem dX7_takenFor_27 : decode cX7_takenFor 27 = .ok (.goto 4, 3) := by decide +kernel
theorem dX7_takenFor_30 : decode cX7_takenFor 30 = .ok (.iconst 0, 1) := by decide +kernel
theorem dX7_takenFor_31 : decode cX7_takenFor 31 = .ok (.invokevirtual 131, 3) := by decide +kernel
theorem dX7_takenFor_34 : decode cX7_takenFor 34 = .ok (.istore 6, 2) := by decide +kernel
theorem dX7_takenFor_36 : decode cX7_takenFor 36 = .ok (.iload 6, 2) := by decide +kernel
theorem dX7_takenFor_38 : decode cX7_takenFor 38 = .ok (.ifCond .ge 6, 3) := by decide +kernel
theorem dX7_takenFor_41 : decode cX7_takenFor 41 = .ok (.iload 6, 2) := by decide +kernel
theorem dX7_takenFor_43 : decode cX7_takenFor 43 = .ok (.ireturn, 1) := by decide +kernel
theorem dX7_takenFor_44 : decode cX7_takenFor 44 = .ok (.aload_n 0, 1) := by decide +kernel
theorem dX7_takenFor_45 : decode cX7_takenFor 45 = .ok (.getfield 108, 3) := by decide +kernel
theorem dX7_takenFor_48 : decode cX7_takenFor 48 = .ok (.ifCond .ne 10, 3) := by decide +kernel
theorem dX7_takenFor_51 : decode cX7_takenFor 51 = .ok (.aload_n 0, 1) := by decide +kernel
theorem dX7_takenFor_52 : decode cX7_takenFor 52 = .ok (.bipush (-3), 2) := by decide +kernel
theorem dX7_takenFor_54 : decode cX7_takenFor 54 = .ok (.invokevirtual 91, 3) := by decide +kernel
theorem dX7_takenFor_57 : decode cX7_takenFor 57 = .ok (.ireturn, 1) := by decide +kernel
theorem dX7_takenFor_58 : decode cX7_takenFor 58 = .ok (.bipush 60, 2) := by decide +kernel
theorem dX7_takenFor_60 : decode cX7_takenFor 60 = .ok (.iload_n 2, 1) := by decide +kernel
theorem dX7_takenFor_61 : decode cX7_takenFor 61 = .ok (.imul, 1) := by decide +kernel
theorem dX7_takenFor_62 : decode cX7_takenFor 62 = .ok (.iload 4, 2) := by decide +kernel
theorem dX7_takenFor_64 : decode cX7_takenFor 64 = .ok (.iadd, 1) := by decide +kernel
theorem dX7_takenFor_65 : decode cX7_takenFor 65 = .ok (.istore 7, 2) := by decide +kernel
theorem dX7_takenFor_67 : decode cX7_takenFor 67 = .ok (.iconst 0, 1) := by decide +kernel
theorem dX7_takenFor_68 : decode cX7_takenFor 68 = .ok (.istore 8, 2) := by decide +kernel
theorem dX7_takenFor_70 : decode cX7_takenFor 70 = .ok (.iload 8, 2) := by decide +kernel
theorem dX7_takenFor_72 : decode cX7_takenFor 72 = .ok (.iconst 3, 1) := by decide +kernel
theorem dX7_takenFor_73 : decode cX7_takenFor 73 = .ok (.if_icmp .ge 37, 3) := by decide +kernel
theorem dX7_takenFor_76 : decode cX7_takenFor 76 = .ok (.aload_n 0, 1) := by decide +kernel
theorem dX7_takenFor_77 : decode cX7_takenFor 77 = .ok (.getfield 71, 3) := by decide +kernel
theorem dX7_takenFor_80 : decode cX7_takenFor 80 = .ok (.iload 7, 2) := by decide +kernel
theorem dX7_takenFor_82 : decode cX7_takenFor 82 = .ok (.iload 8, 2) := by decide +kernel
theorem dX7_takenFor_84 : decode cX7_takenFor 84 = .ok (.iadd, 1) := by decide +kernel
theorem dX7_takenFor_85 : decode cX7_takenFor 85 = .ok (.iaload, 1) := by decide +kernel
theorem dX7_takenFor_86 : decode cX7_takenFor 86 = .ok (.i2l, 1) := by decide +kernel
theorem dX7_takenFor_87 : decode cX7_takenFor 87 = .ok (.lconst 0, 1) := by decide +kernel
theorem dX7_takenFor_88 : decode cX7_takenFor 88 = .ok (.ldc2_w 211, 3) := by decide +kernel
theorem dX7_takenFor_91 : decode cX7_takenFor 91 = .ok (.invokestatic 97, 3) := by decide +kernel
theorem dX7_takenFor_94 : decode cX7_takenFor 94 = .ok (.ifCond .ne 10, 3) := by decide +kernel
theorem dX7_takenFor_97 : decode cX7_takenFor 97 = .ok (.aload_n 0, 1) := by decide +kernel
theorem dX7_takenFor_98 : decode cX7_takenFor 98 = .ok (.bipush (-2), 2) := by decide +kernel
theorem dX7_takenFor_100 : decode cX7_takenFor 100 = .ok (.invokevirtual 91, 3) := by decide +kernel
theorem dX7_takenFor_103 : decode cX7_takenFor 103 = .ok (.ireturn, 1) := by decide +kernel
theorem dX7_takenFor_104 : decode cX7_takenFor 104 = .ok (.iinc 8 1, 3) := by decide +kernel
theorem dX7_takenFor_107 : decode cX7_takenFor 107 = .ok (.goto (-37), 3) := by decide +kernel
theorem dX7_takenFor_110 : decode cX7_takenFor 110 = .ok (.aload_n 0, 1) := by decide +kernel
theorem dX7_takenFor_111 : decode cX7_takenFor 111 = .ok (.iload_n 1, 1) := by decide +kernel
theorem dX7_takenFor_112 : decode cX7_takenFor 112 = .ok (.invokevirtual 183, 3) := by decide +kernel
theorem dX7_takenFor_115 : decode cX7_takenFor 115 = .ok (.bipush (-9), 2) := by decide +kernel
theorem dX7_takenFor_117 : decode cX7_takenFor 117 = .ok (.istore 8, 2) := by decide +kernel
theorem dX7_takenFor_119 : decode cX7_takenFor 119 = .ok (.iconst 0, 1) := by decide +kernel
theorem dX7_takenFor_120 : decode cX7_takenFor 120 = .ok (.istore 9, 2) := by decide +kernel
theorem dX7_takenFor_122 : decode cX7_takenFor 122 = .ok (.iconst 0, 1) := by decide +kernel
theorem dX7_takenFor_123 : decode cX7_takenFor 123 = .ok (.istore 10, 2) := by decide +kernel
theorem dX7_takenFor_125 : decode cX7_takenFor 125 = .ok (.iload 10, 2) := by decide +kernel
theorem dX7_takenFor_127 : decode cX7_takenFor 127 = .ok (.aload_n 0, 1) := by decide +kernel
theorem dX7_takenFor_128 : decode cX7_takenFor 128 = .ok (.getfield 108, 3) := by decide +kernel
theorem dX7_takenFor_131 : decode cX7_takenFor 131 = .ok (.if_icmp .ge 77, 3) := by decide +kernel
theorem dX7_takenFor_134 : decode cX7_takenFor 134 = .ok (.iconst 0, 1) := by decide +kernel
theorem dX7_takenFor_135 : decode cX7_takenFor 135 = .ok (.istore 11, 2) := by decide +kernel
theorem dX7_takenFor_137 : decode cX7_takenFor 137 = .ok (.iconst 0, 1) := by decide +kernel
theorem dX7_takenFor_138 : decode cX7_takenFor 138 = .ok (.istore 12, 2) := by decide +kernel
theorem dX7_takenFor_140 : decode cX7_takenFor 140 = .ok (.iload 12, 2) := by decide +kernel
theorem dX7_takenFor_142 : decode cX7_takenFor 142 = .ok (.iconst 3, 1) := by decide +kernel
theorem dX7_takenFor_143 : decode cX7_takenFor 143 = .ok (.if_icmp .ge 39, 3) := by decide +kernel
theorem dX7_takenFor_146 : decode cX7_takenFor 146 = .ok (.iload 11, 2) := by decide +kernel
theorem dX7_takenFor_148 : decode cX7_takenFor 148 = .ok (.aload_n 0, 1) := by decide +kernel
theorem dX7_takenFor_149 : decode cX7_takenFor 149 = .ok (.getfield 41, 3) := by decide +kernel
theorem dX7_takenFor_152 : decode cX7_takenFor 152 = .ok (.iconst 3, 1) := by decide +kernel
theorem dX7_takenFor_153 : decode cX7_takenFor 153 = .ok (.iload 10, 2) := by decide +kernel
theorem dX7_takenFor_155 : decode cX7_takenFor 155 = .ok (.imul, 1) := by decide +kernel
theorem dX7_takenFor_156 : decode cX7_takenFor 156 = .ok (.iload 12, 2) := by decide +kernel
theorem dX7_takenFor_158 : decode cX7_takenFor 158 = .ok (.iadd, 1) := by decide +kernel
theorem dX7_takenFor_159 : decode cX7_takenFor 159 = .ok (.iaload, 1) := by decide +kernel
theorem dX7_takenFor_160 : decode cX7_takenFor 160 = .ok (.aload_n 0, 1) := by decide +kernel
theorem dX7_takenFor_161 : decode cX7_takenFor 161 = .ok (.getfield 71, 3) := by decide +kernel
theorem dX7_takenFor_164 : decode cX7_takenFor 164 = .ok (.iload 7, 2) := by decide +kernel
theorem dX7_takenFor_166 : decode cX7_takenFor 166 = .ok (.iload 12, 2) := by decide +kernel
theorem dX7_takenFor_168 : decode cX7_takenFor 168 = .ok (.iadd, 1) := by decide +kernel
theorem dX7_takenFor_169 : decode cX7_takenFor 169 = .ok (.iaload, 1) := by decide +kernel
theorem dX7_takenFor_170 : decode cX7_takenFor 170 = .ok (.invokestatic 213, 3) := by decide +kernel
theorem dX7_takenFor_173 : decode cX7_takenFor 173 = .ok (.iadd, 1) := by decide +kernel
theorem dX7_takenFor_174 : decode cX7_takenFor 174 = .ok (.istore 11, 2) := by decide +kernel
theorem dX7_takenFor_176 : decode cX7_takenFor 176 = .ok (.iinc 12 1, 3) := by decide +kernel
theorem dX7_takenFor_179 : decode cX7_takenFor 179 = .ok (.goto (-39), 3) := by decide +kernel
theorem dX7_takenFor_182 : decode cX7_takenFor 182 = .ok (.iload 8, 2) := by decide +kernel
theorem dX7_takenFor_184 : decode cX7_takenFor 184 = .ok (.ifCond .lt 10, 3) := by decide +kernel
theorem dX7_takenFor_187 : decode cX7_takenFor 187 = .ok (.iload 11, 2) := by decide +kernel
theorem dX7_takenFor_189 : decode cX7_takenFor 189 = .ok (.iload 9, 2) := by decide +kernel
theorem dX7_takenFor_191 : decode cX7_takenFor 191 = .ok (.if_icmp .ge 11, 3) := by decide +kernel
theorem dX7_takenFor_194 : decode cX7_takenFor 194 = .ok (.iload 10, 2) := by decide +kernel
theorem dX7_takenFor_196 : decode cX7_takenFor 196 = .ok (.istore 8, 2) := by decide +kernel
theorem dX7_takenFor_198 : decode cX7_takenFor 198 = .ok (.iload 11, 2) := by decide +kernel
theorem dX7_takenFor_200 : decode cX7_takenFor 200 = .ok (.istore 9, 2) := by decide +kernel
theorem dX7_takenFor_202 : decode cX7_takenFor 202 = .ok (.iinc 10 1, 3) := by decide +kernel
theorem dX7_takenFor_205 : decode cX7_takenFor 205 = .ok (.goto (-80), 3) := by decide +kernel
theorem dX7_takenFor_208 : decode cX7_takenFor 208 = .ok (.aload_n 0, 1) := by decide +kernel
theorem dX7_takenFor_209 : decode cX7_takenFor 209 = .ok (.iload 5, 2) := by decide +kernel
theorem dX7_takenFor_211 : decode cX7_takenFor 211 = .ok (.ifCond .ne 8, 3) := by decide +kernel
theorem dX7_takenFor_214 : decode cX7_takenFor 214 = .ok (.iload 8, 2) := by decide +kernel
theorem dX7_takenFor_216 : decode cX7_takenFor 216 = .ok (.goto 5, 3) := by decide +kernel
theorem dX7_takenFor_219 : decode cX7_takenFor 219 = .ok (.iload 9, 2) := by decide +kernel
theorem dX7_takenFor_221 : decode cX7_takenFor 221 = .ok (.invokevirtual 91, 3) := by decide +kernel
theorem dX7_takenFor_224 : decode cX7_takenFor 224 = .ok (.ireturn, 1) := by decide +kernel
theorem dX7_whose_0 : decode cX7_whose 0 = .ok (.iload_n 2, 1) := by decide +kernel
theorem dX7_whose_1 : decode cX7_whose 1 = .ok (.invokestatic 180, 3) := by decide +kernel
theorem dX7_whose_4 : decode cX7_whose 4 = .ok (.ifCond .ne 6, 3) := by decide +kernel
theorem dX7_whose_7 : decode cX7_whose 7 = .ok (.bipush (-2), 2) := by decide +kernel
theorem dX7_whose_9 : decode cX7_whose 9 = .ok (.ireturn, 1) := by decide +kernel
theorem dX7_whose_10 : decode cX7_whose 10 = .ok (.aload_n 0, 1) := by decide +kernel
theorem dX7_whose_11 : decode cX7_whose 11 = .ok (.iload_n 2, 1) := by decide +kernel
theorem dX7_whose_12 : decode cX7_whose 12 = .ok (.invokevirtual 183, 3) := by decide +kernel
theorem dX7_whose_15 : decode cX7_whose 15 = .ok (.iconst 0, 1) := by decide +kernel
theorem dX7_whose_16 : decode cX7_whose 16 = .ok (.istore_n 3, 1) := by decide +kernel
theorem dX7_whose_17 : decode cX7_whose 17 = .ok (.iconst 0, 1) := by decide +kernel
theorem dX7_whose_18 : decode cX7_whose 18 = .ok (.istore 4, 2) := by decide +kernel
theorem dX7_whose_20 : decode cX7_whose 20 = .ok (.iload 4, 2) := by decide +kernel
theorem dX7_whose_22 : decode cX7_whose 22 = .ok (.aload_n 0, 1) := by decide +kernel
theorem dX7_whose_23 : decode cX7_whose 23 = .ok (.getfield 108, 3) := by decide +kernel
theorem dX7_whose_26 : decode cX7_whose 26 = .ok (.if_icmp .ge 31, 3) := by decide +kernel
theorem dX7_whose_29 : decode cX7_whose 29 = .ok (.iload_n 3, 1) := by decide +kernel
theorem dX7_whose_30 : decode cX7_whose 30 = .ok (.aload_n 0, 1) := by decide +kernel
theorem dX7_whose_31 : decode cX7_whose 31 = .ok (.getfield 44, 3) := by decide +kernel
theorem dX7_whose_34 : decode cX7_whose 34 = .ok (.iload 4, 2) := by decide +kernel
theorem dX7_whose_36 : decode cX7_whose 36 = .ok (.iaload, 1) := by decide +kernel
theorem dX7_whose_37 : decode cX7_whose 37 = .ok (.iload_n 1, 1) := by decide +kernel
theorem dX7_whose_38 : decode cX7_whose 38 = .ok (.if_icmp .ne 10, 3) := by decide +kernel
theorem dX7_whose_41 : decode cX7_whose 41 = .ok (.iconst 1, 1) := by decide +kernel
theorem dX7_whose_42 : decode cX7_whose 42 = .ok (.iload 4, 2) := by decide +kernel
theorem dX7_whose_44 : decode cX7_whose 44 = .ok (.ishl, 1) := by decide +kernel
theorem dX7_whose_45 : decode cX7_whose 45 = .ok (.goto 4, 3) := by decide +kernel
theorem dX7_whose_48 : decode cX7_whose 48 = .ok (.iconst 0, 1) := by decide +kernel
theorem dX7_whose_49 : decode cX7_whose 49 = .ok (.ior, 1) := by decide +kernel
theorem dX7_whose_50 : decode cX7_whose 50 = .ok (.istore_n 3, 1) := by decide +kernel
theorem dX7_whose_51 : decode cX7_whose 51 = .ok (.iinc 4 1, 3) := by decide +kernel
theorem dX7_whose_54 : decode cX7_whose 54 = .ok (.goto (-34), 3) := by decide +kernel
theorem dX7_whose_57 : decode cX7_whose 57 = .ok (.iload_n 3, 1) := by decide +kernel
theorem dX7_whose_58 : decode cX7_whose 58 = .ok (.ireturn, 1) := by decide +kernel
theorem dX7_reading_0 : decode cX7_reading 0 = .ok (.aload_n 0, 1) := by decide +kernel
theorem dX7_reading_1 : decode cX7_reading 1 = .ok (.iload_n 1, 1) := by decide +kernel
theorem dX7_reading_2 : decode cX7_reading 2 = .ok (.invokevirtual 144, 3) := by decide +kernel
theorem dX7_reading_5 : decode cX7_reading 5 = .ok (.ifCond .ne 10, 3) := by decide +kernel
theorem dX7_reading_8 : decode cX7_reading 8 = .ok (.iload_n 2, 1) := by decide +kernel
theorem dX7_reading_9 : decode cX7_reading 9 = .ok (.invokestatic 177, 3) := by decide +kernel
theorem dX7_reading_12 : decode cX7_reading 12 = .ok (.ifCond .eq 5, 3) := by decide +kernel
theorem dX7_reading_15 : decode cX7_reading 15 = .ok (.iconst (-1), 1) := by decide +kernel
theorem dX7_reading_16 : decode cX7_reading 16 = .ok (.ireturn, 1) := by decide +kernel
theorem dX7_reading_17 : decode cX7_reading 17 = .ok (.iload_n 3, 1) := by decide +kernel
theorem dX7_reading_18 : decode cX7_reading 18 = .ok (.invokestatic 180, 3) := by decide +kernel
theorem dX7_reading_21 : decode cX7_reading 21 = .ok (.ifCond .eq 16, 3) := by decide +kernel
theorem dX7_reading_24 : decode cX7_reading 24 = .ok (.iload 4, 2) := by decide +kernel
theorem dX7_reading_26 : decode cX7_reading 26 = .ok (.i2l, 1) := by decide +kernel
theorem dX7_reading_27 : decode cX7_reading 27 = .ok (.lconst 0, 1) := by decide +kernel
theorem dX7_reading_28 : decode cX7_reading 28 = .ok (.ldc2_w 216, 3) := by decide +kernel
theorem dX7_reading_31 : decode cX7_reading 31 = .ok (.invokestatic 97, 3) := by decide +kernel
theorem dX7_reading_34 : decode cX7_reading 34 = .ok (.ifCond .ne 6, 3) := by decide +kernel
theorem dX7_reading_37 : decode cX7_reading 37 = .ok (.bipush (-2), 2) := by decide +kernel
theorem dX7_reading_39 : decode cX7_reading 39 = .ok (.ireturn, 1) := by decide +kernel
theorem dX7_reading_40 : decode cX7_reading 40 = .ok (.aload_n 0, 1) := by decide +kernel
theorem dX7_reading_41 : decode cX7_reading 41 = .ok (.getfield 141, 3) := by decide +kernel
theorem dX7_reading_44 : decode cX7_reading 44 = .ok (.bipush 8, 2) := by decide +kernel
theorem dX7_reading_46 : decode cX7_reading 46 = .ok (.if_icmp .ne 6, 3) := by decide +kernel
theorem dX7_reading_49 : decode cX7_reading 49 = .ok (.bipush (-4), 2) := by decide +kernel
theorem dX7_reading_51 : decode cX7_reading 51 = .ok (.ireturn, 1) := by decide +kernel
theorem dX7_reading_52 : decode cX7_reading 52 = .ok (.aload_n 0, 1) := by decide +kernel
theorem dX7_reading_53 : decode cX7_reading 53 = .ok (.getfield 53, 3) := by decide +kernel
theorem dX7_reading_56 : decode cX7_reading 56 = .ok (.aload_n 0, 1) := by decide +kernel
theorem dX7_reading_57 : decode cX7_reading 57 = .ok (.getfield 141, 3) := by decide +kernel
theorem dX7_reading_60 : decode cX7_reading 60 = .ok (.iload_n 1, 1) := by decide +kernel
theorem dX7_reading_61 : decode cX7_reading 61 = .ok (.iastore, 1) := by decide +kernel
theorem dX7_reading_62 : decode cX7_reading 62 = .ok (.aload_n 0, 1) := by decide +kernel
theorem dX7_reading_63 : decode cX7_reading 63 = .ok (.getfield 56, 3) := by decide +kernel
theorem dX7_reading_66 : decode cX7_reading 66 = .ok (.aload_n 0, 1) := by decide +kernel
theorem dX7_reading_67 : decode cX7_reading 67 = .ok (.getfield 141, 3) := by decide +kernel
theorem dX7_reading_70 : decode cX7_reading 70 = .ok (.iload_n 2, 1) := by decide +kernel
theorem dX7_reading_71 : decode cX7_reading 71 = .ok (.iastore, 1) := by decide +kernel
theorem dX7_reading_72 : decode cX7_reading 72 = .ok (.aload_n 0, 1) := by decide +kernel
theorem dX7_reading_73 : decode cX7_reading 73 = .ok (.getfield 59, 3) := by decide +kernel
theorem dX7_reading_76 : decode cX7_reading 76 = .ok (.aload_n 0, 1) := by decide +kernel
theorem dX7_reading_77 : decode cX7_reading 77 = .ok (.getfield 141, 3) := by decide +kernel
theorem dX7_reading_80 : decode cX7_reading 80 = .ok (.iload_n 3, 1) := by decide +kernel
theorem dX7_reading_81 : decode cX7_reading 81 = .ok (.iastore, 1) := by decide +kernel
theorem dX7_reading_82 : decode cX7_reading 82 = .ok (.aload_n 0, 1) := by decide +kernel
theorem dX7_reading_83 : decode cX7_reading 83 = .ok (.getfield 62, 3) := by decide +kernel
theorem dX7_reading_86 : decode cX7_reading 86 = .ok (.aload_n 0, 1) := by decide +kernel
theorem dX7_reading_87 : decode cX7_reading 87 = .ok (.getfield 141, 3) := by decide +kernel
theorem dX7_reading_90 : decode cX7_reading 90 = .ok (.iload 4, 2) := by decide +kernel
theorem dX7_reading_92 : decode cX7_reading 92 = .ok (.iastore, 1) := by decide +kernel
theorem dX7_reading_93 : decode cX7_reading 93 = .ok (.aload_n 0, 1) := by decide +kernel
theorem dX7_reading_94 : decode cX7_reading 94 = .ok (.dup, 1) := by decide +kernel
theorem dX7_reading_95 : decode cX7_reading 95 = .ok (.getfield 141, 3) := by decide +kernel
theorem dX7_reading_98 : decode cX7_reading 98 = .ok (.iconst 1, 1) := by decide +kernel
theorem dX7_reading_99 : decode cX7_reading 99 = .ok (.iadd, 1) := by decide +kernel
theorem dX7_reading_100 : decode cX7_reading 100 = .ok (.putfield 141, 3) := by decide +kernel
theorem dX7_reading_103 : decode cX7_reading 103 = .ok (.aload_n 0, 1) := by decide +kernel
theorem dX7_reading_104 : decode cX7_reading 104 = .ok (.getfield 141, 3) := by decide +kernel
theorem dX7_reading_107 : decode cX7_reading 107 = .ok (.iconst 1, 1) := by decide +kernel
theorem dX7_reading_108 : decode cX7_reading 108 = .ok (.isub, 1) := by decide +kernel
theorem dX7_reading_109 : decode cX7_reading 109 = .ok (.ireturn, 1) := by decide +kernel
theorem dX7_back_0 : decode cX7_back 0 = .ok (.iload_n 1, 1) := by decide +kernel
theorem dX7_back_1 : decode cX7_back 1 = .ok (.i2l, 1) := by decide +kernel
theorem dX7_back_2 : decode cX7_back 2 = .ok (.lconst 0, 1) := by decide +kernel
theorem dX7_back_3 : decode cX7_back 3 = .ok (.aload_n 0, 1) := by decide +kernel
theorem dX7_back_4 : decode cX7_back 4 = .ok (.getfield 141, 3) := by decide +kernel
theorem dX7_back_7 : decode cX7_back 7 = .ok (.i2l, 1) := by decide +kernel
theorem dX7_back_8 : decode cX7_back 8 = .ok (.invokestatic 97, 3) := by decide +kernel
theorem dX7_back_11 : decode cX7_back 11 = .ok (.ifCond .ne 6, 3) := by decide +kernel
theorem dX7_back_14 : decode cX7_back 14 = .ok (.bipush (-2), 2) := by decide +kernel
theorem dX7_back_16 : decode cX7_back 16 = .ok (.ireturn, 1) := by decide +kernel
theorem dX7_back_17 : decode cX7_back 17 = .ok (.aload_n 0, 1) := by decide +kernel
theorem dX7_back_18 : decode cX7_back 18 = .ok (.dup, 1) := by decide +kernel
theorem dX7_back_19 : decode cX7_back 19 = .ok (.getfield 141, 3) := by decide +kernel
theorem dX7_back_22 : decode cX7_back 22 = .ok (.iload_n 1, 1) := by decide +kernel
theorem dX7_back_23 : decode cX7_back 23 = .ok (.isub, 1) := by decide +kernel
theorem dX7_back_24 : decode cX7_back 24 = .ok (.putfield 141, 3) := by decide +kernel
theorem dX7_back_27 : decode cX7_back 27 = .ok (.aload_n 0, 1) := by decide +kernel
theorem dX7_back_28 : decode cX7_back 28 = .ok (.getfield 141, 3) := by decide +kernel
theorem dX7_back_31 : decode cX7_back 31 = .ok (.ireturn, 1) := by decide +kernel
theorem dX7_areSo_0 : decode cX7_areSo 0 = .ok (.aload_n 0, 1) := by decide +kernel
theorem dX7_areSo_1 : decode cX7_areSo 1 = .ok (.invokevirtual 171, 3) := by decide +kernel
theorem dX7_areSo_4 : decode cX7_areSo 4 = .ok (.iconst 1, 1) := by decide +kernel
theorem dX7_areSo_5 : decode cX7_areSo 5 = .ok (.istore_n 1, 1) := by decide +kernel
theorem dX7_areSo_6 : decode cX7_areSo 6 = .ok (.iconst 0, 1) := by decide +kernel
theorem dX7_areSo_7 : decode cX7_areSo 7 = .ok (.istore_n 2, 1) := by decide +kernel
theorem dX7_areSo_8 : decode cX7_areSo 8 = .ok (.iload_n 2, 1) := by decide +kernel
theorem dX7_areSo_9 : decode cX7_areSo 9 = .ok (.bipush 60, 2) := by decide +kernel
theorem dX7_areSo_11 : decode cX7_areSo 11 = .ok (.if_icmp .gt 85, 3) := by decide +kernel
theorem dX7_areSo_14 : decode cX7_areSo 14 = .ok (.iconst 0, 1) := by decide +kernel
theorem dX7_areSo_15 : decode cX7_areSo 15 = .ok (.istore_n 3, 1) := by decide +kernel
theorem dX7_areSo_16 : decode cX7_areSo 16 = .ok (.iload_n 3, 1) := by decide +kernel
theorem dX7_areSo_17 : decode cX7_areSo 17 = .ok (.aload_n 0, 1) := by decide +kernel
theorem dX7_areSo_18 : decode cX7_areSo 18 = .ok (.getfield 141, 3) := by decide +kernel
theorem dX7_areSo_21 : decode cX7_areSo 21 = .ok (.if_icmp .ge 58, 3) := by decide +kernel
theorem dX7_areSo_24 : decode cX7_areSo 24 = .ok (.iload_n 1, 1) := by decide +kernel
theorem dX7_areSo_25 : decode cX7_areSo 25 = .ok (.ifCond .eq 46, 3) := by decide +kernel
theorem dX7_areSo_28 : decode cX7_areSo 28 = .ok (.aload_n 0, 1) := by decide +kernel
theorem dX7_areSo_29 : decode cX7_areSo 29 = .ok (.getfield 59, 3) := by decide +kernel
theorem dX7_areSo_32 : decode cX7_areSo 32 = .ok (.iload_n 3, 1) := by decide +kernel
theorem dX7_areSo_33 : decode cX7_areSo 33 = .ok (.iaload, 1) := by decide +kernel
theorem dX7_areSo_34 : decode cX7_areSo 34 = .ok (.iload_n 2, 1) := by decide +kernel
theorem dX7_areSo_35 : decode cX7_areSo 35 = .ok (.if_icmp .ne 32, 3) := by decide +kernel
theorem dX7_areSo_38 : decode cX7_areSo 38 = .ok (.aload_n 0, 1) := by decide +kernel
theorem dX7_areSo_39 : decode cX7_areSo 39 = .ok (.getfield 41, 3) := by decide +kernel
theorem dX7_areSo_42 : decode cX7_areSo 42 = .ok (.iconst 3, 1) := by decide +kernel
theorem dX7_areSo_43 : decode cX7_areSo 43 = .ok (.aload_n 0, 1) := by decide +kernel
theorem dX7_areSo_44 : decode cX7_areSo 44 = .ok (.getfield 53, 3) := by decide +kernel
theorem dX7_areSo_47 : decode cX7_areSo 47 = .ok (.iload_n 3, 1) := by decide +kernel
theorem dX7_areSo_48 : decode cX7_areSo 48 = .ok (.iaload, 1) := by decide +kernel
theorem dX7_areSo_49 : decode cX7_areSo 49 = .ok (.imul, 1) := by decide +kernel
theorem dX7_areSo_50 : decode cX7_areSo 50 = .ok (.aload_n 0, 1) := by decide +kernel
theorem dX7_areSo_51 : decode cX7_areSo 51 = .ok (.getfield 56, 3) := by decide +kernel
theorem dX7_areSo_54 : decode cX7_areSo 54 = .ok (.iload_n 3, 1) := by decide +kernel
theorem dX7_areSo_55 : decode cX7_areSo 55 = .ok (.iaload, 1) := by decide +kernel
theorem dX7_areSo_56 : decode cX7_areSo 56 = .ok (.iadd, 1) := by decide +kernel
theorem dX7_areSo_57 : decode cX7_areSo 57 = .ok (.iaload, 1) := by decide +kernel
theorem dX7_areSo_58 : decode cX7_areSo 58 = .ok (.aload_n 0, 1) := by decide +kernel
theorem dX7_areSo_59 : decode cX7_areSo 59 = .ok (.getfield 62, 3) := by decide +kernel
theorem dX7_areSo_62 : decode cX7_areSo 62 = .ok (.iload_n 3, 1) := by decide +kernel
theorem dX7_areSo_63 : decode cX7_areSo 63 = .ok (.iaload, 1) := by decide +kernel
theorem dX7_areSo_64 : decode cX7_areSo 64 = .ok (.if_icmp .ne 7, 3) := by decide +kernel
theorem dX7_areSo_67 : decode cX7_areSo 67 = .ok (.iconst 1, 1) := by decide +kernel
theorem dX7_areSo_68 : decode cX7_areSo 68 = .ok (.goto 4, 3) := by decide +kernel
theorem dX7_areSo_71 : decode cX7_areSo 71 = .ok (.iconst 0, 1) := by decide +kernel
theorem dX7_areSo_72 : decode cX7_areSo 72 = .ok (.istore_n 1, 1) := by decide +kernel
theorem dX7_areSo_73 : decode cX7_areSo 73 = .ok (.iinc 3 1, 3) := by decide +kernel
theorem dX7_areSo_76 : decode cX7_areSo 76 = .ok (.goto (-60), 3) := by decide +kernel
theorem dX7_areSo_79 : decode cX7_areSo 79 = .ok (.iload_n 2, 1) := by decide +kernel
theorem dX7_areSo_80 : decode cX7_areSo 80 = .ok (.bipush 60, 2) := by decide +kernel
theorem dX7_areSo_82 : decode cX7_areSo 82 = .ok (.if_icmp .ge 8, 3) := by decide +kernel
theorem dX7_areSo_85 : decode cX7_areSo 85 = .ok (.aload_n 0, 1) := by decide +kernel
theorem dX7_areSo_86 : decode cX7_areSo 86 = .ok (.iload_n 2, 1) := by decide +kernel
theorem dX7_areSo_87 : decode cX7_areSo 87 = .ok (.invokevirtual 174, 3) := by decide +kernel
theorem dX7_areSo_90 : decode cX7_areSo 90 = .ok (.iinc 2 1, 3) := by decide +kernel
theorem dX7_areSo_93 : decode cX7_areSo 93 = .ok (.goto (-85), 3) := by decide +kernel
theorem dX7_areSo_96 : decode cX7_areSo 96 = .ok (.iload_n 1, 1) := by decide +kernel
theorem dX7_areSo_97 : decode cX7_areSo 97 = .ok (.ireturn, 1) := by decide +kernel
theorem dX7_rains_0 : decode cX7_rains 0 = .ok (.iload_n 1, 1) := by decide +kernel
theorem dX7_rains_1 : decode cX7_rains 1 = .ok (.i2l, 1) := by decide +kernel
theorem dX7_rains_2 : decode cX7_rains 2 = .ok (.lconst 0, 1) := by decide +kernel
theorem dX7_rains_3 : decode cX7_rains 3 = .ok (.ldc2_w 149, 3) := by decide +kernel
theorem dX7_rains_6 : decode cX7_rains 6 = .ok (.invokestatic 97, 3) := by decide +kernel
theorem dX7_rains_9 : decode cX7_rains 9 = .ok (.ifCond .ne 6, 3) := by decide +kernel
theorem dX7_rains_12 : decode cX7_rains 12 = .ok (.bipush (-2), 2) := by decide +kernel
theorem dX7_rains_14 : decode cX7_rains 14 = .ok (.ireturn, 1) := by decide +kernel
theorem dX7_rains_15 : decode cX7_rains 15 = .ok (.aload_n 0, 1) := by decide +kernel
theorem dX7_rains_16 : decode cX7_rains 16 = .ok (.getfield 108, 3) := by decide +kernel
theorem dX7_rains_19 : decode cX7_rains 19 = .ok (.ifCond .ne 6, 3) := by decide +kernel
theorem dX7_rains_22 : decode cX7_rains 22 = .ok (.bipush (-3), 2) := by decide +kernel
theorem dX7_rains_24 : decode cX7_rains 24 = .ok (.ireturn, 1) := by decide +kernel
theorem dX7_rains_25 : decode cX7_rains 25 = .ok (.aload_n 0, 1) := by decide +kernel
theorem dX7_rains_26 : decode cX7_rains 26 = .ok (.getfield 35, 3) := by decide +kernel
theorem dX7_rains_29 : decode cX7_rains 29 = .ok (.iload_n 1, 1) := by decide +kernel
theorem dX7_rains_30 : decode cX7_rains 30 = .ok (.iaload, 1) := by decide +kernel
theorem dX7_rains_31 : decode cX7_rains 31 = .ok (.istore_n 2, 1) := by decide +kernel
theorem dX7_rains_32 : decode cX7_rains 32 = .ok (.iconst 0, 1) := by decide +kernel
theorem dX7_rains_33 : decode cX7_rains 33 = .ok (.istore_n 3, 1) := by decide +kernel
theorem dX7_rains_34 : decode cX7_rains 34 = .ok (.iconst 0, 1) := by decide +kernel
theorem dX7_rains_35 : decode cX7_rains 35 = .ok (.istore 4, 2) := by decide +kernel
theorem dX7_rains_37 : decode cX7_rains 37 = .ok (.iload 4, 2) := by decide +kernel
theorem dX7_rains_39 : decode cX7_rains 39 = .ok (.bipush 10, 2) := by decide +kernel
theorem dX7_rains_41 : decode cX7_rains 41 = .ok (.if_icmp .ge 35, 3) := by decide +kernel
theorem dX7_rains_44 : decode cX7_rains 44 = .ok (.aload_n 0, 1) := by decide +kernel
theorem dX7_rains_45 : decode cX7_rains 45 = .ok (.getfield 35, 3) := by decide +kernel
theorem dX7_rains_48 : decode cX7_rains 48 = .ok (.iload_n 1, 1) := by decide +kernel
theorem dX7_rains_49 : decode cX7_rains 49 = .ok (.iload 4, 2) := by decide +kernel
theorem dX7_rains_51 : decode cX7_rains 51 = .ok (.iastore, 1) := by decide +kernel
theorem dX7_rains_52 : decode cX7_rains 52 = .ok (.iload_n 3, 1) := by decide +kernel
theorem dX7_rains_53 : decode cX7_rains 53 = .ok (.aload_n 0, 1) := by decide +kernel
theorem dX7_rains_54 : decode cX7_rains 54 = .ok (.invokevirtual 218, 3) := by decide +kernel
theorem dX7_rains_57 : decode cX7_rains 57 = .ok (.ifCond .eq 10, 3) := by decide +kernel
theorem dX7_rains_60 : decode cX7_rains 60 = .ok (.iconst 1, 1) := by decide +kernel
theorem dX7_rains_61 : decode cX7_rains 61 = .ok (.iload 4, 2) := by decide +kernel
theorem dX7_rains_63 : decode cX7_rains 63 = .ok (.ishl, 1) := by decide +kernel
theorem dX7_rains_64 : decode cX7_rains 64 = .ok (.goto 4, 3) := by decide +kernel
theorem dX7_rains_67 : decode cX7_rains 67 = .ok (.iconst 0, 1) := by decide +kernel
theorem dX7_rains_68 : decode cX7_rains 68 = .ok (.ior, 1) := by decide +kernel
theorem dX7_rains_69 : decode cX7_rains 69 = .ok (.istore_n 3, 1) := by decide +kernel
theorem dX7_rains_70 : decode cX7_rains 70 = .ok (.iinc 4 1, 3) := by decide +kernel
theorem dX7_rains_73 : decode cX7_rains 73 = .ok (.goto (-36), 3) := by decide +kernel
theorem dX7_rains_76 : decode cX7_rains 76 = .ok (.aload_n 0, 1) := by decide +kernel
theorem dX7_rains_77 : decode cX7_rains 77 = .ok (.getfield 35, 3) := by decide +kernel
theorem dX7_rains_80 : decode cX7_rains 80 = .ok (.iload_n 1, 1) := by decide +kernel
theorem dX7_rains_81 : decode cX7_rains 81 = .ok (.iload_n 2, 1) := by decide +kernel
theorem dX7_rains_82 : decode cX7_rains 82 = .ok (.iastore, 1) := by decide +kernel
theorem dX7_rains_83 : decode cX7_rains 83 = .ok (.iload_n 3, 1) := by decide +kernel
theorem dX7_rains_84 : decode cX7_rains 84 = .ok (.ireturn, 1) := by decide +kernel
theorem dX7_cast_0 : decode cX7_cast 0 = .ok (.iload_n 1, 1) := by decide +kernel
theorem dX7_cast_1 : decode cX7_cast 1 = .ok (.invokestatic 180, 3) := by decide +kernel
theorem dX7_cast_4 : decode cX7_cast 4 = .ok (.ifCond .eq 15, 3) := by decide +kernel
theorem dX7_cast_7 : decode cX7_cast 7 = .ok (.iload_n 2, 1) := by decide +kernel
theorem dX7_cast_8 : decode cX7_cast 8 = .ok (.i2l, 1) := by decide +kernel
theorem dX7_cast_9 : decode cX7_cast 9 = .ok (.lconst 1, 1) := by decide +kernel
theorem dX7_cast_10 : decode cX7_cast 10 = .ok (.ldc2_w 211, 3) := by decide +kernel
theorem dX7_cast_13 : decode cX7_cast 13 = .ok (.invokestatic 97, 3) := by decide +kernel
theorem dX7_cast_16 : decode cX7_cast 16 = .ok (.ifCond .ne 6, 3) := by decide +kernel
theorem dX7_cast_19 : decode cX7_cast 19 = .ok (.bipush (-2), 2) := by decide +kernel
theorem dX7_cast_21 : decode cX7_cast 21 = .ok (.ireturn, 1) := by decide +kernel
theorem dX7_cast_22 : decode cX7_cast 22 = .ok (.aload_n 0, 1) := by decide +kernel
theorem dX7_cast_23 : decode cX7_cast 23 = .ok (.iload_n 1, 1) := by decide +kernel
theorem dX7_cast_24 : decode cX7_cast 24 = .ok (.invokevirtual 183, 3) := by decide +kernel
theorem dX7_cast_27 : decode cX7_cast 27 = .ok (.iconst 0, 1) := by decide +kernel
theorem dX7_cast_28 : decode cX7_cast 28 = .ok (.istore_n 3, 1) := by decide +kernel
theorem dX7_cast_29 : decode cX7_cast 29 = .ok (.iconst 0, 1) := by decide +kernel
theorem dX7_cast_30 : decode cX7_cast 30 = .ok (.istore 4, 2) := by decide +kernel
theorem dX7_cast_32 : decode cX7_cast 32 = .ok (.iload 4, 2) := by decide +kernel
theorem dX7_cast_34 : decode cX7_cast 34 = .ok (.aload_n 0, 1) := by decide +kernel
theorem dX7_cast_35 : decode cX7_cast 35 = .ok (.getfield 108, 3) := by decide +kernel
theorem dX7_cast_38 : decode cX7_cast 38 = .ok (.if_icmp .ge 19, 3) := by decide +kernel
theorem dX7_cast_41 : decode cX7_cast 41 = .ok (.iload_n 3, 1) := by decide +kernel
theorem dX7_cast_42 : decode cX7_cast 42 = .ok (.aload_n 0, 1) := by decide +kernel
theorem dX7_cast_43 : decode cX7_cast 43 = .ok (.getfield 44, 3) := by decide +kernel
theorem dX7_cast_46 : decode cX7_cast 46 = .ok (.iload 4, 2) := by decide +kernel
theorem dX7_cast_48 : decode cX7_cast 48 = .ok (.iaload, 1) := by decide +kernel
theorem dX7_cast_49 : decode cX7_cast 49 = .ok (.iadd, 1) := by decide +kernel
theorem dX7_cast_50 : decode cX7_cast 50 = .ok (.istore_n 3, 1) := by decide +kernel
theorem dX7_cast_51 : decode cX7_cast 51 = .ok (.iinc 4 1, 3) := by decide +kernel
theorem dX7_cast_54 : decode cX7_cast 54 = .ok (.goto (-22), 3) := by decide +kernel
theorem dX7_cast_57 : decode cX7_cast 57 = .ok (.bipush 9, 2) := by decide +kernel
theorem dX7_cast_59 : decode cX7_cast 59 = .ok (.iload_n 3, 1) := by decide +kernel
theorem dX7_cast_60 : decode cX7_cast 60 = .ok (.imul, 1) := by decide +kernel
theorem dX7_cast_61 : decode cX7_cast 61 = .ok (.bipush 10, 2) := by decide +kernel
theorem dX7_cast_63 : decode cX7_cast 63 = .ok (.idiv, 1) := by decide +kernel
theorem dX7_cast_64 : decode cX7_cast 64 = .ok (.iload_n 2, 1) := by decide +kernel
theorem dX7_cast_65 : decode cX7_cast 65 = .ok (.idiv, 1) := by decide +kernel
theorem dX7_cast_66 : decode cX7_cast 66 = .ok (.ireturn, 1) := by decide +kernel
theorem dX7_noSheet_0 : decode cX7_noSheet 0 = .ok (.iload_n 0, 1) := by decide +kernel
theorem dX7_noSheet_1 : decode cX7_noSheet 1 = .ok (.i2l, 1) := by decide +kernel
theorem dX7_noSheet_2 : decode cX7_noSheet 2 = .ok (.lconst 0, 1) := by decide +kernel
theorem dX7_noSheet_3 : decode cX7_noSheet 3 = .ok (.ldc2_w 147, 3) := by decide +kernel
theorem dX7_noSheet_6 : decode cX7_noSheet 6 = .ok (.invokestatic 97, 3) := by decide +kernel
theorem dX7_noSheet_9 : decode cX7_noSheet 9 = .ok (.ifCond .ne 7, 3) := by decide +kernel
theorem dX7_noSheet_12 : decode cX7_noSheet 12 = .ok (.iconst 1, 1) := by decide +kernel
theorem dX7_noSheet_13 : decode cX7_noSheet 13 = .ok (.goto 4, 3) := by decide +kernel
theorem dX7_noSheet_16 : decode cX7_noSheet 16 = .ok (.iconst 0, 1) := by decide +kernel
theorem dX7_noSheet_17 : decode cX7_noSheet 17 = .ok (.ireturn, 1) := by decide +kernel
theorem dX7_sheet_0 : decode cX7_sheet 0 = .ok (.iload_n 1, 1) := by decide +kernel
theorem dX7_sheet_1 : decode cX7_sheet 1 = .ok (.invokestatic 87, 3) := by decide +kernel
theorem dX7_sheet_4 : decode cX7_sheet 4 = .ok (.ifCond .eq 9, 3) := by decide +kernel
theorem dX7_sheet_7 : decode cX7_sheet 7 = .ok (.aload_n 0, 1) := by decide +kernel
theorem dX7_sheet_8 : decode cX7_sheet 8 = .ok (.iconst (-1), 1) := by decide +kernel
theorem dX7_sheet_9 : decode cX7_sheet 9 = .ok (.invokevirtual 91, 3) := by decide +kernel
theorem dX7_sheet_12 : decode cX7_sheet 12 = .ok (.ireturn, 1) := by decide +kernel
theorem dX7_sheet_13 : decode cX7_sheet 13 = .ok (.iload_n 2, 1) := by decide +kernel
theorem dX7_sheet_14 : decode cX7_sheet 14 = .ok (.i2l, 1) := by decide +kernel
theorem dX7_sheet_15 : decode cX7_sheet 15 = .ok (.lconst 0, 1) := by decide +kernel
theorem dX7_sheet_16 : decode cX7_sheet 16 = .ok (.ldc2_w 95, 3) := by decide +kernel
theorem dX7_sheet_19 : decode cX7_sheet 19 = .ok (.invokestatic 97, 3) := by decide +kernel
theorem dX7_sheet_22 : decode cX7_sheet 22 = .ok (.ifCond .eq 9, 3) := by decide +kernel
theorem dX7_sheet_25 : decode cX7_sheet 25 = .ok (.iload_n 3, 1) := by decide +kernel
theorem dX7_sheet_26 : decode cX7_sheet 26 = .ok (.bipush 60, 2) := by decide +kernel
theorem dX7_sheet_28 : decode cX7_sheet 28 = .ok (.if_icmp .le 10, 3) := by decide +kernel
theorem dX7_sheet_31 : decode cX7_sheet 31 = .ok (.aload_n 0, 1) := by decide +kernel
theorem dX7_sheet_32 : decode cX7_sheet 32 = .ok (.bipush (-2), 2) := by decide +kernel
theorem dX7_sheet_34 : decode cX7_sheet 34 = .ok (.invokevirtual 91, 3) := by decide +kernel
theorem dX7_sheet_37 : decode cX7_sheet 37 = .ok (.ireturn, 1) := by decide +kernel
theorem dX7_sheet_38 : decode cX7_sheet 38 = .ok (.iload_n 3, 1) := by decide +kernel
theorem dX7_sheet_39 : decode cX7_sheet 39 = .ok (.ifCond .ge 9, 3) := by decide +kernel
theorem dX7_sheet_42 : decode cX7_sheet 42 = .ok (.aload_n 0, 1) := by decide +kernel
theorem dX7_sheet_43 : decode cX7_sheet 43 = .ok (.iconst 4, 1) := by decide +kernel
theorem dX7_sheet_44 : decode cX7_sheet 44 = .ok (.invokevirtual 101, 3) := by decide +kernel
theorem dX7_sheet_47 : decode cX7_sheet 47 = .ok (.ireturn, 1) := by decide +kernel
theorem dX7_sheet_48 : decode cX7_sheet 48 = .ok (.aload_n 0, 1) := by decide +kernel
theorem dX7_sheet_49 : decode cX7_sheet 49 = .ok (.getfield 65, 3) := by decide +kernel
theorem dX7_sheet_52 : decode cX7_sheet 52 = .ok (.iload_n 1, 1) := by decide +kernel
theorem dX7_sheet_53 : decode cX7_sheet 53 = .ok (.iload_n 3, 1) := by decide +kernel
theorem dX7_sheet_54 : decode cX7_sheet 54 = .ok (.iastore, 1) := by decide +kernel
theorem dX7_sheet_55 : decode cX7_sheet 55 = .ok (.aload_n 0, 1) := by decide +kernel
theorem dX7_sheet_56 : decode cX7_sheet 56 = .ok (.getfield 68, 3) := by decide +kernel
theorem dX7_sheet_59 : decode cX7_sheet 59 = .ok (.iload_n 1, 1) := by decide +kernel
theorem dX7_sheet_60 : decode cX7_sheet 60 = .ok (.iload_n 2, 1) := by decide +kernel
theorem dX7_sheet_61 : decode cX7_sheet 61 = .ok (.iastore, 1) := by decide +kernel
theorem dX7_sheet_62 : decode cX7_sheet 62 = .ok (.iconst 0, 1) := by decide +kernel
theorem dX7_sheet_63 : decode cX7_sheet 63 = .ok (.istore 4, 2) := by decide +kernel
theorem dX7_sheet_65 : decode cX7_sheet 65 = .ok (.iload 4, 2) := by decide +kernel
theorem dX7_sheet_67 : decode cX7_sheet 67 = .ok (.iload_n 3, 1) := by decide +kernel
theorem dX7_sheet_68 : decode cX7_sheet 68 = .ok (.if_icmp .ge 22, 3) := by decide +kernel
theorem dX7_sheet_71 : decode cX7_sheet 71 = .ok (.aload_n 0, 1) := by decide +kernel
theorem dX7_sheet_72 : decode cX7_sheet 72 = .ok (.getfield 71, 3) := by decide +kernel
theorem dX7_sheet_75 : decode cX7_sheet 75 = .ok (.bipush 60, 2) := by decide +kernel
theorem dX7_sheet_77 : decode cX7_sheet 77 = .ok (.iload_n 1, 1) := by decide +kernel
theorem dX7_sheet_78 : decode cX7_sheet 78 = .ok (.imul, 1) := by decide +kernel
theorem dX7_sheet_79 : decode cX7_sheet 79 = .ok (.iload 4, 2) := by decide +kernel
theorem dX7_sheet_81 : decode cX7_sheet 81 = .ok (.iadd, 1) := by decide +kernel
theorem dX7_sheet_82 : decode cX7_sheet 82 = .ok (.iconst 0, 1) := by decide +kernel
theorem dX7_sheet_83 : decode cX7_sheet 83 = .ok (.iastore, 1) := by decide +kernel
theorem dX7_sheet_84 : decode cX7_sheet 84 = .ok (.iinc 4 1, 3) := by decide +kernel
theorem dX7_sheet_87 : decode cX7_sheet 87 = .ok (.goto (-22), 3) := by decide +kernel
theorem dX7_sheet_90 : decode cX7_sheet 90 = .ok (.aload_n 0, 1) := by decide +kernel
theorem dX7_sheet_91 : decode cX7_sheet 91 = .ok (.iconst 1, 1) := by decide +kernel
theorem dX7_sheet_92 : decode cX7_sheet 92 = .ok (.invokevirtual 91, 3) := by decide +kernel
theorem dX7_sheet_95 : decode cX7_sheet 95 = .ok (.ireturn, 1) := by decide +kernel
theorem dX7_lose_0 : decode cX7_lose 0 = .ok (.iload_n 1, 1) := by decide +kernel
theorem dX7_lose_1 : decode cX7_lose 1 = .ok (.invokestatic 87, 3) := by decide +kernel
theorem dX7_lose_4 : decode cX7_lose 4 = .ok (.ifCond .eq 5, 3) := by decide +kernel
theorem dX7_lose_7 : decode cX7_lose 7 = .ok (.iconst (-1), 1) := by decide +kernel
theorem dX7_lose_8 : decode cX7_lose 8 = .ok (.ireturn, 1) := by decide +kernel
theorem dX7_lose_9 : decode cX7_lose 9 = .ok (.aload_n 0, 1) := by decide +kernel
theorem dX7_lose_10 : decode cX7_lose 10 = .ok (.getfield 65, 3) := by decide +kernel
theorem dX7_lose_13 : decode cX7_lose 13 = .ok (.iload_n 1, 1) := by decide +kernel
theorem dX7_lose_14 : decode cX7_lose 14 = .ok (.iaload, 1) := by decide +kernel
theorem dX7_lose_15 : decode cX7_lose 15 = .ok (.ifCond .ge 7, 3) := by decide +kernel
theorem dX7_lose_18 : decode cX7_lose 18 = .ok (.iconst 0, 1) := by decide +kernel
theorem dX7_lose_19 : decode cX7_lose 19 = .ok (.goto 4, 3) := by decide +kernel
theorem dX7_lose_22 : decode cX7_lose 22 = .ok (.iconst 1, 1) := by decide +kernel
theorem dX7_lose_23 : decode cX7_lose 23 = .ok (.istore_n 2, 1) := by decide +kernel
theorem dX7_lose_24 : decode cX7_lose 24 = .ok (.aload_n 0, 1) := by decide +kernel
theorem dX7_lose_25 : decode cX7_lose 25 = .ok (.getfield 65, 3) := by decide +kernel
theorem dX7_lose_28 : decode cX7_lose 28 = .ok (.iload_n 1, 1) := by decide +kernel
theorem dX7_lose_29 : decode cX7_lose 29 = .ok (.iconst (-1), 1) := by decide +kernel
theorem dX7_lose_30 : decode cX7_lose 30 = .ok (.iastore, 1) := by decide +kernel
theorem dX7_lose_31 : decode cX7_lose 31 = .ok (.iload_n 2, 1) := by decide +kernel
theorem dX7_lose_32 : decode cX7_lose 32 = .ok (.ireturn, 1) := by decide +kernel
theorem dX7_noCell_0 : decode cX7_noCell 0 = .ok (.aload_n 0, 1) := by decide +kernel
theorem dX7_noCell_1 : decode cX7_noCell 1 = .ok (.getfield 65, 3) := by decide +kernel
theorem dX7_noCell_4 : decode cX7_noCell 4 = .ok (.iload_n 1, 1) := by decide +kernel
theorem dX7_noCell_5 : decode cX7_noCell 5 = .ok (.iaload, 1) := by decide +kernel
theorem dX7_noCell_6 : decode cX7_noCell 6 = .ok (.ifCond .ge 7, 3) := by decide +kernel
theorem dX7_noCell_9 : decode cX7_noCell 9 = .ok (.iconst 1, 1) := by decide +kernel
theorem dX7_noCell_10 : decode cX7_noCell 10 = .ok (.goto 26, 3) := by decide +kernel
theorem dX7_noCell_13 : decode cX7_noCell 13 = .ok (.iload_n 2, 1) := by decide +kernel
theorem dX7_noCell_14 : decode cX7_noCell 14 = .ok (.i2l, 1) := by decide +kernel
theorem dX7_noCell_15 : decode cX7_noCell 15 = .ok (.lconst 0, 1) := by decide +kernel
theorem dX7_noCell_16 : decode cX7_noCell 16 = .ok (.aload_n 0, 1) := by decide +kernel
theorem dX7_noCell_17 : decode cX7_noCell 17 = .ok (.getfield 65, 3) := by decide +kernel
theorem dX7_noCell_20 : decode cX7_noCell 20 = .ok (.iload_n 1, 1) := by decide +kernel
theorem dX7_noCell_21 : decode cX7_noCell 21 = .ok (.iaload, 1) := by decide +kernel
theorem dX7_noCell_22 : decode cX7_noCell 22 = .ok (.i2l, 1) := by decide +kernel
theorem dX7_noCell_23 : decode cX7_noCell 23 = .ok (.lconst 1, 1) := by decide +kernel
theorem dX7_noCell_24 : decode cX7_noCell 24 = .ok (.lsub, 1) := by decide +kernel
theorem dX7_noCell_25 : decode cX7_noCell 25 = .ok (.invokestatic 97, 3) := by decide +kernel
theorem dX7_noCell_28 : decode cX7_noCell 28 = .ok (.ifCond .eq 7, 3) := by decide +kernel
theorem dX7_noCell_31 : decode cX7_noCell 31 = .ok (.iconst 0, 1) := by decide +kernel
theorem dX7_noCell_32 : decode cX7_noCell 32 = .ok (.goto 4, 3) := by decide +kernel
theorem dX7_noCell_35 : decode cX7_noCell 35 = .ok (.iconst 3, 1) := by decide +kernel
theorem dX7_noCell_36 : decode cX7_noCell 36 = .ok (.ireturn, 1) := by decide +kernel
theorem dX7_put_0 : decode cX7_put 0 = .ok (.iload_n 1, 1) := by decide +kernel
theorem dX7_put_1 : decode cX7_put 1 = .ok (.invokestatic 87, 3) := by decide +kernel
theorem dX7_put_4 : decode cX7_put 4 = .ok (.ifCond .eq 9, 3) := by decide +kernel
theorem dX7_put_7 : decode cX7_put 7 = .ok (.aload_n 0, 1) := by decide +kernel
theorem dX7_put_8 : decode cX7_put 8 = .ok (.iconst (-1), 1) := by decide +kernel
theorem dX7_put_9 : decode cX7_put 9 = .ok (.invokevirtual 91, 3) := by decide +kernel
theorem dX7_put_12 : decode cX7_put 12 = .ok (.ireturn, 1) := by decide +kernel
theorem dX7_put_13 : decode cX7_put 13 = .ok (.aload_n 0, 1) := by decide +kernel
theorem dX7_put_14 : decode cX7_put 14 = .ok (.iload_n 1, 1) := by decide +kernel
theorem dX7_put_15 : decode cX7_put 15 = .ok (.iload_n 2, 1) := by decide +kernel
theorem dX7_put_16 : decode cX7_put 16 = .ok (.invokevirtual 222, 3) := by decide +kernel
theorem dX7_put_19 : decode cX7_put 19 = .ok (.ifCond .le 14, 3) := by decide +kernel
theorem dX7_put_22 : decode cX7_put 22 = .ok (.aload_n 0, 1) := by decide +kernel
theorem dX7_put_23 : decode cX7_put 23 = .ok (.aload_n 0, 1) := by decide +kernel
theorem dX7_put_24 : decode cX7_put 24 = .ok (.iload_n 1, 1) := by decide +kernel
theorem dX7_put_25 : decode cX7_put 25 = .ok (.iload_n 2, 1) := by decide +kernel
theorem dX7_put_26 : decode cX7_put 26 = .ok (.invokevirtual 222, 3) := by decide +kernel
theorem dX7_put_29 : decode cX7_put 29 = .ok (.invokevirtual 101, 3) := by decide +kernel
theorem dX7_put_32 : decode cX7_put 32 = .ok (.ireturn, 1) := by decide +kernel
theorem dX7_put_33 : decode cX7_put 33 = .ok (.aload_n 0, 1) := by decide +kernel
theorem dX7_put_34 : decode cX7_put 34 = .ok (.getfield 71, 3) := by decide +kernel
theorem dX7_put_37 : decode cX7_put 37 = .ok (.bipush 60, 2) := by decide +kernel
theorem dX7_put_39 : decode cX7_put 39 = .ok (.iload_n 1, 1) := by decide +kernel
theorem dX7_put_40 : decode cX7_put 40 = .ok (.imul, 1) := by decide +kernel
theorem dX7_put_41 : decode cX7_put 41 = .ok (.iload_n 2, 1) := by decide +kernel
theorem dX7_put_42 : decode cX7_put 42 = .ok (.iadd, 1) := by decide +kernel
theorem dX7_put_43 : decode cX7_put 43 = .ok (.aload_n 0, 1) := by decide +kernel
theorem dX7_put_44 : decode cX7_put 44 = .ok (.getfield 68, 3) := by decide +kernel
theorem dX7_put_47 : decode cX7_put 47 = .ok (.iload_n 1, 1) := by decide +kernel
theorem dX7_put_48 : decode cX7_put 48 = .ok (.iaload, 1) := by decide +kernel
theorem dX7_put_49 : decode cX7_put 49 = .ok (.ifCond .ne 8, 3) := by decide +kernel
theorem dX7_put_52 : decode cX7_put 52 = .ok (.iload_n 3, 1) := by decide +kernel
theorem dX7_put_53 : decode cX7_put 53 = .ok (.i2b, 1) := by decide +kernel
theorem dX7_put_54 : decode cX7_put 54 = .ok (.goto 19, 3) := by decide +kernel
theorem dX7_put_57 : decode cX7_put 57 = .ok (.aload_n 0, 1) := by decide +kernel
theorem dX7_put_58 : decode cX7_put 58 = .ok (.getfield 68, 3) := by decide +kernel
theorem dX7_put_61 : decode cX7_put 61 = .ok (.iload_n 1, 1) := by decide +kernel
theorem dX7_put_62 : decode cX7_put 62 = .ok (.iaload, 1) := by decide +kernel
theorem dX7_put_63 : decode cX7_put 63 = .ok (.iconst 1, 1) := by decide +kernel
theorem dX7_put_64 : decode cX7_put 64 = .ok (.if_icmp .ne 8, 3) := by decide +kernel
theorem dX7_put_67 : decode cX7_put 67 = .ok (.iload_n 3, 1) := by decide +kernel
theorem dX7_put_68 : decode cX7_put 68 = .ok (.i2s, 1) := by decide +kernel
theorem dX7_put_69 : decode cX7_put 69 = .ok (.goto 4, 3) := by decide +kernel
theorem dX7_put_72 : decode cX7_put 72 = .ok (.iload_n 3, 1) := by decide +kernel
theorem dX7_put_73 : decode cX7_put 73 = .ok (.iastore, 1) := by decide +kernel
theorem dX7_put_74 : decode cX7_put 74 = .ok (.aload_n 0, 1) := by decide +kernel
theorem dX7_put_75 : decode cX7_put 75 = .ok (.iconst 1, 1) := by decide +kernel
theorem dX7_put_76 : decode cX7_put 76 = .ok (.invokevirtual 91, 3) := by decide +kernel
theorem dX7_put_79 : decode cX7_put 79 = .ok (.ireturn, 1) := by decide +kernel
theorem dX7_cell_0 : decode cX7_cell 0 = .ok (.aload_n 0, 1) := by decide +kernel
theorem dX7_cell_1 : decode cX7_cell 1 = .ok (.iconst 0, 1) := by decide +kernel
theorem dX7_cell_2 : decode cX7_cell 2 = .ok (.putfield 79, 3) := by decide +kernel
theorem dX7_cell_5 : decode cX7_cell 5 = .ok (.iload_n 1, 1) := by decide +kernel
theorem dX7_cell_6 : decode cX7_cell 6 = .ok (.invokestatic 87, 3) := by decide +kernel
theorem dX7_cell_9 : decode cX7_cell 9 = .ok (.ifCond .ne 15, 3) := by decide +kernel
theorem dX7_cell_12 : decode cX7_cell 12 = .ok (.iload_n 3, 1) := by decide +kernel
theorem dX7_cell_13 : decode cX7_cell 13 = .ok (.i2l, 1) := by decide +kernel
theorem dX7_cell_14 : decode cX7_cell 14 = .ok (.lconst 0, 1) := by decide +kernel
theorem dX7_cell_15 : decode cX7_cell 15 = .ok (.ldc2_w 95, 3) := by decide +kernel
theorem dX7_cell_18 : decode cX7_cell 18 = .ok (.invokestatic 97, 3) := by decide +kernel
theorem dX7_cell_21 : decode cX7_cell 21 = .ok (.ifCond .ne 7, 3) := by decide +kernel
theorem dX7_cell_24 : decode cX7_cell 24 = .ok (.invokestatic 83, 3) := by decide +kernel
theorem dX7_cell_27 : decode cX7_cell 27 = .ok (.lreturn, 1) := by decide +kernel
theorem dX7_cell_28 : decode cX7_cell 28 = .ok (.aload_n 0, 1) := by decide +kernel
theorem dX7_cell_29 : decode cX7_cell 29 = .ok (.getfield 65, 3) := by decide +kernel
theorem dX7_cell_32 : decode cX7_cell 32 = .ok (.iload_n 1, 1) := by decide +kernel
theorem dX7_cell_33 : decode cX7_cell 33 = .ok (.iaload, 1) := by decide +kernel
theorem dX7_cell_34 : decode cX7_cell 34 = .ok (.ifCond .lt 19, 3) := by decide +kernel
theorem dX7_cell_37 : decode cX7_cell 37 = .ok (.aload_n 0, 1) := by decide +kernel
theorem dX7_cell_38 : decode cX7_cell 38 = .ok (.getfield 68, 3) := by decide +kernel
theorem dX7_cell_41 : decode cX7_cell 41 = .ok (.iload_n 1, 1) := by decide +kernel
theorem dX7_cell_42 : decode cX7_cell 42 = .ok (.iaload, 1) := by decide +kernel
theorem dX7_cell_43 : decode cX7_cell 43 = .ok (.iload_n 3, 1) := by decide +kernel
theorem dX7_cell_44 : decode cX7_cell 44 = .ok (.if_icmp .eq 9, 3) := by decide +kernel
theorem dX7_cell_47 : decode cX7_cell 47 = .ok (.aload_n 0, 1) := by decide +kernel
theorem dX7_cell_48 : decode cX7_cell 48 = .ok (.iconst 2, 1) := by decide +kernel
theorem dX7_cell_49 : decode cX7_cell 49 = .ok (.invokevirtual 225, 3) := by decide +kernel
theorem dX7_cell_52 : decode cX7_cell 52 = .ok (.lreturn, 1) := by decide +kernel
theorem dX7_cell_53 : decode cX7_cell 53 = .ok (.aload_n 0, 1) := by decide +kernel
theorem dX7_cell_54 : decode cX7_cell 54 = .ok (.iload_n 1, 1) := by decide +kernel
theorem dX7_cell_55 : decode cX7_cell 55 = .ok (.iload_n 2, 1) := by decide +kernel
theorem dX7_cell_56 : decode cX7_cell 56 = .ok (.invokevirtual 222, 3) := by decide +kernel
theorem dX7_cell_59 : decode cX7_cell 59 = .ok (.ifCond .le 16, 3) := by decide +kernel
theorem dX7_cell_62 : decode cX7_cell 62 = .ok (.aload_n 0, 1) := by decide +kernel
theorem dX7_cell_63 : decode cX7_cell 63 = .ok (.aload_n 0, 1) := by decide +kernel
theorem dX7_cell_64 : decode cX7_cell 64 = .ok (.iload_n 1, 1) := by decide +kernel
theorem dX7_cell_65 : decode cX7_cell 65 = .ok (.iload_n 2, 1) := by decide +kernel
theorem dX7_cell_66 : decode cX7_cell 66 = .ok (.invokevirtual 222, 3) := by decide +kernel
theorem dX7_cell_69 : decode cX7_cell 69 = .ok (.invokevirtual 225, 3) := by decide +kernel
theorem dX7_cell_72 : decode cX7_cell 72 = .ok (.goto 15, 3) := by decide +kernel
theorem dX7_cell_75 : decode cX7_cell 75 = .ok (.aload_n 0, 1) := by decide +kernel
theorem dX7_cell_76 : decode cX7_cell 76 = .ok (.getfield 71, 3) := by decide +kernel
theorem dX7_cell_79 : decode cX7_cell 79 = .ok (.bipush 60, 2) := by decide +kernel
theorem dX7_cell_81 : decode cX7_cell 81 = .ok (.iload_n 1, 1) := by decide +kernel
theorem dX7_cell_82 : decode cX7_cell 82 = .ok (.imul, 1) := by decide +kernel
theorem dX7_cell_83 : decode cX7_cell 83 = .ok (.iload_n 2, 1) := by decide +kernel
theorem dX7_cell_84 : decode cX7_cell 84 = .ok (.iadd, 1) := by decide +kernel
theorem dX7_cell_85 : decode cX7_cell 85 = .ok (.iaload, 1) := by decide +kernel
theorem dX7_cell_86 : decode cX7_cell 86 = .ok (.i2l, 1) := by decide +kernel
theorem dX7_cell_87 : decode cX7_cell 87 = .ok (.lreturn, 1) := by decide +kernel
theorem dX7_isBeyond_0 : decode cX7_isBeyond 0 = .ok (.iload_n 0, 1) := by decide +kernel
theorem dX7_isBeyond_1 : decode cX7_isBeyond 1 = .ok (.ifCond .lt 19, 3) := by decide +kernel
theorem dX7_isBeyond_4 : decode cX7_isBeyond 4 = .ok (.lload_n 1, 1) := by decide +kernel
theorem dX7_isBeyond_5 : decode cX7_isBeyond 5 = .ok (.lconst 0, 1) := by decide +kernel
theorem dX7_isBeyond_6 : decode cX7_isBeyond 6 = .ok (.lcmp, 1) := by decide +kernel
theorem dX7_isBeyond_7 : decode cX7_isBeyond 7 = .ok (.ifCond .lt 13, 3) := by decide +kernel
theorem dX7_isBeyond_10 : decode cX7_isBeyond 10 = .ok (.iload_n 0, 1) := by decide +kernel
theorem dX7_isBeyond_11 : decode cX7_isBeyond 11 = .ok (.i2l, 1) := by decide +kernel
theorem dX7_isBeyond_12 : decode cX7_isBeyond 12 = .ok (.lload_n 1, 1) := by decide +kernel
theorem dX7_isBeyond_13 : decode cX7_isBeyond 13 = .ok (.ladd, 1) := by decide +kernel
theorem dX7_isBeyond_14 : decode cX7_isBeyond 14 = .ok (.iload_n 3, 1) := by decide +kernel
theorem dX7_isBeyond_15 : decode cX7_isBeyond 15 = .ok (.i2l, 1) := by decide +kernel
theorem dX7_isBeyond_16 : decode cX7_isBeyond 16 = .ok (.lcmp, 1) := by decide +kernel
theorem dX7_isBeyond_17 : decode cX7_isBeyond 17 = .ok (.ifCond .le 7, 3) := by decide +kernel
theorem dX7_isBeyond_20 : decode cX7_isBeyond 20 = .ok (.iconst 1, 1) := by decide +kernel
theorem dX7_isBeyond_21 : decode cX7_isBeyond 21 = .ok (.goto 4, 3) := by decide +kernel
theorem dX7_isBeyond_24 : decode cX7_isBeyond 24 = .ok (.iconst 0, 1) := by decide +kernel
theorem dX7_isBeyond_25 : decode cX7_isBeyond 25 = .ok (.ireturn, 1) := by decide +kernel
theorem dX7_copy_0 : decode cX7_copy 0 = .ok (.iload_n 1, 1) := by decide +kernel
theorem dX7_copy_1 : decode cX7_copy 1 = .ok (.invokestatic 87, 3) := by decide +kernel
theorem dX7_copy_4 : decode cX7_copy 4 = .ok (.ifCond .ne 10, 3) := by decide +kernel
theorem dX7_copy_7 : decode cX7_copy 7 = .ok (.iload_n 3, 1) := by decide +kernel
theorem dX7_copy_8 : decode cX7_copy 8 = .ok (.invokestatic 87, 3) := by decide +kernel
theorem dX7_copy_11 : decode cX7_copy 11 = .ok (.ifCond .eq 9, 3) := by decide +kernel
theorem dX7_copy_14 : decode cX7_copy 14 = .ok (.aload_n 0, 1) := by decide +kernel
theorem dX7_copy_15 : decode cX7_copy 15 = .ok (.iconst (-1), 1) := by decide +kernel
theorem dX7_copy_16 : decode cX7_copy 16 = .ok (.invokevirtual 91, 3) := by decide +kernel
theorem dX7_copy_19 : decode cX7_copy 19 = .ok (.ireturn, 1) := by decide +kernel
theorem dX7_copy_20 : decode cX7_copy 20 = .ok (.aload_n 0, 1) := by decide +kernel
theorem dX7_copy_21 : decode cX7_copy 21 = .ok (.getfield 65, 3) := by decide +kernel
theorem dX7_copy_24 : decode cX7_copy 24 = .ok (.iload_n 1, 1) := by decide +kernel
theorem dX7_copy_25 : decode cX7_copy 25 = .ok (.iaload, 1) := by decide +kernel
theorem dX7_copy_26 : decode cX7_copy 26 = .ok (.ifCond .lt 12, 3) := by decide +kernel
theorem dX7_copy_29 : decode cX7_copy 29 = .ok (.aload_n 0, 1) := by decide +kernel
theorem dX7_copy_30 : decode cX7_copy 30 = .ok (.getfield 65, 3) := by decide +kernel
theorem dX7_copy_33 : decode cX7_copy 33 = .ok (.iload_n 3, 1) := by decide +kernel
theorem dX7_copy_34 : decode cX7_copy 34 = .ok (.iaload, 1) := by decide +kernel
theorem dX7_copy_35 : decode cX7_copy 35 = .ok (.ifCond .ge 9, 3) := by decide +kernel
theorem dX7_copy_38 : decode cX7_copy 38 = .ok (.aload_n 0, 1) := by decide +kernel
theorem dX7_copy_39 : decode cX7_copy 39 = .ok (.iconst 1, 1) := by decide +kernel
theorem dX7_copy_40 : decode cX7_copy 40 = .ok (.invokevirtual 101, 3) := by decide +kernel
theorem dX7_copy_43 : decode cX7_copy 43 = .ok (.ireturn, 1) := by decide +kernel
theorem dX7_copy_44 : decode cX7_copy 44 = .ok (.aload_n 0, 1) := by decide +kernel
theorem dX7_copy_45 : decode cX7_copy 45 = .ok (.getfield 68, 3) := by decide +kernel
theorem dX7_copy_48 : decode cX7_copy 48 = .ok (.iload_n 1, 1) := by decide +kernel
theorem dX7_copy_49 : decode cX7_copy 49 = .ok (.iaload, 1) := by decide +kernel
theorem dX7_copy_50 : decode cX7_copy 50 = .ok (.aload_n 0, 1) := by decide +kernel
theorem dX7_copy_51 : decode cX7_copy 51 = .ok (.getfield 68, 3) := by decide +kernel
theorem dX7_copy_54 : decode cX7_copy 54 = .ok (.iload_n 3, 1) := by decide +kernel
theorem dX7_copy_55 : decode cX7_copy 55 = .ok (.iaload, 1) := by decide +kernel
theorem dX7_copy_56 : decode cX7_copy 56 = .ok (.if_icmp .eq 9, 3) := by decide +kernel
theorem dX7_copy_59 : decode cX7_copy 59 = .ok (.aload_n 0, 1) := by decide +kernel
theorem dX7_copy_60 : decode cX7_copy 60 = .ok (.iconst 2, 1) := by decide +kernel
theorem dX7_copy_61 : decode cX7_copy 61 = .ok (.invokevirtual 101, 3) := by decide +kernel
theorem dX7_copy_64 : decode cX7_copy 64 = .ok (.ireturn, 1) := by decide +kernel
theorem dX7_copy_65 : decode cX7_copy 65 = .ok (.iload_n 2, 1) := by decide +kernel
theorem dX7_copy_66 : decode cX7_copy 66 = .ok (.iload 5, 2) := by decide +kernel
theorem dX7_copy_68 : decode cX7_copy 68 = .ok (.i2l, 1) := by decide +kernel
theorem dX7_copy_69 : decode cX7_copy 69 = .ok (.aload_n 0, 1) := by decide +kernel
theorem dX7_copy_70 : decode cX7_copy 70 = .ok (.getfield 65, 3) := by decide +kernel
theorem dX7_copy_73 : decode cX7_copy 73 = .ok (.iload_n 1, 1) := by decide +kernel
theorem dX7_copy_74 : decode cX7_copy 74 = .ok (.iaload, 1) := by decide +kernel
theorem dX7_copy_75 : decode cX7_copy 75 = .ok (.invokestatic 104, 3) := by decide +kernel
theorem dX7_copy_78 : decode cX7_copy 78 = .ok (.ifCond .ne 20, 3) := by decide +kernel
theorem dX7_copy_81 : decode cX7_copy 81 = .ok (.iload 4, 2) := by decide +kernel
theorem dX7_copy_83 : decode cX7_copy 83 = .ok (.iload 5, 2) := by decide +kernel
theorem dX7_copy_85 : decode cX7_copy 85 = .ok (.i2l, 1) := by decide +kernel
theorem dX7_copy_86 : decode cX7_copy 86 = .ok (.aload_n 0, 1) := by decide +kernel
theorem dX7_copy_87 : decode cX7_copy 87 = .ok (.getfield 65, 3) := by decide +kernel
theorem dX7_copy_90 : decode cX7_copy 90 = .ok (.iload_n 3, 1) := by decide +kernel
theorem dX7_copy_91 : decode cX7_copy 91 = .ok (.iaload, 1) := by decide +kernel
theorem dX7_copy_92 : decode cX7_copy 92 = .ok (.invokestatic 104, 3) := by decide +kernel
theorem dX7_copy_95 : decode cX7_copy 95 = .ok (.ifCond .eq 9, 3) := by decide +kernel
theorem dX7_copy_98 : decode cX7_copy 98 = .ok (.aload_n 0, 1) := by decide +kernel
theorem dX7_copy_99 : decode cX7_copy 99 = .ok (.iconst 3, 1) := by decide +kernel
theorem dX7_copy_100 : decode cX7_copy 100 = .ok (.invokevirtual 101, 3) := by decide +kernel
theorem dX7_copy_103 : decode cX7_copy 103 = .ok (.ireturn, 1) := by decide +kernel
theorem dX7_copy_104 : decode cX7_copy 104 = .ok (.iconst 0, 1) := by decide +kernel
theorem dX7_copy_105 : decode cX7_copy 105 = .ok (.istore 6, 2) := by decide +kernel
theorem dX7_copy_107 : decode cX7_copy 107 = .ok (.iload 6, 2) := by decide +kernel
theorem dX7_copy_109 : decode cX7_copy 109 = .ok (.iload 5, 2) := by decide +kernel
theorem dX7_copy_111 : decode cX7_copy 111 = .ok (.if_icmp .ge 30, 3) := by decide +kernel
theorem dX7_copy_114 : decode cX7_copy 114 = .ok (.aload_n 0, 1) := by decide +kernel
theorem dX7_copy_115 : decode cX7_copy 115 = .ok (.getfield 74, 3) := by decide +kernel
theorem dX7_copy_118 : decode cX7_copy 118 = .ok (.iload 6, 2) := by decide +kernel
theorem dX7_copy_120 : decode cX7_copy 120 = .ok (.aload_n 0, 1) := by decide +kernel
theorem dX7_copy_121 : decode cX7_copy 121 = .ok (.getfield 71, 3) := by decide +kernel
theorem dX7_copy_124 : decode cX7_copy 124 = .ok (.bipush 60, 2) := by decide +kernel
theorem dX7_copy_126 : decode cX7_copy 126 = .ok (.iload_n 1, 1) := by decide +kernel
theorem dX7_copy_127 : decode cX7_copy 127 = .ok (.imul, 1) := by decide +kernel
theorem dX7_copy_128 : decode cX7_copy 128 = .ok (.iload_n 2, 1) := by decide +kernel
theorem dX7_copy_129 : decode cX7_copy 129 = .ok (.iadd, 1) := by decide +kernel
theorem dX7_copy_130 : decode cX7_copy 130 = .ok (.iload 6, 2) := by decide +kernel
theorem dX7_copy_132 : decode cX7_copy 132 = .ok (.iadd, 1) := by decide +kernel
theorem dX7_copy_133 : decode cX7_copy 133 = .ok (.iaload, 1) := by decide +kernel
theorem dX7_copy_134 : decode cX7_copy 134 = .ok (.iastore, 1) := by decide +kernel
theorem dX7_copy_135 : decode cX7_copy 135 = .ok (.iinc 6 1, 3) := by decide +kernel
theorem dX7_copy_138 : decode cX7_copy 138 = .ok (.goto (-31), 3) := by decide +kernel
theorem dX7_copy_141 : decode cX7_copy 141 = .ok (.iconst 0, 1) := by decide +kernel
theorem dX7_copy_142 : decode cX7_copy 142 = .ok (.istore 6, 2) := by decide +kernel
theorem dX7_copy_144 : decode cX7_copy 144 = .ok (.iload 6, 2) := by decide +kernel
theorem dX7_copy_146 : decode cX7_copy 146 = .ok (.iload 5, 2) := by decide +kernel
theorem dX7_copy_148 : decode cX7_copy 148 = .ok (.if_icmp .ge 31, 3) := by decide +kernel
theorem dX7_copy_151 : decode cX7_copy 151 = .ok (.aload_n 0, 1) := by decide +kernel
theorem dX7_copy_152 : decode cX7_copy 152 = .ok (.getfield 71, 3) := by decide +kernel
theorem dX7_copy_155 : decode cX7_copy 155 = .ok (.bipush 60, 2) := by decide +kernel
theorem dX7_copy_157 : decode cX7_copy 157 = .ok (.iload_n 3, 1) := by decide +kernel
theorem dX7_copy_158 : decode cX7_copy 158 = .ok (.imul, 1) := by decide +kernel
theorem dX7_copy_159 : decode cX7_copy 159 = .ok (.iload 4, 2) := by decide +kernel
theorem dX7_copy_161 : decode cX7_copy 161 = .ok (.iadd, 1) := by decide +kernel
theorem dX7_copy_162 : decode cX7_copy 162 = .ok (.iload 6, 2) := by decide +kernel
theorem dX7_copy_164 : decode cX7_copy 164 = .ok (.iadd, 1) := by decide +kernel
theorem dX7_copy_165 : decode cX7_copy 165 = .ok (.aload_n 0, 1) := by decide +kernel
theorem dX7_copy_166 : decode cX7_copy 166 = .ok (.getfield 74, 3) := by decide +kernel
theorem dX7_copy_169 : decode cX7_copy 169 = .ok (.iload 6, 2) := by decide +kernel
theorem dX7_copy_171 : decode cX7_copy 171 = .ok (.iaload, 1) := by decide +kernel
theorem dX7_copy_172 : decode cX7_copy 172 = .ok (.iastore, 1) := by decide +kernel
theorem dX7_copy_173 : decode cX7_copy 173 = .ok (.iinc 6 1, 3) := by decide +kernel
theorem dX7_copy_176 : decode cX7_copy 176 = .ok (.goto (-32), 3) := by decide +kernel
theorem dX7_copy_179 : decode cX7_copy 179 = .ok (.aload_n 0, 1) := by decide +kernel
theorem dX7_copy_180 : decode cX7_copy 180 = .ok (.iload 5, 2) := by decide +kernel
theorem dX7_copy_182 : decode cX7_copy 182 = .ok (.invokevirtual 91, 3) := by decide +kernel
theorem dX7_copy_185 : decode cX7_copy 185 = .ok (.ireturn, 1) := by decide +kernel
theorem dX7_traced_0 : decode cX7_traced 0 = .ok (.aload_n 0, 1) := by decide +kernel
theorem dX7_traced_1 : decode cX7_traced 1 = .ok (.bipush 31, 2) := by decide +kernel
theorem dX7_traced_3 : decode cX7_traced 3 = .ok (.aload_n 0, 1) := by decide +kernel
theorem dX7_traced_4 : decode cX7_traced 4 = .ok (.getfield 229, 3) := by decide +kernel
theorem dX7_traced_7 : decode cX7_traced 7 = .ok (.imul, 1) := by decide +kernel
theorem dX7_traced_8 : decode cX7_traced 8 = .ok (.iload_n 1, 1) := by decide +kernel
theorem dX7_traced_9 : decode cX7_traced 9 = .ok (.iadd, 1) := by decide +kernel
theorem dX7_traced_10 : decode cX7_traced 10 = .ok (.putfield 229, 3) := by decide +kernel
theorem dX7_traced_13 : decode cX7_traced 13 = .ok (.return_, 1) := by decide +kernel
theorem dX7_tell_0 : decode cX7_tell 0 = .ok (.aload_n 0, 1) := by decide +kernel
theorem dX7_tell_1 : decode cX7_tell 1 = .ok (.iload_n 1, 1) := by decide +kernel
theorem dX7_tell_2 : decode cX7_tell 2 = .ok (.invokevirtual 144, 3) := by decide +kernel
theorem dX7_tell_5 : decode cX7_tell 5 = .ok (.ifCond .eq 5, 3) := by decide +kernel
theorem dX7_tell_8 : decode cX7_tell 8 = .ok (.iconst (-1), 1) := by decide +kernel
theorem dX7_tell_9 : decode cX7_tell 9 = .ok (.ireturn, 1) := by decide +kernel
theorem dX7_tell_10 : decode cX7_tell 10 = .ok (.aload_n 0, 1) := by decide +kernel
theorem dX7_tell_11 : decode cX7_tell 11 = .ok (.getfield 7, 3) := by decide +kernel
theorem dX7_tell_14 : decode cX7_tell 14 = .ok (.iload_n 1, 1) := by decide +kernel
theorem dX7_tell_15 : decode cX7_tell 15 = .ok (.iaload, 1) := by decide +kernel
theorem dX7_tell_16 : decode cX7_tell 16 = .ok (.istore_n 2, 1) := by decide +kernel
theorem dX7_tell_17 : decode cX7_tell 17 = .ok (.iload_n 2, 1) := by decide +kernel
theorem dX7_tell_18 : decode cX7_tell 18 = .ok (.iconst 2, 1) := by decide +kernel
theorem dX7_tell_19 : decode cX7_tell 19 = .ok (.if_icmp .ne 8, 3) := by decide +kernel
theorem dX7_tell_22 : decode cX7_tell 22 = .ok (.aload_n 0, 1) := by decide +kernel
theorem dX7_tell_23 : decode cX7_tell 23 = .ok (.iconst 3, 1) := by decide +kernel
theorem dX7_tell_24 : decode cX7_tell 24 = .ok (.invokevirtual 232, 3) := by decide +kernel
theorem dX7_tell_27 : decode cX7_tell 27 = .ok (.iload_n 2, 1) := by decide +kernel
theorem dX7_tell_28 : decode cX7_tell 28 = .ok (.ifCond .le 8, 3) := by decide +kernel
theorem dX7_tell_31 : decode cX7_tell 31 = .ok (.aload_n 0, 1) := by decide +kernel
theorem dX7_tell_32 : decode cX7_tell 32 = .ok (.iconst 2, 1) := by decide +kernel
theorem dX7_tell_33 : decode cX7_tell 33 = .ok (.invokevirtual 232, 3) := by decide +kernel
theorem dX7_tell_36 : decode cX7_tell 36 = .ok (.aload_n 0, 1) := by decide +kernel
theorem dX7_tell_37 : decode cX7_tell 37 = .ok (.iconst 1, 1) := by decide +kernel
theorem dX7_tell_38 : decode cX7_tell 38 = .ok (.invokevirtual 232, 3) := by decide +kernel
theorem dX7_tell_41 : decode cX7_tell 41 = .ok (.iload_n 2, 1) := by decide +kernel
theorem dX7_tell_42 : decode cX7_tell 42 = .ok (.iconst 2, 1) := by decide +kernel
theorem dX7_tell_43 : decode cX7_tell 43 = .ok (.if_icmp .ne 8, 3) := by decide +kernel
theorem dX7_tell_46 : decode cX7_tell 46 = .ok (.aload_n 0, 1) := by decide +kernel
theorem dX7_tell_47 : decode cX7_tell 47 = .ok (.iconst 1, 1) := by decide +kernel
theorem dX7_tell_48 : decode cX7_tell 48 = .ok (.invokevirtual 232, 3) := by decide +kernel
theorem dX7_tell_51 : decode cX7_tell 51 = .ok (.aload_n 0, 1) := by decide +kernel
theorem dX7_tell_52 : decode cX7_tell 52 = .ok (.getfield 13, 3) := by decide +kernel
theorem dX7_tell_55 : decode cX7_tell 55 = .ok (.iconst 3, 1) := by decide +kernel
theorem dX7_tell_56 : decode cX7_tell 56 = .ok (.iload_n 1, 1) := by decide +kernel
theorem dX7_tell_57 : decode cX7_tell 57 = .ok (.imul, 1) := by decide +kernel
theorem dX7_tell_58 : decode cX7_tell 58 = .ok (.iaload, 1) := by decide +kernel
theorem dX7_tell_59 : decode cX7_tell 59 = .ok (.istore_n 3, 1) := by decide +kernel
theorem dX7_tell_60 : decode cX7_tell 60 = .ok (.iload_n 2, 1) := by decide +kernel
theorem dX7_tell_61 : decode cX7_tell 61 = .ok (.ifCond .ne 7, 3) := by decide +kernel
theorem dX7_tell_64 : decode cX7_tell 64 = .ok (.iload_n 3, 1) := by decide +kernel
theorem dX7_tell_65 : decode cX7_tell 65 = .ok (.goto 21, 3) := by decide +kernel
theorem dX7_tell_68 : decode cX7_tell 68 = .ok (.iload_n 2, 1) := by decide +kernel
theorem dX7_tell_69 : decode cX7_tell 69 = .ok (.iconst 1, 1) := by decide +kernel
theorem dX7_tell_70 : decode cX7_tell 70 = .ok (.if_icmp .ne 10, 3) := by decide +kernel
theorem dX7_tell_73 : decode cX7_tell 73 = .ok (.iload_n 3, 1) := by decide +kernel
theorem dX7_tell_74 : decode cX7_tell 74 = .ok (.bipush 100, 2) := by decide +kernel
theorem dX7_tell_76 : decode cX7_tell 76 = .ok (.iadd, 1) := by decide +kernel
theorem dX7_tell_77 : decode cX7_tell 77 = .ok (.goto 9, 3) := by decide +kernel
theorem dX7_tell_80 : decode cX7_tell 80 = .ok (.iconst 2, 1) := by decide +kernel
theorem dX7_tell_81 : decode cX7_tell 81 = .ok (.iload_n 3, 1) := by decide +kernel
theorem dX7_tell_82 : decode cX7_tell 82 = .ok (.imul, 1) := by decide +kernel
theorem dX7_tell_83 : decode cX7_tell 83 = .ok (.bipush 100, 2) := by decide +kernel
theorem dX7_tell_85 : decode cX7_tell 85 = .ok (.iadd, 1) := by decide +kernel
theorem dX7_tell_86 : decode cX7_tell 86 = .ok (.ireturn, 1) := by decide +kernel
theorem dX7_bow_0 : decode cX7_bow 0 = .ok (.aload_n 0, 1) := by decide +kernel
theorem dX7_bow_1 : decode cX7_bow 1 = .ok (.iload_n 1, 1) := by decide +kernel
theorem dX7_bow_2 : decode cX7_bow 2 = .ok (.invokevirtual 144, 3) := by decide +kernel
theorem dX7_bow_5 : decode cX7_bow 5 = .ok (.ifCond .eq 5, 3) := by decide +kernel
theorem dX7_bow_8 : decode cX7_bow 8 = .ok (.iconst (-1), 1) := by decide +kernel
theorem dX7_bow_9 : decode cX7_bow 9 = .ok (.ireturn, 1) := by decide +kernel
theorem dX7_bow_10 : decode cX7_bow 10 = .ok (.aload_n 0, 1) := by decide +kernel
theorem dX7_bow_11 : decode cX7_bow 11 = .ok (.aload_n 0, 1) := by decide +kernel
theorem dX7_bow_12 : decode cX7_bow 12 = .ok (.getfield 7, 3) := by decide +kernel
theorem dX7_bow_15 : decode cX7_bow 15 = .ok (.iload_n 1, 1) := by decide +kernel
theorem dX7_bow_16 : decode cX7_bow 16 = .ok (.iaload, 1) := by decide +kernel
theorem dX7_bow_17 : decode cX7_bow 17 = .ok (.iconst 2, 1) := by decide +kernel
theorem dX7_bow_18 : decode cX7_bow 18 = .ok (.if_icmp .ne 7, 3) := by decide +kernel
theorem dX7_bow_21 : decode cX7_bow 21 = .ok (.iconst 5, 1) := by decide +kernel
theorem dX7_bow_22 : decode cX7_bow 22 = .ok (.goto 4, 3) := by decide +kernel
theorem dX7_bow_25 : decode cX7_bow 25 = .ok (.iconst 4, 1) := by decide +kernel
theorem dX7_bow_26 : decode cX7_bow 26 = .ok (.invokevirtual 232, 3) := by decide +kernel
theorem dX7_bow_29 : decode cX7_bow 29 = .ok (.aload_n 0, 1) := by decide +kernel
theorem dX7_bow_30 : decode cX7_bow 30 = .ok (.getfield 7, 3) := by decide +kernel
theorem dX7_bow_33 : decode cX7_bow 33 = .ok (.iload_n 1, 1) := by decide +kernel
theorem dX7_bow_34 : decode cX7_bow 34 = .ok (.iaload, 1) := by decide +kernel
theorem dX7_bow_35 : decode cX7_bow 35 = .ok (.iconst 2, 1) := by decide +kernel
theorem dX7_bow_36 : decode cX7_bow 36 = .ok (.if_icmp .ne 8, 3) := by decide +kernel
theorem dX7_bow_39 : decode cX7_bow 39 = .ok (.bipush 70, 2) := by decide +kernel
theorem dX7_bow_41 : decode cX7_bow 41 = .ok (.goto 4, 3) := by decide +kernel
theorem dX7_bow_44 : decode cX7_bow 44 = .ok (.iload_n 1, 1) := by decide +kernel
theorem dX7_bow_45 : decode cX7_bow 45 = .ok (.ireturn, 1) := by decide +kernel
theorem dX7_as_0 : decode cX7_as 0 = .ok (.aload_n 0, 1) := by decide +kernel
theorem dX7_as_1 : decode cX7_as 1 = .ok (.iload_n 1, 1) := by decide +kernel
theorem dX7_as_2 : decode cX7_as 2 = .ok (.invokevirtual 144, 3) := by decide +kernel
theorem dX7_as_5 : decode cX7_as 5 = .ok (.ifCond .eq 9, 3) := by decide +kernel
theorem dX7_as_8 : decode cX7_as 8 = .ok (.aload_n 0, 1) := by decide +kernel
theorem dX7_as_9 : decode cX7_as 9 = .ok (.iconst (-1), 1) := by decide +kernel
theorem dX7_as_10 : decode cX7_as 10 = .ok (.invokevirtual 91, 3) := by decide +kernel
theorem dX7_as_13 : decode cX7_as 13 = .ok (.ireturn, 1) := by decide +kernel
theorem dX7_as_14 : decode cX7_as 14 = .ok (.iload_n 2, 1) := by decide +kernel
theorem dX7_as_15 : decode cX7_as 15 = .ok (.i2l, 1) := by decide +kernel
theorem dX7_as_16 : decode cX7_as 16 = .ok (.lconst 0, 1) := by decide +kernel
theorem dX7_as_17 : decode cX7_as 17 = .ok (.ldc2_w 95, 3) := by decide +kernel
theorem dX7_as_20 : decode cX7_as 20 = .ok (.invokestatic 97, 3) := by decide +kernel
theorem dX7_as_23 : decode cX7_as 23 = .ok (.ifCond .ne 10, 3) := by decide +kernel
theorem dX7_as_26 : decode cX7_as 26 = .ok (.aload_n 0, 1) := by decide +kernel
theorem dX7_as_27 : decode cX7_as 27 = .ok (.bipush (-2), 2) := by decide +kernel
theorem dX7_as_29 : decode cX7_as 29 = .ok (.invokevirtual 91, 3) := by decide +kernel
theorem dX7_as_32 : decode cX7_as 32 = .ok (.ireturn, 1) := by decide +kernel
theorem dX7_as_33 : decode cX7_as 33 = .ok (.aload_n 0, 1) := by decide +kernel
theorem dX7_as_34 : decode cX7_as 34 = .ok (.getfield 7, 3) := by decide +kernel
theorem dX7_as_37 : decode cX7_as 37 = .ok (.iload_n 1, 1) := by decide +kernel
theorem dX7_as_38 : decode cX7_as 38 = .ok (.iaload, 1) := by decide +kernel
theorem dX7_as_39 : decode cX7_as 39 = .ok (.iload_n 2, 1) := by decide +kernel
theorem dX7_as_40 : decode cX7_as 40 = .ok (.if_icmp .lt 11, 3) := by decide +kernel
theorem dX7_as_43 : decode cX7_as 43 = .ok (.aload_n 0, 1) := by decide +kernel
theorem dX7_as_44 : decode cX7_as 44 = .ok (.iconst 1, 1) := by decide +kernel
theorem dX7_as_45 : decode cX7_as 45 = .ok (.invokevirtual 91, 3) := by decide +kernel
theorem dX7_as_48 : decode cX7_as 48 = .ok (.goto 8, 3) := by decide +kernel
theorem dX7_as_51 : decode cX7_as 51 = .ok (.aload_n 0, 1) := by decide +kernel
theorem dX7_as_52 : decode cX7_as 52 = .ok (.iconst 2, 1) := by decide +kernel
theorem dX7_as_53 : decode cX7_as 53 = .ok (.invokevirtual 101, 3) := by decide +kernel
theorem dX7_as_56 : decode cX7_as 56 = .ok (.ireturn, 1) := by decide +kernel
theorem dX7_trace_0 : decode cX7_trace 0 = .ok (.aload_n 0, 1) := by decide +kernel
theorem dX7_trace_1 : decode cX7_trace 1 = .ok (.getfield 229, 3) := by decide +kernel
theorem dX7_trace_4 : decode cX7_trace 4 = .ok (.ireturn, 1) := by decide +kernel
theorem dX7_fault_0 : decode cX7_fault 0 = .ok (.aload_n 0, 1) := by decide +kernel
theorem dX7_fault_1 : decode cX7_fault 1 = .ok (.getfield 79, 3) := by decide +kernel
theorem dX7_fault_4 : decode cX7_fault 4 = .ok (.ireturn, 1) := by decide +kernel
theorem dX7_many_0 : decode cX7_many 0 = .ok (.iload_n 1, 1) := by decide +kernel
theorem dX7_many_1 : decode cX7_many 1 = .ok (.tableswitch 42 0 2 #[27, 32, 37], 27) := by decide +kernel
theorem dX7_many_28 : decode cX7_many 28 = .ok (.aload_n 0, 1) := by decide +kernel
theorem dX7_many_29 : decode cX7_many 29 = .ok (.getfield 108, 3) := by decide +kernel
theorem dX7_many_32 : decode cX7_many 32 = .ok (.ireturn, 1) := by decide +kernel
theorem dX7_many_33 : decode cX7_many 33 = .ok (.aload_n 0, 1) := by decide +kernel
theorem dX7_many_34 : decode cX7_many 34 = .ok (.getfield 138, 3) := by decide +kernel
theorem dX7_many_37 : decode cX7_many 37 = .ok (.ireturn, 1) := by decide +kernel
theorem dX7_many_38 : decode cX7_many 38 = .ok (.aload_n 0, 1) := by decide +kernel
theorem dX7_many_39 : decode cX7_many 39 = .ok (.getfield 141, 3) := by decide +kernel
theorem dX7_many_42 : decode cX7_many 42 = .ok (.ireturn, 1) := by decide +kernel
theorem dX7_many_43 : decode cX7_many 43 = .ok (.bipush (-2), 2) := by decide +kernel
theorem dX7_many_45 : decode cX7_many 45 = .ok (.ireturn, 1) := by decide +kernel
