theorem dX5_init_0 : decode cX5_init 0 = .ok (.aload_n 0, 1) := by decide +kernel
theorem dX5_init_1 : decode cX5_init 1 = .ok (.invokespecial 1, 3) := by decide +kernel
theorem dX5_init_4 : decode cX5_init 4 = .ok (.aload_n 0, 1) := by decide +kernel
theorem dX5_init_5 : decode cX5_init 5 = .ok (.bipush 6, 2) := by decide +kernel
theorem dX5_init_7 : decode cX5_init 7 = .ok (.newarray .int, 2) := by decide +kernel
theorem dX5_init_9 : decode cX5_init 9 = .ok (.putfield 7, 3) := by decide +kernel
theorem dX5_init_12 : decode cX5_init 12 = .ok (.aload_n 0, 1) := by decide +kernel
theorem dX5_init_13 : decode cX5_init 13 = .ok (.bipush 6, 2) := by decide +kernel
theorem dX5_init_15 : decode cX5_init 15 = .ok (.newarray .int, 2) := by decide +kernel
theorem dX5_init_17 : decode cX5_init 17 = .ok (.putfield 13, 3) := by decide +kernel
theorem dX5_init_20 : decode cX5_init 20 = .ok (.aload_n 0, 1) := by decide +kernel
theorem dX5_init_21 : decode cX5_init 21 = .ok (.bipush 6, 2) := by decide +kernel
theorem dX5_init_23 : decode cX5_init 23 = .ok (.newarray .int, 2) := by decide +kernel
theorem dX5_init_25 : decode cX5_init 25 = .ok (.putfield 16, 3) := by decide +kernel
theorem dX5_init_28 : decode cX5_init 28 = .ok (.aload_n 0, 1) := by decide +kernel
theorem dX5_init_29 : decode cX5_init 29 = .ok (.bipush 6, 2) := by decide +kernel
theorem dX5_init_31 : decode cX5_init 31 = .ok (.newarray .int, 2) := by decide +kernel
theorem dX5_init_33 : decode cX5_init 33 = .ok (.putfield 19, 3) := by decide +kernel
theorem dX5_init_36 : decode cX5_init 36 = .ok (.aload_n 0, 1) := by decide +kernel
theorem dX5_init_37 : decode cX5_init 37 = .ok (.bipush 6, 2) := by decide +kernel
theorem dX5_init_39 : decode cX5_init 39 = .ok (.newarray .int, 2) := by decide +kernel
theorem dX5_init_41 : decode cX5_init 41 = .ok (.putfield 22, 3) := by decide +kernel
theorem dX5_init_44 : decode cX5_init 44 = .ok (.aload_n 0, 1) := by decide +kernel
theorem dX5_init_45 : decode cX5_init 45 = .ok (.bipush 6, 2) := by decide +kernel
theorem dX5_init_47 : decode cX5_init 47 = .ok (.newarray .int, 2) := by decide +kernel
theorem dX5_init_49 : decode cX5_init 49 = .ok (.putfield 25, 3) := by decide +kernel
theorem dX5_init_52 : decode cX5_init 52 = .ok (.aload_n 0, 1) := by decide +kernel
theorem dX5_init_53 : decode cX5_init 53 = .ok (.bipush 6, 2) := by decide +kernel
theorem dX5_init_55 : decode cX5_init 55 = .ok (.newarray .int, 2) := by decide +kernel
theorem dX5_init_57 : decode cX5_init 57 = .ok (.putfield 28, 3) := by decide +kernel
theorem dX5_init_60 : decode cX5_init 60 = .ok (.aload_n 0, 1) := by decide +kernel
theorem dX5_init_61 : decode cX5_init 61 = .ok (.bipush 6, 2) := by decide +kernel
theorem dX5_init_63 : decode cX5_init 63 = .ok (.newarray .int, 2) := by decide +kernel
theorem dX5_init_65 : decode cX5_init 65 = .ok (.putfield 31, 3) := by decide +kernel
theorem dX5_init_68 : decode cX5_init 68 = .ok (.aload_n 0, 1) := by decide +kernel
theorem dX5_init_69 : decode cX5_init 69 = .ok (.bipush 6, 2) := by decide +kernel
theorem dX5_init_71 : decode cX5_init 71 = .ok (.newarray .int, 2) := by decide +kernel
theorem dX5_init_73 : decode cX5_init 73 = .ok (.putfield 34, 3) := by decide +kernel
theorem dX5_init_76 : decode cX5_init 76 = .ok (.aload_n 0, 1) := by decide +kernel
theorem dX5_init_77 : decode cX5_init 77 = .ok (.bipush 6, 2) := by decide +kernel
theorem dX5_init_79 : decode cX5_init 79 = .ok (.newarray .int, 2) := by decide +kernel
theorem dX5_init_81 : decode cX5_init 81 = .ok (.putfield 37, 3) := by decide +kernel
theorem dX5_init_84 : decode cX5_init 84 = .ok (.aload_n 0, 1) := by decide +kernel
theorem dX5_init_85 : decode cX5_init 85 = .ok (.bipush 6, 2) := by decide +kernel
theorem dX5_init_87 : decode cX5_init 87 = .ok (.newarray .int, 2) := by decide +kernel
theorem dX5_init_89 : decode cX5_init 89 = .ok (.putfield 40, 3) := by decide +kernel
theorem dX5_init_92 : decode cX5_init 92 = .ok (.aload_n 0, 1) := by decide +kernel
theorem dX5_init_93 : decode cX5_init 93 = .ok (.bipush 6, 2) := by decide +kernel
theorem dX5_init_95 : decode cX5_init 95 = .ok (.newarray .int, 2) := by decide +kernel
theorem dX5_init_97 : decode cX5_init 97 = .ok (.putfield 43, 3) := by decide +kernel
theorem dX5_init_100 : decode cX5_init 100 = .ok (.aload_n 0, 1) := by decide +kernel
theorem dX5_init_101 : decode cX5_init 101 = .ok (.bipush 6, 2) := by decide +kernel
theorem dX5_init_103 : decode cX5_init 103 = .ok (.newarray .int, 2) := by decide +kernel
theorem dX5_init_105 : decode cX5_init 105 = .ok (.putfield 46, 3) := by decide +kernel
theorem dX5_init_108 : decode cX5_init 108 = .ok (.aload_n 0, 1) := by decide +kernel
theorem dX5_init_109 : decode cX5_init 109 = .ok (.bipush 64, 2) := by decide +kernel
theorem dX5_init_111 : decode cX5_init 111 = .ok (.newarray .int, 2) := by decide +kernel
theorem dX5_init_113 : decode cX5_init 113 = .ok (.putfield 49, 3) := by decide +kernel
theorem dX5_init_116 : decode cX5_init 116 = .ok (.aload_n 0, 1) := by decide +kernel
theorem dX5_init_117 : decode cX5_init 117 = .ok (.bipush 8, 2) := by decide +kernel
theorem dX5_init_119 : decode cX5_init 119 = .ok (.newarray .int, 2) := by decide +kernel
theorem dX5_init_121 : decode cX5_init 121 = .ok (.putfield 52, 3) := by decide +kernel
theorem dX5_init_124 : decode cX5_init 124 = .ok (.aload_n 0, 1) := by decide +kernel
theorem dX5_init_125 : decode cX5_init 125 = .ok (.bipush 8, 2) := by decide +kernel
theorem dX5_init_127 : decode cX5_init 127 = .ok (.newarray .int, 2) := by decide +kernel
theorem dX5_init_129 : decode cX5_init 129 = .ok (.putfield 55, 3) := by decide +kernel
theorem dX5_init_132 : decode cX5_init 132 = .ok (.aload_n 0, 1) := by decide +kernel
theorem dX5_init_133 : decode cX5_init 133 = .ok (.iconst 4, 1) := by decide +kernel
theorem dX5_init_134 : decode cX5_init 134 = .ok (.newarray .int, 2) := by decide +kernel
theorem dX5_init_136 : decode cX5_init 136 = .ok (.putfield 58, 3) := by decide +kernel
theorem dX5_init_139 : decode cX5_init 139 = .ok (.aload_n 0, 1) := by decide +kernel
theorem dX5_init_140 : decode cX5_init 140 = .ok (.iconst 4, 1) := by decide +kernel
theorem dX5_init_141 : decode cX5_init 141 = .ok (.newarray .int, 2) := by decide +kernel
theorem dX5_init_143 : decode cX5_init 143 = .ok (.putfield 61, 3) := by decide +kernel
theorem dX5_init_146 : decode cX5_init 146 = .ok (.aload_n 0, 1) := by decide +kernel
theorem dX5_init_147 : decode cX5_init 147 = .ok (.sipush 240, 3) := by decide +kernel
theorem dX5_init_150 : decode cX5_init 150 = .ok (.newarray .int, 2) := by decide +kernel
theorem dX5_init_152 : decode cX5_init 152 = .ok (.putfield 64, 3) := by decide +kernel
theorem dX5_init_155 : decode cX5_init 155 = .ok (.aload_n 0, 1) := by decide +kernel
theorem dX5_init_156 : decode cX5_init 156 = .ok (.bipush 60, 2) := by decide +kernel
theorem dX5_init_158 : decode cX5_init 158 = .ok (.newarray .int, 2) := by decide +kernel
theorem dX5_init_160 : decode cX5_init 160 = .ok (.putfield 67, 3) := by decide +kernel
theorem dX5_init_163 : decode cX5_init 163 = .ok (.iconst 0, 1) := by decide +kernel
theorem dX5_init_164 : decode cX5_init 164 = .ok (.istore_n 1, 1) := by decide +kernel
theorem dX5_init_165 : decode cX5_init 165 = .ok (.iload_n 1, 1) := by decide +kernel
theorem dX5_init_166 : decode cX5_init 166 = .ok (.iconst 4, 1) := by decide +kernel
theorem dX5_init_167 : decode cX5_init 167 = .ok (.if_icmp .ge 16, 3) := by decide +kernel
theorem dX5_init_170 : decode cX5_init 170 = .ok (.aload_n 0, 1) := by decide +kernel
theorem dX5_init_171 : decode cX5_init 171 = .ok (.getfield 58, 3) := by decide +kernel
theorem dX5_init_174 : decode cX5_init 174 = .ok (.iload_n 1, 1) := by decide +kernel
theorem dX5_init_175 : decode cX5_init 175 = .ok (.iconst (-1), 1) := by decide +kernel
theorem dX5_init_176 : decode cX5_init 176 = .ok (.iastore, 1) := by decide +kernel
theorem dX5_init_177 : decode cX5_init 177 = .ok (.iinc 1 1, 3) := by decide +kernel
theorem dX5_init_180 : decode cX5_init 180 = .ok (.goto (-15), 3) := by decide +kernel
theorem dX5_init_183 : decode cX5_init 183 = .ok (.return_, 1) := by decide +kernel
theorem dX5_in_0 : decode cX5_in 0 = .ok (.lload_n 0, 1) := by decide +kernel
theorem dX5_in_1 : decode cX5_in 1 = .ok (.lload_n 2, 1) := by decide +kernel
theorem dX5_in_2 : decode cX5_in 2 = .ok (.lcmp, 1) := by decide +kernel
theorem dX5_in_3 : decode cX5_in 3 = .ok (.ifCond .lt 14, 3) := by decide +kernel
theorem dX5_in_6 : decode cX5_in 6 = .ok (.lload_n 0, 1) := by decide +kernel
theorem dX5_in_7 : decode cX5_in 7 = .ok (.lload 4, 2) := by decide +kernel
theorem dX5_in_9 : decode cX5_in 9 = .ok (.lcmp, 1) := by decide +kernel
theorem dX5_in_10 : decode cX5_in 10 = .ok (.ifCond .gt 7, 3) := by decide +kernel
theorem dX5_in_13 : decode cX5_in 13 = .ok (.iconst 1, 1) := by decide +kernel
theorem dX5_in_14 : decode cX5_in 14 = .ok (.goto 4, 3) := by decide +kernel
theorem dX5_in_17 : decode cX5_in 17 = .ok (.iconst 0, 1) := by decide +kernel
theorem dX5_in_18 : decode cX5_in 18 = .ok (.ireturn, 1) := by decide +kernel
theorem dX5_lost_0 : decode cX5_lost 0 = .ok (.ldc2_w 70, 3) := by decide +kernel
theorem dX5_lost_3 : decode cX5_lost 3 = .ok (.lreturn, 1) := by decide +kernel
theorem dX5_isIn_0 : decode cX5_isIn 0 = .ok (.iload_n 0, 1) := by decide +kernel
theorem dX5_isIn_1 : decode cX5_isIn 1 = .ok (.iload_n 1, 1) := by decide +kernel
theorem dX5_isIn_2 : decode cX5_isIn 2 = .ok (.ishr, 1) := by decide +kernel
theorem dX5_isIn_3 : decode cX5_isIn 3 = .ok (.iconst 1, 1) := by decide +kernel
theorem dX5_isIn_4 : decode cX5_isIn 4 = .ok (.iand, 1) := by decide +kernel
theorem dX5_isIn_5 : decode cX5_isIn 5 = .ok (.iconst 1, 1) := by decide +kernel
theorem dX5_isIn_6 : decode cX5_isIn 6 = .ok (.if_icmp .ne 7, 3) := by decide +kernel
theorem dX5_isIn_9 : decode cX5_isIn 9 = .ok (.iconst 1, 1) := by decide +kernel
theorem dX5_isIn_10 : decode cX5_isIn 10 = .ok (.goto 4, 3) := by decide +kernel
theorem dX5_isIn_13 : decode cX5_isIn 13 = .ok (.iconst 0, 1) := by decide +kernel
theorem dX5_isIn_14 : decode cX5_isIn 14 = .ok (.ireturn, 1) := by decide +kernel
theorem dX5_bits_0 : decode cX5_bits 0 = .ok (.iconst 0, 1) := by decide +kernel
theorem dX5_bits_1 : decode cX5_bits 1 = .ok (.istore_n 1, 1) := by decide +kernel
theorem dX5_bits_2 : decode cX5_bits 2 = .ok (.iload_n 0, 1) := by decide +kernel
theorem dX5_bits_3 : decode cX5_bits 3 = .ok (.istore_n 2, 1) := by decide +kernel
theorem dX5_bits_4 : decode cX5_bits 4 = .ok (.iload_n 2, 1) := by decide +kernel
theorem dX5_bits_5 : decode cX5_bits 5 = .ok (.ifCond .le 16, 3) := by decide +kernel
theorem dX5_bits_8 : decode cX5_bits 8 = .ok (.iload_n 1, 1) := by decide +kernel
theorem dX5_bits_9 : decode cX5_bits 9 = .ok (.iload_n 2, 1) := by decide +kernel
theorem dX5_bits_10 : decode cX5_bits 10 = .ok (.iconst 1, 1) := by decide +kernel
theorem dX5_bits_11 : decode cX5_bits 11 = .ok (.iand, 1) := by decide +kernel
theorem dX5_bits_12 : decode cX5_bits 12 = .ok (.iadd, 1) := by decide +kernel
theorem dX5_bits_13 : decode cX5_bits 13 = .ok (.istore_n 1, 1) := by decide +kernel
theorem dX5_bits_14 : decode cX5_bits 14 = .ok (.iload_n 2, 1) := by decide +kernel
theorem dX5_bits_15 : decode cX5_bits 15 = .ok (.iconst 1, 1) := by decide +kernel
theorem dX5_bits_16 : decode cX5_bits 16 = .ok (.ishr, 1) := by decide +kernel
theorem dX5_bits_17 : decode cX5_bits 17 = .ok (.istore_n 2, 1) := by decide +kernel
theorem dX5_bits_18 : decode cX5_bits 18 = .ok (.goto (-14), 3) := by decide +kernel
theorem dX5_bits_21 : decode cX5_bits 21 = .ok (.iload_n 1, 1) := by decide +kernel
theorem dX5_bits_22 : decode cX5_bits 22 = .ok (.ireturn, 1) := by decide +kernel
theorem dX5_apart_0 : decode cX5_apart 0 = .ok (.iload_n 0, 1) := by decide +kernel
theorem dX5_apart_1 : decode cX5_apart 1 = .ok (.iload_n 1, 1) := by decide +kernel
theorem dX5_apart_2 : decode cX5_apart 2 = .ok (.if_icmp .le 9, 3) := by decide +kernel
theorem dX5_apart_5 : decode cX5_apart 5 = .ok (.iload_n 0, 1) := by decide +kernel
theorem dX5_apart_6 : decode cX5_apart 6 = .ok (.iload_n 1, 1) := by decide +kernel
theorem dX5_apart_7 : decode cX5_apart 7 = .ok (.isub, 1) := by decide +kernel
theorem dX5_apart_8 : decode cX5_apart 8 = .ok (.goto 6, 3) := by decide +kernel
theorem dX5_apart_11 : decode cX5_apart 11 = .ok (.iload_n 1, 1) := by decide +kernel
theorem dX5_apart_12 : decode cX5_apart 12 = .ok (.iload_n 0, 1) := by decide +kernel
theorem dX5_apart_13 : decode cX5_apart 13 = .ok (.isub, 1) := by decide +kernel
theorem dX5_apart_14 : decode cX5_apart 14 = .ok (.ireturn, 1) := by decide +kernel
theorem dX5_share_0 : decode cX5_share 0 = .ok (.lload_n 0, 1) := by decide +kernel
theorem dX5_share_1 : decode cX5_share 1 = .ok (.lstore 5, 2) := by decide +kernel
theorem dX5_share_3 : decode cX5_share 3 = .ok (.lload_n 2, 1) := by decide +kernel
theorem dX5_share_4 : decode cX5_share 4 = .ok (.lstore 7, 2) := by decide +kernel
theorem dX5_share_6 : decode cX5_share 6 = .ok (.lload 7, 2) := by decide +kernel
theorem dX5_share_8 : decode cX5_share 8 = .ok (.lconst 0, 1) := by decide +kernel
theorem dX5_share_9 : decode cX5_share 9 = .ok (.lcmp, 1) := by decide +kernel
theorem dX5_share_10 : decode cX5_share 10 = .ok (.ifCond .eq 21, 3) := by decide +kernel
theorem dX5_share_13 : decode cX5_share 13 = .ok (.lload 5, 2) := by decide +kernel
theorem dX5_share_15 : decode cX5_share 15 = .ok (.lload 7, 2) := by decide +kernel
theorem dX5_share_17 : decode cX5_share 17 = .ok (.lrem, 1) := by decide +kernel
theorem dX5_share_18 : decode cX5_share 18 = .ok (.lstore 9, 2) := by decide +kernel
theorem dX5_share_20 : decode cX5_share 20 = .ok (.lload 7, 2) := by decide +kernel
theorem dX5_share_22 : decode cX5_share 22 = .ok (.lstore 5, 2) := by decide +kernel
theorem dX5_share_24 : decode cX5_share 24 = .ok (.lload 9, 2) := by decide +kernel
theorem dX5_share_26 : decode cX5_share 26 = .ok (.lstore 7, 2) := by decide +kernel
theorem dX5_share_28 : decode cX5_share 28 = .ok (.goto (-22), 3) := by decide +kernel
theorem dX5_share_31 : decode cX5_share 31 = .ok (.iload 4, 2) := by decide +kernel
theorem dX5_share_33 : decode cX5_share 33 = .ok (.ifCond .ne 7, 3) := by decide +kernel
theorem dX5_share_36 : decode cX5_share 36 = .ok (.lload_n 0, 1) := by decide +kernel
theorem dX5_share_37 : decode cX5_share 37 = .ok (.goto 4, 3) := by decide +kernel
theorem dX5_share_40 : decode cX5_share 40 = .ok (.lload_n 2, 1) := by decide +kernel
theorem dX5_share_41 : decode cX5_share 41 = .ok (.lload 5, 2) := by decide +kernel
theorem dX5_share_43 : decode cX5_share 43 = .ok (.ldiv, 1) := by decide +kernel
theorem dX5_share_44 : decode cX5_share 44 = .ok (.lreturn, 1) := by decide +kernel
theorem dX5_refused_0 : decode cX5_refused 0 = .ok (.aload_n 0, 1) := by decide +kernel
theorem dX5_refused_1 : decode cX5_refused 1 = .ok (.iconst 0, 1) := by decide +kernel
theorem dX5_refused_2 : decode cX5_refused 2 = .ok (.putfield 72, 3) := by decide +kernel
theorem dX5_refused_5 : decode cX5_refused 5 = .ok (.iload_n 1, 1) := by decide +kernel
theorem dX5_refused_6 : decode cX5_refused 6 = .ok (.ireturn, 1) := by decide +kernel
theorem dX5_failed_0 : decode cX5_failed 0 = .ok (.aload_n 0, 1) := by decide +kernel
theorem dX5_failed_1 : decode cX5_failed 1 = .ok (.iload_n 1, 1) := by decide +kernel
theorem dX5_failed_2 : decode cX5_failed 2 = .ok (.putfield 72, 3) := by decide +kernel
theorem dX5_failed_5 : decode cX5_failed 5 = .ok (.bipush (-10), 2) := by decide +kernel
theorem dX5_failed_7 : decode cX5_failed 7 = .ok (.iload_n 1, 1) := by decide +kernel
theorem dX5_failed_8 : decode cX5_failed 8 = .ok (.isub, 1) := by decide +kernel
theorem dX5_failed_9 : decode cX5_failed 9 = .ok (.ireturn, 1) := by decide +kernel
theorem dX5_failedLong_0 : decode cX5_failedLong 0 = .ok (.aload_n 0, 1) := by decide +kernel
theorem dX5_failedLong_1 : decode cX5_failedLong 1 = .ok (.iload_n 1, 1) := by decide +kernel
theorem dX5_failedLong_2 : decode cX5_failedLong 2 = .ok (.putfield 72, 3) := by decide +kernel
theorem dX5_failedLong_5 : decode cX5_failedLong 5 = .ok (.invokestatic 76, 3) := by decide +kernel
theorem dX5_failedLong_8 : decode cX5_failedLong 8 = .ok (.lreturn, 1) := by decide +kernel
theorem dX5_noPerson_0 : decode cX5_noPerson 0 = .ok (.iload_n 1, 1) := by decide +kernel
theorem dX5_noPerson_1 : decode cX5_noPerson 1 = .ok (.i2l, 1) := by decide +kernel
theorem dX5_noPerson_2 : decode cX5_noPerson 2 = .ok (.lconst 0, 1) := by decide +kernel
theorem dX5_noPerson_3 : decode cX5_noPerson 3 = .ok (.aload_n 0, 1) := by decide +kernel
theorem dX5_noPerson_4 : decode cX5_noPerson 4 = .ok (.getfield 80, 3) := by decide +kernel
theorem dX5_noPerson_7 : decode cX5_noPerson 7 = .ok (.i2l, 1) := by decide +kernel
theorem dX5_noPerson_8 : decode cX5_noPerson 8 = .ok (.lconst 1, 1) := by decide +kernel
theorem dX5_noPerson_9 : decode cX5_noPerson 9 = .ok (.lsub, 1) := by decide +kernel
theorem dX5_noPerson_10 : decode cX5_noPerson 10 = .ok (.invokestatic 83, 3) := by decide +kernel
theorem dX5_noPerson_13 : decode cX5_noPerson 13 = .ok (.ifCond .ne 7, 3) := by decide +kernel
theorem dX5_noPerson_16 : decode cX5_noPerson 16 = .ok (.iconst 1, 1) := by decide +kernel
theorem dX5_noPerson_17 : decode cX5_noPerson 17 = .ok (.goto 4, 3) := by decide +kernel
theorem dX5_noPerson_20 : decode cX5_noPerson 20 = .ok (.iconst 0, 1) := by decide +kernel
theorem dX5_noPerson_21 : decode cX5_noPerson 21 = .ok (.ireturn, 1) := by decide +kernel
theorem dX5_codeAt_0 : decode cX5_codeAt 0 = .ok (.aload_n 0, 1) := by decide +kernel
theorem dX5_codeAt_1 : decode cX5_codeAt 1 = .ok (.getfield 87, 3) := by decide +kernel
theorem dX5_codeAt_4 : decode cX5_codeAt 4 = .ok (.iload_n 2, 1) := by decide +kernel
theorem dX5_codeAt_5 : decode cX5_codeAt 5 = .ok (.if_icmp .ge 17, 3) := by decide +kernel
theorem dX5_codeAt_8 : decode cX5_codeAt 8 = .ok (.aload_n 0, 1) := by decide +kernel
theorem dX5_codeAt_9 : decode cX5_codeAt 9 = .ok (.getfield 64, 3) := by decide +kernel
theorem dX5_codeAt_12 : decode cX5_codeAt 12 = .ok (.iload_n 1, 1) := by decide +kernel
theorem dX5_codeAt_13 : decode cX5_codeAt 13 = .ok (.aload_n 0, 1) := by decide +kernel
theorem dX5_codeAt_14 : decode cX5_codeAt 14 = .ok (.getfield 87, 3) := by decide +kernel
theorem dX5_codeAt_17 : decode cX5_codeAt 17 = .ok (.iadd, 1) := by decide +kernel
theorem dX5_codeAt_18 : decode cX5_codeAt 18 = .ok (.iaload, 1) := by decide +kernel
theorem dX5_codeAt_19 : decode cX5_codeAt 19 = .ok (.goto 5, 3) := by decide +kernel
theorem dX5_codeAt_22 : decode cX5_codeAt 22 = .ok (.bipush (-9), 2) := by decide +kernel
theorem dX5_codeAt_24 : decode cX5_codeAt 24 = .ok (.ireturn, 1) := by decide +kernel
theorem dX5_figure_0 : decode cX5_figure 0 = .ok (.iload_n 3, 1) := by decide +kernel
theorem dX5_figure_1 : decode cX5_figure 1 = .ok (.ifCond .ge 8, 3) := by decide +kernel
theorem dX5_figure_4 : decode cX5_figure 4 = .ok (.bipush (-9), 2) := by decide +kernel
theorem dX5_figure_6 : decode cX5_figure 6 = .ok (.goto 12, 3) := by decide +kernel
theorem dX5_figure_9 : decode cX5_figure 9 = .ok (.aload_n 0, 1) := by decide +kernel
theorem dX5_figure_10 : decode cX5_figure 10 = .ok (.iload_n 1, 1) := by decide +kernel
theorem dX5_figure_11 : decode cX5_figure 11 = .ok (.iload_n 2, 1) := by decide +kernel
theorem dX5_figure_12 : decode cX5_figure 12 = .ok (.invokevirtual 90, 3) := by decide +kernel
theorem dX5_figure_15 : decode cX5_figure 15 = .ok (.bipush 48, 2) := by decide +kernel
theorem dX5_figure_17 : decode cX5_figure 17 = .ok (.isub, 1) := by decide +kernel
theorem dX5_figure_18 : decode cX5_figure 18 = .ok (.istore 5, 2) := by decide +kernel
theorem dX5_figure_20 : decode cX5_figure 20 = .ok (.iload 5, 2) := by decide +kernel
theorem dX5_figure_22 : decode cX5_figure 22 = .ok (.i2l, 1) := by decide +kernel
theorem dX5_figure_23 : decode cX5_figure 23 = .ok (.lconst 0, 1) := by decide +kernel
theorem dX5_figure_24 : decode cX5_figure 24 = .ok (.iload 4, 2) := by decide +kernel
theorem dX5_figure_26 : decode cX5_figure 26 = .ok (.i2l, 1) := by decide +kernel
theorem dX5_figure_27 : decode cX5_figure 27 = .ok (.invokestatic 83, 3) := by decide +kernel
theorem dX5_figure_30 : decode cX5_figure 30 = .ok (.istore 6, 2) := by decide +kernel
theorem dX5_figure_32 : decode cX5_figure 32 = .ok (.aload_n 0, 1) := by decide +kernel
theorem dX5_figure_33 : decode cX5_figure 33 = .ok (.dup, 1) := by decide +kernel
theorem dX5_figure_34 : decode cX5_figure 34 = .ok (.getfield 87, 3) := by decide +kernel
theorem dX5_figure_37 : decode cX5_figure 37 = .ok (.iload 6, 2) := by decide +kernel
theorem dX5_figure_39 : decode cX5_figure 39 = .ok (.ifCond .eq 7, 3) := by decide +kernel
theorem dX5_figure_42 : decode cX5_figure 42 = .ok (.iconst 1, 1) := by decide +kernel
theorem dX5_figure_43 : decode cX5_figure 43 = .ok (.goto 4, 3) := by decide +kernel
theorem dX5_figure_46 : decode cX5_figure 46 = .ok (.iconst 0, 1) := by decide +kernel
theorem dX5_figure_47 : decode cX5_figure 47 = .ok (.iadd, 1) := by decide +kernel
theorem dX5_figure_48 : decode cX5_figure 48 = .ok (.putfield 87, 3) := by decide +kernel
theorem dX5_figure_51 : decode cX5_figure 51 = .ok (.iload 6, 2) := by decide +kernel
theorem dX5_figure_53 : decode cX5_figure 53 = .ok (.ifCond .eq 8, 3) := by decide +kernel
theorem dX5_figure_56 : decode cX5_figure 56 = .ok (.iload 5, 2) := by decide +kernel
theorem dX5_figure_58 : decode cX5_figure 58 = .ok (.goto 5, 3) := by decide +kernel
theorem dX5_figure_61 : decode cX5_figure 61 = .ok (.bipush (-9), 2) := by decide +kernel
theorem dX5_figure_63 : decode cX5_figure 63 = .ok (.ireturn, 1) := by decide +kernel
theorem dX5_readsPerson_0 : decode cX5_readsPerson 0 = .ok (.aload_n 0, 1) := by decide +kernel
theorem dX5_readsPerson_1 : decode cX5_readsPerson 1 = .ok (.getfield 94, 3) := by decide +kernel
theorem dX5_readsPerson_4 : decode cX5_readsPerson 4 = .ok (.bipush 6, 2) := by decide +kernel
theorem dX5_readsPerson_6 : decode cX5_readsPerson 6 = .ok (.if_icmp .eq 14, 3) := by decide +kernel
theorem dX5_readsPerson_9 : decode cX5_readsPerson 9 = .ok (.aload_n 0, 1) := by decide +kernel
theorem dX5_readsPerson_10 : decode cX5_readsPerson 10 = .ok (.iload_n 1, 1) := by decide +kernel
theorem dX5_readsPerson_11 : decode cX5_readsPerson 11 = .ok (.iload_n 2, 1) := by decide +kernel
theorem dX5_readsPerson_12 : decode cX5_readsPerson 12 = .ok (.invokevirtual 90, 3) := by decide +kernel
theorem dX5_readsPerson_15 : decode cX5_readsPerson 15 = .ok (.bipush 59, 2) := by decide +kernel
theorem dX5_readsPerson_17 : decode cX5_readsPerson 17 = .ok (.if_icmp .eq 5, 3) := by decide +kernel
theorem dX5_readsPerson_20 : decode cX5_readsPerson 20 = .ok (.iconst 0, 1) := by decide +kernel
theorem dX5_readsPerson_21 : decode cX5_readsPerson 21 = .ok (.ireturn, 1) := by decide +kernel
theorem dX5_readsPerson_22 : decode cX5_readsPerson 22 = .ok (.aload_n 0, 1) := by decide +kernel
theorem dX5_readsPerson_23 : decode cX5_readsPerson 23 = .ok (.dup, 1) := by decide +kernel
theorem dX5_readsPerson_24 : decode cX5_readsPerson 24 = .ok (.getfield 87, 3) := by decide +kernel
theorem dX5_readsPerson_27 : decode cX5_readsPerson 27 = .ok (.iconst 1, 1) := by decide +kernel
theorem dX5_readsPerson_28 : decode cX5_readsPerson 28 = .ok (.iadd, 1) := by decide +kernel
theorem dX5_readsPerson_29 : decode cX5_readsPerson 29 = .ok (.putfield 87, 3) := by decide +kernel
theorem dX5_readsPerson_32 : decode cX5_readsPerson 32 = .ok (.aload_n 0, 1) := by decide +kernel
theorem dX5_readsPerson_33 : decode cX5_readsPerson 33 = .ok (.iload_n 1, 1) := by decide +kernel
theorem dX5_readsPerson_34 : decode cX5_readsPerson 34 = .ok (.iload_n 2, 1) := by decide +kernel
theorem dX5_readsPerson_35 : decode cX5_readsPerson 35 = .ok (.invokevirtual 90, 3) := by decide +kernel
theorem dX5_readsPerson_38 : decode cX5_readsPerson 38 = .ok (.istore_n 3, 1) := by decide +kernel
theorem dX5_readsPerson_39 : decode cX5_readsPerson 39 = .ok (.iload_n 3, 1) := by decide +kernel
theorem dX5_readsPerson_40 : decode cX5_readsPerson 40 = .ok (.bipush 112, 2) := by decide +kernel
theorem dX5_readsPerson_42 : decode cX5_readsPerson 42 = .ok (.if_icmp .eq 17, 3) := by decide +kernel
theorem dX5_readsPerson_45 : decode cX5_readsPerson 45 = .ok (.iload_n 3, 1) := by decide +kernel
theorem dX5_readsPerson_46 : decode cX5_readsPerson 46 = .ok (.bipush 114, 2) := by decide +kernel
theorem dX5_readsPerson_48 : decode cX5_readsPerson 48 = .ok (.if_icmp .eq 11, 3) := by decide +kernel
theorem dX5_readsPerson_51 : decode cX5_readsPerson 51 = .ok (.iload_n 3, 1) := by decide +kernel
theorem dX5_readsPerson_52 : decode cX5_readsPerson 52 = .ok (.bipush 107, 2) := by decide +kernel
theorem dX5_readsPerson_54 : decode cX5_readsPerson 54 = .ok (.if_icmp .eq 5, 3) := by decide +kernel
theorem dX5_readsPerson_57 : decode cX5_readsPerson 57 = .ok (.iconst 0, 1) := by decide +kernel
theorem dX5_readsPerson_58 : decode cX5_readsPerson 58 = .ok (.ireturn, 1) := by decide +kernel
theorem dX5_readsPerson_59 : decode cX5_readsPerson 59 = .ok (.aload_n 0, 1) := by decide +kernel
theorem dX5_readsPerson_60 : decode cX5_readsPerson 60 = .ok (.dup, 1) := by decide +kernel
theorem dX5_readsPerson_61 : decode cX5_readsPerson 61 = .ok (.getfield 87, 3) := by decide +kernel
theorem dX5_readsPerson_64 : decode cX5_readsPerson 64 = .ok (.iconst 1, 1) := by decide +kernel
theorem dX5_readsPerson_65 : decode cX5_readsPerson 65 = .ok (.iadd, 1) := by decide +kernel
theorem dX5_readsPerson_66 : decode cX5_readsPerson 66 = .ok (.putfield 87, 3) := by decide +kernel
theorem dX5_readsPerson_69 : decode cX5_readsPerson 69 = .ok (.aload_n 0, 1) := by decide +kernel
theorem dX5_readsPerson_70 : decode cX5_readsPerson 70 = .ok (.iload_n 1, 1) := by decide +kernel
theorem dX5_readsPerson_71 : decode cX5_readsPerson 71 = .ok (.iload_n 2, 1) := by decide +kernel
theorem dX5_readsPerson_72 : decode cX5_readsPerson 72 = .ok (.iconst 0, 1) := by decide +kernel
theorem dX5_readsPerson_73 : decode cX5_readsPerson 73 = .ok (.bipush 7, 2) := by decide +kernel
theorem dX5_readsPerson_75 : decode cX5_readsPerson 75 = .ok (.invokevirtual 97, 3) := by decide +kernel
theorem dX5_readsPerson_78 : decode cX5_readsPerson 78 = .ok (.istore 4, 2) := by decide +kernel
theorem dX5_readsPerson_80 : decode cX5_readsPerson 80 = .ok (.aload_n 0, 1) := by decide +kernel
theorem dX5_readsPerson_81 : decode cX5_readsPerson 81 = .ok (.iload_n 1, 1) := by decide +kernel
theorem dX5_readsPerson_82 : decode cX5_readsPerson 82 = .ok (.iload_n 2, 1) := by decide +kernel
theorem dX5_readsPerson_83 : decode cX5_readsPerson 83 = .ok (.iload 4, 2) := by decide +kernel
theorem dX5_readsPerson_85 : decode cX5_readsPerson 85 = .ok (.bipush 7, 2) := by decide +kernel
theorem dX5_readsPerson_87 : decode cX5_readsPerson 87 = .ok (.invokevirtual 97, 3) := by decide +kernel
theorem dX5_readsPerson_90 : decode cX5_readsPerson 90 = .ok (.istore 5, 2) := by decide +kernel
theorem dX5_readsPerson_92 : decode cX5_readsPerson 92 = .ok (.aload_n 0, 1) := by decide +kernel
theorem dX5_readsPerson_93 : decode cX5_readsPerson 93 = .ok (.iload_n 1, 1) := by decide +kernel
theorem dX5_readsPerson_94 : decode cX5_readsPerson 94 = .ok (.iload_n 2, 1) := by decide +kernel
theorem dX5_readsPerson_95 : decode cX5_readsPerson 95 = .ok (.iload 5, 2) := by decide +kernel
theorem dX5_readsPerson_97 : decode cX5_readsPerson 97 = .ok (.bipush 9, 2) := by decide +kernel
theorem dX5_readsPerson_99 : decode cX5_readsPerson 99 = .ok (.invokevirtual 97, 3) := by decide +kernel
theorem dX5_readsPerson_102 : decode cX5_readsPerson 102 = .ok (.istore 6, 2) := by decide +kernel
theorem dX5_readsPerson_104 : decode cX5_readsPerson 104 = .ok (.aload_n 0, 1) := by decide +kernel
theorem dX5_readsPerson_105 : decode cX5_readsPerson 105 = .ok (.getfield 22, 3) := by decide +kernel
theorem dX5_readsPerson_108 : decode cX5_readsPerson 108 = .ok (.aload_n 0, 1) := by decide +kernel
theorem dX5_readsPerson_109 : decode cX5_readsPerson 109 = .ok (.getfield 94, 3) := by decide +kernel
theorem dX5_readsPerson_112 : decode cX5_readsPerson 112 = .ok (.iload_n 3, 1) := by decide +kernel
theorem dX5_readsPerson_113 : decode cX5_readsPerson 113 = .ok (.bipush 112, 2) := by decide +kernel
theorem dX5_readsPerson_115 : decode cX5_readsPerson 115 = .ok (.if_icmp .ne 7, 3) := by decide +kernel
theorem dX5_readsPerson_118 : decode cX5_readsPerson 118 = .ok (.iconst 0, 1) := by decide +kernel
theorem dX5_readsPerson_119 : decode cX5_readsPerson 119 = .ok (.goto 14, 3) := by decide +kernel
theorem dX5_readsPerson_122 : decode cX5_readsPerson 122 = .ok (.iload_n 3, 1) := by decide +kernel
theorem dX5_readsPerson_123 : decode cX5_readsPerson 123 = .ok (.bipush 114, 2) := by decide +kernel
theorem dX5_readsPerson_125 : decode cX5_readsPerson 125 = .ok (.if_icmp .ne 7, 3) := by decide +kernel
theorem dX5_readsPerson_128 : decode cX5_readsPerson 128 = .ok (.iconst 1, 1) := by decide +kernel
theorem dX5_readsPerson_129 : decode cX5_readsPerson 129 = .ok (.goto 4, 3) := by decide +kernel
theorem dX5_readsPerson_132 : decode cX5_readsPerson 132 = .ok (.iconst 2, 1) := by decide +kernel
theorem dX5_readsPerson_133 : decode cX5_readsPerson 133 = .ok (.iastore, 1) := by decide +kernel
theorem dX5_readsPerson_134 : decode cX5_readsPerson 134 = .ok (.aload_n 0, 1) := by decide +kernel
theorem dX5_readsPerson_135 : decode cX5_readsPerson 135 = .ok (.getfield 25, 3) := by decide +kernel
theorem dX5_readsPerson_138 : decode cX5_readsPerson 138 = .ok (.aload_n 0, 1) := by decide +kernel
theorem dX5_readsPerson_139 : decode cX5_readsPerson 139 = .ok (.getfield 94, 3) := by decide +kernel
theorem dX5_readsPerson_142 : decode cX5_readsPerson 142 = .ok (.iload 4, 2) := by decide +kernel
theorem dX5_readsPerson_144 : decode cX5_readsPerson 144 = .ok (.iastore, 1) := by decide +kernel
theorem dX5_readsPerson_145 : decode cX5_readsPerson 145 = .ok (.aload_n 0, 1) := by decide +kernel
theorem dX5_readsPerson_146 : decode cX5_readsPerson 146 = .ok (.getfield 28, 3) := by decide +kernel
theorem dX5_readsPerson_149 : decode cX5_readsPerson 149 = .ok (.aload_n 0, 1) := by decide +kernel
theorem dX5_readsPerson_150 : decode cX5_readsPerson 150 = .ok (.getfield 94, 3) := by decide +kernel
theorem dX5_readsPerson_153 : decode cX5_readsPerson 153 = .ok (.iload 5, 2) := by decide +kernel
theorem dX5_readsPerson_155 : decode cX5_readsPerson 155 = .ok (.iastore, 1) := by decide +kernel
theorem dX5_readsPerson_156 : decode cX5_readsPerson 156 = .ok (.aload_n 0, 1) := by decide +kernel
theorem dX5_readsPerson_157 : decode cX5_readsPerson 157 = .ok (.getfield 31, 3) := by decide +kernel
theorem dX5_readsPerson_160 : decode cX5_readsPerson 160 = .ok (.aload_n 0, 1) := by decide +kernel
theorem dX5_readsPerson_161 : decode cX5_readsPerson 161 = .ok (.getfield 94, 3) := by decide +kernel
theorem dX5_readsPerson_164 : decode cX5_readsPerson 164 = .ok (.iload 6, 2) := by decide +kernel
theorem dX5_readsPerson_166 : decode cX5_readsPerson 166 = .ok (.iastore, 1) := by decide +kernel
theorem dX5_readsPerson_167 : decode cX5_readsPerson 167 = .ok (.aload_n 0, 1) := by decide +kernel
theorem dX5_readsPerson_168 : decode cX5_readsPerson 168 = .ok (.dup, 1) := by decide +kernel
theorem dX5_readsPerson_169 : decode cX5_readsPerson 169 = .ok (.getfield 94, 3) := by decide +kernel
theorem dX5_readsPerson_172 : decode cX5_readsPerson 172 = .ok (.iconst 1, 1) := by decide +kernel
theorem dX5_readsPerson_173 : decode cX5_readsPerson 173 = .ok (.iadd, 1) := by decide +kernel
theorem dX5_readsPerson_174 : decode cX5_readsPerson 174 = .ok (.putfield 94, 3) := by decide +kernel
theorem dX5_readsPerson_177 : decode cX5_readsPerson 177 = .ok (.iload 6, 2) := by decide +kernel
theorem dX5_readsPerson_179 : decode cX5_readsPerson 179 = .ok (.ifCond .lt 7, 3) := by decide +kernel
theorem dX5_readsPerson_182 : decode cX5_readsPerson 182 = .ok (.iconst 1, 1) := by decide +kernel
theorem dX5_readsPerson_183 : decode cX5_readsPerson 183 = .ok (.goto 4, 3) := by decide +kernel
theorem dX5_readsPerson_186 : decode cX5_readsPerson 186 = .ok (.iconst 0, 1) := by decide +kernel
theorem dX5_readsPerson_187 : decode cX5_readsPerson 187 = .ok (.ireturn, 1) := by decide +kernel
theorem dX5_readsMoor_0 : decode cX5_readsMoor 0 = .ok (.aload_n 0, 1) := by decide +kernel
theorem dX5_readsMoor_1 : decode cX5_readsMoor 1 = .ok (.iconst 0, 1) := by decide +kernel
theorem dX5_readsMoor_2 : decode cX5_readsMoor 2 = .ok (.putfield 87, 3) := by decide +kernel
theorem dX5_readsMoor_5 : decode cX5_readsMoor 5 = .ok (.aload_n 0, 1) := by decide +kernel
theorem dX5_readsMoor_6 : decode cX5_readsMoor 6 = .ok (.iconst 0, 1) := by decide +kernel
theorem dX5_readsMoor_7 : decode cX5_readsMoor 7 = .ok (.putfield 94, 3) := by decide +kernel
theorem dX5_readsMoor_10 : decode cX5_readsMoor 10 = .ok (.aload_n 0, 1) := by decide +kernel
theorem dX5_readsMoor_11 : decode cX5_readsMoor 11 = .ok (.iload_n 1, 1) := by decide +kernel
theorem dX5_readsMoor_12 : decode cX5_readsMoor 12 = .ok (.iload_n 2, 1) := by decide +kernel
theorem dX5_readsMoor_13 : decode cX5_readsMoor 13 = .ok (.invokevirtual 90, 3) := by decide +kernel
theorem dX5_readsMoor_16 : decode cX5_readsMoor 16 = .ok (.bipush 100, 2) := by decide +kernel
theorem dX5_readsMoor_18 : decode cX5_readsMoor 18 = .ok (.if_icmp .eq 5, 3) := by decide +kernel
theorem dX5_readsMoor_21 : decode cX5_readsMoor 21 = .ok (.iconst 0, 1) := by decide +kernel
theorem dX5_readsMoor_22 : decode cX5_readsMoor 22 = .ok (.ireturn, 1) := by decide +kernel
theorem dX5_readsMoor_23 : decode cX5_readsMoor 23 = .ok (.aload_n 0, 1) := by decide +kernel
theorem dX5_readsMoor_24 : decode cX5_readsMoor 24 = .ok (.dup, 1) := by decide +kernel
theorem dX5_readsMoor_25 : decode cX5_readsMoor 25 = .ok (.getfield 87, 3) := by decide +kernel
theorem dX5_readsMoor_28 : decode cX5_readsMoor 28 = .ok (.iconst 1, 1) := by decide +kernel
theorem dX5_readsMoor_29 : decode cX5_readsMoor 29 = .ok (.iadd, 1) := by decide +kernel
theorem dX5_readsMoor_30 : decode cX5_readsMoor 30 = .ok (.putfield 87, 3) := by decide +kernel
theorem dX5_readsMoor_33 : decode cX5_readsMoor 33 = .ok (.aload_n 0, 1) := by decide +kernel
theorem dX5_readsMoor_34 : decode cX5_readsMoor 34 = .ok (.aload_n 0, 1) := by decide +kernel
theorem dX5_readsMoor_35 : decode cX5_readsMoor 35 = .ok (.iload_n 1, 1) := by decide +kernel
theorem dX5_readsMoor_36 : decode cX5_readsMoor 36 = .ok (.iload_n 2, 1) := by decide +kernel
theorem dX5_readsMoor_37 : decode cX5_readsMoor 37 = .ok (.iconst 0, 1) := by decide +kernel
theorem dX5_readsMoor_38 : decode cX5_readsMoor 38 = .ok (.bipush 9, 2) := by decide +kernel
theorem dX5_readsMoor_40 : decode cX5_readsMoor 40 = .ok (.invokevirtual 97, 3) := by decide +kernel
theorem dX5_readsMoor_43 : decode cX5_readsMoor 43 = .ok (.putfield 101, 3) := by decide +kernel
theorem dX5_readsMoor_46 : decode cX5_readsMoor 46 = .ok (.aload_n 0, 1) := by decide +kernel
theorem dX5_readsMoor_47 : decode cX5_readsMoor 47 = .ok (.aload_n 0, 1) := by decide +kernel
theorem dX5_readsMoor_48 : decode cX5_readsMoor 48 = .ok (.iload_n 1, 1) := by decide +kernel
theorem dX5_readsMoor_49 : decode cX5_readsMoor 49 = .ok (.iload_n 2, 1) := by decide +kernel
theorem dX5_readsMoor_50 : decode cX5_readsMoor 50 = .ok (.aload_n 0, 1) := by decide +kernel
theorem dX5_readsMoor_51 : decode cX5_readsMoor 51 = .ok (.getfield 101, 3) := by decide +kernel
theorem dX5_readsMoor_54 : decode cX5_readsMoor 54 = .ok (.iconst 3, 1) := by decide +kernel
theorem dX5_readsMoor_55 : decode cX5_readsMoor 55 = .ok (.invokevirtual 97, 3) := by decide +kernel
theorem dX5_readsMoor_58 : decode cX5_readsMoor 58 = .ok (.putfield 104, 3) := by decide +kernel
theorem dX5_readsMoor_61 : decode cX5_readsMoor 61 = .ok (.aload_n 0, 1) := by decide +kernel
theorem dX5_readsMoor_62 : decode cX5_readsMoor 62 = .ok (.getfield 104, 3) := by decide +kernel
theorem dX5_readsMoor_65 : decode cX5_readsMoor 65 = .ok (.ifCond .lt 7, 3) := by decide +kernel
theorem dX5_readsMoor_68 : decode cX5_readsMoor 68 = .ok (.iconst 1, 1) := by decide +kernel
theorem dX5_readsMoor_69 : decode cX5_readsMoor 69 = .ok (.goto 4, 3) := by decide +kernel
theorem dX5_readsMoor_72 : decode cX5_readsMoor 72 = .ok (.iconst 0, 1) := by decide +kernel
theorem dX5_readsMoor_73 : decode cX5_readsMoor 73 = .ok (.istore_n 3, 1) := by decide +kernel
theorem dX5_readsMoor_74 : decode cX5_readsMoor 74 = .ok (.iload_n 3, 1) := by decide +kernel
theorem dX5_readsMoor_75 : decode cX5_readsMoor 75 = .ok (.ifCond .eq 29, 3) := by decide +kernel
theorem dX5_readsMoor_78 : decode cX5_readsMoor 78 = .ok (.aload_n 0, 1) := by decide +kernel
theorem dX5_readsMoor_79 : decode cX5_readsMoor 79 = .ok (.getfield 94, 3) := by decide +kernel
theorem dX5_readsMoor_82 : decode cX5_readsMoor 82 = .ok (.iconst 2, 1) := by decide +kernel
theorem dX5_readsMoor_83 : decode cX5_readsMoor 83 = .ok (.if_icmp .lt 11, 3) := by decide +kernel
theorem dX5_readsMoor_86 : decode cX5_readsMoor 86 = .ok (.aload_n 0, 1) := by decide +kernel
theorem dX5_readsMoor_87 : decode cX5_readsMoor 87 = .ok (.getfield 87, 3) := by decide +kernel
theorem dX5_readsMoor_90 : decode cX5_readsMoor 90 = .ok (.iload_n 2, 1) := by decide +kernel
theorem dX5_readsMoor_91 : decode cX5_readsMoor 91 = .ok (.if_icmp .ge 13, 3) := by decide +kernel
theorem dX5_readsMoor_94 : decode cX5_readsMoor 94 = .ok (.aload_n 0, 1) := by decide +kernel
theorem dX5_readsMoor_95 : decode cX5_readsMoor 95 = .ok (.iload_n 1, 1) := by decide +kernel
theorem dX5_readsMoor_96 : decode cX5_readsMoor 96 = .ok (.iload_n 2, 1) := by decide +kernel
theorem dX5_readsMoor_97 : decode cX5_readsMoor 97 = .ok (.invokevirtual 107, 3) := by decide +kernel
theorem dX5_readsMoor_100 : decode cX5_readsMoor 100 = .ok (.istore_n 3, 1) := by decide +kernel
theorem dX5_readsMoor_101 : decode cX5_readsMoor 101 = .ok (.goto (-27), 3) := by decide +kernel
theorem dX5_readsMoor_104 : decode cX5_readsMoor 104 = .ok (.iload_n 3, 1) := by decide +kernel
theorem dX5_readsMoor_105 : decode cX5_readsMoor 105 = .ok (.ireturn, 1) := by decide +kernel
theorem dX5_cellsBarred_0 : decode cX5_cellsBarred 0 = .ok (.aload_n 0, 1) := by decide +kernel
theorem dX5_cellsBarred_1 : decode cX5_cellsBarred 1 = .ok (.getfield 58, 3) := by decide +kernel
theorem dX5_cellsBarred_4 : decode cX5_cellsBarred 4 = .ok (.iload_n 1, 1) := by decide +kernel
theorem dX5_cellsBarred_5 : decode cX5_cellsBarred 5 = .ok (.iaload, 1) := by decide +kernel
theorem dX5_cellsBarred_6 : decode cX5_cellsBarred 6 = .ok (.ifCond .lt 19, 3) := by decide +kernel
theorem dX5_cellsBarred_9 : decode cX5_cellsBarred 9 = .ok (.aload_n 0, 1) := by decide +kernel
theorem dX5_cellsBarred_10 : decode cX5_cellsBarred 10 = .ok (.getfield 61, 3) := by decide +kernel
theorem dX5_cellsBarred_13 : decode cX5_cellsBarred 13 = .ok (.iload_n 1, 1) := by decide +kernel
theorem dX5_cellsBarred_14 : decode cX5_cellsBarred 14 = .ok (.iaload, 1) := by decide +kernel
theorem dX5_cellsBarred_15 : decode cX5_cellsBarred 15 = .ok (.iload_n 2, 1) := by decide +kernel
theorem dX5_cellsBarred_16 : decode cX5_cellsBarred 16 = .ok (.if_icmp .eq 9, 3) := by decide +kernel
theorem dX5_cellsBarred_19 : decode cX5_cellsBarred 19 = .ok (.aload_n 0, 1) := by decide +kernel
theorem dX5_cellsBarred_20 : decode cX5_cellsBarred 20 = .ok (.iconst 2, 1) := by decide +kernel
theorem dX5_cellsBarred_21 : decode cX5_cellsBarred 21 = .ok (.invokevirtual 111, 3) := by decide +kernel
theorem dX5_cellsBarred_24 : decode cX5_cellsBarred 24 = .ok (.ireturn, 1) := by decide +kernel
theorem dX5_cellsBarred_25 : decode cX5_cellsBarred 25 = .ok (.aload_n 0, 1) := by decide +kernel
theorem dX5_cellsBarred_26 : decode cX5_cellsBarred 26 = .ok (.getfield 58, 3) := by decide +kernel
theorem dX5_cellsBarred_29 : decode cX5_cellsBarred 29 = .ok (.iload_n 1, 1) := by decide +kernel
theorem dX5_cellsBarred_30 : decode cX5_cellsBarred 30 = .ok (.iaload, 1) := by decide +kernel
theorem dX5_cellsBarred_31 : decode cX5_cellsBarred 31 = .ok (.ifCond .ge 9, 3) := by decide +kernel
theorem dX5_cellsBarred_34 : decode cX5_cellsBarred 34 = .ok (.aload_n 0, 1) := by decide +kernel
theorem dX5_cellsBarred_35 : decode cX5_cellsBarred 35 = .ok (.iconst 1, 1) := by decide +kernel
theorem dX5_cellsBarred_36 : decode cX5_cellsBarred 36 = .ok (.invokevirtual 111, 3) := by decide +kernel
theorem dX5_cellsBarred_39 : decode cX5_cellsBarred 39 = .ok (.ireturn, 1) := by decide +kernel
theorem dX5_cellsBarred_40 : decode cX5_cellsBarred 40 = .ok (.lload 4, 2) := by decide +kernel
theorem dX5_cellsBarred_42 : decode cX5_cellsBarred 42 = .ok (.lconst 0, 1) := by decide +kernel
theorem dX5_cellsBarred_43 : decode cX5_cellsBarred 43 = .ok (.lcmp, 1) := by decide +kernel
theorem dX5_cellsBarred_44 : decode cX5_cellsBarred 44 = .ok (.ifCond .ge 9, 3) := by decide +kernel
theorem dX5_cellsBarred_47 : decode cX5_cellsBarred 47 = .ok (.aload_n 0, 1) := by decide +kernel
theorem dX5_cellsBarred_48 : decode cX5_cellsBarred 48 = .ok (.iconst 4, 1) := by decide +kernel
theorem dX5_cellsBarred_49 : decode cX5_cellsBarred 49 = .ok (.invokevirtual 111, 3) := by decide +kernel
theorem dX5_cellsBarred_52 : decode cX5_cellsBarred 52 = .ok (.ireturn, 1) := by decide +kernel
theorem dX5_cellsBarred_53 : decode cX5_cellsBarred 53 = .ok (.iload_n 3, 1) := by decide +kernel
theorem dX5_cellsBarred_54 : decode cX5_cellsBarred 54 = .ok (.lload 4, 2) := by decide +kernel
theorem dX5_cellsBarred_56 : decode cX5_cellsBarred 56 = .ok (.aload_n 0, 1) := by decide +kernel
theorem dX5_cellsBarred_57 : decode cX5_cellsBarred 57 = .ok (.getfield 58, 3) := by decide +kernel
theorem dX5_cellsBarred_60 : decode cX5_cellsBarred 60 = .ok (.iload_n 1, 1) := by decide +kernel
theorem dX5_cellsBarred_61 : decode cX5_cellsBarred 61 = .ok (.iaload, 1) := by decide +kernel
theorem dX5_cellsBarred_62 : decode cX5_cellsBarred 62 = .ok (.invokestatic 115, 3) := by decide +kernel
theorem dX5_cellsBarred_65 : decode cX5_cellsBarred 65 = .ok (.ifCond .eq 11, 3) := by decide +kernel
theorem dX5_cellsBarred_68 : decode cX5_cellsBarred 68 = .ok (.aload_n 0, 1) := by decide +kernel
theorem dX5_cellsBarred_69 : decode cX5_cellsBarred 69 = .ok (.iconst 3, 1) := by decide +kernel
theorem dX5_cellsBarred_70 : decode cX5_cellsBarred 70 = .ok (.invokevirtual 111, 3) := by decide +kernel
theorem dX5_cellsBarred_73 : decode cX5_cellsBarred 73 = .ok (.goto 4, 3) := by decide +kernel
theorem dX5_cellsBarred_76 : decode cX5_cellsBarred 76 = .ok (.iconst 0, 1) := by decide +kernel
theorem dX5_cellsBarred_77 : decode cX5_cellsBarred 77 = .ok (.ireturn, 1) := by decide +kernel
theorem dX5_moor_0 : decode cX5_moor 0 = .ok (.iload_n 1, 1) := by decide +kernel
theorem dX5_moor_1 : decode cX5_moor 1 = .ok (.invokestatic 119, 3) := by decide +kernel
theorem dX5_moor_4 : decode cX5_moor 4 = .ok (.ifCond .eq 9, 3) := by decide +kernel
theorem dX5_moor_7 : decode cX5_moor 7 = .ok (.aload_n 0, 1) := by decide +kernel
theorem dX5_moor_8 : decode cX5_moor 8 = .ok (.iconst (-1), 1) := by decide +kernel
theorem dX5_moor_9 : decode cX5_moor 9 = .ok (.invokevirtual 123, 3) := by decide +kernel
theorem dX5_moor_12 : decode cX5_moor 12 = .ok (.ireturn, 1) := by decide +kernel
theorem dX5_moor_13 : decode cX5_moor 13 = .ok (.iload_n 2, 1) := by decide +kernel
theorem dX5_moor_14 : decode cX5_moor 14 = .ok (.i2l, 1) := by decide +kernel
theorem dX5_moor_15 : decode cX5_moor 15 = .ok (.lconst 0, 1) := by decide +kernel
theorem dX5_moor_16 : decode cX5_moor 16 = .ok (.ldc2_w 126, 3) := by decide +kernel
theorem dX5_moor_19 : decode cX5_moor 19 = .ok (.invokestatic 83, 3) := by decide +kernel
theorem dX5_moor_22 : decode cX5_moor 22 = .ok (.ifCond .ne 10, 3) := by decide +kernel
theorem dX5_moor_25 : decode cX5_moor 25 = .ok (.aload_n 0, 1) := by decide +kernel
theorem dX5_moor_26 : decode cX5_moor 26 = .ok (.bipush (-2), 2) := by decide +kernel
theorem dX5_moor_28 : decode cX5_moor 28 = .ok (.invokevirtual 123, 3) := by decide +kernel
theorem dX5_moor_31 : decode cX5_moor 31 = .ok (.ireturn, 1) := by decide +kernel
theorem dX5_moor_32 : decode cX5_moor 32 = .ok (.aload_n 0, 1) := by decide +kernel
theorem dX5_moor_33 : decode cX5_moor 33 = .ok (.iload_n 1, 1) := by decide +kernel
theorem dX5_moor_34 : decode cX5_moor 34 = .ok (.iload_n 2, 1) := by decide +kernel
theorem dX5_moor_35 : decode cX5_moor 35 = .ok (.iload_n 3, 1) := by decide +kernel
theorem dX5_moor_36 : decode cX5_moor 36 = .ok (.iload 4, 2) := by decide +kernel
theorem dX5_moor_38 : decode cX5_moor 38 = .ok (.i2l, 1) := by decide +kernel
theorem dX5_moor_39 : decode cX5_moor 39 = .ok (.invokevirtual 128, 3) := by decide +kernel
theorem dX5_moor_42 : decode cX5_moor 42 = .ok (.istore 5, 2) := by decide +kernel
theorem dX5_moor_44 : decode cX5_moor 44 = .ok (.iload 5, 2) := by decide +kernel
theorem dX5_moor_46 : decode cX5_moor 46 = .ok (.ifCond .ge 6, 3) := by decide +kernel
theorem dX5_moor_49 : decode cX5_moor 49 = .ok (.iload 5, 2) := by decide +kernel
theorem dX5_moor_51 : decode cX5_moor 51 = .ok (.ireturn, 1) := by decide +kernel
theorem dX5_moor_52 : decode cX5_moor 52 = .ok (.aload_n 0, 1) := by decide +kernel
theorem dX5_moor_53 : decode cX5_moor 53 = .ok (.bipush 60, 2) := by decide +kernel
theorem dX5_moor_55 : decode cX5_moor 55 = .ok (.iload_n 1, 1) := by decide +kernel
theorem dX5_moor_56 : decode cX5_moor 56 = .ok (.imul, 1) := by decide +kernel
theorem dX5_moor_57 : decode cX5_moor 57 = .ok (.iload_n 3, 1) := by decide +kernel
theorem dX5_moor_58 : decode cX5_moor 58 = .ok (.iadd, 1) := by decide +kernel
theorem dX5_moor_59 : decode cX5_moor 59 = .ok (.iload 4, 2) := by decide +kernel
theorem dX5_moor_61 : decode cX5_moor 61 = .ok (.invokevirtual 132, 3) := by decide +kernel
theorem dX5_moor_64 : decode cX5_moor 64 = .ok (.ifCond .ne 15, 3) := by decide +kernel
theorem dX5_moor_67 : decode cX5_moor 67 = .ok (.aload_n 0, 1) := by decide +kernel
theorem dX5_moor_68 : decode cX5_moor 68 = .ok (.bipush (-100), 2) := by decide +kernel
theorem dX5_moor_70 : decode cX5_moor 70 = .ok (.aload_n 0, 1) := by decide +kernel
theorem dX5_moor_71 : decode cX5_moor 71 = .ok (.getfield 87, 3) := by decide +kernel
theorem dX5_moor_74 : decode cX5_moor 74 = .ok (.isub, 1) := by decide +kernel
theorem dX5_moor_75 : decode cX5_moor 75 = .ok (.invokevirtual 123, 3) := by decide +kernel
theorem dX5_moor_78 : decode cX5_moor 78 = .ok (.ireturn, 1) := by decide +kernel
theorem dX5_moor_79 : decode cX5_moor 79 = .ok (.aload_n 0, 1) := by decide +kernel
theorem dX5_moor_80 : decode cX5_moor 80 = .ok (.aload_n 0, 1) := by decide +kernel
theorem dX5_moor_81 : decode cX5_moor 81 = .ok (.getfield 94, 3) := by decide +kernel
theorem dX5_moor_84 : decode cX5_moor 84 = .ok (.putfield 80, 3) := by decide +kernel
theorem dX5_moor_87 : decode cX5_moor 87 = .ok (.aload_n 0, 1) := by decide +kernel
theorem dX5_moor_88 : decode cX5_moor 88 = .ok (.aload_n 0, 1) := by decide +kernel
theorem dX5_moor_89 : decode cX5_moor 89 = .ok (.getfield 101, 3) := by decide +kernel
theorem dX5_moor_92 : decode cX5_moor 92 = .ok (.putfield 135, 3) := by decide +kernel
theorem dX5_moor_95 : decode cX5_moor 95 = .ok (.aload_n 0, 1) := by decide +kernel
theorem dX5_moor_96 : decode cX5_moor 96 = .ok (.aload_n 0, 1) := by decide +kernel
theorem dX5_moor_97 : decode cX5_moor 97 = .ok (.getfield 104, 3) := by decide +kernel
theorem dX5_moor_100 : decode cX5_moor 100 = .ok (.putfield 138, 3) := by decide +kernel
theorem dX5_moor_103 : decode cX5_moor 103 = .ok (.aload_n 0, 1) := by decide +kernel
theorem dX5_moor_104 : decode cX5_moor 104 = .ok (.iconst 0, 1) := by decide +kernel
theorem dX5_moor_105 : decode cX5_moor 105 = .ok (.putfield 141, 3) := by decide +kernel
theorem dX5_moor_108 : decode cX5_moor 108 = .ok (.iconst 0, 1) := by decide +kernel
theorem dX5_moor_109 : decode cX5_moor 109 = .ok (.istore 6, 2) := by decide +kernel
theorem dX5_moor_111 : decode cX5_moor 111 = .ok (.iload 6, 2) := by decide +kernel
theorem dX5_moor_113 : decode cX5_moor 113 = .ok (.aload_n 0, 1) := by decide +kernel
theorem dX5_moor_114 : decode cX5_moor 114 = .ok (.getfield 80, 3) := by decide +kernel
theorem dX5_moor_117 : decode cX5_moor 117 = .ok (.if_icmp .ge 65, 3) := by decide +kernel
theorem dX5_moor_120 : decode cX5_moor 120 = .ok (.aload_n 0, 1) := by decide +kernel
theorem dX5_moor_121 : decode cX5_moor 121 = .ok (.getfield 7, 3) := by decide +kernel
theorem dX5_moor_124 : decode cX5_moor 124 = .ok (.iload 6, 2) := by decide +kernel
theorem dX5_moor_126 : decode cX5_moor 126 = .ok (.aload_n 0, 1) := by decide +kernel
theorem dX5_moor_127 : decode cX5_moor 127 = .ok (.getfield 22, 3) := by decide +kernel
theorem dX5_moor_130 : decode cX5_moor 130 = .ok (.iload 6, 2) := by decide +kernel
theorem dX5_moor_132 : decode cX5_moor 132 = .ok (.iaload, 1) := by decide +kernel
theorem dX5_moor_133 : decode cX5_moor 133 = .ok (.iastore, 1) := by decide +kernel
theorem dX5_moor_134 : decode cX5_moor 134 = .ok (.aload_n 0, 1) := by decide +kernel
theorem dX5_moor_135 : decode cX5_moor 135 = .ok (.getfield 13, 3) := by decide +kernel
theorem dX5_moor_138 : decode cX5_moor 138 = .ok (.iload 6, 2) := by decide +kernel
theorem dX5_moor_140 : decode cX5_moor 140 = .ok (.aload_n 0, 1) := by decide +kernel
theorem dX5_moor_141 : decode cX5_moor 141 = .ok (.getfield 25, 3) := by decide +kernel
theorem dX5_moor_144 : decode cX5_moor 144 = .ok (.iload 6, 2) := by decide +kernel
theorem dX5_moor_146 : decode cX5_moor 146 = .ok (.iaload, 1) := by decide +kernel
theorem dX5_moor_147 : decode cX5_moor 147 = .ok (.iastore, 1) := by decide +kernel
theorem dX5_moor_148 : decode cX5_moor 148 = .ok (.aload_n 0, 1) := by decide +kernel
theorem dX5_moor_149 : decode cX5_moor 149 = .ok (.getfield 16, 3) := by decide +kernel
theorem dX5_moor_152 : decode cX5_moor 152 = .ok (.iload 6, 2) := by decide +kernel
theorem dX5_moor_154 : decode cX5_moor 154 = .ok (.aload_n 0, 1) := by decide +kernel
theorem dX5_moor_155 : decode cX5_moor 155 = .ok (.getfield 28, 3) := by decide +kernel
theorem dX5_moor_158 : decode cX5_moor 158 = .ok (.iload 6, 2) := by decide +kernel
theorem dX5_moor_160 : decode cX5_moor 160 = .ok (.iaload, 1) := by decide +kernel
theorem dX5_moor_161 : decode cX5_moor 161 = .ok (.iastore, 1) := by decide +kernel
theorem dX5_moor_162 : decode cX5_moor 162 = .ok (.aload_n 0, 1) := by decide +kernel
theorem dX5_moor_163 : decode cX5_moor 163 = .ok (.getfield 19, 3) := by decide +kernel
theorem dX5_moor_166 : decode cX5_moor 166 = .ok (.iload 6, 2) := by decide +kernel
theorem dX5_moor_168 : decode cX5_moor 168 = .ok (.aload_n 0, 1) := by decide +kernel
theorem dX5_moor_169 : decode cX5_moor 169 = .ok (.getfield 31, 3) := by decide +kernel
theorem dX5_moor_172 : decode cX5_moor 172 = .ok (.iload 6, 2) := by decide +kernel
theorem dX5_moor_174 : decode cX5_moor 174 = .ok (.iaload, 1) := by decide +kernel
theorem dX5_moor_175 : decode cX5_moor 175 = .ok (.iastore, 1) := by decide +kernel
theorem dX5_moor_176 : decode cX5_moor 176 = .ok (.iinc 6 1, 3) := by decide +kernel
theorem dX5_moor_179 : decode cX5_moor 179 = .ok (.goto (-68), 3) := by decide +kernel
theorem dX5_moor_182 : decode cX5_moor 182 = .ok (.aload_n 0, 1) := by decide +kernel
theorem dX5_moor_183 : decode cX5_moor 183 = .ok (.iconst 0, 1) := by decide +kernel
theorem dX5_moor_184 : decode cX5_moor 184 = .ok (.putfield 144, 3) := by decide +kernel
theorem dX5_moor_187 : decode cX5_moor 187 = .ok (.aload_n 0, 1) := by decide +kernel
theorem dX5_moor_188 : decode cX5_moor 188 = .ok (.aload_n 0, 1) := by decide +kernel
theorem dX5_moor_189 : decode cX5_moor 189 = .ok (.getfield 80, 3) := by decide +kernel
theorem dX5_moor_192 : decode cX5_moor 192 = .ok (.invokevirtual 123, 3) := by decide +kernel
theorem dX5_moor_195 : decode cX5_moor 195 = .ok (.ireturn, 1) := by decide +kernel
theorem dX5_scentOf_0 : decode cX5_scentOf 0 = .ok (.aload_n 0, 1) := by decide +kernel
theorem dX5_scentOf_1 : decode cX5_scentOf 1 = .ok (.getfield 13, 3) := by decide +kernel
theorem dX5_scentOf_4 : decode cX5_scentOf 4 = .ok (.iload_n 1, 1) := by decide +kernel
theorem dX5_scentOf_5 : decode cX5_scentOf 5 = .ok (.iaload, 1) := by decide +kernel
theorem dX5_scentOf_6 : decode cX5_scentOf 6 = .ok (.invokestatic 147, 3) := by decide +kernel
theorem dX5_scentOf_9 : decode cX5_scentOf 9 = .ok (.istore_n 2, 1) := by decide +kernel
theorem dX5_scentOf_10 : decode cX5_scentOf 10 = .ok (.aload_n 0, 1) := by decide +kernel
theorem dX5_scentOf_11 : decode cX5_scentOf 11 = .ok (.getfield 7, 3) := by decide +kernel
theorem dX5_scentOf_14 : decode cX5_scentOf 14 = .ok (.iload_n 1, 1) := by decide +kernel
theorem dX5_scentOf_15 : decode cX5_scentOf 15 = .ok (.iaload, 1) := by decide +kernel
theorem dX5_scentOf_16 : decode cX5_scentOf 16 = .ok (.ifCond .ne 7, 3) := by decide +kernel
theorem dX5_scentOf_19 : decode cX5_scentOf 19 = .ok (.iload_n 2, 1) := by decide +kernel
theorem dX5_scentOf_20 : decode cX5_scentOf 20 = .ok (.goto 24, 3) := by decide +kernel
theorem dX5_scentOf_23 : decode cX5_scentOf 23 = .ok (.aload_n 0, 1) := by decide +kernel
theorem dX5_scentOf_24 : decode cX5_scentOf 24 = .ok (.getfield 7, 3) := by decide +kernel
theorem dX5_scentOf_27 : decode cX5_scentOf 27 = .ok (.iload_n 1, 1) := by decide +kernel
theorem dX5_scentOf_28 : decode cX5_scentOf 28 = .ok (.iaload, 1) := by decide +kernel
theorem dX5_scentOf_29 : decode cX5_scentOf 29 = .ok (.iconst 1, 1) := by decide +kernel
theorem dX5_scentOf_30 : decode cX5_scentOf 30 = .ok (.if_icmp .ne 9, 3) := by decide +kernel
theorem dX5_scentOf_33 : decode cX5_scentOf 33 = .ok (.iload_n 2, 1) := by decide +kernel
theorem dX5_scentOf_34 : decode cX5_scentOf 34 = .ok (.iconst 1, 1) := by decide +kernel
theorem dX5_scentOf_35 : decode cX5_scentOf 35 = .ok (.iadd, 1) := by decide +kernel
theorem dX5_scentOf_36 : decode cX5_scentOf 36 = .ok (.goto 8, 3) := by decide +kernel
theorem dX5_scentOf_39 : decode cX5_scentOf 39 = .ok (.iconst 2, 1) := by decide +kernel
theorem dX5_scentOf_40 : decode cX5_scentOf 40 = .ok (.iload_n 2, 1) := by decide +kernel
theorem dX5_scentOf_41 : decode cX5_scentOf 41 = .ok (.imul, 1) := by decide +kernel
theorem dX5_scentOf_42 : decode cX5_scentOf 42 = .ok (.iconst 2, 1) := by decide +kernel
theorem dX5_scentOf_43 : decode cX5_scentOf 43 = .ok (.iadd, 1) := by decide +kernel
theorem dX5_scentOf_44 : decode cX5_scentOf 44 = .ok (.ireturn, 1) := by decide +kernel
theorem dX5_wayTo_0 : decode cX5_wayTo 0 = .ok (.aload_n 0, 1) := by decide +kernel
theorem dX5_wayTo_1 : decode cX5_wayTo 1 = .ok (.getfield 19, 3) := by decide +kernel
theorem dX5_wayTo_4 : decode cX5_wayTo 4 = .ok (.iload_n 1, 1) := by decide +kernel
theorem dX5_wayTo_5 : decode cX5_wayTo 5 = .ok (.iaload, 1) := by decide +kernel
theorem dX5_wayTo_6 : decode cX5_wayTo 6 = .ok (.aload_n 0, 1) := by decide +kernel
theorem dX5_wayTo_7 : decode cX5_wayTo 7 = .ok (.getfield 135, 3) := by decide +kernel
theorem dX5_wayTo_10 : decode cX5_wayTo 10 = .ok (.invokestatic 150, 3) := by decide +kernel
theorem dX5_wayTo_13 : decode cX5_wayTo 13 = .ok (.ireturn, 1) := by decide +kernel
theorem dX5_isSmelt_0 : decode cX5_isSmelt 0 = .ok (.aload_n 0, 1) := by decide +kernel
theorem dX5_isSmelt_1 : decode cX5_isSmelt 1 = .ok (.iload_n 1, 1) := by decide +kernel
theorem dX5_isSmelt_2 : decode cX5_isSmelt 2 = .ok (.invokevirtual 153, 3) := by decide +kernel
theorem dX5_isSmelt_5 : decode cX5_isSmelt 5 = .ok (.aload_n 0, 1) := by decide +kernel
theorem dX5_isSmelt_6 : decode cX5_isSmelt 6 = .ok (.iload_n 1, 1) := by decide +kernel
theorem dX5_isSmelt_7 : decode cX5_isSmelt 7 = .ok (.invokevirtual 156, 3) := by decide +kernel
theorem dX5_isSmelt_10 : decode cX5_isSmelt 10 = .ok (.if_icmp .gt 7, 3) := by decide +kernel
theorem dX5_isSmelt_13 : decode cX5_isSmelt 13 = .ok (.iconst 1, 1) := by decide +kernel
theorem dX5_isSmelt_14 : decode cX5_isSmelt 14 = .ok (.goto 4, 3) := by decide +kernel
theorem dX5_isSmelt_17 : decode cX5_isSmelt 17 = .ok (.iconst 0, 1) := by decide +kernel
theorem dX5_isSmelt_18 : decode cX5_isSmelt 18 = .ok (.ireturn, 1) := by decide +kernel
theorem dX5_goesTo_0 : decode cX5_goesTo 0 = .ok (.bipush (-9), 2) := by decide +kernel
theorem dX5_goesTo_2 : decode cX5_goesTo 2 = .ok (.istore_n 2, 1) := by decide +kernel
theorem dX5_goesTo_3 : decode cX5_goesTo 3 = .ok (.aload_n 0, 1) := by decide +kernel
theorem dX5_goesTo_4 : decode cX5_goesTo 4 = .ok (.getfield 138, 3) := by decide +kernel
theorem dX5_goesTo_7 : decode cX5_goesTo 7 = .ok (.iconst 1, 1) := by decide +kernel
theorem dX5_goesTo_8 : decode cX5_goesTo 8 = .ok (.iadd, 1) := by decide +kernel
theorem dX5_goesTo_9 : decode cX5_goesTo 9 = .ok (.istore_n 3, 1) := by decide +kernel
theorem dX5_goesTo_10 : decode cX5_goesTo 10 = .ok (.iconst 0, 1) := by decide +kernel
theorem dX5_goesTo_11 : decode cX5_goesTo 11 = .ok (.istore 4, 2) := by decide +kernel
theorem dX5_goesTo_13 : decode cX5_goesTo 13 = .ok (.iload 4, 2) := by decide +kernel
theorem dX5_goesTo_15 : decode cX5_goesTo 15 = .ok (.aload_n 0, 1) := by decide +kernel
theorem dX5_goesTo_16 : decode cX5_goesTo 16 = .ok (.getfield 80, 3) := by decide +kernel
theorem dX5_goesTo_19 : decode cX5_goesTo 19 = .ok (.if_icmp .ge 104, 3) := by decide +kernel
theorem dX5_goesTo_22 : decode cX5_goesTo 22 = .ok (.aload_n 0, 1) := by decide +kernel
theorem dX5_goesTo_23 : decode cX5_goesTo 23 = .ok (.iload 4, 2) := by decide +kernel
theorem dX5_goesTo_25 : decode cX5_goesTo 25 = .ok (.invokevirtual 159, 3) := by decide +kernel
theorem dX5_goesTo_28 : decode cX5_goesTo 28 = .ok (.ifCond .eq 23, 3) := by decide +kernel
theorem dX5_goesTo_31 : decode cX5_goesTo 31 = .ok (.aload_n 0, 1) := by decide +kernel
theorem dX5_goesTo_32 : decode cX5_goesTo 32 = .ok (.getfield 13, 3) := by decide +kernel
theorem dX5_goesTo_35 : decode cX5_goesTo 35 = .ok (.iload 4, 2) := by decide +kernel
theorem dX5_goesTo_37 : decode cX5_goesTo 37 = .ok (.iaload, 1) := by decide +kernel
theorem dX5_goesTo_38 : decode cX5_goesTo 38 = .ok (.aload_n 0, 1) := by decide +kernel
theorem dX5_goesTo_39 : decode cX5_goesTo 39 = .ok (.getfield 16, 3) := by decide +kernel
theorem dX5_goesTo_42 : decode cX5_goesTo 42 = .ok (.iload_n 1, 1) := by decide +kernel
theorem dX5_goesTo_43 : decode cX5_goesTo 43 = .ok (.iaload, 1) := by decide +kernel
theorem dX5_goesTo_44 : decode cX5_goesTo 44 = .ok (.ixor, 1) := by decide +kernel
theorem dX5_goesTo_45 : decode cX5_goesTo 45 = .ok (.invokestatic 147, 3) := by decide +kernel
theorem dX5_goesTo_48 : decode cX5_goesTo 48 = .ok (.goto 5, 3) := by decide +kernel
theorem dX5_goesTo_51 : decode cX5_goesTo 51 = .ok (.bipush 9, 2) := by decide +kernel
theorem dX5_goesTo_53 : decode cX5_goesTo 53 = .ok (.istore 5, 2) := by decide +kernel
theorem dX5_goesTo_55 : decode cX5_goesTo 55 = .ok (.iload_n 2, 1) := by decide +kernel
theorem dX5_goesTo_56 : decode cX5_goesTo 56 = .ok (.ifCond .lt 27, 3) := by decide +kernel
theorem dX5_goesTo_59 : decode cX5_goesTo 59 = .ok (.iload 5, 2) := by decide +kernel
theorem dX5_goesTo_61 : decode cX5_goesTo 61 = .ok (.iload_n 3, 1) := by decide +kernel
theorem dX5_goesTo_62 : decode cX5_goesTo 62 = .ok (.if_icmp .ne 21, 3) := by decide +kernel
theorem dX5_goesTo_65 : decode cX5_goesTo 65 = .ok (.aload_n 0, 1) := by decide +kernel
theorem dX5_goesTo_66 : decode cX5_goesTo 66 = .ok (.iload 4, 2) := by decide +kernel
theorem dX5_goesTo_68 : decode cX5_goesTo 68 = .ok (.invokevirtual 153, 3) := by decide +kernel
theorem dX5_goesTo_71 : decode cX5_goesTo 71 = .ok (.aload_n 0, 1) := by decide +kernel
theorem dX5_goesTo_72 : decode cX5_goesTo 72 = .ok (.iload_n 2, 1) := by decide +kernel
theorem dX5_goesTo_73 : decode cX5_goesTo 73 = .ok (.invokevirtual 153, 3) := by decide +kernel
theorem dX5_goesTo_76 : decode cX5_goesTo 76 = .ok (.if_icmp .ge 7, 3) := by decide +kernel
theorem dX5_goesTo_79 : decode cX5_goesTo 79 = .ok (.iconst 1, 1) := by decide +kernel
theorem dX5_goesTo_80 : decode cX5_goesTo 80 = .ok (.goto 4, 3) := by decide +kernel
theorem dX5_goesTo_83 : decode cX5_goesTo 83 = .ok (.iconst 0, 1) := by decide +kernel
theorem dX5_goesTo_84 : decode cX5_goesTo 84 = .ok (.istore 6, 2) := by decide +kernel
theorem dX5_goesTo_86 : decode cX5_goesTo 86 = .ok (.iload 5, 2) := by decide +kernel
theorem dX5_goesTo_88 : decode cX5_goesTo 88 = .ok (.iload_n 3, 1) := by decide +kernel
theorem dX5_goesTo_89 : decode cX5_goesTo 89 = .ok (.if_icmp .lt 8, 3) := by decide +kernel
theorem dX5_goesTo_92 : decode cX5_goesTo 92 = .ok (.iload 6, 2) := by decide +kernel
theorem dX5_goesTo_94 : decode cX5_goesTo 94 = .ok (.ifCond .eq 8, 3) := by decide +kernel
theorem dX5_goesTo_97 : decode cX5_goesTo 97 = .ok (.iload 4, 2) := by decide +kernel
theorem dX5_goesTo_99 : decode cX5_goesTo 99 = .ok (.goto 4, 3) := by decide +kernel
theorem dX5_goesTo_102 : decode cX5_goesTo 102 = .ok (.iload_n 2, 1) := by decide +kernel
theorem dX5_goesTo_103 : decode cX5_goesTo 103 = .ok (.istore_n 2, 1) := by decide +kernel
theorem dX5_goesTo_104 : decode cX5_goesTo 104 = .ok (.iload 5, 2) := by decide +kernel
theorem dX5_goesTo_106 : decode cX5_goesTo 106 = .ok (.iload_n 3, 1) := by decide +kernel
theorem dX5_goesTo_107 : decode cX5_goesTo 107 = .ok (.if_icmp .ge 8, 3) := by decide +kernel
theorem dX5_goesTo_110 : decode cX5_goesTo 110 = .ok (.iload 5, 2) := by decide +kernel
theorem dX5_goesTo_112 : decode cX5_goesTo 112 = .ok (.goto 4, 3) := by decide +kernel
theorem dX5_goesTo_115 : decode cX5_goesTo 115 = .ok (.iload_n 3, 1) := by decide +kernel
theorem dX5_goesTo_116 : decode cX5_goesTo 116 = .ok (.istore_n 3, 1) := by decide +kernel
theorem dX5_goesTo_117 : decode cX5_goesTo 117 = .ok (.iinc 4 1, 3) := by decide +kernel
theorem dX5_goesTo_120 : decode cX5_goesTo 120 = .ok (.goto (-107), 3) := by decide +kernel
theorem dX5_goesTo_123 : decode cX5_goesTo 123 = .ok (.iload_n 2, 1) := by decide +kernel
theorem dX5_goesTo_124 : decode cX5_goesTo 124 = .ok (.ireturn, 1) := by decide +kernel
theorem dX5_ofPerson_0 : decode cX5_ofPerson 0 = .ok (.aload_n 0, 1) := by decide +kernel
theorem dX5_ofPerson_1 : decode cX5_ofPerson 1 = .ok (.iload_n 1, 1) := by decide +kernel
theorem dX5_ofPerson_2 : decode cX5_ofPerson 2 = .ok (.invokevirtual 162, 3) := by decide +kernel
theorem dX5_ofPerson_5 : decode cX5_ofPerson 5 = .ok (.ifCond .eq 5, 3) := by decide +kernel
theorem dX5_ofPerson_8 : decode cX5_ofPerson 8 = .ok (.iconst (-1), 1) := by decide +kernel
theorem dX5_ofPerson_9 : decode cX5_ofPerson 9 = .ok (.ireturn, 1) := by decide +kernel
theorem dX5_ofPerson_10 : decode cX5_ofPerson 10 = .ok (.iload_n 2, 1) := by decide +kernel
theorem dX5_ofPerson_11 : decode cX5_ofPerson 11 = .ok (.tableswitch 95 0 6 #[41, 48, 55, 62, 69, 75, 89], 41) := by decide +kernel
theorem dX5_ofPerson_52 : decode cX5_ofPerson 52 = .ok (.aload_n 0, 1) := by decide +kernel
theorem dX5_ofPerson_53 : decode cX5_ofPerson 53 = .ok (.getfield 7, 3) := by decide +kernel
theorem dX5_ofPerson_56 : decode cX5_ofPerson 56 = .ok (.iload_n 1, 1) := by decide +kernel
theorem dX5_ofPerson_57 : decode cX5_ofPerson 57 = .ok (.iaload, 1) := by decide +kernel
theorem dX5_ofPerson_58 : decode cX5_ofPerson 58 = .ok (.ireturn, 1) := by decide +kernel
theorem dX5_ofPerson_59 : decode cX5_ofPerson 59 = .ok (.aload_n 0, 1) := by decide +kernel
theorem dX5_ofPerson_60 : decode cX5_ofPerson 60 = .ok (.getfield 13, 3) := by decide +kernel
theorem dX5_ofPerson_63 : decode cX5_ofPerson 63 = .ok (.iload_n 1, 1) := by decide +kernel
theorem dX5_ofPerson_64 : decode cX5_ofPerson 64 = .ok (.iaload, 1) := by decide +kernel
theorem dX5_ofPerson_65 : decode cX5_ofPerson 65 = .ok (.ireturn, 1) := by decide +kernel
theorem dX5_ofPerson_66 : decode cX5_ofPerson 66 = .ok (.aload_n 0, 1) := by decide +kernel
theorem dX5_ofPerson_67 : decode cX5_ofPerson 67 = .ok (.getfield 16, 3) := by decide +kernel
theorem dX5_ofPerson_70 : decode cX5_ofPerson 70 = .ok (.iload_n 1, 1) := by decide +kernel
theorem dX5_ofPerson_71 : decode cX5_ofPerson 71 = .ok (.iaload, 1) := by decide +kernel
theorem dX5_ofPerson_72 : decode cX5_ofPerson 72 = .ok (.ireturn, 1) := by decide +kernel
theorem dX5_ofPerson_73 : decode cX5_ofPerson 73 = .ok (.aload_n 0, 1) := by decide +kernel
theorem dX5_ofPerson_74 : decode cX5_ofPerson 74 = .ok (.getfield 19, 3) := by decide +kernel
theorem dX5_ofPerson_77 : decode cX5_ofPerson 77 = .ok (.iload_n 1, 1) := by decide +kernel
theorem dX5_ofPerson_78 : decode cX5_ofPerson 78 = .ok (.iaload, 1) := by decide +kernel
theorem dX5_ofPerson_79 : decode cX5_ofPerson 79 = .ok (.ireturn, 1) := by decide +kernel
theorem dX5_ofPerson_80 : decode cX5_ofPerson 80 = .ok (.aload_n 0, 1) := by decide +kernel
theorem dX5_ofPerson_81 : decode cX5_ofPerson 81 = .ok (.iload_n 1, 1) := by decide +kernel
theorem dX5_ofPerson_82 : decode cX5_ofPerson 82 = .ok (.invokevirtual 156, 3) := by decide +kernel
theorem dX5_ofPerson_85 : decode cX5_ofPerson 85 = .ok (.ireturn, 1) := by decide +kernel
theorem dX5_ofPerson_86 : decode cX5_ofPerson 86 = .ok (.aload_n 0, 1) := by decide +kernel
theorem dX5_ofPerson_87 : decode cX5_ofPerson 87 = .ok (.iload_n 1, 1) := by decide +kernel
theorem dX5_ofPerson_88 : decode cX5_ofPerson 88 = .ok (.invokevirtual 159, 3) := by decide +kernel
theorem dX5_ofPerson_91 : decode cX5_ofPerson 91 = .ok (.ifCond .eq 7, 3) := by decide +kernel
theorem dX5_ofPerson_94 : decode cX5_ofPerson 94 = .ok (.iconst 1, 1) := by decide +kernel
theorem dX5_ofPerson_95 : decode cX5_ofPerson 95 = .ok (.goto 4, 3) := by decide +kernel
theorem dX5_ofPerson_98 : decode cX5_ofPerson 98 = .ok (.iconst 0, 1) := by decide +kernel
theorem dX5_ofPerson_99 : decode cX5_ofPerson 99 = .ok (.ireturn, 1) := by decide +kernel
theorem dX5_ofPerson_100 : decode cX5_ofPerson 100 = .ok (.aload_n 0, 1) := by decide +kernel
theorem dX5_ofPerson_101 : decode cX5_ofPerson 101 = .ok (.iload_n 1, 1) := by decide +kernel
theorem dX5_ofPerson_102 : decode cX5_ofPerson 102 = .ok (.invokevirtual 165, 3) := by decide +kernel
theorem dX5_ofPerson_105 : decode cX5_ofPerson 105 = .ok (.ireturn, 1) := by decide +kernel
theorem dX5_ofPerson_106 : decode cX5_ofPerson 106 = .ok (.bipush (-2), 2) := by decide +kernel
theorem dX5_ofPerson_108 : decode cX5_ofPerson 108 = .ok (.ireturn, 1) := by decide +kernel
theorem dX5_post_0 : decode cX5_post 0 = .ok (.aload_n 0, 1) := by decide +kernel
theorem dX5_post_1 : decode cX5_post 1 = .ok (.getfield 80, 3) := by decide +kernel
theorem dX5_post_4 : decode cX5_post 4 = .ok (.ifCond .ne 6, 3) := by decide +kernel
theorem dX5_post_7 : decode cX5_post 7 = .ok (.bipush (-3), 2) := by decide +kernel
theorem dX5_post_9 : decode cX5_post 9 = .ok (.ireturn, 1) := by decide +kernel
theorem dX5_post_10 : decode cX5_post 10 = .ok (.iload_n 1, 1) := by decide +kernel
theorem dX5_post_11 : decode cX5_post 11 = .ok (.i2l, 1) := by decide +kernel
theorem dX5_post_12 : decode cX5_post 12 = .ok (.lconst 0, 1) := by decide +kernel
theorem dX5_post_13 : decode cX5_post 13 = .ok (.ldc2_w 168, 3) := by decide +kernel
theorem dX5_post_16 : decode cX5_post 16 = .ok (.invokestatic 83, 3) := by decide +kernel
theorem dX5_post_19 : decode cX5_post 19 = .ok (.ifCond .ne 6, 3) := by decide +kernel
theorem dX5_post_22 : decode cX5_post 22 = .ok (.bipush (-2), 2) := by decide +kernel
theorem dX5_post_24 : decode cX5_post 24 = .ok (.ireturn, 1) := by decide +kernel
theorem dX5_post_25 : decode cX5_post 25 = .ok (.aload_n 0, 1) := by decide +kernel
theorem dX5_post_26 : decode cX5_post 26 = .ok (.getfield 135, 3) := by decide +kernel
theorem dX5_post_29 : decode cX5_post 29 = .ok (.istore_n 2, 1) := by decide +kernel
theorem dX5_post_30 : decode cX5_post 30 = .ok (.aload_n 0, 1) := by decide +kernel
theorem dX5_post_31 : decode cX5_post 31 = .ok (.iload_n 1, 1) := by decide +kernel
theorem dX5_post_32 : decode cX5_post 32 = .ok (.putfield 135, 3) := by decide +kernel
theorem dX5_post_35 : decode cX5_post 35 = .ok (.iload_n 2, 1) := by decide +kernel
theorem dX5_post_36 : decode cX5_post 36 = .ok (.ireturn, 1) := by decide +kernel
theorem dX5_lax_0 : decode cX5_lax 0 = .ok (.aload_n 0, 1) := by decide +kernel
theorem dX5_lax_1 : decode cX5_lax 1 = .ok (.getfield 80, 3) := by decide +kernel
theorem dX5_lax_4 : decode cX5_lax 4 = .ok (.ifCond .ne 6, 3) := by decide +kernel
theorem dX5_lax_7 : decode cX5_lax 7 = .ok (.bipush (-3), 2) := by decide +kernel
theorem dX5_lax_9 : decode cX5_lax 9 = .ok (.ireturn, 1) := by decide +kernel
theorem dX5_lax_10 : decode cX5_lax 10 = .ok (.iload_n 1, 1) := by decide +kernel
theorem dX5_lax_11 : decode cX5_lax 11 = .ok (.i2l, 1) := by decide +kernel
theorem dX5_lax_12 : decode cX5_lax 12 = .ok (.lconst 0, 1) := by decide +kernel
theorem dX5_lax_13 : decode cX5_lax 13 = .ok (.ldc2_w 170, 3) := by decide +kernel
theorem dX5_lax_16 : decode cX5_lax 16 = .ok (.invokestatic 83, 3) := by decide +kernel
theorem dX5_lax_19 : decode cX5_lax 19 = .ok (.ifCond .ne 6, 3) := by decide +kernel
theorem dX5_lax_22 : decode cX5_lax 22 = .ok (.bipush (-2), 2) := by decide +kernel
theorem dX5_lax_24 : decode cX5_lax 24 = .ok (.ireturn, 1) := by decide +kernel
theorem dX5_lax_25 : decode cX5_lax 25 = .ok (.aload_n 0, 1) := by decide +kernel
theorem dX5_lax_26 : decode cX5_lax 26 = .ok (.getfield 138, 3) := by decide +kernel
theorem dX5_lax_29 : decode cX5_lax 29 = .ok (.istore_n 2, 1) := by decide +kernel
theorem dX5_lax_30 : decode cX5_lax 30 = .ok (.aload_n 0, 1) := by decide +kernel
theorem dX5_lax_31 : decode cX5_lax 31 = .ok (.iload_n 1, 1) := by decide +kernel
theorem dX5_lax_32 : decode cX5_lax 32 = .ok (.putfield 138, 3) := by decide +kernel
theorem dX5_lax_35 : decode cX5_lax 35 = .ok (.iload_n 2, 1) := by decide +kernel
theorem dX5_lax_36 : decode cX5_lax 36 = .ok (.ireturn, 1) := by decide +kernel
theorem dX5_bathe_0 : decode cX5_bathe 0 = .ok (.aload_n 0, 1) := by decide +kernel
theorem dX5_bathe_1 : decode cX5_bathe 1 = .ok (.iload_n 1, 1) := by decide +kernel
theorem dX5_bathe_2 : decode cX5_bathe 2 = .ok (.invokevirtual 162, 3) := by decide +kernel
theorem dX5_bathe_5 : decode cX5_bathe 5 = .ok (.ifCond .eq 5, 3) := by decide +kernel
theorem dX5_bathe_8 : decode cX5_bathe 8 = .ok (.iconst (-1), 1) := by decide +kernel
theorem dX5_bathe_9 : decode cX5_bathe 9 = .ok (.ireturn, 1) := by decide +kernel
theorem dX5_bathe_10 : decode cX5_bathe 10 = .ok (.iload_n 2, 1) := by decide +kernel
theorem dX5_bathe_11 : decode cX5_bathe 11 = .ok (.i2l, 1) := by decide +kernel
theorem dX5_bathe_12 : decode cX5_bathe 12 = .ok (.lconst 0, 1) := by decide +kernel
theorem dX5_bathe_13 : decode cX5_bathe 13 = .ok (.ldc2_w 172, 3) := by decide +kernel
theorem dX5_bathe_16 : decode cX5_bathe 16 = .ok (.invokestatic 83, 3) := by decide +kernel
theorem dX5_bathe_19 : decode cX5_bathe 19 = .ok (.ifCond .ne 6, 3) := by decide +kernel
theorem dX5_bathe_22 : decode cX5_bathe 22 = .ok (.bipush (-2), 2) := by decide +kernel
theorem dX5_bathe_24 : decode cX5_bathe 24 = .ok (.ireturn, 1) := by decide +kernel
theorem dX5_bathe_25 : decode cX5_bathe 25 = .ok (.aload_n 0, 1) := by decide +kernel
theorem dX5_bathe_26 : decode cX5_bathe 26 = .ok (.getfield 13, 3) := by decide +kernel
theorem dX5_bathe_29 : decode cX5_bathe 29 = .ok (.iload_n 1, 1) := by decide +kernel
theorem dX5_bathe_30 : decode cX5_bathe 30 = .ok (.iaload, 1) := by decide +kernel
theorem dX5_bathe_31 : decode cX5_bathe 31 = .ok (.istore_n 3, 1) := by decide +kernel
theorem dX5_bathe_32 : decode cX5_bathe 32 = .ok (.aload_n 0, 1) := by decide +kernel
theorem dX5_bathe_33 : decode cX5_bathe 33 = .ok (.getfield 13, 3) := by decide +kernel
theorem dX5_bathe_36 : decode cX5_bathe 36 = .ok (.iload_n 1, 1) := by decide +kernel
theorem dX5_bathe_37 : decode cX5_bathe 37 = .ok (.iload_n 2, 1) := by decide +kernel
theorem dX5_bathe_38 : decode cX5_bathe 38 = .ok (.iastore, 1) := by decide +kernel
theorem dX5_bathe_39 : decode cX5_bathe 39 = .ok (.iload_n 3, 1) := by decide +kernel
theorem dX5_bathe_40 : decode cX5_bathe 40 = .ok (.ireturn, 1) := by decide +kernel
theorem dX5_moves_0 : decode cX5_moves 0 = .ok (.aload_n 0, 1) := by decide +kernel
theorem dX5_moves_1 : decode cX5_moves 1 = .ok (.iload_n 1, 1) := by decide +kernel
theorem dX5_moves_2 : decode cX5_moves 2 = .ok (.invokevirtual 162, 3) := by decide +kernel
theorem dX5_moves_5 : decode cX5_moves 5 = .ok (.ifCond .eq 5, 3) := by decide +kernel
theorem dX5_moves_8 : decode cX5_moves 8 = .ok (.iconst (-1), 1) := by decide +kernel
theorem dX5_moves_9 : decode cX5_moves 9 = .ok (.ireturn, 1) := by decide +kernel
theorem dX5_moves_10 : decode cX5_moves 10 = .ok (.iload_n 2, 1) := by decide +kernel
theorem dX5_moves_11 : decode cX5_moves 11 = .ok (.i2l, 1) := by decide +kernel
theorem dX5_moves_12 : decode cX5_moves 12 = .ok (.lconst 0, 1) := by decide +kernel
theorem dX5_moves_13 : decode cX5_moves 13 = .ok (.ldc2_w 168, 3) := by decide +kernel
theorem dX5_moves_16 : decode cX5_moves 16 = .ok (.invokestatic 83, 3) := by decide +kernel
theorem dX5_moves_19 : decode cX5_moves 19 = .ok (.ifCond .ne 6, 3) := by decide +kernel
theorem dX5_moves_22 : decode cX5_moves 22 = .ok (.bipush (-2), 2) := by decide +kernel
theorem dX5_moves_24 : decode cX5_moves 24 = .ok (.ireturn, 1) := by decide +kernel
theorem dX5_moves_25 : decode cX5_moves 25 = .ok (.aload_n 0, 1) := by decide +kernel
theorem dX5_moves_26 : decode cX5_moves 26 = .ok (.getfield 19, 3) := by decide +kernel
theorem dX5_moves_29 : decode cX5_moves 29 = .ok (.iload_n 1, 1) := by decide +kernel
theorem dX5_moves_30 : decode cX5_moves 30 = .ok (.iaload, 1) := by decide +kernel
theorem dX5_moves_31 : decode cX5_moves 31 = .ok (.istore_n 3, 1) := by decide +kernel
theorem dX5_moves_32 : decode cX5_moves 32 = .ok (.aload_n 0, 1) := by decide +kernel
theorem dX5_moves_33 : decode cX5_moves 33 = .ok (.getfield 19, 3) := by decide +kernel
theorem dX5_moves_36 : decode cX5_moves 36 = .ok (.iload_n 1, 1) := by decide +kernel
theorem dX5_moves_37 : decode cX5_moves 37 = .ok (.iload_n 2, 1) := by decide +kernel
theorem dX5_moves_38 : decode cX5_moves 38 = .ok (.iastore, 1) := by decide +kernel
theorem dX5_moves_39 : decode cX5_moves 39 = .ok (.iload_n 3, 1) := by decide +kernel
theorem dX5_moves_40 : decode cX5_moves 40 = .ok (.ireturn, 1) := by decide +kernel
theorem dX5_sent_0 : decode cX5_sent 0 = .ok (.aload_n 0, 1) := by decide +kernel
theorem dX5_sent_1 : decode cX5_sent 1 = .ok (.iload_n 1, 1) := by decide +kernel
theorem dX5_sent_2 : decode cX5_sent 2 = .ok (.invokevirtual 165, 3) := by decide +kernel
theorem dX5_sent_5 : decode cX5_sent 5 = .ok (.istore_n 2, 1) := by decide +kernel
theorem dX5_sent_6 : decode cX5_sent 6 = .ok (.iload_n 2, 1) := by decide +kernel
theorem dX5_sent_7 : decode cX5_sent 7 = .ok (.ifCond .lt 15, 3) := by decide +kernel
theorem dX5_sent_10 : decode cX5_sent 10 = .ok (.aload_n 0, 1) := by decide +kernel
theorem dX5_sent_11 : decode cX5_sent 11 = .ok (.getfield 16, 3) := by decide +kernel
theorem dX5_sent_14 : decode cX5_sent 14 = .ok (.iload_n 2, 1) := by decide +kernel
theorem dX5_sent_15 : decode cX5_sent 15 = .ok (.aload_n 0, 1) := by decide +kernel
theorem dX5_sent_16 : decode cX5_sent 16 = .ok (.getfield 13, 3) := by decide +kernel
theorem dX5_sent_19 : decode cX5_sent 19 = .ok (.iload_n 2, 1) := by decide +kernel
theorem dX5_sent_20 : decode cX5_sent 20 = .ok (.iaload, 1) := by decide +kernel
theorem dX5_sent_21 : decode cX5_sent 21 = .ok (.iastore, 1) := by decide +kernel
theorem dX5_sent_22 : decode cX5_sent 22 = .ok (.iload_n 2, 1) := by decide +kernel
theorem dX5_sent_23 : decode cX5_sent 23 = .ok (.ireturn, 1) := by decide +kernel
theorem dX5_send_0 : decode cX5_send 0 = .ok (.aload_n 0, 1) := by decide +kernel
theorem dX5_send_1 : decode cX5_send 1 = .ok (.iload_n 1, 1) := by decide +kernel
theorem dX5_send_2 : decode cX5_send 2 = .ok (.invokevirtual 162, 3) := by decide +kernel
theorem dX5_send_5 : decode cX5_send 5 = .ok (.ifCond .eq 5, 3) := by decide +kernel
theorem dX5_send_8 : decode cX5_send 8 = .ok (.iconst (-1), 1) := by decide +kernel
theorem dX5_send_9 : decode cX5_send 9 = .ok (.ireturn, 1) := by decide +kernel
theorem dX5_send_10 : decode cX5_send 10 = .ok (.aload_n 0, 1) := by decide +kernel
theorem dX5_send_11 : decode cX5_send 11 = .ok (.dup, 1) := by decide +kernel
theorem dX5_send_12 : decode cX5_send 12 = .ok (.getfield 141, 3) := by decide +kernel
theorem dX5_send_15 : decode cX5_send 15 = .ok (.iconst 1, 1) := by decide +kernel
theorem dX5_send_16 : decode cX5_send 16 = .ok (.iadd, 1) := by decide +kernel
theorem dX5_send_17 : decode cX5_send 17 = .ok (.putfield 141, 3) := by decide +kernel
theorem dX5_send_20 : decode cX5_send 20 = .ok (.aload_n 0, 1) := by decide +kernel
theorem dX5_send_21 : decode cX5_send 21 = .ok (.iload_n 1, 1) := by decide +kernel
theorem dX5_send_22 : decode cX5_send 22 = .ok (.invokevirtual 174, 3) := by decide +kernel
theorem dX5_send_25 : decode cX5_send 25 = .ok (.ireturn, 1) := by decide +kernel
theorem dX5_comes_0 : decode cX5_comes 0 = .ok (.aload_n 0, 1) := by decide +kernel
theorem dX5_comes_1 : decode cX5_comes 1 = .ok (.getfield 80, 3) := by decide +kernel
theorem dX5_comes_4 : decode cX5_comes 4 = .ok (.ifCond .ne 6, 3) := by decide +kernel
theorem dX5_comes_7 : decode cX5_comes 7 = .ok (.bipush (-3), 2) := by decide +kernel
theorem dX5_comes_9 : decode cX5_comes 9 = .ok (.ireturn, 1) := by decide +kernel
theorem dX5_comes_10 : decode cX5_comes 10 = .ok (.iload_n 1, 1) := by decide +kernel
theorem dX5_comes_11 : decode cX5_comes 11 = .ok (.i2l, 1) := by decide +kernel
theorem dX5_comes_12 : decode cX5_comes 12 = .ok (.lconst 0, 1) := by decide +kernel
theorem dX5_comes_13 : decode cX5_comes 13 = .ok (.lconst 1, 1) := by decide +kernel
theorem dX5_comes_14 : decode cX5_comes 14 = .ok (.invokestatic 83, 3) := by decide +kernel
theorem dX5_comes_17 : decode cX5_comes 17 = .ok (.ifCond .ne 6, 3) := by decide +kernel
theorem dX5_comes_20 : decode cX5_comes 20 = .ok (.bipush (-2), 2) := by decide +kernel
theorem dX5_comes_22 : decode cX5_comes 22 = .ok (.ireturn, 1) := by decide +kernel
theorem dX5_comes_23 : decode cX5_comes 23 = .ok (.iconst 0, 1) := by decide +kernel
theorem dX5_comes_24 : decode cX5_comes 24 = .ok (.istore_n 2, 1) := by decide +kernel
theorem dX5_comes_25 : decode cX5_comes 25 = .ok (.iconst 0, 1) := by decide +kernel
theorem dX5_comes_26 : decode cX5_comes 26 = .ok (.istore_n 3, 1) := by decide +kernel
theorem dX5_comes_27 : decode cX5_comes 27 = .ok (.iconst 0, 1) := by decide +kernel
theorem dX5_comes_28 : decode cX5_comes 28 = .ok (.istore 4, 2) := by decide +kernel
theorem dX5_comes_30 : decode cX5_comes 30 = .ok (.iload 4, 2) := by decide +kernel
theorem dX5_comes_32 : decode cX5_comes 32 = .ok (.aload_n 0, 1) := by decide +kernel
theorem dX5_comes_33 : decode cX5_comes 33 = .ok (.getfield 80, 3) := by decide +kernel
theorem dX5_comes_36 : decode cX5_comes 36 = .ok (.if_icmp .ge 51, 3) := by decide +kernel
theorem dX5_comes_39 : decode cX5_comes 39 = .ok (.aload_n 0, 1) := by decide +kernel
theorem dX5_comes_40 : decode cX5_comes 40 = .ok (.iload 4, 2) := by decide +kernel
theorem dX5_comes_42 : decode cX5_comes 42 = .ok (.invokevirtual 165, 3) := by decide +kernel
theorem dX5_comes_45 : decode cX5_comes 45 = .ok (.istore 5, 2) := by decide +kernel
theorem dX5_comes_47 : decode cX5_comes 47 = .ok (.iload_n 2, 1) := by decide +kernel
theorem dX5_comes_48 : decode cX5_comes 48 = .ok (.iload 5, 2) := by decide +kernel
theorem dX5_comes_50 : decode cX5_comes 50 = .ok (.iload 4, 2) := by decide +kernel
theorem dX5_comes_52 : decode cX5_comes 52 = .ok (.if_icmp .ne 10, 3) := by decide +kernel
theorem dX5_comes_55 : decode cX5_comes 55 = .ok (.iconst 1, 1) := by decide +kernel
theorem dX5_comes_56 : decode cX5_comes 56 = .ok (.iload 4, 2) := by decide +kernel
theorem dX5_comes_58 : decode cX5_comes 58 = .ok (.ishl, 1) := by decide +kernel
theorem dX5_comes_59 : decode cX5_comes 59 = .ok (.goto 4, 3) := by decide +kernel
theorem dX5_comes_62 : decode cX5_comes 62 = .ok (.iconst 0, 1) := by decide +kernel
theorem dX5_comes_63 : decode cX5_comes 63 = .ok (.ior, 1) := by decide +kernel
theorem dX5_comes_64 : decode cX5_comes 64 = .ok (.istore_n 2, 1) := by decide +kernel
theorem dX5_comes_65 : decode cX5_comes 65 = .ok (.iload_n 3, 1) := by decide +kernel
theorem dX5_comes_66 : decode cX5_comes 66 = .ok (.iload 5, 2) := by decide +kernel
theorem dX5_comes_68 : decode cX5_comes 68 = .ok (.ifCond .ge 7, 3) := by decide +kernel
theorem dX5_comes_71 : decode cX5_comes 71 = .ok (.iconst 0, 1) := by decide +kernel
theorem dX5_comes_72 : decode cX5_comes 72 = .ok (.goto 7, 3) := by decide +kernel
theorem dX5_comes_75 : decode cX5_comes 75 = .ok (.iconst 1, 1) := by decide +kernel
theorem dX5_comes_76 : decode cX5_comes 76 = .ok (.iload 5, 2) := by decide +kernel
theorem dX5_comes_78 : decode cX5_comes 78 = .ok (.ishl, 1) := by decide +kernel
theorem dX5_comes_79 : decode cX5_comes 79 = .ok (.ior, 1) := by decide +kernel
theorem dX5_comes_80 : decode cX5_comes 80 = .ok (.istore_n 3, 1) := by decide +kernel
theorem dX5_comes_81 : decode cX5_comes 81 = .ok (.iinc 4 1, 3) := by decide +kernel
theorem dX5_comes_84 : decode cX5_comes 84 = .ok (.goto (-54), 3) := by decide +kernel
theorem dX5_comes_87 : decode cX5_comes 87 = .ok (.iload_n 1, 1) := by decide +kernel
theorem dX5_comes_88 : decode cX5_comes 88 = .ok (.ifCond .ne 7, 3) := by decide +kernel
theorem dX5_comes_91 : decode cX5_comes 91 = .ok (.iload_n 2, 1) := by decide +kernel
theorem dX5_comes_92 : decode cX5_comes 92 = .ok (.goto 4, 3) := by decide +kernel
theorem dX5_comes_95 : decode cX5_comes 95 = .ok (.iload_n 3, 1) := by decide +kernel
theorem dX5_comes_96 : decode cX5_comes 96 = .ok (.ireturn, 1) := by decide +kernel
theorem dX5_keepAll_0 : decode cX5_keepAll 0 = .ok (.iconst 0, 1) := by decide +kernel
theorem dX5_keepAll_1 : decode cX5_keepAll 1 = .ok (.istore_n 1, 1) := by decide +kernel
theorem dX5_keepAll_2 : decode cX5_keepAll 2 = .ok (.iload_n 1, 1) := by decide +kernel
theorem dX5_keepAll_3 : decode cX5_keepAll 3 = .ok (.aload_n 0, 1) := by decide +kernel
theorem dX5_keepAll_4 : decode cX5_keepAll 4 = .ok (.getfield 80, 3) := by decide +kernel
theorem dX5_keepAll_7 : decode cX5_keepAll 7 = .ok (.if_icmp .ge 45, 3) := by decide +kernel
theorem dX5_keepAll_10 : decode cX5_keepAll 10 = .ok (.aload_n 0, 1) := by decide +kernel
theorem dX5_keepAll_11 : decode cX5_keepAll 11 = .ok (.getfield 34, 3) := by decide +kernel
theorem dX5_keepAll_14 : decode cX5_keepAll 14 = .ok (.iload_n 1, 1) := by decide +kernel
theorem dX5_keepAll_15 : decode cX5_keepAll 15 = .ok (.aload_n 0, 1) := by decide +kernel
theorem dX5_keepAll_16 : decode cX5_keepAll 16 = .ok (.getfield 13, 3) := by decide +kernel
theorem dX5_keepAll_19 : decode cX5_keepAll 19 = .ok (.iload_n 1, 1) := by decide +kernel
theorem dX5_keepAll_20 : decode cX5_keepAll 20 = .ok (.iaload, 1) := by decide +kernel
theorem dX5_keepAll_21 : decode cX5_keepAll 21 = .ok (.iastore, 1) := by decide +kernel
theorem dX5_keepAll_22 : decode cX5_keepAll 22 = .ok (.aload_n 0, 1) := by decide +kernel
theorem dX5_keepAll_23 : decode cX5_keepAll 23 = .ok (.getfield 37, 3) := by decide +kernel
theorem dX5_keepAll_26 : decode cX5_keepAll 26 = .ok (.iload_n 1, 1) := by decide +kernel
theorem dX5_keepAll_27 : decode cX5_keepAll 27 = .ok (.aload_n 0, 1) := by decide +kernel
theorem dX5_keepAll_28 : decode cX5_keepAll 28 = .ok (.getfield 16, 3) := by decide +kernel
theorem dX5_keepAll_31 : decode cX5_keepAll 31 = .ok (.iload_n 1, 1) := by decide +kernel
theorem dX5_keepAll_32 : decode cX5_keepAll 32 = .ok (.iaload, 1) := by decide +kernel
theorem dX5_keepAll_33 : decode cX5_keepAll 33 = .ok (.iastore, 1) := by decide +kernel
theorem dX5_keepAll_34 : decode cX5_keepAll 34 = .ok (.aload_n 0, 1) := by decide +kernel
theorem dX5_keepAll_35 : decode cX5_keepAll 35 = .ok (.getfield 40, 3) := by decide +kernel
theorem dX5_keepAll_38 : decode cX5_keepAll 38 = .ok (.iload_n 1, 1) := by decide +kernel
theorem dX5_keepAll_39 : decode cX5_keepAll 39 = .ok (.aload_n 0, 1) := by decide +kernel
theorem dX5_keepAll_40 : decode cX5_keepAll 40 = .ok (.getfield 19, 3) := by decide +kernel
theorem dX5_keepAll_43 : decode cX5_keepAll 43 = .ok (.iload_n 1, 1) := by decide +kernel
theorem dX5_keepAll_44 : decode cX5_keepAll 44 = .ok (.iaload, 1) := by decide +kernel
theorem dX5_keepAll_45 : decode cX5_keepAll 45 = .ok (.iastore, 1) := by decide +kernel
theorem dX5_keepAll_46 : decode cX5_keepAll 46 = .ok (.iinc 1 1, 3) := by decide +kernel
theorem dX5_keepAll_49 : decode cX5_keepAll 49 = .ok (.goto (-47), 3) := by decide +kernel
theorem dX5_keepAll_52 : decode cX5_keepAll 52 = .ok (.return_, 1) := by decide +kernel
theorem dX5_bringBack_0 : decode cX5_bringBack 0 = .ok (.iconst 0, 1) := by decide +kernel
theorem dX5_bringBack_1 : decode cX5_bringBack 1 = .ok (.istore_n 1, 1) := by decide +kernel
theorem dX5_bringBack_2 : decode cX5_bringBack 2 = .ok (.iload_n 1, 1) := by decide +kernel
theorem dX5_bringBack_3 : decode cX5_bringBack 3 = .ok (.aload_n 0, 1) := by decide +kernel
theorem dX5_bringBack_4 : decode cX5_bringBack 4 = .ok (.getfield 80, 3) := by decide +kernel
theorem dX5_bringBack_7 : decode cX5_bringBack 7 = .ok (.if_icmp .ge 45, 3) := by decide +kernel
theorem dX5_bringBack_10 : decode cX5_bringBack 10 = .ok (.aload_n 0, 1) := by decide +kernel
theorem dX5_bringBack_11 : decode cX5_bringBack 11 = .ok (.getfield 13, 3) := by decide +kernel
theorem dX5_bringBack_14 : decode cX5_bringBack 14 = .ok (.iload_n 1, 1) := by decide +kernel
theorem dX5_bringBack_15 : decode cX5_bringBack 15 = .ok (.aload_n 0, 1) := by decide +kernel
theorem dX5_bringBack_16 : decode cX5_bringBack 16 = .ok (.getfield 34, 3) := by decide +kernel
theorem dX5_bringBack_19 : decode cX5_bringBack 19 = .ok (.iload_n 1, 1) := by decide +kernel
theorem dX5_bringBack_20 : decode cX5_bringBack 20 = .ok (.iaload, 1) := by decide +kernel
theorem dX5_bringBack_21 : decode cX5_bringBack 21 = .ok (.iastore, 1) := by decide +kernel
theorem dX5_bringBack_22 : decode cX5_bringBack 22 = .ok (.aload_n 0, 1) := by decide +kernel
theorem dX5_bringBack_23 : decode cX5_bringBack 23 = .ok (.getfield 16, 3) := by decide +kernel
theorem dX5_bringBack_26 : decode cX5_bringBack 26 = .ok (.iload_n 1, 1) := by decide +kernel
theorem dX5_bringBack_27 : decode cX5_bringBack 27 = .ok (.aload_n 0, 1) := by decide +kernel
theorem dX5_bringBack_28 : decode cX5_bringBack 28 = .ok (.getfield 37, 3) := by decide +kernel
theorem dX5_bringBack_31 : decode cX5_bringBack 31 = .ok (.iload_n 1, 1) := by decide +kernel
theorem dX5_bringBack_32 : decode cX5_bringBack 32 = .ok (.iaload, 1) := by decide +kernel
theorem dX5_bringBack_33 : decode cX5_bringBack 33 = .ok (.iastore, 1) := by decide +kernel
theorem dX5_bringBack_34 : decode cX5_bringBack 34 = .ok (.aload_n 0, 1) := by decide +kernel
theorem dX5_bringBack_35 : decode cX5_bringBack 35 = .ok (.getfield 19, 3) := by decide +kernel
theorem dX5_bringBack_38 : decode cX5_bringBack 38 = .ok (.iload_n 1, 1) := by decide +kernel
theorem dX5_bringBack_39 : decode cX5_bringBack 39 = .ok (.aload_n 0, 1) := by decide +kernel
theorem dX5_bringBack_40 : decode cX5_bringBack 40 = .ok (.getfield 40, 3) := by decide +kernel
theorem dX5_bringBack_43 : decode cX5_bringBack 43 = .ok (.iload_n 1, 1) := by decide +kernel
theorem dX5_bringBack_44 : decode cX5_bringBack 44 = .ok (.iaload, 1) := by decide +kernel
theorem dX5_bringBack_45 : decode cX5_bringBack 45 = .ok (.iastore, 1) := by decide +kernel
theorem dX5_bringBack_46 : decode cX5_bringBack 46 = .ok (.iinc 1 1, 3) := by decide +kernel
theorem dX5_bringBack_49 : decode cX5_bringBack 49 = .ok (.goto (-47), 3) := by decide +kernel
theorem dX5_bringBack_52 : decode cX5_bringBack 52 = .ok (.return_, 1) := by decide +kernel
theorem dX5_pairsBarred_0 : decode cX5_pairsBarred 0 = .ok (.iconst 0, 1) := by decide +kernel
theorem dX5_pairsBarred_1 : decode cX5_pairsBarred 1 = .ok (.istore_n 3, 1) := by decide +kernel
theorem dX5_pairsBarred_2 : decode cX5_pairsBarred 2 = .ok (.iload_n 3, 1) := by decide +kernel
theorem dX5_pairsBarred_3 : decode cX5_pairsBarred 3 = .ok (.iload_n 2, 1) := by decide +kernel
theorem dX5_pairsBarred_4 : decode cX5_pairsBarred 4 = .ok (.if_icmp .ge 73, 3) := by decide +kernel
theorem dX5_pairsBarred_7 : decode cX5_pairsBarred 7 = .ok (.aload_n 0, 1) := by decide +kernel
theorem dX5_pairsBarred_8 : decode cX5_pairsBarred 8 = .ok (.getfield 64, 3) := by decide +kernel
theorem dX5_pairsBarred_11 : decode cX5_pairsBarred 11 = .ok (.iload_n 1, 1) := by decide +kernel
theorem dX5_pairsBarred_12 : decode cX5_pairsBarred 12 = .ok (.iconst 2, 1) := by decide +kernel
theorem dX5_pairsBarred_13 : decode cX5_pairsBarred 13 = .ok (.iload_n 3, 1) := by decide +kernel
theorem dX5_pairsBarred_14 : decode cX5_pairsBarred 14 = .ok (.imul, 1) := by decide +kernel
theorem dX5_pairsBarred_15 : decode cX5_pairsBarred 15 = .ok (.iadd, 1) := by decide +kernel
theorem dX5_pairsBarred_16 : decode cX5_pairsBarred 16 = .ok (.iconst 1, 1) := by decide +kernel
theorem dX5_pairsBarred_17 : decode cX5_pairsBarred 17 = .ok (.iadd, 1) := by decide +kernel
theorem dX5_pairsBarred_18 : decode cX5_pairsBarred 18 = .ok (.iaload, 1) := by decide +kernel
theorem dX5_pairsBarred_19 : decode cX5_pairsBarred 19 = .ok (.istore 4, 2) := by decide +kernel
theorem dX5_pairsBarred_21 : decode cX5_pairsBarred 21 = .ok (.iload 4, 2) := by decide +kernel
theorem dX5_pairsBarred_23 : decode cX5_pairsBarred 23 = .ok (.i2l, 1) := by decide +kernel
theorem dX5_pairsBarred_24 : decode cX5_pairsBarred 24 = .ok (.lconst 0, 1) := by decide +kernel
theorem dX5_pairsBarred_25 : decode cX5_pairsBarred 25 = .ok (.ldc2_w 177, 3) := by decide +kernel
theorem dX5_pairsBarred_28 : decode cX5_pairsBarred 28 = .ok (.invokestatic 83, 3) := by decide +kernel
theorem dX5_pairsBarred_31 : decode cX5_pairsBarred 31 = .ok (.ifCond .ne 21, 3) := by decide +kernel
theorem dX5_pairsBarred_34 : decode cX5_pairsBarred 34 = .ok (.iload 4, 2) := by decide +kernel
theorem dX5_pairsBarred_36 : decode cX5_pairsBarred 36 = .ok (.i2l, 1) := by decide +kernel
theorem dX5_pairsBarred_37 : decode cX5_pairsBarred 37 = .ok (.ldc2_w 179, 3) := by decide +kernel
theorem dX5_pairsBarred_40 : decode cX5_pairsBarred 40 = .ok (.ldc2_w 181, 3) := by decide +kernel
theorem dX5_pairsBarred_43 : decode cX5_pairsBarred 43 = .ok (.invokestatic 83, 3) := by decide +kernel
theorem dX5_pairsBarred_46 : decode cX5_pairsBarred 46 = .ok (.ifCond .ne 6, 3) := by decide +kernel
theorem dX5_pairsBarred_49 : decode cX5_pairsBarred 49 = .ok (.bipush (-2), 2) := by decide +kernel
theorem dX5_pairsBarred_51 : decode cX5_pairsBarred 51 = .ok (.ireturn, 1) := by decide +kernel
theorem dX5_pairsBarred_52 : decode cX5_pairsBarred 52 = .ok (.aload_n 0, 1) := by decide +kernel
theorem dX5_pairsBarred_53 : decode cX5_pairsBarred 53 = .ok (.aload_n 0, 1) := by decide +kernel
theorem dX5_pairsBarred_54 : decode cX5_pairsBarred 54 = .ok (.getfield 64, 3) := by decide +kernel
theorem dX5_pairsBarred_57 : decode cX5_pairsBarred 57 = .ok (.iload_n 1, 1) := by decide +kernel
theorem dX5_pairsBarred_58 : decode cX5_pairsBarred 58 = .ok (.iconst 2, 1) := by decide +kernel
theorem dX5_pairsBarred_59 : decode cX5_pairsBarred 59 = .ok (.iload_n 3, 1) := by decide +kernel
theorem dX5_pairsBarred_60 : decode cX5_pairsBarred 60 = .ok (.imul, 1) := by decide +kernel
theorem dX5_pairsBarred_61 : decode cX5_pairsBarred 61 = .ok (.iadd, 1) := by decide +kernel
theorem dX5_pairsBarred_62 : decode cX5_pairsBarred 62 = .ok (.iaload, 1) := by decide +kernel
theorem dX5_pairsBarred_63 : decode cX5_pairsBarred 63 = .ok (.invokevirtual 162, 3) := by decide +kernel
theorem dX5_pairsBarred_66 : decode cX5_pairsBarred 66 = .ok (.ifCond .eq 5, 3) := by decide +kernel
theorem dX5_pairsBarred_69 : decode cX5_pairsBarred 69 = .ok (.iconst (-1), 1) := by decide +kernel
theorem dX5_pairsBarred_70 : decode cX5_pairsBarred 70 = .ok (.ireturn, 1) := by decide +kernel
theorem dX5_pairsBarred_71 : decode cX5_pairsBarred 71 = .ok (.iinc 3 1, 3) := by decide +kernel
theorem dX5_pairsBarred_74 : decode cX5_pairsBarred 74 = .ok (.goto (-72), 3) := by decide +kernel
theorem dX5_pairsBarred_77 : decode cX5_pairsBarred 77 = .ok (.iconst 0, 1) := by decide +kernel
theorem dX5_pairsBarred_78 : decode cX5_pairsBarred 78 = .ok (.ireturn, 1) := by decide +kernel
theorem dX5_roundBy_0 : decode cX5_roundBy 0 = .ok (.iconst 0, 1) := by decide +kernel
theorem dX5_roundBy_1 : decode cX5_roundBy 1 = .ok (.istore 4, 2) := by decide +kernel
theorem dX5_roundBy_3 : decode cX5_roundBy 3 = .ok (.bipush (-9), 2) := by decide +kernel
theorem dX5_roundBy_5 : decode cX5_roundBy 5 = .ok (.istore 5, 2) := by decide +kernel
theorem dX5_roundBy_7 : decode cX5_roundBy 7 = .ok (.iconst 0, 1) := by decide +kernel
theorem dX5_roundBy_8 : decode cX5_roundBy 8 = .ok (.istore 6, 2) := by decide +kernel
theorem dX5_roundBy_10 : decode cX5_roundBy 10 = .ok (.iconst 0, 1) := by decide +kernel
theorem dX5_roundBy_11 : decode cX5_roundBy 11 = .ok (.istore 7, 2) := by decide +kernel
theorem dX5_roundBy_13 : decode cX5_roundBy 13 = .ok (.iconst 0, 1) := by decide +kernel
theorem dX5_roundBy_14 : decode cX5_roundBy 14 = .ok (.istore 8, 2) := by decide +kernel
theorem dX5_roundBy_16 : decode cX5_roundBy 16 = .ok (.iload 8, 2) := by decide +kernel
theorem dX5_roundBy_18 : decode cX5_roundBy 18 = .ok (.iload_n 2, 1) := by decide +kernel
theorem dX5_roundBy_19 : decode cX5_roundBy 19 = .ok (.if_icmp .ge 157, 3) := by decide +kernel
theorem dX5_roundBy_22 : decode cX5_roundBy 22 = .ok (.aload_n 0, 1) := by decide +kernel
theorem dX5_roundBy_23 : decode cX5_roundBy 23 = .ok (.getfield 64, 3) := by decide +kernel
theorem dX5_roundBy_26 : decode cX5_roundBy 26 = .ok (.iload_n 1, 1) := by decide +kernel
theorem dX5_roundBy_27 : decode cX5_roundBy 27 = .ok (.iconst 2, 1) := by decide +kernel
theorem dX5_roundBy_28 : decode cX5_roundBy 28 = .ok (.iload 8, 2) := by decide +kernel
theorem dX5_roundBy_30 : decode cX5_roundBy 30 = .ok (.imul, 1) := by decide +kernel
theorem dX5_roundBy_31 : decode cX5_roundBy 31 = .ok (.iadd, 1) := by decide +kernel
theorem dX5_roundBy_32 : decode cX5_roundBy 32 = .ok (.iaload, 1) := by decide +kernel
theorem dX5_roundBy_33 : decode cX5_roundBy 33 = .ok (.istore 9, 2) := by decide +kernel
theorem dX5_roundBy_35 : decode cX5_roundBy 35 = .ok (.aload_n 0, 1) := by decide +kernel
theorem dX5_roundBy_36 : decode cX5_roundBy 36 = .ok (.getfield 64, 3) := by decide +kernel
theorem dX5_roundBy_39 : decode cX5_roundBy 39 = .ok (.iload_n 1, 1) := by decide +kernel
theorem dX5_roundBy_40 : decode cX5_roundBy 40 = .ok (.iconst 2, 1) := by decide +kernel
theorem dX5_roundBy_41 : decode cX5_roundBy 41 = .ok (.iload 8, 2) := by decide +kernel
theorem dX5_roundBy_43 : decode cX5_roundBy 43 = .ok (.imul, 1) := by decide +kernel
theorem dX5_roundBy_44 : decode cX5_roundBy 44 = .ok (.iadd, 1) := by decide +kernel
theorem dX5_roundBy_45 : decode cX5_roundBy 45 = .ok (.iconst 1, 1) := by decide +kernel
theorem dX5_roundBy_46 : decode cX5_roundBy 46 = .ok (.iadd, 1) := by decide +kernel
theorem dX5_roundBy_47 : decode cX5_roundBy 47 = .ok (.iaload, 1) := by decide +kernel
theorem dX5_roundBy_48 : decode cX5_roundBy 48 = .ok (.istore 10, 2) := by decide +kernel
theorem dX5_roundBy_50 : decode cX5_roundBy 50 = .ok (.iload 10, 2) := by decide +kernel
theorem dX5_roundBy_52 : decode cX5_roundBy 52 = .ok (.bipush 8, 2) := by decide +kernel
theorem dX5_roundBy_54 : decode cX5_roundBy 54 = .ok (.if_icmp .ne 85, 3) := by decide +kernel
theorem dX5_roundBy_57 : decode cX5_roundBy 57 = .ok (.aload_n 0, 1) := by decide +kernel
theorem dX5_roundBy_58 : decode cX5_roundBy 58 = .ok (.iload 9, 2) := by decide +kernel
theorem dX5_roundBy_60 : decode cX5_roundBy 60 = .ok (.invokevirtual 174, 3) := by decide +kernel
theorem dX5_roundBy_63 : decode cX5_roundBy 63 = .ok (.istore 11, 2) := by decide +kernel
theorem dX5_roundBy_65 : decode cX5_roundBy 65 = .ok (.iload 4, 2) := by decide +kernel
theorem dX5_roundBy_67 : decode cX5_roundBy 67 = .ok (.iload 11, 2) := by decide +kernel
theorem dX5_roundBy_69 : decode cX5_roundBy 69 = .ok (.iload 9, 2) := by decide +kernel
theorem dX5_roundBy_71 : decode cX5_roundBy 71 = .ok (.if_icmp .ne 7, 3) := by decide +kernel
theorem dX5_roundBy_74 : decode cX5_roundBy 74 = .ok (.iconst 1, 1) := by decide +kernel
theorem dX5_roundBy_75 : decode cX5_roundBy 75 = .ok (.goto 4, 3) := by decide +kernel
theorem dX5_roundBy_78 : decode cX5_roundBy 78 = .ok (.iconst 0, 1) := by decide +kernel
theorem dX5_roundBy_79 : decode cX5_roundBy 79 = .ok (.iadd, 1) := by decide +kernel
theorem dX5_roundBy_80 : decode cX5_roundBy 80 = .ok (.istore 4, 2) := by decide +kernel
theorem dX5_roundBy_82 : decode cX5_roundBy 82 = .ok (.iload 5, 2) := by decide +kernel
theorem dX5_roundBy_84 : decode cX5_roundBy 84 = .ok (.ifCond .ge 15, 3) := by decide +kernel
theorem dX5_roundBy_87 : decode cX5_roundBy 87 = .ok (.iload 11, 2) := by decide +kernel
theorem dX5_roundBy_89 : decode cX5_roundBy 89 = .ok (.iload 9, 2) := by decide +kernel
theorem dX5_roundBy_91 : decode cX5_roundBy 91 = .ok (.if_icmp .eq 8, 3) := by decide +kernel
theorem dX5_roundBy_94 : decode cX5_roundBy 94 = .ok (.iload 8, 2) := by decide +kernel
theorem dX5_roundBy_96 : decode cX5_roundBy 96 = .ok (.goto 5, 3) := by decide +kernel
theorem dX5_roundBy_99 : decode cX5_roundBy 99 = .ok (.iload 5, 2) := by decide +kernel
theorem dX5_roundBy_101 : decode cX5_roundBy 101 = .ok (.istore 5, 2) := by decide +kernel
theorem dX5_roundBy_103 : decode cX5_roundBy 103 = .ok (.iload 6, 2) := by decide +kernel
theorem dX5_roundBy_105 : decode cX5_roundBy 105 = .ok (.iload 11, 2) := by decide +kernel
theorem dX5_roundBy_107 : decode cX5_roundBy 107 = .ok (.ifCond .ge 7, 3) := by decide +kernel
theorem dX5_roundBy_110 : decode cX5_roundBy 110 = .ok (.iconst 0, 1) := by decide +kernel
theorem dX5_roundBy_111 : decode cX5_roundBy 111 = .ok (.goto 7, 3) := by decide +kernel
theorem dX5_roundBy_114 : decode cX5_roundBy 114 = .ok (.iconst 1, 1) := by decide +kernel
theorem dX5_roundBy_115 : decode cX5_roundBy 115 = .ok (.iload 11, 2) := by decide +kernel
theorem dX5_roundBy_117 : decode cX5_roundBy 117 = .ok (.ishl, 1) := by decide +kernel
theorem dX5_roundBy_118 : decode cX5_roundBy 118 = .ok (.ior, 1) := by decide +kernel
theorem dX5_roundBy_119 : decode cX5_roundBy 119 = .ok (.istore 6, 2) := by decide +kernel
theorem dX5_roundBy_121 : decode cX5_roundBy 121 = .ok (.iload 7, 2) := by decide +kernel
theorem dX5_roundBy_123 : decode cX5_roundBy 123 = .ok (.iload 11, 2) := by decide +kernel
theorem dX5_roundBy_125 : decode cX5_roundBy 125 = .ok (.ifCond .ge 7, 3) := by decide +kernel
theorem dX5_roundBy_128 : decode cX5_roundBy 128 = .ok (.iconst 1, 1) := by decide +kernel
theorem dX5_roundBy_129 : decode cX5_roundBy 129 = .ok (.goto 4, 3) := by decide +kernel
theorem dX5_roundBy_132 : decode cX5_roundBy 132 = .ok (.iconst 0, 1) := by decide +kernel
theorem dX5_roundBy_133 : decode cX5_roundBy 133 = .ok (.iadd, 1) := by decide +kernel
theorem dX5_roundBy_134 : decode cX5_roundBy 134 = .ok (.istore 7, 2) := by decide +kernel
theorem dX5_roundBy_136 : decode cX5_roundBy 136 = .ok (.goto 34, 3) := by decide +kernel
theorem dX5_roundBy_139 : decode cX5_roundBy 139 = .ok (.iload 10, 2) := by decide +kernel
theorem dX5_roundBy_141 : decode cX5_roundBy 141 = .ok (.bipush 8, 2) := by decide +kernel
theorem dX5_roundBy_143 : decode cX5_roundBy 143 = .ok (.if_icmp .ge 15, 3) := by decide +kernel
theorem dX5_roundBy_146 : decode cX5_roundBy 146 = .ok (.aload_n 0, 1) := by decide +kernel
theorem dX5_roundBy_147 : decode cX5_roundBy 147 = .ok (.getfield 13, 3) := by decide +kernel
theorem dX5_roundBy_150 : decode cX5_roundBy 150 = .ok (.iload 9, 2) := by decide +kernel
theorem dX5_roundBy_152 : decode cX5_roundBy 152 = .ok (.iload 10, 2) := by decide +kernel
theorem dX5_roundBy_154 : decode cX5_roundBy 154 = .ok (.iastore, 1) := by decide +kernel
theorem dX5_roundBy_155 : decode cX5_roundBy 155 = .ok (.goto 15, 3) := by decide +kernel
theorem dX5_roundBy_158 : decode cX5_roundBy 158 = .ok (.aload_n 0, 1) := by decide +kernel
theorem dX5_roundBy_159 : decode cX5_roundBy 159 = .ok (.getfield 19, 3) := by decide +kernel
theorem dX5_roundBy_162 : decode cX5_roundBy 162 = .ok (.iload 9, 2) := by decide +kernel
theorem dX5_roundBy_164 : decode cX5_roundBy 164 = .ok (.iload 10, 2) := by decide +kernel
theorem dX5_roundBy_166 : decode cX5_roundBy 166 = .ok (.bipush 10, 2) := by decide +kernel
theorem dX5_roundBy_168 : decode cX5_roundBy 168 = .ok (.isub, 1) := by decide +kernel
theorem dX5_roundBy_169 : decode cX5_roundBy 169 = .ok (.iastore, 1) := by decide +kernel
theorem dX5_roundBy_170 : decode cX5_roundBy 170 = .ok (.iinc 8 1, 3) := by decide +kernel
theorem dX5_roundBy_173 : decode cX5_roundBy 173 = .ok (.goto (-157), 3) := by decide +kernel
theorem dX5_roundBy_176 : decode cX5_roundBy 176 = .ok (.iload_n 3, 1) := by decide +kernel
theorem dX5_roundBy_177 : decode cX5_roundBy 177 = .ok (.bipush 10, 2) := by decide +kernel
theorem dX5_roundBy_179 : decode cX5_roundBy 179 = .ok (.if_icmp .lt 29, 3) := by decide +kernel
theorem dX5_roundBy_182 : decode cX5_roundBy 182 = .ok (.aload_n 0, 1) := by decide +kernel
theorem dX5_roundBy_183 : decode cX5_roundBy 183 = .ok (.iload_n 3, 1) := by decide +kernel
theorem dX5_roundBy_184 : decode cX5_roundBy 184 = .ok (.bipush 10, 2) := by decide +kernel
theorem dX5_roundBy_186 : decode cX5_roundBy 186 = .ok (.isub, 1) := by decide +kernel
theorem dX5_roundBy_187 : decode cX5_roundBy 187 = .ok (.invokevirtual 162, 3) := by decide +kernel
theorem dX5_roundBy_190 : decode cX5_roundBy 190 = .ok (.ifCond .eq 8, 3) := by decide +kernel
theorem dX5_roundBy_193 : decode cX5_roundBy 193 = .ok (.bipush (-9), 2) := by decide +kernel
theorem dX5_roundBy_195 : decode cX5_roundBy 195 = .ok (.goto 12, 3) := by decide +kernel
theorem dX5_roundBy_198 : decode cX5_roundBy 198 = .ok (.aload_n 0, 1) := by decide +kernel
theorem dX5_roundBy_199 : decode cX5_roundBy 199 = .ok (.getfield 16, 3) := by decide +kernel
theorem dX5_roundBy_202 : decode cX5_roundBy 202 = .ok (.iload_n 3, 1) := by decide +kernel
theorem dX5_roundBy_203 : decode cX5_roundBy 203 = .ok (.bipush 10, 2) := by decide +kernel
theorem dX5_roundBy_205 : decode cX5_roundBy 205 = .ok (.isub, 1) := by decide +kernel
theorem dX5_roundBy_206 : decode cX5_roundBy 206 = .ok (.iaload, 1) := by decide +kernel
theorem dX5_roundBy_207 : decode cX5_roundBy 207 = .ok (.ireturn, 1) := by decide +kernel
theorem dX5_roundBy_208 : decode cX5_roundBy 208 = .ok (.iload_n 3, 1) := by decide +kernel
theorem dX5_roundBy_209 : decode cX5_roundBy 209 = .ok (.ifCond .ne 8, 3) := by decide +kernel
theorem dX5_roundBy_212 : decode cX5_roundBy 212 = .ok (.iload 4, 2) := by decide +kernel
theorem dX5_roundBy_214 : decode cX5_roundBy 214 = .ok (.goto 25, 3) := by decide +kernel
theorem dX5_roundBy_217 : decode cX5_roundBy 217 = .ok (.iload_n 3, 1) := by decide +kernel
theorem dX5_roundBy_218 : decode cX5_roundBy 218 = .ok (.iconst 1, 1) := by decide +kernel
theorem dX5_roundBy_219 : decode cX5_roundBy 219 = .ok (.if_icmp .ne 8, 3) := by decide +kernel
theorem dX5_roundBy_222 : decode cX5_roundBy 222 = .ok (.iload 5, 2) := by decide +kernel
theorem dX5_roundBy_224 : decode cX5_roundBy 224 = .ok (.goto 15, 3) := by decide +kernel
theorem dX5_roundBy_227 : decode cX5_roundBy 227 = .ok (.iload_n 3, 1) := by decide +kernel
theorem dX5_roundBy_228 : decode cX5_roundBy 228 = .ok (.iconst 2, 1) := by decide +kernel
theorem dX5_roundBy_229 : decode cX5_roundBy 229 = .ok (.if_icmp .ne 8, 3) := by decide +kernel
theorem dX5_roundBy_232 : decode cX5_roundBy 232 = .ok (.iload 6, 2) := by decide +kernel
theorem dX5_roundBy_234 : decode cX5_roundBy 234 = .ok (.goto 5, 3) := by decide +kernel
theorem dX5_roundBy_237 : decode cX5_roundBy 237 = .ok (.iload 7, 2) := by decide +kernel
theorem dX5_roundBy_239 : decode cX5_roundBy 239 = .ok (.ireturn, 1) := by decide +kernel
theorem dX5_round_0 : decode cX5_round 0 = .ok (.iload_n 1, 1) := by decide +kernel
theorem dX5_round_1 : decode cX5_round 1 = .ok (.invokestatic 119, 3) := by decide +kernel
theorem dX5_round_4 : decode cX5_round 4 = .ok (.ifCond .eq 9, 3) := by decide +kernel
theorem dX5_round_7 : decode cX5_round 7 = .ok (.aload_n 0, 1) := by decide +kernel
theorem dX5_round_8 : decode cX5_round 8 = .ok (.iconst (-1), 1) := by decide +kernel
theorem dX5_round_9 : decode cX5_round 9 = .ok (.invokevirtual 123, 3) := by decide +kernel
theorem dX5_round_12 : decode cX5_round 12 = .ok (.ireturn, 1) := by decide +kernel
theorem dX5_round_13 : decode cX5_round 13 = .ok (.iload_n 2, 1) := by decide +kernel
theorem dX5_round_14 : decode cX5_round 14 = .ok (.i2l, 1) := by decide +kernel
theorem dX5_round_15 : decode cX5_round 15 = .ok (.lconst 0, 1) := by decide +kernel
theorem dX5_round_16 : decode cX5_round 16 = .ok (.ldc2_w 126, 3) := by decide +kernel
theorem dX5_round_19 : decode cX5_round 19 = .ok (.invokestatic 83, 3) := by decide +kernel
theorem dX5_round_22 : decode cX5_round 22 = .ok (.ifCond .eq 44, 3) := by decide +kernel
theorem dX5_round_25 : decode cX5_round 25 = .ok (.iload 4, 2) := by decide +kernel
theorem dX5_round_27 : decode cX5_round 27 = .ok (.i2l, 1) := by decide +kernel
theorem dX5_round_28 : decode cX5_round 28 = .ok (.lconst 0, 1) := by decide +kernel
theorem dX5_round_29 : decode cX5_round 29 = .ok (.ldc2_w 183, 3) := by decide +kernel
theorem dX5_round_32 : decode cX5_round 32 = .ok (.invokestatic 83, 3) := by decide +kernel
theorem dX5_round_35 : decode cX5_round 35 = .ok (.ifCond .eq 31, 3) := by decide +kernel
theorem dX5_round_38 : decode cX5_round 38 = .ok (.iload 5, 2) := by decide +kernel
theorem dX5_round_40 : decode cX5_round 40 = .ok (.i2l, 1) := by decide +kernel
theorem dX5_round_41 : decode cX5_round 41 = .ok (.lconst 0, 1) := by decide +kernel
theorem dX5_round_42 : decode cX5_round 42 = .ok (.ldc2_w 170, 3) := by decide +kernel
theorem dX5_round_45 : decode cX5_round 45 = .ok (.invokestatic 83, 3) := by decide +kernel
theorem dX5_round_48 : decode cX5_round 48 = .ok (.ifCond .ne 25, 3) := by decide +kernel
theorem dX5_round_51 : decode cX5_round 51 = .ok (.iload 5, 2) := by decide +kernel
theorem dX5_round_53 : decode cX5_round 53 = .ok (.i2l, 1) := by decide +kernel
theorem dX5_round_54 : decode cX5_round 54 = .ok (.ldc2_w 179, 3) := by decide +kernel
theorem dX5_round_57 : decode cX5_round 57 = .ok (.ldc2_w 185, 3) := by decide +kernel
theorem dX5_round_60 : decode cX5_round 60 = .ok (.invokestatic 83, 3) := by decide +kernel
theorem dX5_round_63 : decode cX5_round 63 = .ok (.ifCond .ne 10, 3) := by decide +kernel
theorem dX5_round_66 : decode cX5_round 66 = .ok (.aload_n 0, 1) := by decide +kernel
theorem dX5_round_67 : decode cX5_round 67 = .ok (.bipush (-2), 2) := by decide +kernel
theorem dX5_round_69 : decode cX5_round 69 = .ok (.invokevirtual 123, 3) := by decide +kernel
theorem dX5_round_72 : decode cX5_round 72 = .ok (.ireturn, 1) := by decide +kernel
theorem dX5_round_73 : decode cX5_round 73 = .ok (.aload_n 0, 1) := by decide +kernel
theorem dX5_round_74 : decode cX5_round 74 = .ok (.getfield 80, 3) := by decide +kernel
theorem dX5_round_77 : decode cX5_round 77 = .ok (.ifCond .ne 10, 3) := by decide +kernel
theorem dX5_round_80 : decode cX5_round 80 = .ok (.aload_n 0, 1) := by decide +kernel
theorem dX5_round_81 : decode cX5_round 81 = .ok (.bipush (-3), 2) := by decide +kernel
theorem dX5_round_83 : decode cX5_round 83 = .ok (.invokevirtual 123, 3) := by decide +kernel
theorem dX5_round_86 : decode cX5_round 86 = .ok (.ireturn, 1) := by decide +kernel
theorem dX5_round_87 : decode cX5_round 87 = .ok (.aload_n 0, 1) := by decide +kernel
theorem dX5_round_88 : decode cX5_round 88 = .ok (.iload_n 1, 1) := by decide +kernel
theorem dX5_round_89 : decode cX5_round 89 = .ok (.iload_n 2, 1) := by decide +kernel
theorem dX5_round_90 : decode cX5_round 90 = .ok (.iload_n 3, 1) := by decide +kernel
theorem dX5_round_91 : decode cX5_round 91 = .ok (.ldc2_w 126, 3) := by decide +kernel
theorem dX5_round_94 : decode cX5_round 94 = .ok (.iload 4, 2) := by decide +kernel
theorem dX5_round_96 : decode cX5_round 96 = .ok (.i2l, 1) := by decide +kernel
theorem dX5_round_97 : decode cX5_round 97 = .ok (.lmul, 1) := by decide +kernel
theorem dX5_round_98 : decode cX5_round 98 = .ok (.invokevirtual 128, 3) := by decide +kernel
theorem dX5_round_101 : decode cX5_round 101 = .ok (.istore 6, 2) := by decide +kernel
theorem dX5_round_103 : decode cX5_round 103 = .ok (.iload 6, 2) := by decide +kernel
theorem dX5_round_105 : decode cX5_round 105 = .ok (.ifCond .ge 6, 3) := by decide +kernel
theorem dX5_round_108 : decode cX5_round 108 = .ok (.iload 6, 2) := by decide +kernel
theorem dX5_round_110 : decode cX5_round 110 = .ok (.ireturn, 1) := by decide +kernel
theorem dX5_round_111 : decode cX5_round 111 = .ok (.aload_n 0, 1) := by decide +kernel
theorem dX5_round_112 : decode cX5_round 112 = .ok (.bipush 60, 2) := by decide +kernel
theorem dX5_round_114 : decode cX5_round 114 = .ok (.iload_n 1, 1) := by decide +kernel
theorem dX5_round_115 : decode cX5_round 115 = .ok (.imul, 1) := by decide +kernel
theorem dX5_round_116 : decode cX5_round 116 = .ok (.iload_n 3, 1) := by decide +kernel
theorem dX5_round_117 : decode cX5_round 117 = .ok (.iadd, 1) := by decide +kernel
theorem dX5_round_118 : decode cX5_round 118 = .ok (.iload 4, 2) := by decide +kernel
theorem dX5_round_120 : decode cX5_round 120 = .ok (.invokevirtual 187, 3) := by decide +kernel
theorem dX5_round_123 : decode cX5_round 123 = .ok (.istore 6, 2) := by decide +kernel
theorem dX5_round_125 : decode cX5_round 125 = .ok (.iload 6, 2) := by decide +kernel
theorem dX5_round_127 : decode cX5_round 127 = .ok (.ifCond .ge 10, 3) := by decide +kernel
theorem dX5_round_130 : decode cX5_round 130 = .ok (.aload_n 0, 1) := by decide +kernel
theorem dX5_round_131 : decode cX5_round 131 = .ok (.iload 6, 2) := by decide +kernel
theorem dX5_round_133 : decode cX5_round 133 = .ok (.invokevirtual 123, 3) := by decide +kernel
theorem dX5_round_136 : decode cX5_round 136 = .ok (.ireturn, 1) := by decide +kernel
theorem dX5_round_137 : decode cX5_round 137 = .ok (.aload_n 0, 1) := by decide +kernel
theorem dX5_round_138 : decode cX5_round 138 = .ok (.invokevirtual 190, 3) := by decide +kernel
theorem dX5_round_141 : decode cX5_round 141 = .ok (.aload_n 0, 1) := by decide +kernel
theorem dX5_round_142 : decode cX5_round 142 = .ok (.bipush 60, 2) := by decide +kernel
theorem dX5_round_144 : decode cX5_round 144 = .ok (.iload_n 1, 1) := by decide +kernel
theorem dX5_round_145 : decode cX5_round 145 = .ok (.imul, 1) := by decide +kernel
theorem dX5_round_146 : decode cX5_round 146 = .ok (.iload_n 3, 1) := by decide +kernel
theorem dX5_round_147 : decode cX5_round 147 = .ok (.iadd, 1) := by decide +kernel
theorem dX5_round_148 : decode cX5_round 148 = .ok (.iload 4, 2) := by decide +kernel
theorem dX5_round_150 : decode cX5_round 150 = .ok (.iload 5, 2) := by decide +kernel
theorem dX5_round_152 : decode cX5_round 152 = .ok (.invokevirtual 193, 3) := by decide +kernel
theorem dX5_round_155 : decode cX5_round 155 = .ok (.istore 7, 2) := by decide +kernel
theorem dX5_round_157 : decode cX5_round 157 = .ok (.aload_n 0, 1) := by decide +kernel
theorem dX5_round_158 : decode cX5_round 158 = .ok (.invokevirtual 197, 3) := by decide +kernel
theorem dX5_round_161 : decode cX5_round 161 = .ok (.aload_n 0, 1) := by decide +kernel
theorem dX5_round_162 : decode cX5_round 162 = .ok (.iload 7, 2) := by decide +kernel
theorem dX5_round_164 : decode cX5_round 164 = .ok (.invokevirtual 123, 3) := by decide +kernel
theorem dX5_round_167 : decode cX5_round 167 = .ok (.ireturn, 1) := by decide +kernel
